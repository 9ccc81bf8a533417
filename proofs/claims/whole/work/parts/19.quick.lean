/-! the quick check of a whole method -/
def mChkO (y pc : Nat) (o : mOp) : Bool := decide (decode (mBy y) pc = .ok (o.1, o.2.1)) && match o.1 with
  | .tableswitch d lo hi offs => (match o.2.2 with
    | t :: ts => mTgt y pc d t && mTabs y pc offs.toList ts && decide (hi - lo + 1 = (offs.size : Int))
    | [] => false)
  | .lookupswitch d prs => (match o.2.2 with
    | t :: ts => mTgt y pc d t && mTabs y pc (prs.toList.map fun q => q.2) ts && (prs.toList.zip (prs.toList.drop 1)).all (fun (a, next) => a.1 < next.1)
    | [] => false)
  | i => decide (o.2.1 = mLen i) && mChkW y pc i o.2.2
theorem mChkO_ok {y pc : Nat} {o : mOp} (hy : y < mNum) (h : mChkO y pc o = true) : mChk y pc o = true := by
  unfold mChkO at h
  unfold mChk
  rw [Bool.and_eq_true] at h ⊢
  refine ⟨h.1, ?_⟩
  have h2 := h.2
  obtain ⟨i, len, ps⟩ := o
  dsimp only at h2 ⊢
  cases i with
  | tableswitch d lo hi offs => exact h2
  | lookupswitch d prs => exact h2
  | _ =>
    rw [Bool.and_eq_true] at h2 ⊢
    exact ⟨h2.1, mChkW_ok hy h2.2⟩
def mChkBQ (y : Nat) (nx : Nat) : Nat → List mOp → Bool
  | pc, [] => decide (pc = mPc y nx) && Nat.blt nx (mNb y)
  | pc, o :: os => mDead o.1 || mChkO y pc o && (mChkBQ y nx (pc + o.2.1) os || (os.isEmpty && match o.1 with
    | .goto _ | .tableswitch _ _ _ _ | .lookupswitch _ _ | .ireturn | .lreturn | .areturn | .return_ => true
    | .new _ => decide (o.2.2.length = 3)
    | _ => false))
theorem mChkBQ_ok {y nx : Nat} (hy : y < mNum) : ∀ (os : List mOp) (pc : Nat), mChkBQ y nx pc os = true → mChkB y nx pc os = true
  | [], pc, h => h
  | o :: os, pc, h => by
    unfold mChkBQ at h
    unfold mChkB
    rw [Bool.or_eq_true, Bool.and_eq_true, Bool.or_eq_true] at h ⊢
    rcases h with h | ⟨h1, h2⟩
    · exact Or.inl h
    · exact Or.inr ⟨mChkO_ok hy h1, h2.imp (mChkBQ_ok hy os _) id⟩
def mChkMQ (y : Nat) : Bool := (List.range (mNb y)).all fun b => mChkBQ y (mPr y b).2 (mPc y b) (mPr y b).1
theorem mChkMQ_ok {y : Nat} (hy : y < mNum) (h : mChkMQ y = true) : mChkM y = true := List.all_eq_true.mpr fun b hb => mChkBQ_ok hy _ _ (List.all_eq_true.mp h b hb)
