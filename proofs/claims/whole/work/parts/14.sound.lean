/-! THE SMALL MACHINE IS SOUND -/
/-- every block of every method that a walk may reach is checked -/
def mAllOk : Prop := ∀ y, y < mNum → mChkM y = true
section SOUND
variable {dC : Nat → ClassId} {dI : Nat → Nat → Nat} {dS : Nat → Nat} {B : Nat} {H0 : Heap}
variable {p : Program} {l : Launch} {e : Env}
theorem mBlk_ok {R : Room} {s : State} {m : MethodId} {args : Array Value} {below : List Frame} {meth : Method} {c : Code} {y nx : Nat} (CX : mCtx2 dC dI dS B H0 y p e R s m meth c) {E : mE} (hE : E.1 = B) (hE2 : E.2 = dS) {go : mG} {call : mCl} {Qm : mQ}
    (hgo : ∀ b L' st' M', b < mNb y → go b L' st' M' → mAtW dC dI B H0 p l e R s m args below meth c (mEnd dC dI B H0 R s below Qm) (mNL y) (mPc y b) L' st' M')
    (hcall : ∀ y' as M' K, y' < mNum → 0 < mNb y' → call y' as M' K → (m_arg as).length ≤ mNL y' ∧ mIH dC dI dS B H0 p l e y' as M' K) :
    ∀ (os : List mOp) (pc : Nat) (L : mL) (st : List Value) (M : mM), mChkB y nx pc os = true → mBlk E go call Qm nx os L st M → mAtW dC dI B H0 p l e R s m args below meth c (mEnd dC dI B H0 R s below Qm) (mNL y) pc L st M := by
  intro os
  induction os with
  | nil =>
    intro pc L st M hc h
    simp only [mChkB, Bool.and_eq_true, decide_eq_true_eq, Nat.blt_eq] at hc
    rw [hc.1]
    exact hgo nx L st M hc.2 h
  | cons o os ih =>
    intro pc L st M hc h
    obtain ⟨i, len, ps⟩ := o
    simp only [mChkB, Bool.and_eq_true, Bool.or_eq_true] at hc
    rcases hc with hdd | hc
    · exfalso
      have h0 : mStep E go call Qm (i, len, ps) (mBlk E go call Qm nx os) L st M := h
      cases i <;> first | (cases hdd; done) | exact h0
    obtain ⟨h1, h2⟩ := hc
    have h' : mStep E go call Qm (i, len, ps) (mBlk E go call Qm nx os) L st M := h
    rcases h2 with h2 | ⟨h3, h4⟩
    · cases hcs : mCst i ps with
      | true => exact mStep_cst CX hE2 h1 hcs h' (fun L' st' M' hk => ih _ _ _ _ h2 hk) hcall
      | false =>
        cases hea : mEasy i with
        | true => exact mStep_easy CX.1 hE h1 hea hcs h' (fun L' st' M' hk => ih _ _ _ _ h2 hk) hgo
        | false => exact mStep_hard CX hE h1 hea hcs h' (fun L' st' M' hk => ih _ _ _ _ h2 hk) hgo hcall
    · cases i <;> first
        | (cases h4; done)
        | (refine mStep_easy CX.1 hE (k := fun _ _ _ => False) (go := go) (call := call) (Qm := Qm) h1 rfl rfl ?_ (fun _ _ _ q => q.elim) hgo; exact h')
        | (refine mStep_hard CX hE (k := fun _ _ _ => False) (go := go) (call := call) (Qm := Qm) h1 rfl rfl ?_ (fun _ _ _ q => q.elim) hgo hcall; exact h')
        | (match ps, decide_eq_true_eq.mp h4 with
          | [a1, a2, a3], _ => refine mStep_hard CX hE (k := fun _ _ _ => False) (go := go) (call := call) (Qm := Qm) h1 rfl rfl ?_ (fun _ _ _ q => q.elim) hgo hcall; exact h')
theorem mChkM_el {y b : Nat} (h : mChkM y = true) (hb : b < mNb y) : mChkB y (mPr y b).2 (mPc y b) (mPr y b).1 = true := List.all_eq_true.mp h b (List.mem_range.mpr hb)
theorem mSound (hok : mAllOk) {E : mE} (hE : E.1 = B) (hE2 : E.2 = dS) : ∀ (f y b : Nat) (L : mL) (st : List Value) (M : mM) (Qm : mQ), y < mNum → b < mNb y → mWp mPr mNL E f y b L st M Qm →
    ∀ (R : Room) (s : State) (m : MethodId) (args : Array Value) (below : List Frame) (meth : Method) (c : Code), mCtx2 dC dI dS B H0 y p e R s m meth c → mAtW dC dI B H0 p l e R s m args below meth c (mEnd dC dI B H0 R s below Qm) (mNL y) (mPc y b) L st M := by
  intro f
  induction f with
  | zero => intro y b L st M Qm _ _ h; exact h.elim
  | succ f ih =>
    intro y b L st M Qm hy hb h R s m args below meth c CX
    refine mBlk_ok CX hE hE2 (fun b' L' st' M' hb' hgo => ih y b' L' st' M' Qm hy hb' hgo R s m args below meth c CX) (fun y' as M' K hy' hn' hcall => ?_) (mPr y b).1 (mPc y b) L st M (mChkM_el (hok y hy) hb) h
    split at hcall
    next q => exact ⟨Nat.ble_eq.mp q, fun R s m args below meth c CX' => ih y' 0 _ _ M' K hy' hn' hcall R s m args below meth c CX'⟩
    next => exact hcall.elim
end SOUND
