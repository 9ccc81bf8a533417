/-! FROM THE LAW'S START TO THE SMALL MACHINE -/
def mM0 (b L sz : Nat) (xs : Nat → Int32) : mM := (fun a => if a = b then 208 else 0, fun a => if a = b then L else 0, fun a j => if a = b then xs j else 0, fun _ _ => 0, fun _ _ => 0, sz, 0)
theorem mPl_mem {i : Nat} {w : Cond} (h : mPl i w = true) : w ∈ lw_tbl := by
  unfold mPl at h
  rw [Bool.and_eq_true, decide_eq_true_eq] at h
  exact List.mem_of_getElem? h.1
theorem mExa {tm : Term} {cls : String} {args : Array Value} {s : State} (h : (Cond.exactly tm cls).before args s = true) : ∃ a, tm.eval args s none [] s = some (.ref a) := by
  cases hv : tm.eval args s none [] s with
  | none => simp [Cond.before, Cond.holds, Cond.value, hv] at h
  | some v =>
    cases v with
    | ref a => exact ⟨a, rfl⟩
    | _ => exfalso; cases hf : s.vm.findClass cls <;> simp [Cond.before, Cond.holds, Cond.value, hv, hf] at h
set_option maxRecDepth 100000 in
theorem mNar_0 : (Cond.not (.castable "java/lang/UnsupportedOperationException" "java/lang/IllegalArgumentException")) ∈ flatC (Jvm.Cond.and given_1 narrow_1) := by decide +kernel
set_option maxRecDepth 100000 in
theorem mNar_1 : (Cond.isRef (.static "java/lang/Throwable" "UNASSIGNED_STACK" "[Ljava/lang/StackTraceElement;")) ∈ flatC (Jvm.Cond.and given_1 narrow_1) := by decide +kernel
set_option maxRecDepth 100000 in
theorem mNar_2 : (Cond.isRef (.static "java/lang/Throwable" "SUPPRESSED_SENTINEL" "Ljava/util/List;")) ∈ flatC (Jvm.Cond.and given_1 narrow_1) := by decide +kernel
set_option maxRecDepth 100000 in
theorem mNar_3 : ∀ r ∈ mStr, (Cond.exactly (.string r.1 r.2.1) "java/lang/String") ∈ flatC (Jvm.Cond.and given_1 narrow_1) := by decide +kernel
set_option maxRecDepth 100000 in
theorem mTab_1 : ∀ r ∈ mStr, (Cond.stringRef r.1 r.2.1 r.2.2) ∈ lw_tbl := by decide +kernel
theorem mTab_2 : (Cond.laysStatic "java/lang/Throwable" "UNASSIGNED_STACK" "[Ljava/lang/StackTraceElement;") ∈ lw_tbl := (tb_2 (List.mem_of_getElem? (i := 141) rfl))
theorem mTab_3 : (Cond.laysStatic "java/lang/Throwable" "SUPPRESSED_SENTINEL" "Ljava/util/List;") ∈ lw_tbl := (tb_2 (List.mem_of_getElem? (i := 143) rfl))
theorem mTab_4 : (Cond.castable "java/lang/UnsupportedOperationException" "java/lang/UnsupportedOperationException") ∈ lw_tbl := (tb_2 (List.mem_of_getElem? (i := 116) rfl))
theorem mTab_5 : (Cond.castable "java/lang/IllegalArgumentException" "java/lang/IllegalArgumentException") ∈ lw_tbl := (tb_3 (List.mem_of_getElem? (i := 42) rfl))
theorem mTab_6 : (Cond.arrayOver (.object "TinyShell$Text")) ∈ lw_tbl := (tb_1 (List.mem_of_getElem? (i := 124) rfl))
section START
variable {s : State} {b L : Nat} {xs : Nat → Int32}
/-- classes and slots -/
theorem mStartK (hts : ∀ w ∈ lw_tbl, w.before #[Value.ref b] s = true) (hgv : (Jvm.Cond.and given_1 narrow_1).before #[Value.ref b] s = true) {scr : Cell} (h208 : s.isArrayOf scr .int) :
    ∃ (dC : Nat → ClassId) (dI : Nat → Nat → Nat), mKnow dC dI s ∧ mKn3 dC s ∧ dC 208 = scr.cls := by
  have hwd : ∀ w ∈ lw_tbl, goodWord w = true → ∀ a : Array Value, w.before a s = true := fun w hw hg a => word_at (State.WarmedH.refl s) (good_of_word hg) (hts w hw)
  have hw1 : ∀ {w : Cond}, mW1 w = true → ∀ a : Array Value, w.before a s = true := fun h a => hwd _ (mW1_el h).1 (mW1_el h).2 a
  have hov : va_AO "TinyShell$Text" s := va_AO.of (hts _ mTab_6)
  have key : ∀ k : Nat, ∃ q : ClassId × (Nat → Nat), (100 ≤ k → k < 112 → u_Kn s (mNm k) (mT k) (mN k) q.1 q.2) ∧ (1 ≤ k → k < 6 → ArrOfT s q.1 (mTy k) ∧ va_RA s q.1 (mTy k)) ∧ ((k = 90 ∨ k = 91) → s.vm.findClass (mNm k) = some q.1 ∧ ∃ kk, s.vm.classes[q.1]? = some kk) ∧ (k = 208 → q.1 = scr.cls) := by
    intro k
    by_cases h1 : 100 ≤ k ∧ k < 112
    · have hk : mKnd k = true := by
        have : k = 100 ∨ k = 101 ∨ k = 102 ∨ k = 103 ∨ k = 104 ∨ k = 105 ∨ k = 106 ∨ k = 107 ∨ k = 108 ∨ k = 109 ∨ k = 110 ∨ k = 111 := by omega
        rcases this with rfl | rfl | rfl | rfl | rfl | rfl | rfl | rfl | rfl | rfl | rfl | rfl <;> rfl
      obtain ⟨cC, iS, h⟩ := u_known (ws := u_ws (mNm k) (mT k) (mN k)) (s := s) (args := #[Value.ref b]) (fun w hw => hw1 (mFok_ws (mFok_at h1.1 h1.2) w hw) _) (fun _ h => h) (hw1 (mKnd_ok hk).1 _)
      exact ⟨(cC, iS), fun _ _ => h, fun _ _ => by omega, fun _ => by omega, fun _ => by omega⟩
    · by_cases h2 : 1 ≤ k ∧ k < 5
      · have hA := mAT_ok
        simp only [mAT, List.all_cons, List.all_nil, Bool.and_true, Bool.and_eq_true] at hA
        obtain ⟨a1, a2, a3, a4⟩ := hA
        have hw : mW1 (.arrayClass (mTy k)) = true := by
          have : k = 1 ∨ k = 2 ∨ k = 3 ∨ k = 4 := by omega
          rcases this with rfl | rfl | rfl | rfl
          · exact mPl_ok a1
          · exact mPl_ok a2
          · exact mPl_ok a3
          · exact mPl_ok a4
        obtain ⟨c, kk, comp, e1, e2, e3⟩ := Cond.arrayClass_spec (hw1 hw #[])
        refine ⟨(c, fun _ => 0), fun _ _ => by omega, fun _ _ => ⟨fun n z => ⟨fun q h => (by cases h), kk, e2, comp, e3⟩, ?_⟩, fun _ => by omega, fun _ => by omega⟩
        have : k = 1 ∨ k = 2 ∨ k = 3 ∨ k = 4 := by omega
        rcases this with rfl | rfl | rfl | rfl <;> exact e1
      · by_cases h3 : k = 5
        · subst h3
          obtain ⟨comp, c, kk, e1, -, e2, e3, e4⟩ := Cond.arrayOver_spec hov
          exact ⟨(c, fun _ => 0), fun _ _ => by omega, fun _ _ => ⟨fun n z => ⟨fun q h => (by cases h), kk, e2, comp, e3⟩, kk, comp, e2, e3, e1, e4⟩, fun _ => by omega, fun _ => by omega⟩
        · by_cases h4 : k = 90 ∨ k = 91
          · have hin : mW1 (.instantiable (mNm k) 6) = true := by
              have e := mET_ok
              simp only [mET, List.all_cons, List.all_nil, Bool.and_true, Bool.and_eq_true] at e
              rcases h4 with rfl | rfl
              · exact mPl_ok e.1.1
              · exact mPl_ok e.2.1
            obtain ⟨c, kk, e1, e2, -⟩ := Cond.instantiable_spec (hw1 hin #[])
            exact ⟨(c, fun _ => 0), fun _ _ => by omega, fun _ _ => by omega, fun _ => ⟨e1, kk, e2⟩, fun _ => by omega⟩
          · exact ⟨(scr.cls, fun _ => 0), fun _ _ => by omega, fun _ _ => by omega, fun h => absurd h h4, fun _ => rfl⟩
  obtain ⟨f, hf⟩ := Classical.axiomOfChoice key
  have f90 := (hf 90).2.2.1 (Or.inl rfl)
  have f91 := (hf 91).2.2.1 (Or.inr rfl)
  refine ⟨fun k => (f k).1, fun k => (f k).2, ⟨hwd, fun k a c => (hf k).1 a c, fun k a c => (hf k).2.1 a c, ⟨f90.1, f91.1, hov⟩, fun ce e1 e2 => ?_⟩, ⟨?_, ?_, ?_, f90.2, f91.2⟩, (hf 208).2.2.2 rfl⟩
  · have e3 : ce.cls = scr.cls := e1.trans ((hf 208).2.2.2 rfl)
    exact ⟨e2, by rw [e3]; exact h208.2⟩
  · have hv := Cond.holds_not_iff.mp (flat_of_before _ hgv _ mNar_0)
    simp only [Cond.value] at hv
    have g1 : s.vm.findClass "java/lang/UnsupportedOperationException" = some (f 91).1 := f91.1
    have g2 : s.vm.findClass "java/lang/IllegalArgumentException" = some (f 90).1 := f90.1
    rw [g1, g2] at hv
    exact Option.some.inj hv
  · obtain ⟨c, t, e1, e2, e3⟩ := Cond.castable_spec (hts _ mTab_5)
    have g2 : s.vm.findClass "java/lang/IllegalArgumentException" = some (f 90).1 := f90.1
    cases g2.symm.trans e1
    cases g2.symm.trans e2
    exact e3
  · obtain ⟨c, t, e1, e2, e3⟩ := Cond.castable_spec (hts _ mTab_4)
    have g2 : s.vm.findClass "java/lang/UnsupportedOperationException" = some (f 91).1 := f91.1
    cases g2.symm.trans e1
    cases g2.symm.trans e2
    exact e3
theorem mStart2 (hts : ∀ w ∈ lw_tbl, w.before #[Value.ref b] s = true) (hgv : (Jvm.Cond.and given_1 narrow_1).before #[Value.ref b] s = true) : ∃ dS : Nat → Nat, mKn2 dS s.heap.size s.heap s := by
  have key : ∀ i : Nat, ∃ a : Nat, ∀ r : String × Nat × String, mStr[i]? = some r → vk_R r.1 r.2.1 r.2.2 a s := by
    intro i
    cases hi : mStr[i]? with
    | none => exact ⟨0, fun r h => by cases h⟩
    | some r =>
      have hm := List.mem_of_getElem? hi
      obtain ⟨a, ha⟩ := mExa (flat_of_before _ hgv _ (mNar_3 r hm))
      exact ⟨a, fun r' h' => by cases h'; exact vk_R.of (hts _ (mTab_1 r hm)) ha⟩
  obtain ⟨f, hf⟩ := Classical.axiomOfChoice key
  exact ⟨f, mSta.of (hts _ mTab_2) (flat_of_before _ hgv _ mNar_1), mSta.of (hts _ mTab_3) (flat_of_before _ hgv _ mNar_2), fun i r hr => hf i r hr, fun w hw hfa a => va_tabs (by cases w <;> first | rfl | (simp [Cond.faceAtom] at hfa)) rfl (hts w hw)⟩
theorem mStartR {dC : Nat → ClassId} {dI : Nat → Nat → Nat} {scr : Cell} (h1 : s.heap[b]? = some scr) (h2 : ∀ z, scr.vm ≠ .statics z) (h3 : scr.vm ≠ .unknown) (h4 : scr.slots.size = L) (h5 : ∀ j : Nat, j < L → scr.slots[j]? = some (.int (xs j))) (hd : dC 208 = scr.cls) : mRel dC dI s.heap.size s.heap (mM0 b L s.heap.size xs) s.heap := by
  have hb : b < s.heap.size := (Array.getElem?_eq_some_iff.mp h1).1
  refine ⟨rfl, ⟨by omega, Nat.le_refl _, by show s.heap.size - s.heap.size ≤ mCC; omega, Nat.zero_le _, fun a q1 q2 => absurd q2 (by show ¬ a < s.heap.size; omega)⟩, fun _ _ => rfl, fun a ha => ?_⟩
  have hab : a = b := by
    by_cases q : a = b
    · exact q
    · exfalso; apply ha; simp [mkd, mM0, q]
  subst hab
  have hk : mkd (mM0 a L s.heap.size xs) a = 208 := by simp [mkd, mM0]
  have hl : mln (mM0 a L s.heap.size xs) a = L := by simp [mln, mM0]
  rw [hk]
  refine ⟨⟨hb, trivial, fun q => by omega⟩, fun q => by omega, fun _ q => by omega, fun _ q => by omega, fun _ => ⟨scr, h1, hd.symm, h2, h3, by rw [hl]; exact h4, fun j hj => ?_⟩⟩
  rw [hl] at hj
  rw [h5 j hj]
  simp [mi, mM0]
end START
