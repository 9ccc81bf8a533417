/-! THE QUICK CHECK implies the plain one -/
theorem mM1_el {y : Nat} (h : y < mNum) (h1 : Nat.beq y 1 = false) : mCdW y = true ∧ mW1 (.initialized (mYn y).cls) = true ∧ ((mYn y).cls ≠ "java/lang/invoke/MethodHandle" ∧ (mYn y).cls ≠ "java/lang/invoke/VarHandle") ∧ (parseMethodDescriptor (mYn y).desc).map (fun sg => sg.parameters.length) = some (mArr y) ∧ plainFor (mYn y) = true ∧
    (mStL.contains y = true → mW1 (.static (mYn y)) = true) ∧ (mStL.contains y = false → mW1 (.instanceMethod (mYn y)) = true ∧ ((mYn y).name = "<init>" ∨ (mYn y).cls = "java/lang/Enum" ∨ mW1 (.selects (mYn y).cls (mYn y) (mYn y)) = true)) := by
  rcases mmA_all y h with q | q
  · subst q; cases h1
  · exact q
def mFldF (y ix kd f : Nat) : Bool := mFT.any fun q => Nat.beq q.1 (mCnn y) && Nat.beq q.2.1 ix && Nat.beq q.2.2.1 kd && Nat.beq q.2.2.2.1 f
theorem mFldF_ok {y ix kd f : Nat} (hy : y < mNum) (h : mFldF y ix kd f = true) : mFld y ix kd f = true := by
  obtain ⟨⟨c1, c2, c3, c4, c5⟩, hm, hq⟩ := List.any_eq_true.mp h
  simp only [Bool.and_eq_true, Nat.beq_eq] at hq
  obtain ⟨⟨⟨q1, q2⟩, q3⟩, q4⟩ := hq
  subst q1 q2 q3 q4
  have := List.all_eq_true.mp mFT_ok _ hm
  simp only [Bool.and_eq_true, Nat.ble_eq, Nat.blt_eq] at this
  obtain ⟨⟨⟨a1, a2⟩, a3⟩, a4⟩ := this
  unfold mFld
  simp only [Bool.and_eq_true, Nat.ble_eq, Nat.blt_eq, decide_eq_true_eq]
  rw [mOwn_cn hy]
  exact ⟨⟨⟨⟨a2, a3⟩, a4⟩, mPl_ok a1⟩, (mFok_fd (mFok_at a2 a3) a4).2.2⟩
def mLnk (y ix y' : Nat) : Bool := mMT.any fun q => Nat.beq q.1 (mCnn y) && Nat.beq q.2.1 ix && Nat.beq q.2.2.1 y'
def mCalF (y ix y' n inst : Nat) : Bool := mLnk y ix y' && Nat.blt y' mNum && !Nat.beq y' 1 && decide (mPc y' 0 = 0) && Nat.blt 0 (mNb y') && Nat.beq (mArr y') (n - inst) && Nat.ble inst n && Nat.ble (mFrm y' + 1) (mFrm y) && Nat.ble (8 + (mNL y' + 11) + mLoc y') (mLoc y)
theorem mCalF_ok {y ix y' n inst : Nat} (hy : y < mNum) (h : mCalF y ix y' n inst = true) : mCal y ix y' n inst = true ∧ y' < mNum ∧ Nat.beq y' 1 = false := by
  unfold mCalF at h
  simp only [Bool.and_eq_true, Bool.not_eq_true', Nat.blt_eq, Nat.ble_eq, decide_eq_true_eq, Nat.beq_eq] at h
  obtain ⟨⟨⟨⟨⟨⟨⟨⟨h1, h2⟩, h3⟩, h4⟩, h5⟩, h6⟩, h7⟩, h8⟩, h9⟩ := h
  obtain ⟨m1, m2, m3, m4, m5, -, -⟩ := mM1_el h2 h3
  refine ⟨?_, h2, h3⟩
  obtain ⟨⟨c1, c2, c3, c4⟩, hm, hq⟩ := List.any_eq_true.mp h1
  simp only [Bool.and_eq_true, Nat.beq_eq] at hq
  obtain ⟨⟨q1, q2⟩, q3⟩ := hq
  subst q1 q2 q3
  have hl := mPl_ok (List.all_eq_true.mp mMT_ok _ hm)
  dsimp only at hl
  rw [← mOwn_cn hy] at hl
  unfold mCal
  simp only [Bool.and_eq_true, Nat.blt_eq, Nat.ble_eq, decide_eq_true_eq]
  exact ⟨⟨⟨⟨⟨⟨⟨⟨⟨⟨⟨h2, h4⟩, h5⟩, hl⟩, m1⟩, m2⟩, m3⟩, by rw [m4, h6]⟩, h7⟩, h8⟩, h9⟩, m5⟩
def mCls (y ix kd : Nat) : Bool := mCT.any fun q => Nat.beq q.1 (mCnn y) && Nat.beq q.2.1 ix && Nat.beq q.2.2.1 kd
theorem mCls_ok {y ix kd : Nat} (hy : y < mNum) (h : mCls y ix kd = true) : mW1 (.classLink (mOwn y) ix (mNm kd)) = true := by
  obtain ⟨⟨c1, c2, c3, c4⟩, hm, hq⟩ := List.any_eq_true.mp h
  simp only [Bool.and_eq_true, Nat.beq_eq] at hq
  obtain ⟨⟨q1, q2⟩, q3⟩ := hq
  subst q1 q2 q3
  rw [mOwn_cn hy]
  exact mPl_ok (List.all_eq_true.mp mCT_ok _ hm)
def mAtC (w : Cond) : Bool := mW1 w || (decide (w ∈ lw_tbl) && w.faceAtom) ||
    decide (w = .laysStatic "java/lang/Throwable" "UNASSIGNED_STACK" "[Ljava/lang/StackTraceElement;") || decide (w = .laysStatic "java/lang/Throwable" "SUPPRESSED_SENTINEL" "Ljava/util/List;") ||
    decide (w = .isRef (.static "java/lang/Throwable" "UNASSIGNED_STACK" "[Ljava/lang/StackTraceElement;")) || decide (w = .isRef (.static "java/lang/Throwable" "SUPPRESSED_SENTINEL" "Ljava/util/List;"))
def mPre (X : String) (ns : List String) : List Cond := Bundle.throwableAtoms ++ Bundle.throwableSAtoms ++ Bundle.chainSAtoms X ns
def mCom (X : String) (ns : List String) : List Cond := mPre X ns ++ (Bundle.ownAtoms "" 0 X ns).drop ((mPre X ns).length + 1)
def mExn : List String := ["java/lang/RuntimeException", "java/lang/Exception"]
set_option maxRecDepth 100000 in
theorem mAt_90 : (mCom (mNm 90) mExn).all mAtC = true := by decide +kernel
set_option maxRecDepth 100000 in
theorem mAt_91 : (mCom (mNm 91) mExn).all mAtC = true := by decide +kernel
theorem mAt_own {own X : String} {ic : Nat} {ns : List String} {w : Cond} (h : w ∈ Bundle.ownAtoms own ic X ns) : w = .methodLink own ic (Bundle.initS X) ∨ w ∈ mCom X ns := by
  unfold Bundle.ownAtoms at h
  rcases List.mem_append.mp h with h | h
  · exact Or.inr (List.mem_append_left _ h)
  · rcases List.mem_cons.mp h with h | h
    · exact Or.inl h
    · refine Or.inr (List.mem_append_right _ ?_)
      unfold Bundle.ownAtoms
      rw [show Bundle.throwableAtoms ++ Bundle.throwableSAtoms ++ Bundle.chainSAtoms X ns = mPre X ns from rfl, List.drop_append, List.drop_eq_nil_of_le (by omega), List.nil_append, show (mPre X ns).length + 1 - (mPre X ns).length = 1 by omega]
      exact h
def mXnk (y ii kd : Nat) : Bool := mXT.any fun q => Nat.beq q.1 (mCnn y) && Nat.beq q.2.1 ii && Nat.beq q.2.2.1 kd
def mThrF (y pc kd li ii : Nat) : Bool :=
  decide (decode (mBy y) (pc + 3) = .ok (.dup, 1)) && decide (decode (mBy y) (pc + 4) = .ok (.ldc li, 2)) && decide (decode (mBy y) (pc + 6) = .ok (.invokespecial ii, 3)) && decide (decode (mBy y) (pc + 9) = .ok (.athrow, 1)) &&
  (decide (kd = 90) || decide (kd = 91)) && (mStr.any fun r => decide (r.1 = mOwn y) && decide (r.2.1 = li)) && Nat.ble 6 (mFrm y) && Nat.ble 90 (mLoc y) && mXnk y ii kd
theorem mThrF_ok {y pc kd li ii : Nat} (hy : y < mNum) (h : mThrF y pc kd li ii = true) : mThr y pc kd li ii = true := by
  unfold mThrF at h
  simp only [Bool.and_eq_true] at h
  obtain ⟨⟨⟨⟨⟨⟨⟨⟨h1, h2⟩, h3⟩, h4⟩, h5⟩, h6⟩, h7⟩, h8⟩, h9⟩ := h
  obtain ⟨⟨c1, c2, c3, c4⟩, hm, hq⟩ := List.any_eq_true.mp h9
  simp only [Bool.and_eq_true, Nat.beq_eq] at hq
  obtain ⟨⟨q1, q2⟩, q3⟩ := hq
  subst q1 q2 q3
  have hl := mPl_ok (List.all_eq_true.mp mXT_ok _ hm)
  dsimp only at hl
  rw [← mOwn_cn hy] at hl
  have hk : c3 = 90 ∨ c3 = 91 := by simpa using h5
  have hin : mW1 (.instantiable (mNm c3) 6) = true ∧ mW1 (.initialized (mNm c3)) = true := by
    have e := mET_ok
    simp only [mET, List.all_cons, List.all_nil, Bool.and_true, Bool.and_eq_true] at e
    rcases hk with rfl | rfl
    · exact ⟨mPl_ok e.1.1, mPl_ok e.1.2⟩
    · exact ⟨mPl_ok e.2.1, mPl_ok e.2.2⟩
  have hcom : ∀ w ∈ mCom (mNm c3) mExn, mAtC w = true := by
    rcases hk with rfl | rfl
    · exact List.all_eq_true.mp mAt_90
    · exact List.all_eq_true.mp mAt_91
  unfold mThr
  simp only [Bool.and_eq_true]
  refine ⟨⟨⟨⟨⟨⟨⟨⟨⟨⟨h1, h2⟩, h3⟩, h4⟩, h5⟩, hin.1⟩, hin.2⟩, h6⟩, h7⟩, h8⟩, List.all_eq_true.mpr fun w hw => ?_⟩
  rcases mAt_own hw with e | e
  · rw [e, hl]; rfl
  · exact hcom w e
def mKnd (kd : Nat) : Bool := mKT.any fun q => Nat.beq q.1 kd
theorem mKnd_ok {kd : Nat} (h : mKnd kd = true) : mW1 (.instantiable (mNm kd) (mN kd)) = true ∧ mW1 (.initialized (mNm kd)) = true ∧ ((List.range (mN kd)).all fun f => mDfl (mY kd f)) = true := by
  obtain ⟨⟨c1, c2, c3⟩, hm, hq⟩ := List.any_eq_true.mp h
  have hq := Nat.beq_eq.mp hq
  subst hq
  have := List.all_eq_true.mp mKT_ok _ hm
  simp only [Bool.and_eq_true] at this
  exact ⟨mPl_ok this.1.1, mPl_ok this.1.2, this.2⟩
/-- the quick arms -/
def mChkW (y pc : Nat) (i : Instr) (ps : List Nat) : Bool := match i with
  | .ldc2_w ix => mJT.any fun q => Nat.beq q.1 (mCnn y) && Nat.beq q.2.1 ix && Nat.beq q.2.2.1 (ps.getD 0 0)
  | .getfield ix => (match ps with
    | [kd, f, 1] => mFldF y ix kd f && mIsR (mY kd f)
    | [kd, f, _] => mFldF y ix kd f && !mIsR (mY kd f)
    | [_, f, _, _] => mHT.any fun q => Nat.beq q.1 (mCnn y) && Nat.beq q.2.1 ix && Nat.beq q.2.2.1 f
    | _ => false)
  | .getstatic ix => mGT.any fun q => Nat.beq q.1 (mCnn y) && Nat.beq q.2.1 ix && Nat.beq q.2.2.1 (ps.getD 0 0)
  | .putfield ix => (match ps with
    | [kd, f, 1] => mFldF y ix kd f && mIsR (mY kd f) && (!(mT kd f).2.2.2 || decide ((mYn y).name = "<init>") && decide (mOwn y = mNm kd))
    | [kd, f, 2] => mFldF y ix kd f && decide (mY kd f = .boolean) && (!(mT kd f).2.2.2 || decide ((mYn y).name = "<init>") && decide (mOwn y = mNm kd))
    | [kd, f, 0] => mFldF y ix kd f && decide (mY kd f = .int) && (!(mT kd f).2.2.2 || decide ((mYn y).name = "<init>") && decide (mOwn y = mNm kd))
    | _ => false)
  | .new ix => (match ps with
    | [kd, n] => Nat.ble 100 kd && Nat.blt kd 112 && decide (n = mN kd) && mKnd kd && mCls y ix kd
    | [kd, li, ii] => mCls y ix kd && mThrF y pc kd li ii && Nat.blt 0 y
    | _ => false)
  | .newarray t => decide (newarray.typeOf t = mTy (ps.getD 0 0)) && Nat.blt (ps.getD 0 0) 5 && Nat.blt 0 (ps.getD 0 0)
  | .anewarray ix => mCls y ix 101
  | .invokespecial ix => (match ps with
    | [] => (mLT.any fun q => Nat.beq q.1 (mCnn y) && Nat.beq q.2.1 ix) && Nat.ble 1 (mFrm y) && Nat.ble 20 (mLoc y)
    | [y', n] => mCalF y ix y' n 1 && !mStL.contains y' && decide ((mYn y').name = "<init>") && decide (mRt y' = none) && Nat.blt 0 y' && Nat.blt 0 y
    | _ => false)
  | .invokestatic ix => (match ps with
    | [y', n] => mCalF y ix y' n 0 && mStL.contains y' && Nat.blt 0 y
    | _ => false)
  | .invokevirtual ix => (match ps with
    | [y', n, kd] => mCalF y ix y' n 1 && !mStL.contains y' && (decide ((mYn y').name ≠ "<init>") && decide ((mYn y').cls ≠ "java/lang/Enum")) && decide ((mYn y').cls = mNm kd) && Nat.ble 100 kd && Nat.blt kd 112 && Nat.blt 0 y
    | [y', n, kd, 0] => mCalF y ix y' n 1 && !mStL.contains y' && (decide ((mYn y').name ≠ "<init>") && decide ((mYn y').cls ≠ "java/lang/Enum")) && decide ((mYn y').cls = kC kd) && (Nat.beq kd 212 || Nat.beq kd 213) && Nat.blt 0 y
    | [y', n, kd, _] => Nat.beq y 94 && Nat.beq ix 83 && Nat.beq y' 206 && Nat.beq n 1 && Nat.beq kd 212
    | [y', n, kd, h0, h1] => mCalF y ix y' n 1 && !mStL.contains y' && (decide ((mYn y').name ≠ "<init>") && decide ((mYn y').cls ≠ "java/lang/Enum")) && decide ((mYn y').cls = mNm kd) && Nat.ble 100 kd && Nat.blt kd 112 && (decide (y = 0) && decide (pc = 3) && decide (mPc y h0 = 11) && decide (mPc y h1 = 14) && Nat.blt h0 (mNb y) && Nat.blt h1 (mNb y))
    | _ => false)
  | i => mChk2 y pc i ps
set_option maxRecDepth 100000 in
theorem ord_u : mCalU 94 206 1 1 = true := by
  obtain ⟨m1, m2, m3, m4, m5, -, -⟩ := mM1_el (y := 206) (by decide) (by decide)
  unfold mCalU
  simp only [Bool.and_eq_true, Nat.blt_eq, Nat.ble_eq, decide_eq_true_eq]
  exact ⟨⟨⟨⟨⟨⟨⟨⟨⟨⟨by decide, by decide +kernel⟩, by decide +kernel⟩, m1⟩, m2⟩, m3⟩, by rw [m4]; decide +kernel⟩, by decide⟩, by decide +kernel⟩, by decide +kernel⟩, m5⟩
set_option maxRecDepth 100000 in
theorem ord_i : mW1 (.instanceMethod (mYn 206)) = true := by
  obtain ⟨-, -, -, -, -, -, m7⟩ := mM1_el (y := 206) (by decide) (by decide)
  exact (m7 (by decide +kernel)).1
theorem mW_13 : mW1 (.classLink (mOwn 0) 13 (mNm 90)) = true := cdw_of (tb_3 (List.mem_of_getElem? (i := 4) rfl)) rfl
theorem mW_15 : mW1 (.classLink (mOwn 0) 15 (mNm 91)) = true := cdw_of (tb_3 (List.mem_of_getElem? (i := 5) rfl)) rfl
set_option maxHeartbeats 2000000 in
theorem mChkW_ok {y pc : Nat} {i : Instr} {ps : List Nat} (hy : y < mNum) (h : mChkW y pc i ps = true) : mChk2 y pc i ps = true := by
  cases i with
  | ldc2_w ix =>
    obtain ⟨⟨c1, c2, c3, c4⟩, hm, hq⟩ := List.any_eq_true.mp h
    simp only [Bool.and_eq_true, Nat.beq_eq] at hq
    obtain ⟨⟨q1, q2⟩, q3⟩ := hq
    have hl := mPl_ok (List.all_eq_true.mp mJT_ok _ hm)
    dsimp only at hl
    show mW1 (.constantLong (mOwn y) ix (lN (ps.getD 0 0))) = true
    rw [mOwn_cn hy, ← q1, ← q2, ← q3]
    exact hl
  | getfield ix =>
    dsimp only [mChkW] at h
    dsimp only [mChk2]
    split at h
    · next kd f =>
      rw [Bool.and_eq_true] at h
      show (mFld y ix kd f && mIsR (mY kd f)) = true
      rw [mFldF_ok hy h.1, h.2]; rfl
    · next kd f t ht =>
      rw [Bool.and_eq_true] at h
      split
      · next he => cases he; exact (ht rfl).elim
      · next he => cases he; rw [mFldF_ok hy h.1, h.2]; rfl
      · next he => cases he
      · next h1 h2 h3 => first | exact (h1 _ _ _ rfl).elim | exact (h2 _ _ _ rfl).elim | exact (h3 _ _ _ rfl).elim
    · next a f b c =>
      have hm : (Nat.blt f 6 && mW1 (.fieldLink (mOwn y) ix (kH f).1 (kH f).2.1 (kH f).2.2)) = true := by
        obtain ⟨⟨c1, c2, c3, c4⟩, hm, hq⟩ := List.any_eq_true.mp h
        simp only [Bool.and_eq_true, Nat.beq_eq] at hq
        obtain ⟨⟨q1, q2⟩, q3⟩ := hq
        have hl := List.all_eq_true.mp mHT_ok _ hm
        rw [Bool.and_eq_true] at hl
        subst q1 q2 q3
        rw [mOwn_cn hy, mPl_ok hl.1, hl.2]; rfl
      match b with
      | 0 => exact hm
      | 1 => exact hm
      | _ + 2 => exact hm
    · cases h
  | getstatic ix =>
    obtain ⟨⟨c1, c2, c3, c4⟩, hm, hq⟩ := List.any_eq_true.mp h
    simp only [Bool.and_eq_true, Nat.beq_eq] at hq
    obtain ⟨⟨q1, q2⟩, q3⟩ := hq
    have hl := List.all_eq_true.mp mGT_ok _ hm
    rw [Bool.and_eq_true] at hl
    show (mW1 (.fieldLink (mOwn y) ix (kG (ps.getD 0 0)).1 (kG (ps.getD 0 0)).2.1 (kG (ps.getD 0 0)).2.2) && kCs.contains (ps.getD 0 0)) = true
    dsimp only at q1 q2 q3 hl
    rw [mOwn_cn hy, ← q1, ← q2, ← q3, mPl_ok hl.1, hl.2]; rfl
  | putfield ix =>
    dsimp only [mChkW] at h
    dsimp only [mChk2]
    split at h
    · next kd f =>
      rw [Bool.and_eq_true, Bool.and_eq_true] at h
      show (mFld y ix kd f && mIsR (mY kd f) && (!(mT kd f).2.2.2 || decide ((mYn y).name = "<init>") && decide (mOwn y = mNm kd))) = true
      rw [mFldF_ok hy h.1.1, h.1.2, h.2]; rfl
    · next kd f =>
      rw [Bool.and_eq_true, Bool.and_eq_true] at h
      show (mFld y ix kd f && decide (mY kd f = .boolean) && (!(mT kd f).2.2.2 || decide ((mYn y).name = "<init>") && decide (mOwn y = mNm kd))) = true
      rw [mFldF_ok hy h.1.1, h.1.2, h.2]; rfl
    · next kd f =>
      rw [Bool.and_eq_true, Bool.and_eq_true] at h
      show (mFld y ix kd f && decide (mY kd f = .int) && (!(mT kd f).2.2.2 || decide ((mYn y).name = "<init>") && decide (mOwn y = mNm kd))) = true
      rw [mFldF_ok hy h.1.1, h.1.2, h.2]; rfl
    · cases h
  | new ix =>
    dsimp only [mChkW] at h
    dsimp only [mChk2]
    split at h
    · next kd n =>
      simp only [Bool.and_eq_true, decide_eq_true_eq] at h
      obtain ⟨⟨⟨⟨h1, h2⟩, h3⟩, h4⟩, h5⟩ := h
      obtain ⟨k1, k2, k3⟩ := mKnd_ok h4
      subst h3
      show (Nat.ble 100 kd && Nat.blt kd 112 && decide (mN kd = mN kd) && ((List.range (mN kd)).all fun f => mDfl (mY kd f)) && mW1 (.classLink (mOwn y) ix (mNm kd)) && mW1 (.instantiable (mNm kd) (mN kd)) && mW1 (.initialized (mNm kd))) = true
      rw [h1, h2, k1, k2, mCls_ok hy h5, k3]
      simp
    · next kd li ii =>
      simp only [Bool.and_eq_true] at h
      show (mW1 (.classLink (mOwn y) ix (mNm kd)) && mThr y pc kd li ii && Nat.blt 0 y) = true
      rw [mCls_ok hy h.1.1, mThrF_ok hy h.1.2, h.2]; rfl
    · cases h
  | newarray t =>
    dsimp only [mChkW] at h
    dsimp only [mChk2]
    simp only [Bool.and_eq_true, decide_eq_true_eq, Nat.blt_eq] at h
    obtain ⟨⟨h1, h2⟩, h3⟩ := h
    have hA := mAT_ok
    simp only [mAT, List.all_cons, List.all_nil, Bool.and_true, Bool.and_eq_true] at hA
    obtain ⟨a1, a2, a3, a4⟩ := hA
    have hw : mW1 (.arrayClass (mTy (ps.getD 0 0))) = true := by
      have : ps.getD 0 0 = 1 ∨ ps.getD 0 0 = 2 ∨ ps.getD 0 0 = 3 ∨ ps.getD 0 0 = 4 := by omega
      rcases this with q | q | q | q <;> rw [q]
      · exact mPl_ok a1
      · exact mPl_ok a2
      · exact mPl_ok a3
      · exact mPl_ok a4
    simp only [Bool.and_eq_true, decide_eq_true_eq, Nat.blt_eq]
    exact ⟨⟨⟨by rw [h1]; exact hw, h1⟩, h2⟩, h3⟩
  | anewarray ix => exact mCls_ok (kd := 101) hy h
  | invokespecial ix =>
    dsimp only [mChkW] at h
    dsimp only [mChk2]
    split at h
    · simp only [Bool.and_eq_true] at h
      obtain ⟨⟨h1, h2⟩, h3⟩ := h
      obtain ⟨⟨c1, c2, c3⟩, hm, hq⟩ := List.any_eq_true.mp h1
      simp only [Bool.and_eq_true, Nat.beq_eq] at hq
      obtain ⟨q1, q2⟩ := hq
      have hl := mPl_ok (List.all_eq_true.mp mLT_ok _ hm)
      dsimp only at hl
      have hO := mOT_ok
      rw [Bool.and_eq_true] at hO
      rw [mOwn_cn hy, ← q1, ← q2, hl, mPl_ok hO.1, mPl_ok hO.2, h2, h3]; rfl
    · next y' n =>
      simp only [Bool.and_eq_true, Bool.not_eq_true', decide_eq_true_eq, Nat.blt_eq] at h
      obtain ⟨⟨⟨⟨⟨h1, h2⟩, h3⟩, h4⟩, h5⟩, h6⟩ := h
      obtain ⟨k1, k2, k3⟩ := mCalF_ok hy h1
      obtain ⟨m1, m2, m3, m4, m5, m6, m7⟩ := mM1_el k2 k3
      have hcd : mW1 (.code (mYn y') (mBy y') (mNL y') none) = true := by
        unfold mCdW at m1
        rw [if_neg (by omega), h4] at m1
        exact m1
      simp only [Bool.and_eq_true, decide_eq_true_eq, Nat.blt_eq]
      exact ⟨⟨⟨⟨k1, (m7 h2).1⟩, h3⟩, hcd⟩, h6⟩
    · cases h
  | invokestatic ix =>
    dsimp only [mChkW] at h
    dsimp only [mChk2]
    split at h
    · next y' n =>
      simp only [Bool.and_eq_true, Nat.blt_eq] at h
      obtain ⟨⟨h1, h2⟩, h3⟩ := h
      obtain ⟨k1, k2, k3⟩ := mCalF_ok hy h1
      obtain ⟨m1, m2, m3, m4, m5, m6, m7⟩ := mM1_el k2 k3
      simp only [Bool.and_eq_true, Nat.blt_eq]
      exact ⟨⟨k1, m6 h2⟩, h3⟩
    · cases h
  | invokevirtual ix =>
    dsimp only [mChkW] at h
    dsimp only [mChk2]
    split at h
    · next y' n kd =>
      simp only [Bool.and_eq_true, Bool.not_eq_true', decide_eq_true_eq, Nat.blt_eq, Nat.ble_eq] at h
      obtain ⟨⟨⟨⟨⟨⟨h1, h2⟩, h3⟩, h4⟩, h5⟩, h6⟩, h7⟩ := h
      obtain ⟨k1, k2, k3⟩ := mCalF_ok hy h1
      obtain ⟨m1, m2, m3, m4, m5, m6, m7⟩ := mM1_el k2 k3
      have hs := ((m7 h2).2.resolve_left h3.1).resolve_left h3.2
      rw [h4] at hs
      simp only [Bool.and_eq_true, Nat.blt_eq, Nat.ble_eq]
      exact ⟨⟨⟨⟨⟨k1, (m7 h2).1⟩, hs⟩, h5⟩, h6⟩, h7⟩
    · next y' n kd =>
      simp only [Bool.and_eq_true, Bool.not_eq_true', decide_eq_true_eq, Nat.blt_eq] at h
      obtain ⟨⟨⟨⟨⟨h1, h2⟩, h3⟩, h4⟩, h5⟩, h7⟩ := h
      obtain ⟨k1, k2, k3⟩ := mCalF_ok hy h1
      obtain ⟨m1, m2, m3, m4, m5, m6, m7⟩ := mM1_el k2 k3
      have hs := ((m7 h2).2.resolve_left h3.1).resolve_left h3.2
      rw [h4] at hs
      show (mCal y ix y' n 1 && mW1 (.instanceMethod (mYn y')) && mW1 (.selects (kC kd) (mYn y') (mYn y')) && (Nat.beq kd 212 || Nat.beq kd 213) && Nat.blt 0 y) = true
      simp only [Bool.and_eq_true, Nat.blt_eq]
      exact ⟨⟨⟨⟨k1, (m7 h2).1⟩, hs⟩, h5⟩, h7⟩
    · next y' n kd z hz =>
      simp only [Bool.and_eq_true, Nat.beq_eq] at h
      obtain ⟨⟨⟨⟨h1, h2⟩, h3⟩, h4⟩, h5⟩ := h
      subst h1 h2 h3 h4 h5
      match z, hz with
      | 0, hz => exact (hz rfl).elim
      | z + 1, _ =>
        show (mCalU 94 206 1 1 && mW1 (.instanceMethod (mYn 206)) && mW1 (.methodLink (mOwn 94) 83 ⟨kC 212, (mYn 206).name, (mYn 206).desc⟩) && mW1 (.sameMethod (kC 212) (mYn 206).cls (mYn 206).name (mYn 206).desc) && mW1 (.selects (kC 212) ⟨kC 212, (mYn 206).name, (mYn 206).desc⟩ (mYn 206)) && (Nat.beq 212 212 || Nat.beq 212 213) && Nat.blt 0 94) = true
        rw [ord_u, ord_i, ord_l, ord_s, ord_e]; rfl
    · next y' n kd h0 h1 =>
      simp only [Bool.and_eq_true, Bool.not_eq_true', decide_eq_true_eq, Nat.blt_eq, Nat.ble_eq] at h
      obtain ⟨⟨⟨⟨⟨⟨g1, g2⟩, g3⟩, g4⟩, g5⟩, g6⟩, ⟨⟨⟨⟨⟨y0, g7⟩, g8⟩, g9⟩, g10⟩, g11⟩⟩ := h
      obtain ⟨k1, k2, k3⟩ := mCalF_ok hy g1
      obtain ⟨m1, m2, m3, m4, m5, m6, m7⟩ := mM1_el k2 k3
      have hs := ((m7 g2).2.resolve_left g3.1).resolve_left g3.2
      rw [g4] at hs
      simp only [Bool.and_eq_true, Nat.blt_eq, Nat.ble_eq, decide_eq_true_eq]
      exact ⟨⟨⟨⟨⟨k1, (m7 g2).1⟩, hs⟩, g5⟩, g6⟩, ⟨⟨⟨⟨⟨⟨⟨y0, g7⟩, g8⟩, g9⟩, g10⟩, g11⟩, by rw [y0]; exact mW_13⟩, by rw [y0]; exact mW_15⟩⟩
    · cases h
  | _ => exact h
