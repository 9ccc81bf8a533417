/-! THE QUICK CHECK: it implies the plain one -/
def mPl (i : Nat) (w : Cond) : Bool := decide (lw_tbl[i]? = some w) && goodWord w
theorem mPl_ok {i : Nat} {w : Cond} (h : mPl i w = true) : mW1 w = true := by
  unfold mPl at h
  rw [Bool.and_eq_true, decide_eq_true_eq] at h
  unfold mW1
  rw [Bool.and_eq_true, decide_eq_true_eq]
  exact ⟨List.mem_of_getElem? h.1, h.2⟩
def mCnn (y : Nat) : Nat := mCnL.getD y 0
def mArr (y : Nat) : Nat := (mMF.getD y (0, 0, 0, 0, 0)).2.2.2.2
def mNames : Bool := (List.range mNum).all fun y => decide ((mYn y).cls = mCnm (mCnn y))
set_option maxRecDepth 100000 in
theorem mNames_ok : mNames = true := by decide +kernel
theorem mOwn_cn {y : Nat} (h : y < mNum) : mOwn y = mCnm (mCnn y) := of_decide_eq_true (List.all_eq_true.mp mNames_ok y (List.mem_range.mpr h))
set_option maxRecDepth 100000 in
theorem mFT_ok : mFT.all (fun q => mPl q.2.2.2.2 (.fieldLink (mCnm q.1) q.2.1 (mNm q.2.2.1) (mT q.2.2.1 q.2.2.2.1).2.1 (mT q.2.2.1 q.2.2.2.1).2.2.1) && Nat.ble 100 q.2.2.1 && Nat.blt q.2.2.1 112 && Nat.blt q.2.2.2.1 (mN q.2.2.1)) = true := by decide +kernel
set_option maxRecDepth 100000 in
theorem mMT_ok : mMT.all (fun q => mPl q.2.2.2 (.methodLink (mCnm q.1) q.2.1 (mYn q.2.2.1))) = true := by decide +kernel
set_option maxRecDepth 100000 in
theorem mLT_ok : mLT.all (fun q => mPl q.2.2 (.methodLink (mCnm q.1) q.2.1 objectInit)) = true := by decide +kernel
set_option maxRecDepth 100000 in
theorem mCT_ok : mCT.all (fun q => mPl q.2.2.2 (.classLink (mCnm q.1) q.2.1 (mNm q.2.2.1))) = true := by decide +kernel
set_option maxRecDepth 100000 in
theorem mKT_ok : mKT.all (fun q => mPl q.2.1 (.instantiable (mNm q.1) (mN q.1)) && mPl q.2.2 (.initialized (mNm q.1)) && ((List.range (mN q.1)).all fun f => mDfl (mY q.1 f))) = true := by decide +kernel
set_option maxRecDepth 100000 in
theorem mAT_ok : mAT.all (fun q => mPl q.2 (.arrayClass (mTy q.1))) = true := by decide +kernel
set_option maxRecDepth 100000 in
theorem mOT_ok : (mPl (mOT.getD 0 0) (.instanceMethod objectInit) && mPl (mOT.getD 1 0) (.code objectInit ⟨#[0xb1]⟩ 1 none)) = true := by decide +kernel
set_option maxRecDepth 100000 in
theorem mJT_ok : mJT.all (fun q => mPl q.2.2.2 (.constantLong (mCnm q.1) q.2.1 (lN q.2.2.1))) = true := by decide +kernel
set_option maxRecDepth 100000 in
theorem mET_ok : mET.all (fun q => mPl q.2.1 (.instantiable (mNm q.1) 6) && mPl q.2.2 (.initialized (mNm q.1))) = true := by decide +kernel
set_option maxRecDepth 100000 in
theorem mXT_ok : mXT.all (fun q => mPl q.2.2.2 (.methodLink (mCnm q.1) q.2.1 (Bundle.initS (mNm q.2.2.1)))) = true := by decide +kernel
set_option maxRecDepth 100000 in
theorem mGT_ok : mGT.all (fun q => mPl q.2.2.2 (.fieldLink (mCnm q.1) q.2.1 (kG q.2.2.1).1 (kG q.2.2.1).2.1 (kG q.2.2.1).2.2) && kCs.contains q.2.2.1) = true := by decide +kernel
set_option maxRecDepth 100000 in
theorem mHT_ok : mHT.all (fun q => mPl q.2.2.2 (.fieldLink (mCnm q.1) q.2.1 (kH q.2.2.1).1 (kH q.2.2.1).2.1 (kH q.2.2.1).2.2) && Nat.blt q.2.2.1 6) = true := by decide +kernel
