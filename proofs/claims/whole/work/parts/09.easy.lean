/-! EVERY INSTRUCTION BUT CALLS AND ENDS -/
def mEasy (i : Instr) : Bool := match i with
  | .invokevirtual _ | .invokestatic _ | .ireturn | .lreturn | .areturn | .return_ => false
  | .new _ | .invokespecial _ => false
  | _ => true
section STP
variable {dC : Nat → ClassId} {dI : Nat → Nat → Nat} {B : Nat} {H0 : Heap}
variable {p : Program} {l : Launch} {e : Env} {R : Room} {s : State} {m : MethodId} {args : Array Value} {below : List Frame} {meth : Method} {c : Code} {Q : State → Prop} {pc : Nat} {L : mL} {st : List Value} {M : mM}
theorem mTgt_el {y pc t : Nat} {off : Int} (h : mTgt y pc off t = true) : (pc : Int) + off = (mPc y t : Int) ∧ t < mNb y := by
  unfold mTgt at h
  rw [Bool.and_eq_true, decide_eq_true_eq, Nat.blt_eq] at h
  exact h
theorem mTabs_el {y pc : Nat} : ∀ (os : List Int) (ts : List Nat), mTabs y pc os ts = true → os.length = ts.length ∧ ∀ k (o : Int), os[k]? = some o → mTgt y pc o (ts.getD k 0) = true
  | [], [], _ => ⟨rfl, fun k o h => by simp at h⟩
  | [], _ :: _, h => by simp [mTabs] at h
  | _ :: _, [], h => by simp [mTabs] at h
  | a :: os, t :: ts, h => by
    simp only [mTabs, Bool.and_eq_true] at h
    obtain ⟨h1, h2⟩ := mTabs_el os ts h.2
    refine ⟨by simp [h1], fun k o hk => ?_⟩
    cases k with
    | zero =>
      simp only [List.getElem?_cons_zero, Option.some.injEq] at hk
      subst hk
      exact h.1
    | succ k => exact h2 k o (by simpa using hk)
theorem m_lks_el {y pc t : Nat} {d : Int} (ht : mTgt y pc d t = true) {x : Int} : ∀ (ps : List (Int × Int)) (ts : List Nat), mTabs y pc (ps.map fun q => q.2) ts = true → mTgt y pc (Op.lookupswitch.offset ps d x) (m_lks ps ts t x) = true
  | [], [], _ => ht
  | [], _ :: _, h => by simp [mTabs] at h
  | _ :: _, [], h => by simp [mTabs] at h
  | (a, o) :: ps, t' :: ts, h => by
    simp only [List.map_cons, mTabs, Bool.and_eq_true] at h
    rw [Op.lookupswitch.offset_cons, m_lks]
    by_cases q : a = x
    · rw [if_pos q, if_pos q]; exact h.1
    · rw [if_neg q, if_neg q]; exact m_lks_el ht ps ts h.2
theorem mS_al {E : mE} {go : mG} {call : mCl} {Qm : mQ} {k : mK} {n : Nat} {ps : List Nat} (hcs : mCst .arraylength ps = false) (h : mStep E go call Qm (.arraylength, n, ps) k L st M) : m_R st fun a r => mkd M a = ps.getD 0 0 ∧ k L (.int (nI (mln M a)) :: r) M := by
  match ps, hcs, h with
  | [], _, h => exact h
  | [_], _, h => exact h
  | [_, _], hcs, _ => cases hcs
  | _ :: _ :: _ :: _, _, h => exact h
theorem mZ_al {y pc : Nat} {ps : List Nat} (hcs : mCst .arraylength ps = false) (h : mChk2 y pc .arraylength ps = true) : (Nat.blt (ps.getD 0 0) 6 && Nat.blt 0 (ps.getD 0 0) || decide (ps.getD 0 0 = 208)) = true := by
  match ps, hcs, h with
  | [], _, h => exact h
  | [_], _, h => exact h
  | [_, _], hcs, _ => cases hcs
  | _ :: _ :: _ :: _, _, h => exact h
theorem mS_ia {E : mE} {go : mG} {call : mCl} {Qm : mQ} {k : mK} {n : Nat} {ps : List Nat} (hcs : mCst .iaload ps = false) (h : mStep E go call Qm (.iaload, n, ps) k L st M) : m_RI st fun a j r => mkd M a = ps.getD 0 0 ∧ vp_in j (mln M a) ∧ k L (.int (mi M a j.toNatClampNeg) :: r) M := by
  match ps, hcs, h with
  | [], _, h => exact h
  | [_], _, h => exact h
  | [_, _], hcs, _ => cases hcs
  | _ :: _ :: _ :: _, _, h => exact h
theorem mZ_ia {y pc : Nat} {ps : List Nat} (hcs : mCst .iaload ps = false) (h : mChk2 y pc .iaload ps = true) : (decide (ps.getD 0 0 = 1) || decide (ps.getD 0 0 = 208)) = true := by
  match ps, hcs, h with
  | [], _, h => exact h
  | [_], _, h => exact h
  | [_, _], hcs, _ => cases hcs
  | _ :: _ :: _ :: _, _, h => exact h
theorem mS_ba {E : mE} {go : mG} {call : mCl} {Qm : mQ} {k : mK} {n : Nat} {ps : List Nat} (hcs : mCst .baload ps = false) (h : mStep E go call Qm (.baload, n, ps) k L st M) : m_RI st fun a j r => mkd M a = ps.getD 0 0 ∧ vp_in j (mln M a) ∧ k L (.int (mi M a j.toNatClampNeg) :: r) M := by
  match ps, hcs, h with
  | [], _, h => exact h
  | [_], _, h => exact h
  | [_, _], hcs, _ => cases hcs
  | _ :: _ :: _ :: _, _, h => exact h
theorem mZ_ba {y pc : Nat} {ps : List Nat} (hcs : mCst .baload ps = false) (h : mChk2 y pc .baload ps = true) : (decide (ps.getD 0 0 = 3)) = true := by
  match ps, hcs, h with
  | [], _, h => exact h
  | [_], _, h => exact h
  | [_, _], hcs, _ => cases hcs
  | _ :: _ :: _ :: _, _, h => exact h
theorem mS_aa {E : mE} {go : mG} {call : mCl} {Qm : mQ} {k : mK} {n : Nat} {ps : List Nat} (hcs : mCst .aaload ps = false) (h : mStep E go call Qm (.aaload, n, ps) k L st M) : m_RI st fun a j r => mkd M a = ps.getD 0 0 ∧ vp_in j (mln M a) ∧ ¬ mr M a j.toNatClampNeg = 0 ∧ k L (.ref (mr M a j.toNatClampNeg) :: r) M := by
  match ps, hcs, h with
  | [], _, h => exact h
  | [_], _, h => exact h
  | [_, _], hcs, _ => cases hcs
  | _ :: _ :: _ :: _, _, h => exact h
theorem mZ_aa {y pc : Nat} {ps : List Nat} (hcs : mCst .aaload ps = false) (h : mChk2 y pc .aaload ps = true) : (decide (ps.getD 0 0 = 5)) = true := by
  match ps, hcs, h with
  | [], _, h => exact h
  | [_], _, h => exact h
  | [_, _], hcs, _ => cases hcs
  | _ :: _ :: _ :: _, _, h => exact h
set_option maxHeartbeats 4000000 in
theorem mStep_easy {y : Nat} (CX : mCtx dC dI y p e R s m meth c) {E : mE} (hE : E.1 = B) {i : Instr} {len : Nat} {ps : List Nat} (hc : mChk y pc (i, len, ps) = true) (he : mEasy i = true) (hcs : mCst i ps = false) {go : mG} {call : mCl} {Qm : mQ} {k : mK} (h : mStep E go call Qm (i, len, ps) k L st M)
    (hk : ∀ L' st' M', k L' st' M' → mAtW dC dI B H0 p l e R s m args below meth c Q (mNL y) (pc + len) L' st' M') (hgo : ∀ b L' st' M', b < mNb y → go b L' st' M' → mAtW dC dI B H0 p l e R s m args below meth c Q (mNL y) (mPc y b) L' st' M') :
    mAtW dC dI B H0 p l e R s m args below meth c Q (mNL y) pc L st M := by
  have hx := CX.1
  have hb := CX.2.1
  have hown := CX.2.2.2.2.2.1
  have hKn := CX.2.2.2.2.2.2.2.1
  cases i with
  | tableswitch d lo hi offs =>
    obtain ⟨x, r, rfl, h⟩ := m_I_el h
    unfold mChk at hc
    rw [Bool.and_eq_true, decide_eq_true_eq] at hc
    obtain ⟨dc, hc⟩ := hc
    dsimp only at hc dc h
    cases ps with
    | nil => cases hc
    | cons t ts =>
      dsimp only at hc
      rw [Bool.and_eq_true, Bool.and_eq_true, decide_eq_true_eq] at hc
      obtain ⟨⟨c1, c2⟩, c3⟩ := hc
      obtain ⟨t1, t2⟩ := mTgt_el c1
      obtain ⟨c4, c5⟩ := mTabs_el _ _ c2
      by_cases hio : x.toInt < lo ∨ hi < x.toInt
      · have em : m_tab lo hi x.toInt (t :: ts) = t := by unfold m_tab; rw [if_pos hio]; rfl
        have h' : go t L r M := by rw [← em]; exact h
        exact (hgo _ _ _ _ t2 h').of fun H ls locs cells slots _ w => lv_tableOut hx hb dc hio t1 w
      · have em : m_tab lo hi x.toInt (t :: ts) = ts.getD (x.toInt - lo).toNat 0 := by unfold m_tab; rw [if_neg hio]; rfl
        have hlt : (x.toInt - lo).toNat < offs.size := by omega
        have hoff : offs[(x.toInt - lo).toNat]? = some offs[(x.toInt - lo).toNat] := Array.getElem?_eq_getElem hlt
        obtain ⟨t3, t4⟩ := mTgt_el (c5 (x.toInt - lo).toNat _ (by rw [Array.getElem?_toList]; exact hoff))
        have h' : go (ts.getD (x.toInt - lo).toNat 0) L r M := by rw [← em]; exact h
        exact (hgo _ _ _ _ t4 h').of fun H ls locs cells slots _ w => lv_tableIn hx hb dc (fun z => hio (Or.inl z)) (fun z => hio (Or.inr z)) hoff t3 w
  | lookupswitch d prs =>
    obtain ⟨x, r, rfl, h⟩ := m_I_el h
    unfold mChk at hc
    rw [Bool.and_eq_true, decide_eq_true_eq] at hc
    obtain ⟨dc, hc⟩ := hc
    dsimp only at hc dc h
    cases ps with
    | nil => cases hc
    | cons t ts =>
      dsimp only at hc
      rw [Bool.and_eq_true, Bool.and_eq_true] at hc
      obtain ⟨⟨c1, c2⟩, c3⟩ := hc
      obtain ⟨t1, t2⟩ := mTgt_el (m_lks_el c1 (x := x.toInt) _ _ c2)
      have h' : go (m_lks prs.toList ts t x.toInt) L r M := h
      exact (hgo _ _ _ _ t2 h').of fun H ls locs cells slots _ w => lv_lookup hx hb dc c3 rfl t1 w
  | iconst v =>
    obtain ⟨d, rfl, hz⟩ := mChk_el hc ⟨by nofun, by nofun⟩
    exact (hk _ _ _ h).of fun H ls locs cells slots _ w => lv_iconst hx hb d rfl w
  | bipush v =>
    obtain ⟨d, rfl, hz⟩ := mChk_el hc ⟨by nofun, by nofun⟩
    exact (hk _ _ _ h).of fun H ls locs cells slots _ w => lv_bipush hx hb d rfl w
  | sipush v =>
    obtain ⟨d, rfl, hz⟩ := mChk_el hc ⟨by nofun, by nofun⟩
    exact (hk _ _ _ h).of fun H ls locs cells slots _ w => lv_sipush hx hb d rfl w
  | lconst v =>
    obtain ⟨d, rfl, hz⟩ := mChk_el hc ⟨by nofun, by nofun⟩
    exact (hk _ _ _ h).of fun H ls locs cells slots _ w => lv_lconst hx hb d rfl w
  | ldc2_w ix =>
    obtain ⟨d, rfl, hz⟩ := mChk_el hc ⟨by nofun, by nofun⟩
    exact (hk _ _ _ h).of fun H ls locs cells slots _ w => W.ldc2 hx hb hown (hKn.word hz args) rfl d w
  | iload_n j =>
    obtain ⟨d, rfl, hz⟩ := mChk_el hc ⟨by nofun, by nofun⟩
    obtain ⟨x, ha, h⟩ := m_lI_el h
    exact (hk _ _ _ h).of fun H ls locs cells slots hl w => lv_iload_n hx hb d rfl (hl.2.2.2 _ _ ha) w
  | iload j =>
    obtain ⟨d, rfl, hz⟩ := mChk_el hc ⟨by nofun, by nofun⟩
    obtain ⟨x, ha, h⟩ := m_lI_el h
    exact (hk _ _ _ h).of fun H ls locs cells slots hl w => lv_iload hx hb d (hl.2.2.2 _ _ ha) w
  | lload_n j =>
    obtain ⟨d, rfl, hz⟩ := mChk_el hc ⟨by nofun, by nofun⟩
    obtain ⟨x, ha, h⟩ := m_lJ_el h
    exact (hk _ _ _ h).of fun H ls locs cells slots hl w => lv_lload_n hx hb d rfl (hl.2.2.2 _ _ ha) w
  | lload j =>
    obtain ⟨d, rfl, hz⟩ := mChk_el hc ⟨by nofun, by nofun⟩
    obtain ⟨x, ha, h⟩ := m_lJ_el h
    exact (hk _ _ _ h).of fun H ls locs cells slots hl w => lv_lload hx hb d (hl.2.2.2 _ _ ha) w
  | aload_n j =>
    obtain ⟨d, rfl, hz⟩ := mChk_el hc ⟨by nofun, by nofun⟩
    obtain ⟨x, ha, h⟩ := m_lR_el h
    exact (hk _ _ _ h).of fun H ls locs cells slots hl w => lv_aload_n hx hb d rfl (hl.2.2.2 _ _ ha) w
  | aload j =>
    obtain ⟨d, rfl, hz⟩ := mChk_el hc ⟨by nofun, by nofun⟩
    obtain ⟨x, ha, h⟩ := m_lR_el h
    exact (hk _ _ _ h).of fun H ls locs cells slots hl w => lv_aload hx hb d (hl.2.2.2 _ _ ha) w
  | istore_n j =>
    obtain ⟨d, rfl, hz⟩ := mChk_el hc ⟨by nofun, by nofun⟩
    obtain ⟨x, r, rfl, h⟩ := m_I_el h
    have hn : j.val < mNL y := Nat.blt_eq.mp hz
    exact (hk _ _ _ h).st1 fun H ls locs cells slots hl _ w => lv_istore_n hx hb d rfl hl hn rfl w
  | istore j =>
    obtain ⟨d, rfl, hz⟩ := mChk_el hc ⟨by nofun, by nofun⟩
    obtain ⟨x, r, rfl, h⟩ := m_I_el h
    have hn : j < mNL y := Nat.blt_eq.mp hz
    exact (hk _ _ _ h).st1 fun H ls locs cells slots hl _ w => lv_istore hx hb d hl hn rfl w
  | astore_n j =>
    obtain ⟨d, rfl, hz⟩ := mChk_el hc ⟨by nofun, by nofun⟩
    obtain ⟨x, r, rfl, h⟩ := m_R_el h
    have hn : j.val < mNL y := Nat.blt_eq.mp hz
    exact (hk _ _ _ h).st1 fun H ls locs cells slots hl _ w => lv_astore_n hx hb d rfl hl hn rfl w
  | astore j =>
    obtain ⟨d, rfl, hz⟩ := mChk_el hc ⟨by nofun, by nofun⟩
    obtain ⟨x, r, rfl, h⟩ := m_R_el h
    have hn : j < mNL y := Nat.blt_eq.mp hz
    exact (hk _ _ _ h).st1 fun H ls locs cells slots hl _ w => lv_astore hx hb d hl hn rfl w
  | lstore_n j =>
    obtain ⟨d, rfl, hz⟩ := mChk_el hc ⟨by nofun, by nofun⟩
    obtain ⟨x, r, rfl, h⟩ := m_J_el h
    have hn : j.val + 1 < mNL y := Nat.blt_eq.mp hz
    exact (hk _ _ _ h).st2 hn fun H ls locs cells slots hl w => lv_lstore_n hx hb d rfl hl hn rfl w
  | lstore j =>
    obtain ⟨d, rfl, hz⟩ := mChk_el hc ⟨by nofun, by nofun⟩
    obtain ⟨x, r, rfl, h⟩ := m_J_el h
    have hn : j + 1 < mNL y := Nat.blt_eq.mp hz
    exact (hk _ _ _ h).st2 hn fun H ls locs cells slots hl w => lv_lstore hx hb d hl hn rfl w
  | iinc j v =>
    obtain ⟨d, rfl, hz⟩ := mChk_el hc ⟨by nofun, by nofun⟩
    obtain ⟨x, ha, h⟩ := m_lI_el h
    have hn : j < mNL y := Nat.blt_eq.mp hz
    refine (hk _ _ _ h).st1 fun H ls locs cells slots hl hlr w => ?_
    obtain ⟨q, hq⟩ := List.getElem?_of_mem ((mAs_mem L 0 (j, .int x)).mpr ⟨j, by simp, ha⟩)
    exact lv_iinc hx hb d hl hq rfl hn rfl w
  | iadd =>
    obtain ⟨d, rfl, hz⟩ := mChk_el hc ⟨by nofun, by nofun⟩
    obtain ⟨x, x2, r, rfl, h⟩ := m_II_el h
    exact (hk _ _ _ h).of fun H ls locs cells slots _ w => lv_iadd hx hb d w
  | isub =>
    obtain ⟨d, rfl, hz⟩ := mChk_el hc ⟨by nofun, by nofun⟩
    obtain ⟨x, x2, r, rfl, h⟩ := m_II_el h
    exact (hk _ _ _ h).of fun H ls locs cells slots _ w => lv_isub hx hb d w
  | imul =>
    obtain ⟨d, rfl, hz⟩ := mChk_el hc ⟨by nofun, by nofun⟩
    obtain ⟨x, x2, r, rfl, h⟩ := m_II_el h
    exact (hk _ _ _ h).of fun H ls locs cells slots _ w => lv_imul hx hb d w
  | iand =>
    obtain ⟨d, rfl, hz⟩ := mChk_el hc ⟨by nofun, by nofun⟩
    obtain ⟨x, x2, r, rfl, h⟩ := m_II_el h
    exact (hk _ _ _ h).of fun H ls locs cells slots _ w => lv_iand hx hb d w
  | ior =>
    obtain ⟨d, rfl, hz⟩ := mChk_el hc ⟨by nofun, by nofun⟩
    obtain ⟨x, x2, r, rfl, h⟩ := m_II_el h
    exact (hk _ _ _ h).of fun H ls locs cells slots _ w => lv_ior hx hb d w
  | ishl =>
    obtain ⟨d, rfl, hz⟩ := mChk_el hc ⟨by nofun, by nofun⟩
    obtain ⟨x, x2, r, rfl, h⟩ := m_II_el h
    exact (hk _ _ _ h).of fun H ls locs cells slots _ w => lv_ishl hx hb d w
  | ishr =>
    obtain ⟨d, rfl, hz⟩ := mChk_el hc ⟨by nofun, by nofun⟩
    obtain ⟨x, x2, r, rfl, h⟩ := m_II_el h
    exact (hk _ _ _ h).of fun H ls locs cells slots _ w => lv_ishr hx hb d w
  | idiv =>
    obtain ⟨d, rfl, hz⟩ := mChk_el hc ⟨by nofun, by nofun⟩
    obtain ⟨x, x2, r, rfl, h0, h⟩ := m_II_el h
    exact (hk _ _ _ h).of fun H ls locs cells slots _ w => lv_idiv hx hb d h0 w
  | irem =>
    obtain ⟨d, rfl, hz⟩ := mChk_el hc ⟨by nofun, by nofun⟩
    obtain ⟨x, x2, r, rfl, h0, h⟩ := m_II_el h
    exact (hk _ _ _ h).of fun H ls locs cells slots _ w => lv_irem hx hb d h0 w
  | ineg =>
    obtain ⟨d, rfl, hz⟩ := mChk_el hc ⟨by nofun, by nofun⟩
    obtain ⟨x, r, rfl, h⟩ := m_I_el h
    exact (hk _ _ _ h).of fun H ls locs cells slots _ w => lv_ineg hx hb d w
  | land =>
    obtain ⟨d, rfl, hz⟩ := mChk_el hc ⟨by nofun, by nofun⟩
    obtain ⟨x, x2, r, rfl, h⟩ := m_JJ_el h
    exact (hk _ _ _ h).of fun H ls locs cells slots _ w => lv_land hx hb d w
  | lor =>
    obtain ⟨d, rfl, hz⟩ := mChk_el hc ⟨by nofun, by nofun⟩
    obtain ⟨x, x2, r, rfl, h⟩ := m_JJ_el h
    exact (hk _ _ _ h).of fun H ls locs cells slots _ w => lv_lor hx hb d w
  | lshl =>
    obtain ⟨d, rfl, hz⟩ := mChk_el hc ⟨by nofun, by nofun⟩
    obtain ⟨x, x2, r, rfl, h⟩ := m_JI_el h
    exact (hk _ _ _ h).of fun H ls locs cells slots _ w => lv_lshl hx hb d rfl w
  | lshr =>
    obtain ⟨d, rfl, hz⟩ := mChk_el hc ⟨by nofun, by nofun⟩
    obtain ⟨x, x2, r, rfl, h⟩ := m_JI_el h
    exact (hk _ _ _ h).of fun H ls locs cells slots _ w => lv_lshr hx hb d rfl w
  | lushr =>
    obtain ⟨d, rfl, hz⟩ := mChk_el hc ⟨by nofun, by nofun⟩
    obtain ⟨x, x2, r, rfl, h⟩ := m_JI_el h
    exact (hk _ _ _ h).of fun H ls locs cells slots _ w => lv_lushr hx hb d rfl w
  | lcmp =>
    obtain ⟨d, rfl, hz⟩ := mChk_el hc ⟨by nofun, by nofun⟩
    obtain ⟨x, x2, r, rfl, h⟩ := m_JJ_el h
    exact (hk _ _ _ h).of fun H ls locs cells slots _ w => W.lcmp hx hb d w
  | i2l =>
    obtain ⟨d, rfl, hz⟩ := mChk_el hc ⟨by nofun, by nofun⟩
    obtain ⟨x, r, rfl, h⟩ := m_I_el h
    exact (hk _ _ _ h).of fun H ls locs cells slots _ w => lv_i2l hx hb d rfl w
  | l2i =>
    obtain ⟨d, rfl, hz⟩ := mChk_el hc ⟨by nofun, by nofun⟩
    obtain ⟨x, r, rfl, h⟩ := m_J_el h
    exact (hk _ _ _ h).of fun H ls locs cells slots _ w => lv_l2i hx hb d rfl w
  | i2c =>
    obtain ⟨d, rfl, hz⟩ := mChk_el hc ⟨by nofun, by nofun⟩
    obtain ⟨x, r, rfl, h⟩ := m_I_el h
    exact (hk _ _ _ h).of fun H ls locs cells slots _ w => lv_i2c hx hb d rfl w
  | dup =>
    obtain ⟨d, rfl, hz⟩ := mChk_el hc ⟨by nofun, by nofun⟩
    dsimp only [mStep] at h
    split at h
    · exact (hk _ _ _ h).of fun H ls locs cells slots _ w => lv_dup hx hb d rfl w
    · exact (hk _ _ _ h).of fun H ls locs cells slots _ w => lv_dup hx hb d rfl w
    · exact h.elim
  | dup2 =>
    obtain ⟨d, rfl, hz⟩ := mChk_el hc ⟨by nofun, by nofun⟩
    dsimp only [mStep] at h
    split at h
    · exact (hk _ _ _ h).of fun H ls locs cells slots _ w => lv_dup2_11 hx hb d rfl rfl w
    · exact (hk _ _ _ h).of fun H ls locs cells slots _ w => lv_dup2_11 hx hb d rfl rfl w
    · exact h.elim
  | ifCond cn off =>
    obtain ⟨d, rfl, hz⟩ := mChk_el hc ⟨by nofun, by nofun⟩
    obtain ⟨x, r, rfl, h⟩ := m_I_el h
    obtain ⟨t1, t2⟩ := mTgt_el hz
    cases cn with
    | eq => exact mAtW.br ⟨fun z => hgo _ _ _ _ t2 (h.1 z), fun z => hk _ _ _ (h.2 z)⟩ fun H ls locs cells slots wt wf => lv_if_eq hx hb d t1 wt wf
    | ne => exact mAtW.br ⟨fun z => hgo _ _ _ _ t2 (h.1 z), fun z => hk _ _ _ (h.2 z)⟩ fun H ls locs cells slots wt wf => lv_if_ne hx hb d t1 wt (fun z => wf (fun q => q z))
    | lt => exact mAtW.br ⟨fun z => hgo _ _ _ _ t2 (h.1 z), fun z => hk _ _ _ (h.2 z)⟩ fun H ls locs cells slots wt wf => lv_if_lt hx hb d t1 wt wf
    | ge => exact mAtW.br ⟨fun z => hgo _ _ _ _ t2 (h.1 z), fun z => hk _ _ _ (h.2 z)⟩ fun H ls locs cells slots wt wf => lv_if_ge hx hb d t1 wt wf
    | gt => exact mAtW.br ⟨fun z => hgo _ _ _ _ t2 (h.1 z), fun z => hk _ _ _ (h.2 z)⟩ fun H ls locs cells slots wt wf => lv_if_gt hx hb d t1 wt wf
    | le => exact mAtW.br ⟨fun z => hgo _ _ _ _ t2 (h.1 z), fun z => hk _ _ _ (h.2 z)⟩ fun H ls locs cells slots wt wf => lv_if_le hx hb d t1 wt wf
  | if_icmp cn off =>
    obtain ⟨d, rfl, hz⟩ := mChk_el hc ⟨by nofun, by nofun⟩
    obtain ⟨x, x2, r, rfl, h⟩ := m_II_el h
    obtain ⟨t1, t2⟩ := mTgt_el hz
    cases cn with
    | eq => exact mAtW.br ⟨fun z => hgo _ _ _ _ t2 (h.1 z), fun z => hk _ _ _ (h.2 z)⟩ fun H ls locs cells slots wt wf => lv_icmp_eq hx hb d t1 wt wf
    | ne => exact mAtW.br ⟨fun z => hgo _ _ _ _ t2 (h.1 z), fun z => hk _ _ _ (h.2 z)⟩ fun H ls locs cells slots wt wf => lv_icmp_ne hx hb d t1 wt (fun z => wf (fun q => q z))
    | lt => exact mAtW.br ⟨fun z => hgo _ _ _ _ t2 (h.1 z), fun z => hk _ _ _ (h.2 z)⟩ fun H ls locs cells slots wt wf => lv_icmp_lt hx hb d t1 wt wf
    | ge => exact mAtW.br ⟨fun z => hgo _ _ _ _ t2 (h.1 z), fun z => hk _ _ _ (h.2 z)⟩ fun H ls locs cells slots wt wf => lv_icmp_ge hx hb d t1 wt wf
    | gt => exact mAtW.br ⟨fun z => hgo _ _ _ _ t2 (h.1 z), fun z => hk _ _ _ (h.2 z)⟩ fun H ls locs cells slots wt wf => lv_icmp_gt hx hb d t1 wt wf
    | le => exact mAtW.br ⟨fun z => hgo _ _ _ _ t2 (h.1 z), fun z => hk _ _ _ (h.2 z)⟩ fun H ls locs cells slots wt wf => lv_icmp_le hx hb d t1 wt wf
  | pop =>
    obtain ⟨d, rfl, hz⟩ := mChk_el hc ⟨by nofun, by nofun⟩
    obtain ⟨x, r, rfl, h⟩ := m_I_el h
    exact (hk _ _ _ h).of fun H ls locs cells slots _ w => lv_pop hx hb d rfl w
  | getstatic ix => cases hcs
  | ldc ix => cases hcs
  | goto off =>
    obtain ⟨d, rfl, hz⟩ := mChk_el hc ⟨by nofun, by nofun⟩
    obtain ⟨t1, t2⟩ := mTgt_el hz
    exact (hgo _ _ _ _ t2 h).of fun H ls locs cells slots _ w => lv_goto hx hb d t1 w
  | arraylength =>
    obtain ⟨d, rfl, hz⟩ := mChk_el hc ⟨by nofun, by nofun⟩
    obtain ⟨a, r, rfl, ha, h⟩ := m_R_el (mS_al hcs h)
    have hz := mZ_al hcs hz
    simp only [Bool.or_eq_true, Bool.and_eq_true, Nat.blt_eq, decide_eq_true_eq] at hz
    refine (hk _ _ _ h).rd fun H ls locs cells slots hR w => ?_
    rcases hz with ⟨z1, z2⟩ | z1
    · exact W.alen (n := nI (mln M a)) hx hb (hR.arr ha (by omega) (by omega)) ((hKn.2.2.1 _ z2 z1).1 _ _) (by rw [arrV_size]; rfl) rfl rfl d w
    · rw [z1] at ha
      obtain ⟨ce, e1, e2, e3, e4, e5, e6⟩ := (hR.2.2.2 a (by rw [ha]; decide)).2.2.2.2 (by rw [ha]; decide)
      rw [ha] at e2
      exact W.alen (n := nI (mln M a)) hx hb e1 (hKn.2.2.2.2 ce e2 e3) (by rw [e5]; rfl) rfl rfl d w
  | iaload =>
    obtain ⟨d, rfl, hz⟩ := mChk_el hc ⟨by nofun, by nofun⟩
    obtain ⟨a, j, r, rfl, ha, hi, h⟩ := m_RI_el (mS_ia hcs h)
    have hz := mZ_ia hcs hz
    simp only [Bool.or_eq_true, decide_eq_true_eq] at hz
    refine (hk _ _ _ h).rd fun H ls locs cells slots hR w => ?_
    rcases hz with z1 | z1
    · rw [z1] at ha
      exact W.iald (v := .int (mi M a j.toNatClampNeg)) hx hb (hR.arr ha (by decide) (by decide)) ((hKn.2.2.1 1 (by decide) (by decide)).1 _ _) (fun q => by cases q) (m_sz1 hi) (m_rd1 hi) rfl rfl d w
    · rw [z1] at ha
      obtain ⟨ce, e1, e2, e3, e4, e5, e6⟩ := (hR.2.2.2 a (by rw [ha]; decide)).2.2.2.2 (by rw [ha]; decide)
      rw [ha] at e2
      exact W.iald (v := .int (mi M a j.toNatClampNeg)) hx hb e1 (hKn.2.2.2.2 ce e2 e3) e4 (by rw [e5]; exact hi) (e6 _ (Nat.not_le.mp fun q => hi (Or.inr q))) rfl rfl d w
  | caload =>
    obtain ⟨d, rfl, hz⟩ := mChk_el hc ⟨by nofun, by nofun⟩
    obtain ⟨a, j, r, rfl, ha, hi, h⟩ := m_RI_el h
    refine (hk _ _ _ h).rd fun H ls locs cells slots hR w => ?_
    exact W.cald (v := .int (mi M a j.toNatClampNeg)) hx hb (hR.arr ha (by decide) (by decide)) ((hKn.2.2.1 2 (by decide) (by decide)).1 _ _) (fun q => by cases q) (m_sz1 hi) (m_rd1 hi) rfl rfl d w
  | baload =>
    obtain ⟨d, rfl, hz⟩ := mChk_el hc ⟨by nofun, by nofun⟩
    obtain ⟨a, j, r, rfl, ha, hi, h⟩ := m_RI_el (mS_ba hcs h)
    have hz := mZ_ba hcs hz
    simp only [decide_eq_true_eq] at hz
    rw [hz] at ha
    refine (hk _ _ _ h).rd fun H ls locs cells slots hR w => ?_
    exact W.zald (v := .int (mi M a j.toNatClampNeg)) hx hb (hR.arr ha (by decide) (by decide)) ((hKn.2.2.1 3 (by decide) (by decide)).1 _ _) (fun q => by cases q) (m_sz1 hi) (m_rd1 hi) rfl rfl d w
  | laload =>
    obtain ⟨d, rfl, hz⟩ := mChk_el hc ⟨by nofun, by nofun⟩
    obtain ⟨a, j, r, rfl, ha, hi, h⟩ := m_RI_el h
    refine (hk _ _ _ h).rd fun H ls locs cells slots hR w => ?_
    exact W.lald (v := .long (mj M a j.toNatClampNeg)) hx hb (hR.arr ha (by decide) (by decide)) ((hKn.2.2.1 4 (by decide) (by decide)).1 _ _) (fun q => by cases q) (m_sz1 hi) (m_rd1 hi) rfl rfl d w
  | aaload =>
    obtain ⟨d, rfl, hz⟩ := mChk_el hc ⟨by nofun, by nofun⟩
    obtain ⟨a, j, r, rfl, ha, hi, hnz, h⟩ := m_RI_el (mS_aa hcs h)
    have hz := mZ_aa hcs hz
    simp only [decide_eq_true_eq] at hz
    rw [hz] at ha
    refine (hk _ _ _ h).rd fun H ls locs cells slots hR w => ?_
    refine W.aald (v := .ref (mr M a j.toNatClampNeg)) (ty := mTy 5) hx hb (hR.arr ha (by decide) (by decide)) ((hKn.2.2.1 5 (by decide) (by decide)).1 _ _) rfl (fun q => by cases q) (m_sz1 hi) ?_ rfl rfl d w
    rw [m_rd1 hi]
    simp only [mAV, mrf, if_neg hnz]
  | iastore =>
    obtain ⟨d, rfl, hz⟩ := mChk_el hc ⟨by nofun, by nofun⟩
    obtain ⟨x, r, rfl, h1⟩ := m_I_el h
    obtain ⟨a, j, r, rfl, ha, hi, h2⟩ := m_RI_el h1
    refine mAtW.put (a := a) (M' := msi M a j.toNatClampNeg x) (by rw [ha]; decide) (by rw [ha]; decide) rfl rfl rfl (fun b hb => mAg_i hb) (hk _ _ _ h2) fun H ls locs cells slots hR w => ?_
    refine W.iast hx hb (hR.arr ha (by decide) (by decide)) ((hKn.2.2.1 1 (by decide) (by decide)).1 _ _) (fun q => by cases q) (m_sz1 hi) rfl rfl d fun H1 e1 z oq => ?_
    refine w H1 _ ?_ z oq
    rw [ha]
    refine mCell_arr (by decide) ?_
    rw [e1]
    rw [mAV_i (by decide), arrV_store]; rfl
  | castore =>
    obtain ⟨d, rfl, hz⟩ := mChk_el hc ⟨by nofun, by nofun⟩
    obtain ⟨x, r, rfl, h1⟩ := m_I_el h
    obtain ⟨a, j, r, rfl, ha, hi, h2⟩ := m_RI_el h1
    refine mAtW.put (a := a) (M' := msi M a j.toNatClampNeg (vp_nar .char x)) (by rw [ha]; decide) (by rw [ha]; decide) rfl rfl rfl (fun b hb => mAg_i hb) (hk _ _ _ h2) fun H ls locs cells slots hR w => ?_
    refine W.cast hx hb (hR.arr ha (by decide) (by decide)) ((hKn.2.2.1 2 (by decide) (by decide)).1 _ _) (fun q => by cases q) (m_sz1 hi) rfl rfl d fun H1 e1 z oq => ?_
    refine w H1 _ ?_ z oq
    rw [ha]
    refine mCell_arr (by decide) ?_
    rw [e1]
    rw [mAV_i (by decide), arrV_store]; rfl
  | bastore =>
    obtain ⟨d, rfl, hz⟩ := mChk_el hc ⟨by nofun, by nofun⟩
    obtain ⟨x, r, rfl, h1⟩ := m_I_el h
    obtain ⟨a, j, r, rfl, ha, hi, h2⟩ := m_RI_el h1
    refine mAtW.put (a := a) (M' := msi M a j.toNatClampNeg (vp_nar .boolean x)) (by rw [ha]; decide) (by rw [ha]; decide) rfl rfl rfl (fun b hb => mAg_i hb) (hk _ _ _ h2) fun H ls locs cells slots hR w => ?_
    refine W.zast hx hb (hR.arr ha (by decide) (by decide)) ((hKn.2.2.1 3 (by decide) (by decide)).1 _ _) (fun q => by cases q) (m_sz1 hi) rfl rfl d fun H1 e1 z oq => ?_
    refine w H1 _ ?_ z oq
    rw [ha]
    refine mCell_arr (by decide) ?_
    rw [e1]
    rw [mAV_i (by decide), arrV_store]; rfl
  | lastore =>
    obtain ⟨d, rfl, hz⟩ := mChk_el hc ⟨by nofun, by nofun⟩
    obtain ⟨x, r, rfl, h1⟩ := m_J_el h
    obtain ⟨a, j, r, rfl, ha, hi, h2⟩ := m_RI_el h1
    refine mAtW.put (a := a) (M' := msj M a j.toNatClampNeg x) (by rw [ha]; decide) (by rw [ha]; decide) rfl rfl rfl (fun b hb => mAg_j hb) (hk _ _ _ h2) fun H ls locs cells slots hR w => ?_
    refine W.last hx hb (hR.arr ha (by decide) (by decide)) ((hKn.2.2.1 4 (by decide) (by decide)).1 _ _) (fun q => by cases q) (m_sz1 hi) rfl rfl d fun H1 e1 z oq => ?_
    refine w H1 _ ?_ z oq
    rw [ha]
    refine mCell_arr (by decide) ?_
    rw [e1]
    rw [mAV_j, arrV_store]; rfl
  | aastore =>
    obtain ⟨d, rfl, hz⟩ := mChk_el hc ⟨by nofun, by nofun⟩
    obtain ⟨x, r, rfl, h1⟩ := m_R_el h
    obtain ⟨a, j, r, rfl, ha, hi, hx1, h2⟩ := m_RI_el h1
    refine mAtW.put (a := a) (M' := msr M a j.toNatClampNeg x) (by rw [ha]; decide) (by rw [ha]; decide) rfl rfl rfl (fun b hb => mAg_r hb) (hk _ _ _ h2) fun H ls locs cells slots hR w => ?_
    have hnz := hR.nz hx1 (by decide) (by decide)
    obtain ⟨cellV, g1, g2, g3, -⟩ := hR.obj hx1 (by decide) (by decide)
    have hcls := (hKn.2.1 101 (by decide) (by decide)).2
    obtain ⟨kA, comp, k1, k2, k3, -⟩ : va_RA s (dC 5) (.object "TinyShell$Text") := (hKn.2.2.1 5 (by decide) (by decide)).2
    have hcomp : comp = dC 101 := Option.some.inj (k3.symm.trans hcls.1)
    subst hcomp
    obtain ⟨kC, hkC, -⟩ := hcls.2
    refine W.aast hx hb (hR.arr ha (by decide) (by decide)) (fun q h => by cases h) (fun h => by cases h) k1 k2 rfl hkC ⟨fun q => hi (Or.inl q), by rw [arrV_size]; exact Nat.not_le.mp fun q => hi (Or.inr q)⟩ g1 (fun q h => by rw [g3] at h; cases h) (by rw [g2]; exact hkC) (by rw [g2]; exact va_assign hcls) rfl rfl d fun H1 e1 z oq => ?_
    refine w H1 _ ?_ z oq
    rw [ha]
    refine mCell_arr (by decide) ?_
    rw [e1, mAV_r hnz, arrV_store]; rfl
  | getfield ix =>
    obtain ⟨d, rfl, hz⟩ := mChk_el hc ⟨by nofun, by nofun⟩
    dsimp only [mStep] at h
    dsimp only [mChk2] at hz
    split at h
    · next kd f =>
      change (mFld y ix kd f && mIsR (mY kd f)) = true at hz
      rw [Bool.and_eq_true] at hz
      obtain ⟨a, r, rfl, ha, hnz, h⟩ := m_R_el h
      exact (hk _ _ _ h).rd fun H ls locs cells slots hR w => m_getf CX hz.1 hR ha (by simp only [mOV, hz.2, if_true, mrf, if_neg hnz]) d w
    · next kd f t ht =>
      split at hz
      · next he => cases he; exact (ht rfl).elim
      · next he =>
        cases he
        rw [Bool.and_eq_true, Bool.not_eq_true'] at hz
        obtain ⟨a, r, rfl, ha, h⟩ := m_R_el h
        exact (hk _ _ _ h).rd fun H ls locs cells slots hR w => m_getf CX hz.1 hR ha (by simp only [mOV, hz.2]; rfl) d w
      · next he => cases he
      · next he he2 => first | exact absurd rfl (he _ _ _) | exact (he _ _ _ rfl).elim | exact (he2 _ _ _ rfl).elim
    · cases hcs
    · exact h.elim
  | putfield ix =>
    obtain ⟨d, rfl, hz⟩ := mChk_el hc ⟨by nofun, by nofun⟩
    dsimp only [mStep] at h
    dsimp only [mChk2] at hz
    split at h
    · next kd f =>
      change (mFld y ix kd f && mIsR (mY kd f) && (!(mT kd f).2.2.2 || decide ((mYn y).name = "<init>") && decide (mOwn y = mNm kd))) = true at hz
      rw [Bool.and_eq_true, Bool.and_eq_true] at hz
      obtain ⟨⟨z1, z2⟩, z3⟩ := hz
      obtain ⟨x, r, rfl, h1⟩ := m_R_el h
      obtain ⟨a, r, rfl, ha, hnz, h2⟩ := m_R_el h1
      obtain ⟨b1, b2, -⟩ := mFld_el z1
      refine mAtW.put (a := a) (M' := msr M a f x) (by rw [ha]; omega) (by rw [ha]; omega) rfl rfl rfl (fun b hb => mAg_r hb) (hk _ _ _ h2) fun H ls locs cells slots hR w => ?_
      refine m_putf CX z1 z3 hR ha (by cases hy : mY kd f <;> rw [hy] at z2 <;> first | rfl | cases z2) (by cases hy : mY kd f <;> rw [hy] at z2 <;> first | rfl | cases z2) d fun H1 i ho z oq => ?_
      refine w H1 i ?_ z oq
      rw [ha]
      exact mCell_obj b1 (by omega) (by rw [mOV_r z2 hnz]; exact ho)
    · next kd f =>
      change (mFld y ix kd f && decide (mY kd f = .boolean) && (!(mT kd f).2.2.2 || decide ((mYn y).name = "<init>") && decide (mOwn y = mNm kd))) = true at hz
      rw [Bool.and_eq_true, Bool.and_eq_true, decide_eq_true_eq] at hz
      obtain ⟨⟨z1, z2⟩, z3⟩ := hz
      obtain ⟨x, r, rfl, h1⟩ := m_I_el h
      obtain ⟨a, r, rfl, ha, hbo, h2⟩ := m_R_el h1
      obtain ⟨b1, b2, -⟩ := mFld_el z1
      refine mAtW.put (a := a) (M' := msi M a f x) (by rw [ha]; omega) (by rw [ha]; omega) rfl rfl rfl (fun b hb => mAg_i hb) (hk _ _ _ h2) fun H ls locs cells slots hR w => ?_
      refine m_putf CX z1 z3 hR ha (by rw [z2]; rcases hbo with rfl | rfl <;> rfl) (by rw [z2]; rcases hbo with rfl | rfl <;> rfl) d fun H1 i ho z oq => ?_
      refine w H1 i ?_ z oq
      rw [ha]
      exact mCell_obj b1 (by omega) (by rw [mOV_i (by rw [z2]; rfl)]; exact ho)
    · next kd f =>
      change (mFld y ix kd f && decide (mY kd f = .int) && (!(mT kd f).2.2.2 || decide ((mYn y).name = "<init>") && decide (mOwn y = mNm kd))) = true at hz
      rw [Bool.and_eq_true, Bool.and_eq_true, decide_eq_true_eq] at hz
      obtain ⟨⟨z1, z2⟩, z3⟩ := hz
      obtain ⟨x, r, rfl, h1⟩ := m_I_el h
      obtain ⟨a, r, rfl, ha, h2⟩ := m_R_el h1
      obtain ⟨b1, b2, -⟩ := mFld_el z1
      refine mAtW.put (a := a) (M' := msi M a f x) (by rw [ha]; omega) (by rw [ha]; omega) rfl rfl rfl (fun b hb => mAg_i hb) (hk _ _ _ h2) fun H ls locs cells slots hR w => ?_
      refine m_putf CX z1 z3 hR ha (by rw [z2]; rfl) (by rw [z2]; rfl) d fun H1 i ho z oq => ?_
      refine w H1 i ?_ z oq
      rw [ha]
      exact mCell_obj b1 (by omega) (by rw [mOV_i (by rw [z2]; rfl)]; exact ho)
    · exact h.elim
  | newarray t =>
    obtain ⟨d, rfl, hz⟩ := mChk_el hc ⟨by nofun, by nofun⟩
    obtain ⟨x, r, rfl, h0, h1, hr, h⟩ := m_I_el h
    simp only [mChk2, Bool.and_eq_true, decide_eq_true_eq, Nat.blt_eq] at hz
    obtain ⟨⟨⟨z1, z2⟩, z3⟩, z4⟩ := hz
    rw [m_room, hE] at hr
    have h' : k L (.ref (msz M) :: r) (mnw M (ps.getD 0 0) x.toNatClampNeg x.toNatClampNeg) := h
    refine mAtW.new (kd := ps.getD 0 0) (by omega) (by omega) hr (hk _ _ _ h') fun H ls locs cells slots hsz hc1 hc2 w => ?_
    refine va_newaK hx hb (hKn.word z1 args) rfl d rfl h0 rfl ?_ hc1 hc2 hsz fun H1 cA e1 s1 oq hA hcl => ?_
    · cases t <;> simp [newarray.typeOf, componentBytes] <;> omega
    · have hcA : cA = dC (ps.getD 0 0) := by
        have h9 := (hKn.2.2.1 _ z4 (by omega)).2
        rw [← z2] at h9
        have h10 : s.vm.findClass ("[" ++ (newarray.typeOf t).toString) = some (dC (ps.getD 0 0)) := by cases t <;> exact h9
        exact Option.some.inj (hcl.symm.trans h10)
      refine w H1 (mCell_arr (by omega) ?_) (by rw [s1, hsz]) (fun q hq => oq q (by rw [← hsz]; exact hq))
      rw [e1, hcA]
      have e3 : mln (mnw M (ps.getD 0 0) x.toNatClampNeg x.toNatClampNeg) (msz M) = x.toNatClampNeg := by simp [mln, mnw, mup]
      rw [e3]
      congr 2
      funext q
      have z5 : ps.getD 0 0 = 1 ∨ ps.getD 0 0 = 2 ∨ ps.getD 0 0 = 3 ∨ ps.getD 0 0 = 4 := by omega
      rw [z2]
      rcases z5 with z5 | z5 | z5 | z5 <;> rw [z5] <;> simp [mAV, mi, mj, mnw, mup, mTy, defaultValue]
  | anewarray ix =>
    obtain ⟨d, rfl, hz⟩ := mChk_el hc ⟨by nofun, by nofun⟩
    obtain ⟨x, r, rfl, h0, h1, hr, h⟩ := m_I_el h
    have hz : mW1 (.classLink (mOwn y) ix "TinyShell$Text") = true := hz
    rw [m_room, hE] at hr
    refine mAtW.new (by omega) (by omega) hr (hk _ _ _ h) fun H ls locs cells slots hsz hc1 hc2 w => ?_
    refine W.anew hx hb hown (hKn.word hz args) (va_AO.use hKn.2.2.2.1.2.2) rfl d rfl h0 (by omega) hc1 hc2 fun cA kA comp f1 f2 f3 f4 => ?_
    have hcA : cA = dC 5 := by
      obtain ⟨_, _, _, _, _, k4⟩ : va_RA s (dC 5) (.object "TinyShell$Text") := (hKn.2.2.1 5 (by decide) (by decide)).2
      exact Option.some.inj (f1.symm.trans k4)
    rw [hsz]
    refine w _ (mCell_arr (by decide) ?_) (by rw [Array.size_push]) (fun q hq => by rw [Array.getElem?_push, if_neg (Nat.ne_of_lt hq)])
    rw [← hsz, Array.getElem?_push_size, arrV_new, hcA]
    have e3 : mln (mnw M 5 x.toNatClampNeg x.toNatClampNeg) (msz M) = x.toNatClampNeg := by simp [mln, mnw, mup]
    rw [hsz, e3]
    congr 2
    funext q
    simp [mAV, mr, mnw, mup, mrf]
  | _ => first | exact (h : False).elim | cases he
end STP
