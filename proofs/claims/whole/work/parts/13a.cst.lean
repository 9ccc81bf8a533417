/-! INSTRUCTIONS ON CONSTANTS -/
section CST
variable {dC : Nat → ClassId} {dI : Nat → Nat → Nat} {dS : Nat → Nat} {B : Nat} {H0 : Heap}
variable {p : Program} {l : Launch} {e : Env} {R : Room} {s : State} {m : MethodId} {args : Array Value} {below : List Frame} {meth : Method} {c : Code} {pc : Nat} {L : mL} {st : List Value} {M : mM}
theorem k_low {H : Heap} (hR : mRel dC dI B H0 M H) {a : Nat} {ce : Cell} (h : H0[a]? = some ce) (ha : ¬ kA B a) : H[a]? = some ce := by
  rw [hR.2.2.1 a (Nat.not_le.mp ha)]; exact h
theorem k_len {H : Heap} {ty : FieldType} {t N : Nat} {f : Nat → Value} (hR : mRel dC dI B H0 M H) (h : va_T ty t N f (kA B) s H0) : ∃ cell : Cell, H[t]? = some cell ∧ s.isArrayOf cell ty ∧ cell.vm ≠ .unknown ∧ cell.slots.size.toInt32 = nI N ∧ ∀ j : Int32, vp_in j N → ¬ (j < 0 ∨ cell.slots.size ≤ j.toNatClampNeg) ∧ cell.slots[j.toNatClampNeg]? = some (f j.toNatClampNeg) := by
  obtain ⟨cell, h1, h2, h3, h4, h5, h6, h7⟩ := h
  refine ⟨cell, k_low hR h1 h7, h2, h3, h5, fun j hj => ?_⟩
  have hlt : j.toNatClampNeg < N := Nat.not_le.mp fun q => hj (Or.inr q)
  refine ⟨fun q => ?_, h6 _ hlt⟩
  rcases q with q | q
  · exact hj (Or.inl q)
  · omega
theorem mS_gf {E : mE} {go : mG} {call : mCl} {Qm : mQ} {k : mK} {ix n a f z b : Nat} (h : mStep E go call Qm (.getfield ix, n, [a, f, z, b]) k L st M) : m_R st fun a r => ∃ i, i < kN f ∧ a = E.2 (kB f + i) ∧ k L (kW E.2 f i :: r) M := by
  match z, h with
  | 0, h => exact h
  | 1, h => exact h
  | _ + 2, h => exact h
theorem mZ_gf {y pc ix a f z b : Nat} (h : mChk2 y pc (.getfield ix) [a, f, z, b] = true) : (Nat.blt f 6 && mW1 (.fieldLink (mOwn y) ix (kH f).1 (kH f).2.1 (kH f).2.2)) = true := by
  match z, h with
  | 0, h => exact h
  | 1, h => exact h
  | _ + 2, h => exact h
set_option maxHeartbeats 4000000 in
theorem mStep_cst {y : Nat} (CX : mCtx2 dC dI dS B H0 y p e R s m meth c) {E : mE} (hE2 : E.2 = dS) {i : Instr} {len : Nat} {ps : List Nat} (hc : mChk y pc (i, len, ps) = true) (hcs : mCst i ps = true) {go : mG} {call : mCl} {Qm : mQ} {k : mK} (h : mStep E go call Qm (i, len, ps) k L st M)
    (hk : ∀ L' st' M', k L' st' M' → mAtW dC dI B H0 p l e R s m args below meth c (mEnd dC dI B H0 R s below Qm) (mNL y) (pc + len) L' st' M')
    (hcall : ∀ y' as M' K, y' < mNum → 0 < mNb y' → call y' as M' K → (m_arg as).length ≤ mNL y' ∧ mIH dC dI dS B H0 p l e y' as M' K) :
    mAtW dC dI B H0 p l e R s m args below meth c (mEnd dC dI B H0 R s below Qm) (mNL y) pc L st M := by
  have CX0 := CX.1
  obtain ⟨hx, hb, hml, hrt, hlocks, hown, hini, hKn, hfr, hlo, htr⟩ := CX0
  have hex0 := CX.2.2.2.2.1
  have hexf : 0 < y → c.exceptionTable.isEmpty = true := fun q => by unfold mExc at hex0; rwa [if_neg (by omega)] at hex0
  obtain ⟨K1, K2, K3, K4, K5⟩ := CX.2.1.2.2.2.2
  have hback : ∀ (rest : List Value) (T' : State) (locs' : List Loc) (cells' slots' : Nat) (ls : Array Slot) (v : Option Value) (M' : mM), len = 3 → mLR L ls (mNL y) → m_back Qm k L rest (.inl v) M' → Stand p l e R s m args below meth c T' locs' cells' slots' → mRel dC dI B H0 M' T'.heap → (∀ q ∈ locs', B ≤ q.base) → cells' + mCC ≤ R.cells + (msz M' - B) → slots' + mCS ≤ R.slots + mns M' → ∃ t, Steps p.tables e below (T'.setTop (F0 m (pc + 3) ls (v.toList ++ rest))) t ∧ mEnd dC dI B H0 R s below Qm t := by
    intro rest T' locs' cells' slots' ls v M' hl r2 hm X' r1 r3 b1 b2
    subst hl
    cases v with
    | none => exact hk _ _ _ hm T'.heap ls locs' cells' slots' r1 r2 r3 b1 b2 T' rfl X'
    | some v => exact hk _ _ _ hm T'.heap ls locs' cells' slots' r1 r2 r3 b1 b2 T' rfl X'
  cases i with
  | getstatic ix =>
    obtain ⟨d, rfl, hz⟩ := mChk_el hc ⟨by nofun, by nofun⟩
    simp only [mChk2, Bool.and_eq_true] at hz
    have h' : k L (kV E.2 (ps.getD 0 0) :: st) M := h
    rw [hE2] at h'
    refine (hk _ _ _ h').rd fun H ls locs cells slots hR w => ?_
    obtain ⟨cf, kf, fi, f, a, cell, g1, g2, g3, g4, g5, g6, g7, g8⟩ := K1 _ (List.contains_iff_mem.mp hz.2)
    exact W.gets hx hb hown (hKn.word hz.1 args) g1 g2 g3 g4 (k_low hR g5 g8) (fun q => by rw [q] at g6; cases g6) g7 rfl d w
  | ldc ix =>
    obtain ⟨d, rfl, hz⟩ := mChk_el hc ⟨by nofun, by nofun⟩
    simp only [mChk2] at hz
    obtain ⟨r, hr, hq⟩ := List.any_eq_true.mp hz
    simp only [Bool.and_eq_true, decide_eq_true_eq, Nat.beq_eq] at hq
    obtain ⟨⟨q1, q2⟩, q3⟩ := hq
    have h' : k L (.ref (E.2 (ps.getD 0 0)) :: st) M := h
    rw [hE2, ← q3] at h'
    refine (hk _ _ _ h').rd fun H ls locs cells slots hR w => ?_
    have hZ := K5 r hr
    rw [q1, q2] at hZ
    exact va_ldcS hx hb hown hZ d w
  | arraylength =>
    obtain ⟨d, rfl, hz⟩ := mChk_el hc ⟨by nofun, by nofun⟩
    match ps, hcs, hz, h with
    | [_, t], _, hz, h =>
      have hz : Nat.blt t 3 = true := hz
      rw [Nat.blt_eq] at hz
      obtain ⟨a, r, rfl, i, hi, ha, h2⟩ := m_R_el h
      rw [hE2] at ha
      subst ha
      refine (hk _ _ _ h2).rd fun H ls locs cells slots hR w => ?_
      obtain ⟨cell, g1, g2, g3, g4, g5⟩ := k_len hR (K3 t hz i hi)
      exact W.alen (n := nI (kQ t i)) hx hb g1 g2 g4 rfl rfl d w
    | [], hcs, _, _ => cases hcs
    | [_], hcs, _, _ => cases hcs
    | _ :: _ :: _ :: _, hcs, _, _ => cases hcs
  | iaload =>
    obtain ⟨d, rfl, hz⟩ := mChk_el hc ⟨by nofun, by nofun⟩
    match ps, hcs, hz, h with
    | [_, t], _, hz, h =>
      have hz : decide (t = 2) = true := hz
      rw [decide_eq_true_eq] at hz
      subst hz
      obtain ⟨a, j, r, rfl, i, hi, ha, hv, h2⟩ := m_RI_el h
      rw [hE2] at ha h2
      subst ha
      refine (hk _ _ _ h2).rd fun H ls locs cells slots hR w => ?_
      obtain ⟨cell, g1, g2, g3, g4, g5⟩ := k_len hR (K3 2 (by decide) i hi)
      exact W.iald hx hb g1 g2 g3 (g5 j hv).1 (g5 j hv).2 rfl rfl d w
    | [], hcs, _, _ => cases hcs
    | [_], hcs, _, _ => cases hcs
    | _ :: _ :: _ :: _, hcs, _, _ => cases hcs
  | baload =>
    obtain ⟨d, rfl, hz⟩ := mChk_el hc ⟨by nofun, by nofun⟩
    match ps, hcs, hz, h with
    | [_, t], _, hz, h =>
      have hz : decide (t = 1) = true := hz
      rw [decide_eq_true_eq] at hz
      subst hz
      obtain ⟨a, j, r, rfl, i, hi, ha, hv, h2⟩ := m_RI_el h
      rw [hE2] at ha h2
      subst ha
      refine (hk _ _ _ h2).rd fun H ls locs cells slots hR w => ?_
      obtain ⟨cell, g1, g2, g3, g4, g5⟩ := k_len hR (K3 1 (by decide) i hi)
      exact W.bald hx hb g1 g2 g3 (g5 j hv).1 (g5 j hv).2 rfl rfl d w
    | [], hcs, _, _ => cases hcs
    | [_], hcs, _, _ => cases hcs
    | _ :: _ :: _ :: _, hcs, _, _ => cases hcs
  | aaload =>
    obtain ⟨d, rfl, hz⟩ := mChk_el hc ⟨by nofun, by nofun⟩
    match ps, hcs, hz, h with
    | [_, t], _, hz, h =>
      have hz : decide (t = 0) = true := hz
      rw [decide_eq_true_eq] at hz
      subst hz
      obtain ⟨a, j, r, rfl, i, hi, ha, hv, h2⟩ := m_RI_el h
      rw [hE2] at ha h2
      subst ha
      refine (hk _ _ _ h2).rd fun H ls locs cells slots hR w => ?_
      obtain ⟨cell, g1, g2, g3, g4, g5⟩ := k_len hR (K3 0 (by decide) i hi)
      exact W.aald (ty := kTy 0) hx hb g1 g2 rfl g3 (g5 j hv).1 (g5 j hv).2 rfl rfl d w
    | [], hcs, _, _ => cases hcs
    | [_], hcs, _, _ => cases hcs
    | _ :: _ :: _ :: _, hcs, _, _ => cases hcs
  | getfield ix =>
    obtain ⟨d, rfl, hz⟩ := mChk_el hc ⟨by nofun, by nofun⟩
    match ps, hcs, hz, h with
    | [_, f, _, _], _, hz, h =>
      have hz := mZ_gf hz
      rw [Bool.and_eq_true, Nat.blt_eq] at hz
      obtain ⟨a, r, rfl, i, hi, ha, h2⟩ := m_R_el (mS_gf h)
      rw [hE2] at ha h2
      subst ha
      refine (hk _ _ _ h2).rd fun H ls locs cells slots hR w => ?_
      obtain ⟨cf, kk, fi, fd, cell, g1, g2, g3, g4, g5, g6⟩ := K2 f hz.1 i hi
      exact W.getf hx hb hown (hKn.word hz.2 args) g1 g2 (k_low hR g3 g6) g4 g5 rfl rfl d w
    | [], hcs, _, _ => cases hcs
    | [_], hcs, _, _ => cases hcs
    | [_, _], hcs, _, _ => cases hcs
    | [_, _, _], hcs, _, _ => cases hcs
    | _ :: _ :: _ :: _ :: _ :: _, hcs, _, _ => cases hcs
  | invokevirtual ix =>
    obtain ⟨d, rfl, hz⟩ := mChk_el hc ⟨by nofun, by nofun⟩
    match ps, hcs, hz, h with
    | [y', n, kd, zz], _, hz, h =>
      have h3 : m_recvK E st n kd (m_call call Qm y' n k L st M) := h
      unfold m_recvK at h3
      split at h3
      next b asL has =>
        obtain ⟨i, hi, hbE, h4⟩ := h3
        rw [hE2] at hbE
        obtain ⟨hcat, hlt, h5⟩ := m_callok h4
        rw [has] at h5
        have hln2 : (.ref b :: asL : List Value).length = n := by rw [← has, List.length_reverse, List.length_take]; omega
        have hst : st = asL.reverse ++ .ref b :: st.drop n := by
          have := m_take_drop (st := st) (n := n)
          rw [has] at this
          simpa using this
        match zz, hz with
        | 0, hz =>
          have hz : (mCal y ix y' n 1 && mW1 (.instanceMethod (mYn y')) && mW1 (.selects (kC kd) (mYn y') (mYn y')) && (Nat.beq kd 212 || Nat.beq kd 213) && Nat.blt 0 y) = true := hz
          simp only [Bool.and_eq_true, Bool.or_eq_true, Nat.beq_eq, Nat.blt_eq] at hz
          obtain ⟨⟨⟨⟨z1, z2⟩, z3⟩, z4⟩, zy⟩ := hz
          have hex := hexf zy
          have hP := mCal_el z1
          obtain ⟨hln, ih⟩ := hcall y' _ _ _ hP.1 hP.2.2.1 h5
          intro H ls locs cells slots r1 r2 r3 r4 r5 T hT X
          obtain ⟨mk, methM, hnamed, hmethM, hstM, habM⟩ := Cond.instanceMethod_spec (hKn.word z2 args)
          obtain ⟨mk', methM', cM, hnamed', hmethM', -, -, -, -, -, -, hsigM⟩ := mCode_el hKn hP.2.2.2.2.1 args
          cases hnamed.symm.trans hnamed'
          cases hmethM.symm.trans hmethM'
          obtain ⟨cell, o1, o2, hcls, o4⟩ := K4 kd z4 i hi
          rw [← hbE] at o1 o4
          have q1 := k_low r1 o1 o4
          obtain ⟨c2, rr2, m2, u1, u2, u3, u4, kP, hkP, hkPi⟩ := Cond.selects_spec (hKn.word z3 args)
          cases hcls.symm.trans u1
          cases (State.methodFound?_of_named hnamed hP.2.2.2.2.2.2.1).symm.trans u2
          cases hnamed.symm.trans u3
          have hselP : selectMethod e.platform s.vm cell.cls mk = .method mk := by rw [Launch.admits_selectMethod X.admits]; exact u4
          obtain ⟨vm₁, X₁, hstep₁⟩ := X.invokevirtual hx hown (hKn.word hP.2.2.2.1 args) hnamed hmethM hstM hkP hkPi hP.2.2.2.2.2.2.1 (a := b) (cell := cell) (by rw [hT]; exact q1) (fun z hz' => by rw [hz'] at o2; cases o2) hselP hmethM habM hkP hkPi (g := F0 m pc ls st) rfl (argsL := asL) (rest := st.drop n) (by rw [hP.2.2.2.2.2.2.2.1 _ hsigM]; simp at hln2; omega) hst (by rw [hb]; exact d)
          obtain ⟨t, g1, g2⟩ := m_enter (Qf := mEnd dC dI B H0 R s below Qm) (ig := .invokevirtual ix) (as := .ref b :: asL) (rest := st.drop n) CX hP X₁ hT r1 r2 r3 r4 r5 hnamed d hcat hln ih (fun v M' hK' T' locs' cells' slots' X' q1 q3 b1 b2 => hback _ T' locs' cells' slots' ls v M' rfl r2 hK' X' q1 q3 b1 b2) (fun a M' hK' T' locs' cells' slots' X' q1 q3 b1 b2 => m_thr_out hlocks hex X' q1 q3 b1 b2 hK')
          exact ⟨t, hstep₁ t g1, g2⟩
        | zz + 1, hz =>
          have hz : (mCalU y y' n 1 && mW1 (.instanceMethod (mYn y')) && mW1 (.methodLink (mOwn y) ix ⟨kC kd, (mYn y').name, (mYn y').desc⟩) && mW1 (.sameMethod (kC kd) (mYn y').cls (mYn y').name (mYn y').desc) && mW1 (.selects (kC kd) ⟨kC kd, (mYn y').name, (mYn y').desc⟩ (mYn y')) && (Nat.beq kd 212 || Nat.beq kd 213) && Nat.blt 0 y) = true := hz
          simp only [Bool.and_eq_true, Bool.or_eq_true, Nat.beq_eq, Nat.blt_eq] at hz
          obtain ⟨⟨⟨⟨⟨⟨z1, z2⟩, zl⟩, zs⟩, z3⟩, z4⟩, zy⟩ := hz
          have hex := hexf zy
          have hP := mCalU_el z1
          obtain ⟨hln, ih⟩ := hcall y' _ _ _ hP.1 hP.2.2.1 h5
          intro H ls locs cells slots r1 r2 r3 r4 r5 T hT X
          obtain ⟨mk, methM, hnamed, hmethM, hstM, habM⟩ := Cond.instanceMethod_spec (hKn.word z2 args)
          obtain ⟨mk', methM', cM, hnamed', hmethM', -, -, -, -, -, -, hsigM⟩ := mCode_el hKn hP.2.2.2.1 args
          cases hnamed.symm.trans hnamed'
          cases hmethM.symm.trans hmethM'
          obtain ⟨cell, o1, o2, hcls, o4⟩ := K4 kd z4 i hi
          rw [← hbE] at o1 o4
          have q1 := k_low r1 o1 o4
          have hsame := hKn.word zs args
          obtain ⟨cn, ck, rr1, hcn, hck, hni, hf, hn1⟩ := Cond.sameMethod_found hsame
          cases hnamed.symm.trans hn1
          obtain ⟨c2, rr2, m2, u1, u2, u3, u4, kP, hkP, hkPi⟩ := Cond.selects_spec (hKn.word z3 args)
          cases hcls.symm.trans u1
          cases hf.symm.trans u2
          cases hnamed.symm.trans u3
          have hselP : selectMethod e.platform s.vm cell.cls mk = .method mk := by rw [Launch.admits_selectMethod X.admits]; exact u4
          obtain ⟨vm₁, X₁, hstep₁⟩ := X.invokevirtualUp hx hown (hKn.word zl args) hsame hP.2.2.2.2.2.1 hnamed hmethM hstM (a := b) (cell := cell) (by rw [hT]; exact q1) (fun z hz' => by rw [hz'] at o2; cases o2) hselP hmethM habM hkP hkPi (g := F0 m pc ls st) rfl (argsL := asL) (rest := st.drop n) (by rw [hP.2.2.2.2.2.2.1 _ hsigM]; simp at hln2; omega) hst (by rw [hb]; exact d)
          obtain ⟨t, g1, g2⟩ := m_enterQ (Qf := mEnd dC dI B H0 R s below Qm) (ig := .invokevirtual ix) (as := .ref b :: asL) (rest := st.drop n) CX hP X₁ hT r1 r2 r3 r4 r5 hnamed d hcat hln ih (fun v M' hK' T' locs' cells' slots' X' q1 q3 b1 b2 => hback _ T' locs' cells' slots' ls v M' rfl r2 hK' X' q1 q3 b1 b2) (fun a M' hK' T' locs' cells' slots' X' q1 q3 b1 b2 => m_thr_out hlocks hex X' q1 q3 b1 b2 hK')
          exact ⟨t, hstep₁ t g1, g2⟩
      next => exact h3.elim
    | [], hcs, _, _ => cases hcs
    | [_], hcs, _, _ => cases hcs
    | [_, _], hcs, _, _ => cases hcs
    | [_, _, _], hcs, _, _ => cases hcs
    | _ :: _ :: _ :: _ :: _ :: _, hcs, _, _ => cases hcs
  | _ => cases hcs
end CST
