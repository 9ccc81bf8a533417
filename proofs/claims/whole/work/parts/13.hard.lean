/-! ENDS, NEW OBJECTS AND CALLS -/
section HARD
variable {dC : Nat → ClassId} {dI : Nat → Nat → Nat} {dS : Nat → Nat} {B : Nat} {H0 : Heap}
variable {p : Program} {l : Launch} {e : Env} {R : Room} {s : State} {m : MethodId} {args : Array Value} {below : List Frame} {meth : Method} {c : Code} {pc : Nat} {L : mL} {st : List Value} {M : mM}
theorem m_take_drop {st : List Value} {n : Nat} : st = (st.take n).reverse.reverse ++ st.drop n := by rw [List.reverse_reverse, List.take_append_drop]
theorem m_dfl {M : mM} {kd n f : Nat} (h : mDfl (mY kd f) = true) : defaultValue (mY kd f) = mOV (mnw M kd 0 n) (msz M) kd f := by
  have e1 : mr (mnw M kd 0 n) (msz M) f = 0 := by simp [mr, mnw, mup]
  have e2 : mi (mnw M kd 0 n) (msz M) f = 0 := by simp [mi, mnw, mup]
  simp only [mOV, e1, e2]
  cases hy : mY kd f <;> rw [hy] at h <;> first | (cases h; done) | rfl
theorem m_callok {call : mCl} {Qm : mQ} {y n : Nat} {k : mK} (h : m_call call Qm y n k L st M) : m_cat (st.drop n) ≤ 8 ∧ n ≤ st.length ∧ call y (st.take n).reverse M (m_back Qm k L (st.drop n)) := by
  unfold m_call at h
  split at h
  next q =>
    rw [Bool.and_eq_true, Nat.ble_eq, Nat.ble_eq] at q
    exact ⟨q.1, q.2, h⟩
  next => exact h.elim
theorem m_callokC {go : mG} {call : mCl} {y n h0 h1 : Nat} {k : mK} (h : m_callC go call y n h0 h1 k L st M) : m_cat (st.drop n) ≤ 8 ∧ n ≤ st.length ∧ call y (st.take n).reverse M (m_catch go k L (st.drop n) h0 h1) := by
  unfold m_callC at h
  split at h
  next q =>
    rw [Bool.and_eq_true, Nat.ble_eq, Nat.ble_eq] at q
    exact ⟨q.1, q.2, h⟩
  next => exact h.elim
set_option maxHeartbeats 4000000 in
theorem mStep_hard {y : Nat} (CX : mCtx2 dC dI dS B H0 y p e R s m meth c) {E : mE} (hE : E.1 = B) {i : Instr} {len : Nat} {ps : List Nat} (hc : mChk y pc (i, len, ps) = true) (he : mEasy i = false) (hcs : mCst i ps = false) {go : mG} {call : mCl} {Qm : mQ} {k : mK} (h : mStep E go call Qm (i, len, ps) k L st M)
    (hk : ∀ L' st' M', k L' st' M' → mAtW dC dI B H0 p l e R s m args below meth c (mEnd dC dI B H0 R s below Qm) (mNL y) (pc + len) L' st' M')
    (hgo : ∀ b L' st' M', b < mNb y → go b L' st' M' → mAtW dC dI B H0 p l e R s m args below meth c (mEnd dC dI B H0 R s below Qm) (mNL y) (mPc y b) L' st' M')
    (hcall : ∀ y' as M' K, y' < mNum → 0 < mNb y' → call y' as M' K → (m_arg as).length ≤ mNL y' ∧ mIH dC dI dS B H0 p l e y' as M' K) :
    mAtW dC dI B H0 p l e R s m args below meth c (mEnd dC dI B H0 R s below Qm) (mNL y) pc L st M := by
  have CX0 := CX.1
  obtain ⟨hx, hb, hml, hrt, hlocks, hown, hini, hKn, hfr, hlo, htr⟩ := CX0
  have hex0 := CX.2.2.2.2.1
  have hexf : 0 < y → c.exceptionTable.isEmpty = true := fun q => by unfold mExc at hex0; rwa [if_neg (by omega)] at hex0
  have hback : ∀ (rest : List Value) (T' : State) (locs' : List Loc) (cells' slots' : Nat) (ls : Array Slot) (v : Option Value) (M' : mM), len = 3 → mLR L ls (mNL y) → m_back Qm k L rest (.inl v) M' → Stand p l e R s m args below meth c T' locs' cells' slots' → mRel dC dI B H0 M' T'.heap → (∀ q ∈ locs', B ≤ q.base) → cells' + mCC ≤ R.cells + (msz M' - B) → slots' + mCS ≤ R.slots + mns M' → ∃ t, Steps p.tables e below (T'.setTop (F0 m (pc + 3) ls (v.toList ++ rest))) t ∧ mEnd dC dI B H0 R s below Qm t := by
    intro rest T' locs' cells' slots' ls v M' hl r2 hm X' r1 r3 b1 b2
    subst hl
    cases v with
    | none => exact hk _ _ _ hm T'.heap ls locs' cells' slots' r1 r2 r3 b1 b2 T' rfl X'
    | some v => exact hk _ _ _ hm T'.heap ls locs' cells' slots' r1 r2 r3 b1 b2 T' rfl X'
  cases i with
  | ireturn =>
    obtain ⟨d, rfl, hz⟩ := mChk_el hc ⟨by nofun, by nofun⟩
    dsimp only [mStep] at h
    split at h
    · next x =>
      have hz' : mRt y = some .int := of_decide_eq_true hz
      exact mAtW.ret h fun H ls locs cells slots hl => W.zret hx hb (by rw [hrt, hz']) rfl (fun t e1 _ => ⟨rfl, e1⟩) hl d hlocks
    · next x =>
      have hz' : mRt y = some .boolean := of_decide_eq_true hz
      exact mAtW.ret h.2 fun H ls locs cells slots hl => W.zret hx hb (by rw [hrt, hz']) (by rcases h.1 with rfl | rfl <;> rfl) (fun t e1 _ => ⟨rfl, e1⟩) hl d hlocks
    · next x =>
      have hz' : mRt y = some .char := of_decide_eq_true hz
      exact mAtW.ret h.2 fun H ls locs cells slots hl => W.zret hx hb (by rw [hrt, hz']) h.1 (fun t e1 _ => ⟨rfl, e1⟩) hl d hlocks
    · next x =>
      have hz' : mRt y = some .byte := of_decide_eq_true hz
      exact mAtW.ret h.2 fun H ls locs cells slots hl => W.zret hx hb (by rw [hrt, hz']) h.1 (fun t e1 _ => ⟨rfl, e1⟩) hl d hlocks
    · exact h.elim
  | lreturn =>
    obtain ⟨d, rfl, hz⟩ := mChk_el hc ⟨by nofun, by nofun⟩
    have hz' : mRt y = some .long := of_decide_eq_true hz
    dsimp only [mStep] at h
    split at h
    · exact mAtW.ret h fun H ls locs cells slots hl => W.lret hx hb (by rw [hrt, hz']) (fun t e1 _ => ⟨rfl, e1⟩) hl d hlocks
    · exact h.elim
  | areturn =>
    obtain ⟨d, rfl, hz⟩ := mChk_el hc ⟨by nofun, by nofun⟩
    dsimp only [mStep] at h
    split at h
    · next x =>
      obtain ⟨cn, hz'⟩ : ∃ cn, mRt y = some (.object cn) := by
        dsimp only [mChk2] at hz
        split at hz
        next cn q => exact ⟨cn, q⟩
        next => cases hz
      exact mAtW.ret h fun H ls locs cells slots hl => W.aret hx hb (rt := .object cn) (by rw [hrt, hz']) (Or.inl ⟨_, rfl⟩) (Or.inr ⟨_, rfl⟩) (fun t e1 _ => ⟨rfl, e1⟩) hl d hlocks
    · exact h.elim
  | return_ =>
    obtain ⟨d, rfl, hz⟩ := mChk_el hc ⟨by nofun, by nofun⟩
    have hz' : mRt y = none := of_decide_eq_true hz
    dsimp only [mStep] at h
    split at h
    · exact mAtW.ret h fun H ls locs cells slots hl => W.vret hx hb (by rw [hrt, hz']) (fun t e1 _ => ⟨rfl, e1⟩) hl d hlocks
    · exact h.elim
  | new ix =>
    obtain ⟨d, rfl, hz⟩ := mChk_el hc ⟨by nofun, by nofun⟩
    dsimp only [mStep] at h
    dsimp only [mChk2] at hz
    split at h
    · next kd n =>
      simp only [Bool.and_eq_true, Nat.ble_eq, Nat.blt_eq, decide_eq_true_eq, List.all_eq_true, List.mem_range] at hz
      obtain ⟨⟨⟨⟨⟨⟨z1, z2⟩, z3⟩, z4⟩, z5⟩, z6⟩, z7⟩ := hz
      obtain ⟨hr, h⟩ := h
      rw [m_room, hE] at hr
      refine mAtW.new (by omega) (by omega) hr (hk _ _ _ h) fun H ls locs cells slots hsz hc1 hc2 w => ?_
      have hkn := hKn.2.1 kd z1 z2
      refine W.newcK hx hb hown (hKn.word z5 args) (hKn.word z6 args) (hKn.word z7 args) rfl d hc1 hc2 hkn.2.1 hsz fun H1 kC hkC e1 s1 oq => ?_
      refine w H1 (mCell_obj z1 (by omega) ?_) (by rw [s1, hsz]) (fun q hq => oq q (by rw [← hsz]; exact hq))
      exact (u_born (mY kd) (hKn.ws z1 z2 args) (fun _ q => q) hkn hkC e1 (fun f hf => (mFok_fd (mFok_at z1 z2) hf).1)).to (fun f hf => m_dfl (z4 f (by rw [z3]; exact hf)))
    · next kd li ii =>
      rw [Bool.and_eq_true, Bool.and_eq_true, Nat.blt_eq] at hz
      split at h
      next hcat =>
        obtain ⟨hr, h⟩ := h
        rw [m_room, hE] at hr
        exact m_throw CX d hz.1.1 hz.1.2 hz.2 (Nat.ble_eq.mp hcat) hr h
      next => exact h.elim
    · exact h.elim
  | invokespecial ix =>
    obtain ⟨d, rfl, hz⟩ := mChk_el hc ⟨by nofun, by nofun⟩
    dsimp only [mStep] at h
    dsimp only [mChk2] at hz
    split at h
    · simp only [Bool.and_eq_true, Nat.ble_eq] at hz
      obtain ⟨⟨⟨⟨z1, z2⟩, z3⟩, z4⟩, z5⟩ := hz
      obtain ⟨a, r, rfl, h9⟩ := m_R_el h
      split at h9
      next hcat =>
        refine (hk _ _ _ h9).of fun H ls locs cells slots hl w => ?_
        refine W.objInit hx hb hown (hKn.word z1 args) (hKn.word z2 args) (hKn.word z3 args) rfl (by rw [hml]; exact hl.1) rfl d (by omega) ?_ w
        show 2 * 0 + m_cat r + 12 ≤ R.locals
        have := Nat.ble_eq.mp hcat
        omega
      next => exact h9.elim
    · next y' n =>
      simp only [Bool.and_eq_true, decide_eq_true_eq, Nat.blt_eq] at hz
      obtain ⟨⟨⟨⟨z1, z2⟩, z3⟩, z4⟩, zy⟩ := hz
      have hex := hexf zy
      have hP := mCal_el z1
      unfold m_self at h
      split at h
      next b asL has =>
        obtain ⟨hcat, hlt, h⟩ := m_callok h
        rw [has] at h
        obtain ⟨hln, ih⟩ := hcall y' _ _ _ hP.1 hP.2.2.1 h
        intro H ls locs cells slots r1 r2 r3 r4 r5 T hT X
        have hpl : e.platform.magicAccessors = ({} : Platform).magicAccessors := by rw [X.admits.platform]
        have hcode := hKn.word z4 args
        have hln2 : (.ref b :: asL : List Value).length = n := by rw [← has, List.length_reverse, List.length_take]; omega
        have hst : st = asL.reverse ++ .ref b :: st.drop n := by
          have := m_take_drop (st := st) (n := n)
          rw [has] at this
          simpa using this
        obtain ⟨mk, methM, cM, kP, vm₁, hnamed, hmethM, hcodeM, -, hlocalsM, -, hkP, -, hW₁, hstep₁⟩ := Steps.initColdArgs (e := e) X.here hx X.warmed hpl hown z3 hP.2.2.2.2.2.2.1 (hKn.word hP.2.2.2.1 args) (hKn.word z2 args) hcode (f := F0 m pc ls st) rfl (a := b) (argsL := asL) (rest := st.drop n) (fun sig hs => by rw [hP.2.2.2.2.2.2.2.1 sig hs]; simp at hln2; omega) hst (by rw [hb]; exact d)
        have X₁ := X.noted hW₁
        obtain ⟨t, g1, g2⟩ := m_enter (Qf := mEnd dC dI B H0 R s below Qm) (ig := .invokespecial ix) (as := .ref b :: asL) (rest := st.drop n) CX hP X₁ hT r1 r2 r3 r4 r5 hnamed d hcat hln ih (fun v M' hK' T' locs' cells' slots' X' q1 q3 b1 b2 => hback _ T' locs' cells' slots' ls v M' rfl r2 hK' X' q1 q3 b1 b2) (fun a M' hK' T' locs' cells' slots' X' q1 q3 b1 b2 => m_thr_out hlocks hex X' q1 q3 b1 b2 hK')
        exact ⟨t, hstep₁ t g1, g2⟩
      next => exact h.elim
    · exact h.elim
  | invokestatic ix =>
    obtain ⟨d, rfl, hz⟩ := mChk_el hc ⟨by nofun, by nofun⟩
    dsimp only [mStep] at h
    dsimp only [mChk2] at hz
    split at h
    · next y' n =>
      simp only [Bool.and_eq_true, Nat.blt_eq] at hz
      obtain ⟨⟨z1, z2⟩, zy⟩ := hz
      have hex := hexf zy
      have hP := mCal_el z1
      obtain ⟨hcat, hlt, h⟩ := m_callok h
      obtain ⟨hln, ih⟩ := hcall y' _ _ _ hP.1 hP.2.2.1 h
      intro H ls locs cells slots r1 r2 r3 r4 r5 T hT X
      obtain ⟨mk, methM, cM, hnamed, hmethM, -, -, -, -, -, -, hsigM⟩ := mCode_el hKn hP.2.2.2.2.1 args
      have hstatic : methM.isStatic = true := Cond.static_spec hnamed hmethM (hKn.word z2 args)
      obtain ⟨kP, hkP, -⟩ := className_of_methodNamed hnamed
      have hinitP : kP.init = .initialized := Cond.initialized_spec (findClass_of_methodNamed hnamed) hkP (hKn.word hP.2.2.2.2.2.1 args)
      have hln2 : ((st.take n).reverse).length = n := by rw [List.length_reverse, List.length_take]; omega
      obtain ⟨vm₁, X₁, hstep₁⟩ := X.invokestatic hx hown (hKn.word hP.2.2.2.1 args) hnamed hmethM hstatic hkP hinitP hP.2.2.2.2.2.2.1 (g := F0 m pc ls st) rfl (argsL := (st.take n).reverse) (rest := st.drop n) (by rw [hln2, hP.2.2.2.2.2.2.2.1 _ hsigM]; rfl) m_take_drop (by rw [hb]; exact d)
      obtain ⟨t, g1, g2⟩ := m_enter (Qf := mEnd dC dI B H0 R s below Qm) (ig := .invokestatic ix) (rest := st.drop n) CX hP X₁ hT r1 r2 r3 r4 r5 hnamed d hcat hln ih (fun v M' hK' T' locs' cells' slots' X' q1 q3 b1 b2 => hback _ T' locs' cells' slots' ls v M' rfl r2 hK' X' q1 q3 b1 b2) (fun a M' hK' T' locs' cells' slots' X' q1 q3 b1 b2 => m_thr_out hlocks hex X' q1 q3 b1 b2 hK')
      exact ⟨t, hstep₁ t g1, g2⟩
    · exact h.elim
  | invokevirtual ix =>
    obtain ⟨d, rfl, hz⟩ := mChk_el hc ⟨by nofun, by nofun⟩
    dsimp only [mStep] at h
    dsimp only [mChk2] at hz
    split at h
    · next y' n kd =>
      simp only [Bool.and_eq_true, Nat.ble_eq, Nat.blt_eq] at hz
      obtain ⟨⟨⟨⟨⟨z1, z2⟩, z3⟩, z4⟩, z5⟩, zy⟩ := hz
      have hex := hexf zy
      have hP := mCal_el z1
      unfold m_recv at h
      split at h
      next b asL has =>
        obtain ⟨hkb, h⟩ := h
        obtain ⟨hcat, hlt, h⟩ := m_callok h
        rw [has] at h
        obtain ⟨hln, ih⟩ := hcall y' _ _ _ hP.1 hP.2.2.1 h
        intro H ls locs cells slots r1 r2 r3 r4 r5 T hT X
        have hln2 : (.ref b :: asL : List Value).length = n := by rw [← has, List.length_reverse, List.length_take]; omega
        have hst : st = asL.reverse ++ .ref b :: st.drop n := by
          have := m_take_drop (st := st) (n := n)
          rw [has] at this
          simpa using this
        obtain ⟨mk, methM, hnamed, hmethM, hstM, habM⟩ := Cond.instanceMethod_spec (hKn.word z2 args)
        obtain ⟨mk', methM', cM, hnamed', hmethM', -, -, -, -, -, -, hsigM⟩ := mCode_el hKn hP.2.2.2.2.1 args
        cases hnamed.symm.trans hnamed'
        cases hmethM.symm.trans hmethM'
        obtain ⟨cell, q1, q2, q3, -⟩ := r1.obj hkb z4 (by omega)
        have hcls : s.vm.findClass (mNm kd) = some cell.cls := by rw [q2]; exact (hKn.2.1 kd z4 z5).2.1
        obtain ⟨c2, rr2, m2, u1, u2, u3, u4, kP, hkP, hkPi⟩ := Cond.selects_spec (hKn.word z3 args)
        cases hcls.symm.trans u1
        cases (State.methodFound?_of_named hnamed hP.2.2.2.2.2.2.1).symm.trans u2
        cases hnamed.symm.trans u3
        have hselP : selectMethod e.platform s.vm cell.cls mk = .method mk := by rw [Launch.admits_selectMethod X.admits]; exact u4
        obtain ⟨vm₁, X₁, hstep₁⟩ := X.invokevirtual hx hown (hKn.word hP.2.2.2.1 args) hnamed hmethM hstM hkP hkPi hP.2.2.2.2.2.2.1 (a := b) (cell := cell) (by rw [hT]; exact q1) (fun z hz' => by rw [q3] at hz'; cases hz') hselP hmethM habM hkP hkPi (g := F0 m pc ls st) rfl (argsL := asL) (rest := st.drop n) (by rw [hP.2.2.2.2.2.2.2.1 _ hsigM]; simp at hln2; omega) hst (by rw [hb]; exact d)
        obtain ⟨t, g1, g2⟩ := m_enter (Qf := mEnd dC dI B H0 R s below Qm) (ig := .invokevirtual ix) (as := .ref b :: asL) (rest := st.drop n) CX hP X₁ hT r1 r2 r3 r4 r5 hnamed d hcat hln ih (fun v M' hK' T' locs' cells' slots' X' q1 q3 b1 b2 => hback _ T' locs' cells' slots' ls v M' rfl r2 hK' X' q1 q3 b1 b2) (fun a M' hK' T' locs' cells' slots' X' q1 q3 b1 b2 => m_thr_out hlocks hex X' q1 q3 b1 b2 hK')
        exact ⟨t, hstep₁ t g1, g2⟩
      next => exact h.elim
    · cases hcs
    · next y' n kd h0 h1 =>
      simp only [Bool.and_eq_true, Nat.ble_eq, Nat.blt_eq, decide_eq_true_eq] at hz
      obtain ⟨⟨⟨⟨⟨z1, z2⟩, z3⟩, z4⟩, z5⟩, ⟨⟨⟨⟨⟨⟨⟨y0, p3⟩, c0⟩, c1⟩, b0⟩, b1⟩, w0⟩, w1⟩⟩ := hz
      have hP := mCal_el z1
      unfold m_recv at h
      split at h
      next b asL has =>
        obtain ⟨hkb, h⟩ := h
        obtain ⟨hcat, hlt, h⟩ := m_callokC h
        rw [has] at h
        obtain ⟨hln, ih⟩ := hcall y' _ _ _ hP.1 hP.2.2.1 h
        intro H ls locs cells slots r1 r2 r3 r4 r5 T hT X
        have hln2 : (.ref b :: asL : List Value).length = n := by rw [← has, List.length_reverse, List.length_take]; omega
        have hst : st = asL.reverse ++ .ref b :: st.drop n := by
          have := m_take_drop (st := st) (n := n)
          rw [has] at this
          simpa using this
        obtain ⟨mk, methM, hnamed, hmethM, hstM, habM⟩ := Cond.instanceMethod_spec (hKn.word z2 args)
        obtain ⟨mk', methM', cM, hnamed', hmethM', -, -, -, -, -, -, hsigM⟩ := mCode_el hKn hP.2.2.2.2.1 args
        cases hnamed.symm.trans hnamed'
        cases hmethM.symm.trans hmethM'
        obtain ⟨cell, q1, q2, q3, -⟩ := r1.obj hkb z4 (by omega)
        have hcls : s.vm.findClass (mNm kd) = some cell.cls := by rw [q2]; exact (hKn.2.1 kd z4 z5).2.1
        obtain ⟨c2, rr2, m2, u1, u2, u3, u4, kP, hkP, hkPi⟩ := Cond.selects_spec (hKn.word z3 args)
        cases hcls.symm.trans u1
        cases (State.methodFound?_of_named hnamed hP.2.2.2.2.2.2.1).symm.trans u2
        cases hnamed.symm.trans u3
        have hselP : selectMethod e.platform s.vm cell.cls mk = .method mk := by rw [Launch.admits_selectMethod X.admits]; exact u4
        obtain ⟨vm₁, X₁, hstep₁⟩ := X.invokevirtual hx hown (hKn.word hP.2.2.2.1 args) hnamed hmethM hstM hkP hkPi hP.2.2.2.2.2.2.1 (a := b) (cell := cell) (by rw [hT]; exact q1) (fun z hz' => by rw [q3] at hz'; cases hz') hselP hmethM habM hkP hkPi (g := F0 m pc ls st) rfl (argsL := asL) (rest := st.drop n) (by rw [hP.2.2.2.2.2.2.2.1 _ hsigM]; simp at hln2; omega) hst (by rw [hb]; exact d)
        obtain ⟨t, g1, g2⟩ := m_enter (Qf := mEnd dC dI B H0 R s below Qm) (ig := .invokevirtual ix) (as := .ref b :: asL) (rest := st.drop n) CX hP X₁ hT r1 r2 r3 r4 r5 hnamed d hcat hln ih (fun v M' hK' T' locs' cells' slots' X' q1 q3 b1 b2 => by
            cases v with
            | none => exact hk _ _ _ hK' T'.heap ls locs' cells' slots' q1 r2 q3 b1 b2 T' rfl X'
            | some v => exact hk _ _ _ hK' T'.heap ls locs' cells' slots' q1 r2 q3 b1 b2 T' rfl X')
          (fun a M' hK' T' locs' cells' slots' X' q1 q3 b1' b2' => by
            obtain ⟨hA, hB', hAB⟩ := hK'
            have he' : c.exceptionTable.toList.map (fun h => (h.startPc, h.endPc, h.handlerPc, h.catchType)) = mHnd := by
              have := hex0
              unfold mExc at this
              rwa [if_pos y0] at this
            rcases hAB with k0 | k0
            · obtain ⟨vm', X2, st2⟩ := m_catch0 X' hown (hKn.word w0 args) hKn CX.2.2.2.2.2 he' (ls := ls) (rest := st.drop n) (pc := pc) (by omega) q1 k0
              obtain ⟨t, s1, s2⟩ := hgo h0 L [.ref a] M' b0 (hA k0) T'.heap ls locs' cells' slots' q1 r2 q3 b1' b2' (T'.setVm vm') rfl X2
              rw [c0] at s1
              exact ⟨t, st2 t s1, s2⟩
            · obtain ⟨vm', X2, st2⟩ := m_catch1 X' hown (hKn.word w0 args) (hKn.word w1 args) hKn CX.2.2.2.2.2 he' (ls := ls) (rest := st.drop n) (pc := pc) (by omega) q1 k0
              obtain ⟨t, s1, s2⟩ := hgo h1 L [.ref a] M' b1 (hB' k0) T'.heap ls locs' cells' slots' q1 r2 q3 b1' b2' (T'.setVm vm') rfl X2
              rw [c1] at s1
              exact ⟨t, st2 t s1, s2⟩)
        exact ⟨t, hstep₁ t g1, g2⟩
      next => exact h.elim
    · exact h.elim
  | _ => cases he
end HARD
