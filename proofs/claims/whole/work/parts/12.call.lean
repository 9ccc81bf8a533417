/-! CALLS -/
theorem mSteps_up {tb : Tables} {e : Env} {f : Frame} {below : List Frame} {s t : State} (h : Steps tb e (f :: below) s t) : Steps tb e below s t := by
  obtain ⟨n, h1, h2⟩ := h
  refine ⟨n, h1, fun k hk => ?_⟩
  obtain ⟨ab, a1, a2, a3⟩ := h2 k hk
  refine ⟨ab ++ [f], by rw [a1]; simp, by simp, fun a q => ?_⟩
  cases ab with
  | nil => exact a2 rfl
  | cons x r => simp at q
/-- what a call needs of the callee -/
def mCalP (y ix y' n inst : Nat) : Prop := y' < mNum ∧ mPc y' 0 = 0 ∧ 0 < mNb y' ∧ mW1 (.methodLink (mOwn y) ix (mYn y')) = true ∧ mCdW y' = true ∧ mW1 (.initialized (mYn y').cls) = true ∧
  ((mYn y').cls ≠ "java/lang/invoke/MethodHandle" ∧ (mYn y').cls ≠ "java/lang/invoke/VarHandle") ∧ (∀ sig, parseMethodDescriptor (mYn y').desc = some sig → sig.parameters.length = n - inst) ∧ inst ≤ n ∧ mFrm y' + 1 ≤ mFrm y ∧ 8 + (mNL y' + 11) + mLoc y' ≤ mLoc y ∧ plainFor (mYn y') = true
theorem mCal_el {y ix y' n inst : Nat} (h : mCal y ix y' n inst = true) : mCalP y ix y' n inst := by
  simp only [mCal, Bool.and_eq_true, Nat.blt_eq, Nat.ble_eq, decide_eq_true_eq] at h
  obtain ⟨⟨⟨⟨⟨⟨⟨⟨⟨⟨⟨h1, h2⟩, h3⟩, h4⟩, h5⟩, h6⟩, ⟨h7, h7'⟩⟩, h8⟩, h9⟩, h10⟩, h11⟩, h12⟩ := h
  refine ⟨h1, h2, h3, h4, h5, h6, ⟨h7, h7'⟩, fun sig hs => ?_, h9, h10, h11, h12⟩
  rw [hs] at h8
  exact Option.some.inj h8
/-- the same, the link apart -/
def mCalQ (y y' n inst : Nat) : Prop := y' < mNum ∧ mPc y' 0 = 0 ∧ 0 < mNb y' ∧ mCdW y' = true ∧ mW1 (.initialized (mYn y').cls) = true ∧
  ((mYn y').cls ≠ "java/lang/invoke/MethodHandle" ∧ (mYn y').cls ≠ "java/lang/invoke/VarHandle") ∧ (∀ sig, parseMethodDescriptor (mYn y').desc = some sig → sig.parameters.length = n - inst) ∧ inst ≤ n ∧ mFrm y' + 1 ≤ mFrm y ∧ 8 + (mNL y' + 11) + mLoc y' ≤ mLoc y ∧ plainFor (mYn y') = true
theorem mCalP.q {y ix y' n inst : Nat} (h : mCalP y ix y' n inst) : mCalQ y y' n inst := ⟨h.1, h.2.1, h.2.2.1, h.2.2.2.2⟩
theorem mCalU_el {y y' n inst : Nat} (h : mCalU y y' n inst = true) : mCalQ y y' n inst := by
  simp only [mCalU, Bool.and_eq_true, Nat.blt_eq, Nat.ble_eq, decide_eq_true_eq] at h
  obtain ⟨⟨⟨⟨⟨⟨⟨⟨⟨⟨h1, h2⟩, h3⟩, h5⟩, h6⟩, ⟨h7, h7'⟩⟩, h8⟩, h9⟩, h10⟩, h11⟩, h12⟩ := h
  refine ⟨h1, h2, h3, h5, h6, ⟨h7, h7'⟩, fun sig hs => ?_, h9, h10, h11, h12⟩
  rw [hs] at h8
  exact Option.some.inj h8
section CALL
variable {dC : Nat → ClassId} {dI : Nat → Nat → Nat} {dS : Nat → Nat} {B : Nat} {H0 : Heap}
variable {p : Program} {l : Launch} {e : Env} {R : Room} {s : State} {m : MethodId} {args : Array Value} {below : List Frame} {meth : Method} {c : Code} {pc : Nat} {L : mL} {M : mM}
/-- the callee walks, from the doorway on -/
def mIH (dC : Nat → ClassId) (dI : Nat → Nat → Nat) (dS : Nat → Nat) (B : Nat) (H0 : Heap) (p : Program) (l : Launch) (e : Env) (y' : Nat) (as : List Value) (M : mM) (K : mQ) : Prop :=
  ∀ (R : Room) (s : State) (m : MethodId) (args : Array Value) (below : List Frame) (meth : Method) (c : Code), mCtx2 dC dI dS B H0 y' p e R s m meth c → mAtW dC dI B H0 p l e R s m args below meth c (mEnd dC dI B H0 R s below K) (mNL y') (mPc y' 0) (m_ent as (mNL y')) [] M
set_option maxHeartbeats 4000000 in
theorem m_enterQ {y y' n inst : Nat} {Qf : State → Prop} {T : State} {H : Heap} {ls : Array Slot} {locs : List Loc} {cells slots : Nat} {as rest : List Value} {ig : Instr} {mk : MethodId} {K : mQ} (CX : mCtx2 dC dI dS B H0 y p e R s m meth c) (hP : mCalQ y y' n inst)
    (X : Stand p l e R s m args below meth c T locs cells slots) (hT : T.heap = H) (r1 : mRel dC dI B H0 M H) (r2 : mLR L ls (mNL y)) (r3 : ∀ q ∈ locs, B ≤ q.base) (r4 : cells + mCC ≤ R.cells + (msz M - B)) (r5 : slots + mCS ≤ R.slots + mns M)
    (hnm : s.methodNamed? (mYn y') = some mk) (hdg : decode (mBy y) pc = .ok (ig, 3)) (hcat : m_cat rest ≤ 8) (hlen : (m_arg as).length ≤ mNL y') (ih : mIH dC dI dS B H0 p l e y' as M K)
    (hret : ∀ (v : Option Value) (M' : mM), K (.inl v) M' → ∀ (T' : State) (locs' : List Loc) (cells' slots' : Nat), Stand p l e R s m args below meth c T' locs' cells' slots' → mRel dC dI B H0 M' T'.heap → (∀ q ∈ locs', B ≤ q.base) → cells' + mCC ≤ R.cells + (msz M' - B) → slots' + mCS ≤ R.slots + mns M' → ∃ t, Steps p.tables e below (T'.setTop (F0 m (pc + 3) ls (v.toList ++ rest))) t ∧ Qf t)
    (hthr : ∀ (a : Nat) (M' : mM), K (.inr a) M' → ∀ (T' : State) (locs' : List Loc) (cells' slots' : Nat), Stand p l e R s m args below meth c T' locs' cells' slots' → mRel dC dI B H0 M' T'.heap → (∀ q ∈ locs', B ≤ q.base) → cells' + mCC ≤ R.cells + (msz M' - B) → slots' + mCS ≤ R.slots + mns M' → ∃ t, Steps p.tables e below ((T'.setTop (F0 m pc ls rest)).pushFrame (.throwing a)) t ∧ Qf t) :
    ∃ t, (∀ acts, Steps p.tables e below (doInvoke e (T.setTop (F0 m pc ls rest)) acts mk as.toArray).1 t) ∧ Qf t := by
  obtain ⟨⟨hx, hb, hml, hrt, hlocks, hown, hini, hKn, hfr, hlo, htr⟩, hK2, hH, hab, -, hK3⟩ := CX
  obtain ⟨p1, p2, p3, p5, p6, p7, p8, p9, p10, p11, p12⟩ := hP
  obtain ⟨mk', methk, ck, f0, f1, f2, f3, f4, f5, f6, f7, f8⟩ := mCode_el hKn p5 args
  cases hnm.symm.trans f0
  have hnT : T.methodNamed? (mYn y') = some mk := X.named hnm
  have hmk : T.vm.method? mk = some methk := by rw [X.warmed.alike.method?]; exact f1
  have hpk : T.plainMethod mk := State.plainMethod.of_named p12 hnT hmk
  have hsz := r1.1
  have hb2 := r1.2.1
  obtain ⟨Y, hin⟩ := X.into (g := F0 m pc ls rest) rfl (by rw [hml]; exact r2.1) (by rw [hb]; exact hdg) as.toArray (R' := { frames := mFrm y', cells := mCC - (msz M - B), slots := mCS - mns M, locals := mLoc y' }) hmk f2 f6 hpk (by show mFrm y' + 1 ≤ R.frames; omega)
    (by
      show 2 * 0 + m_cat rest + (ck.maxLocals + 11) + mLoc y' ≤ R.locals
      rw [f4]; omega) (by show cells + (mCC - (msz M - B)) ≤ R.cells; omega) (by show slots + (mCS - mns M) ≤ R.slots; omega)
  have hvm : (T.calling (F0 m pc ls rest) mk as.toArray).vm = T.vm := rfl
  have hhp : (T.calling (F0 m pc ls rest) mk as.toArray).heap = T.heap := rfl
  have hWs : s.WarmedH (T.calling (F0 m pc ls rest) mk as.toArray).vm := X.warmed
  have hnC : (T.calling (F0 m pc ls rest) mk as.toArray).methodNamed? (mYn y') = some mk := hnT
  have hCX : mCtx2 dC dI dS B H0 y' p e { frames := mFrm y', cells := mCC - (msz M - B), slots := mCS - mns M, locals := mLoc y' } (T.calling (F0 m pc ls rest) mk as.toArray) mk methk ck := by
    refine ⟨⟨hx, f3, f4, f5, f6, findClass_of_methodNamed hnC, fun hi => ?_, hKn.moved hWs, Nat.le_refl _, Nat.le_refl _, htr⟩, hK2.moved hWs, fun q hq => by rw [hhp, hT]; exact r1.2.2.1 q hq, fun q ce hq hc => r1.above hq (by rw [← hT, ← hhp]; exact hc), f7, hK3.moved hWs⟩
    have := (name_of_methodNamed hnC hmk).1
    rw [this]; exact hi
  have hw := ih _ _ mk as.toArray (.java (F0 m pc ls rest) :: below) methk ck hCX H _ [] 0 0 r1 (mLR_entry as hlen) (fun q hq => by cases hq) (by show 0 + mCC ≤ (mCC - (msz M - B)) + (msz M - B); omega) (by show 0 + mCS ≤ (mCS - mns M) + mns M; omega)
  obtain ⟨t, st1, o, M', oc, L', k', n', g1, g2, g3, g4, g5, g6, g7, g8, g9, g10⟩ := hw ((T.setTop (F0 m pc ls rest)).pushFrame (.java (entryFrame mk as.toArray ck.maxLocals))) (by rw [← hT]; rfl) Y
  rw [p2, ← lg_entry_eq, ← f4] at st1
  have st2 : ∀ acts, Steps p.tables e below (doInvoke e (T.setTop (F0 m pc ls rest)) acts mk as.toArray).1 t := fun acts => by rw [hin acts]; exact mSteps_up st1
  have b1 : cells + k' + mCC ≤ R.cells + (msz M' - B) := by
    have : k' + mCC ≤ (mCC - (msz M - B)) + (msz M' - B) := g9
    omega
  have b2 : slots + n' + mCS ≤ R.slots + mns M' := by
    have : n' + mCS ≤ (mCS - mns M) + mns M' := g10
    omega
  have b3 : ∀ q ∈ locs ++ L', B ≤ q.base := fun q hq => (List.mem_append.mp hq).elim (r3 q) (g8 q)
  cases o with
  | inl v =>
    cases g2
    obtain ⟨T', X', hW', hB', ht⟩ := X.outOf (g := F0 m pc ls rest) rfl (by rw [hb]; exact hdg) g5 g6 g7
    have hh : T'.heap = t.heap := by rw [ht]; simp
    obtain ⟨t2, s1, s2⟩ := hret v M' g1 T' _ _ _ X' (by rw [hh]; exact g3) b3 b1 b2
    exact ⟨t2, fun acts => (st2 acts).trans (by rw [ht]; exact s1), s2⟩
  | inr a =>
    cases g2
    obtain ⟨T', X', hW', hB', ht⟩ := X.outOfThrown (g := F0 m pc ls rest) rfl g5 g6 g7
    have hh : T'.heap = t.heap := by rw [ht]; exact (Stand.throwing_heap T' _ a).symm
    obtain ⟨t2, s1, s2⟩ := hthr a M' g1 T' _ _ _ X' (by rw [hh]; exact g3) b3 b1 b2
    exact ⟨t2, fun acts => (st2 acts).trans (by rw [ht]; exact s1), s2⟩
theorem m_enter {y ix y' n inst : Nat} {Qf : State → Prop} {T : State} {H : Heap} {ls : Array Slot} {locs : List Loc} {cells slots : Nat} {as rest : List Value} {ig : Instr} {mk : MethodId} {K : mQ} (CX : mCtx2 dC dI dS B H0 y p e R s m meth c) (hP : mCalP y ix y' n inst)
    (X : Stand p l e R s m args below meth c T locs cells slots) (hT : T.heap = H) (r1 : mRel dC dI B H0 M H) (r2 : mLR L ls (mNL y)) (r3 : ∀ q ∈ locs, B ≤ q.base) (r4 : cells + mCC ≤ R.cells + (msz M - B)) (r5 : slots + mCS ≤ R.slots + mns M)
    (hnm : s.methodNamed? (mYn y') = some mk) (hdg : decode (mBy y) pc = .ok (ig, 3)) (hcat : m_cat rest ≤ 8) (hlen : (m_arg as).length ≤ mNL y') (ih : mIH dC dI dS B H0 p l e y' as M K)
    (hret : ∀ (v : Option Value) (M' : mM), K (.inl v) M' → ∀ (T' : State) (locs' : List Loc) (cells' slots' : Nat), Stand p l e R s m args below meth c T' locs' cells' slots' → mRel dC dI B H0 M' T'.heap → (∀ q ∈ locs', B ≤ q.base) → cells' + mCC ≤ R.cells + (msz M' - B) → slots' + mCS ≤ R.slots + mns M' → ∃ t, Steps p.tables e below (T'.setTop (F0 m (pc + 3) ls (v.toList ++ rest))) t ∧ Qf t)
    (hthr : ∀ (a : Nat) (M' : mM), K (.inr a) M' → ∀ (T' : State) (locs' : List Loc) (cells' slots' : Nat), Stand p l e R s m args below meth c T' locs' cells' slots' → mRel dC dI B H0 M' T'.heap → (∀ q ∈ locs', B ≤ q.base) → cells' + mCC ≤ R.cells + (msz M' - B) → slots' + mCS ≤ R.slots + mns M' → ∃ t, Steps p.tables e below ((T'.setTop (F0 m pc ls rest)).pushFrame (.throwing a)) t ∧ Qf t) :
    ∃ t, (∀ acts, Steps p.tables e below (doInvoke e (T.setTop (F0 m pc ls rest)) acts mk as.toArray).1 t) ∧ Qf t :=
  m_enterQ CX hP.q X hT r1 r2 r3 r4 r5 hnm hdg hcat hlen ih hret hthr
/-- behind a call in a method without handlers -/
theorem m_thr_out {Qm : mQ} {T' : State} {ls : Array Slot} {rest : List Value} {locs' : List Loc} {cells' slots' : Nat} {a : Nat} {M' : mM} (hlocks : meth.locks = false) (hex : c.exceptionTable.isEmpty = true) (X' : Stand p l e R s m args below meth c T' locs' cells' slots') (r1 : mRel dC dI B H0 M' T'.heap) (r3 : ∀ q ∈ locs', B ≤ q.base) (b1 : cells' + mCC ≤ R.cells + (msz M' - B)) (b2 : slots' + mCS ≤ R.slots + mns M') (hq : Qm (.inr a) M') :
    ∃ t, Steps p.tables e below ((T'.setTop (F0 m pc ls rest)).pushFrame (.throwing a)) t ∧ mEnd dC dI B H0 R s below Qm t := by
  obtain ⟨g1, g2, g3, g4, g5⟩ := X'.leaveThrown a (g := F0 m pc ls rest) rfl rfl rfl (fun z hz => by rw [Array.isEmpty_iff.mp hex] at hz; cases hz) hlocks
  exact ⟨_, g1, .inr a, M', .threw a, locs', cells', slots', hq, rfl, r1, g2, g3, g4, g5, r3, b1, b2⟩
end CALL
