/-! STATICS, ENDS, NEW OBJECTS, THROWS -/
def mSta (C nm ds : String) (B : Nat) (H0 : Heap) (U : State) : Prop := ∃ (c : ClassId) (k : Class) (i : Nat) (f : Field) (a : Nat) (cell : Cell) (v : Value), U.vm.findClass C = some c ∧ U.fieldFound? C nm ds = some (c, k, i, f) ∧ f.isStatic = true ∧ k.statics = some a ∧ H0[a]? = some cell ∧ cell.vm.isStatics = true ∧ cell.cls = c ∧ f.slot < cell.slots.size ∧ k.staticTypes[f.slot]? = some f.type ∧ a < B ∧ cell.slots[f.slot]? = some v ∧ v.isRef = true
theorem mSta.moved {C nm ds : String} {B : Nat} {H0 : Heap} {u U : State} (hvm : u.vm.Alike U.vm) (h : mSta C nm ds B H0 u) : mSta C nm ds B H0 U := by
  obtain ⟨c, k, i, f, a, cell, v, h1, h2, h3, h4, h5, h6, h7, h8, h9, h10⟩ := h
  obtain ⟨k', hi', he⟩ := State.fieldFound?_setVm hvm h2
  exact ⟨c, k', i, f, a, cell, v, by rw [hvm.findClass]; exact h1, hi', h3, by rw [he]; exact h4, h5, h6, h7, h8, by rw [he]; exact h9, h10⟩
theorem mSta.use {C nm ds : String} {B : Nat} {H0 : Heap} {U : State} (h : mSta C nm ds B H0 U) (hH : ∀ q : Nat, q < B → U.heap[q]? = H0[q]?) (args : Array Value) : (Cond.laysStatic C nm ds).before args U = true ∧ (Cond.isRef (.static C nm ds)).before args U = true := by
  obtain ⟨c, k, i, f, a, cell, v, h1, h2, h3, h4, h5, h6, h7, h8, h9, h10, h11, h12⟩ := h
  have hc : U.heap[a]? = some cell := by rw [hH a h10]; exact h5
  refine ⟨Cond.laysStatic_of h1 h2 h3 h4 hc h6 h7 h8 h9, ?_⟩
  have hev : (Term.static C nm ds).eval args U none [] U = some v := Term.static_eval h2 h3 h4 hc h6 h11
  cases v <;> first | (simp [Value.isRef] at h12; done) | simp [Cond.before, Cond.holds, Cond.value, hev]
theorem mSta.of {C nm ds : String} {s : State} {args : Array Value} (hl : (Cond.laysStatic C nm ds).before args s = true) (hr : (Cond.isRef (.static C nm ds)).before args s = true) : mSta C nm ds s.heap.size s.heap s := by
  obtain ⟨c, k, i, f, a, cell, hc, hi, hst, ha, hcell, hs, hcls, hlt, hty⟩ := Cond.laysStatic_spec hl
  have hsl : cell.slots[f.slot]? = some cell.slots[f.slot] := Array.getElem?_eq_getElem hlt
  have hev : (Term.static C nm ds).eval args s none [] s = some cell.slots[f.slot] := Term.static_eval hi hst ha hcell hs hsl
  refine ⟨c, k, i, f, a, cell, _, hc, hi, hst, ha, hcell, hs, hcls, hlt, hty, (Array.getElem?_eq_some_iff.mp hcell).1, hsl, ?_⟩
  generalize cell.slots[f.slot] = v at hev
  cases v <;> first | rfl | (simp [Cond.before, Cond.holds, Cond.value, hev] at hr)
/-- a cell that may change -/
def kA (B : Nat) : Nat → Prop := fun a => B ≤ a
/-- what is known of the constants -/
def mKs (dS : Nat → Nat) (B : Nat) (H0 : Heap) (U : State) : Prop :=
  (∀ c ∈ kCs, va_Z (kG c).1 (kG c).2.1 (kG c).2.2 (kV dS c) (kA B) U H0) ∧
  (∀ f, f < 6 → ∀ i, i < kN f → va_OF (kH f).1 (kH f).2.1 (kH f).2.2 (kW dS f i) (dS (kB f + i)) (kA B) U H0) ∧
  (∀ t, t < 3 → ∀ i, i < kM t → va_T (kTy t) (dS (kD t + i)) (kQ t i) (kX dS t i) (kA B) U H0) ∧
  (∀ kd, kd = 212 ∨ kd = 213 → ∀ i, i < kN (cond (Nat.beq kd 212) 2 0) → va_O (kC kd) (dS (kB (cond (Nat.beq kd 212) 2 0) + i)) (kA B) U H0) ∧
  ∀ r ∈ kLds, vk_R r.1 r.2.1 r.2.2.1 (dS r.2.2.2) U
theorem mKs.moved {dS : Nat → Nat} {B : Nat} {H0 : Heap} {s U : State} (hW : s.WarmedH U.vm) (h : mKs dS B H0 s) : mKs dS B H0 U := by
  obtain ⟨h1, h2, h3, h4, h5⟩ := h
  exact ⟨fun c hc => va_Z.moved hW.alike (h1 c hc), fun f hf i hi => va_OF.moved hW.alike (h2 f hf i hi), fun t ht i hi => va_T.moved hW.alike (h3 t ht i hi), fun kd hk i hi => va_O.moved hW.alike (h4 kd hk i hi), fun r hr => (h5 r hr).warm hW⟩
def mKn2 (dS : Nat → Nat) (B : Nat) (H0 : Heap) (U : State) : Prop :=
  mSta "java/lang/Throwable" "UNASSIGNED_STACK" "[Ljava/lang/StackTraceElement;" B H0 U ∧ mSta "java/lang/Throwable" "SUPPRESSED_SENTINEL" "Ljava/util/List;" B H0 U ∧ (∀ (i : Nat) (r : String × Nat × String), mStr[i]? = some r → vk_R r.1 r.2.1 r.2.2 (dS i) U) ∧ (∀ w ∈ lw_tbl, w.faceAtom = true → ∀ a : Array Value, w.before a U = true) ∧ mKs dS B H0 U
theorem mKn2.moved {dS : Nat → Nat} {B : Nat} {H0 : Heap} {s U : State} (hW : s.WarmedH U.vm) (h : mKn2 dS B H0 s) : mKn2 dS B H0 U := by
  obtain ⟨h1, h2, h3, h4, h5⟩ := h
  refine ⟨h1.moved hW.alike, h2.moved hW.alike, fun i r hr => (h3 i r hr).warm hW, fun w hw hf a => ?_, h5.moved hW⟩
  have e1 := Cond.faceAtom_setVm hW.alike w hf (h4 w hw hf a)
  exact va_tabs (by cases w <;> first | rfl | (simp [Cond.faceAtom] at hf)) (rfl : (s.setVm U.vm).vm = U.vm) e1
def mExc (y : Nat) (c : Code) : Prop := if y = 0 then c.exceptionTable.toList.map (fun h => (h.startPc, h.endPc, h.handlerPc, h.catchType)) = mHnd else c.exceptionTable.isEmpty = true
def mKn3 (dC : Nat → ClassId) (U : State) : Prop := U.vm.assignable (dC 91) (dC 90) = false ∧ U.vm.assignable (dC 90) (dC 90) = true ∧ U.vm.assignable (dC 91) (dC 91) = true ∧ (∃ k, U.vm.classes[dC 90]? = some k) ∧ ∃ k, U.vm.classes[dC 91]? = some k
theorem mKn3.moved {dC : Nat → ClassId} {s U : State} (hW : s.WarmedH U.vm) (h : mKn3 dC s) : mKn3 dC U := by
  obtain ⟨h1, h2, h3, ⟨k1, h4⟩, ⟨k2, h5⟩⟩ := h
  have al := hW.alike
  obtain ⟨k1', e1, -⟩ := al.2.2 _ _ h4
  obtain ⟨k2', e2, -⟩ := al.2.2 _ _ h5
  exact ⟨by rw [al.assignable]; exact h1, by rw [al.assignable]; exact h2, by rw [al.assignable]; exact h3, ⟨k1', e1⟩, ⟨k2', e2⟩⟩
theorem mCode_el {dC : Nat → ClassId} {dI : Nat → Nat → Nat} {U : State} (hKn : mKnow dC dI U) {y : Nat} (h : mCdW y = true) (args : Array Value) : ∃ (mk : MethodId) (meth : Method) (c : Code), U.methodNamed? (mYn y) = some mk ∧ U.vm.method? mk = some meth ∧ meth.code = some c ∧ c.code = mBy y ∧ c.maxLocals = mNL y ∧ meth.sig.returnType = mRt y ∧ meth.locks = false ∧ mExc y c ∧ parseMethodDescriptor (mYn y).desc = some meth.sig := by
  unfold mCdW at h
  unfold mExc
  by_cases hy : y = 0
  · rw [if_pos hy] at h
    obtain ⟨mk, meth, c, a1, a2, a3, a4, a5, a6, a7, a8, a9⟩ := Cond.codeWith_spec (hKn.word h args)
    exact ⟨mk, meth, c, a1, a2, a3, a4, a5, a7, a8, by rw [if_pos hy]; exact a6, a9⟩
  · rw [if_neg hy] at h
    have hw := hKn.word h args
    obtain ⟨mk, hn⟩ := Cond.code_named hw
    obtain ⟨meth, c, a2, a3, a4, a5, a6, a7, a8, a9⟩ := Cond.code_spec hn hw
    exact ⟨mk, meth, c, hn, a2, a3, a4, a5, a6, a7, by rw [if_neg hy]; exact a8, a9⟩
def mCtx2 (dC : Nat → ClassId) (dI : Nat → Nat → Nat) (dS : Nat → Nat) (B : Nat) (H0 : Heap) (y : Nat) (p : Program) (e : Env) (R : Room) (s : State) (m : MethodId) (meth : Method) (c : Code) : Prop :=
  mCtx dC dI y p e R s m meth c ∧ mKn2 dS B H0 s ∧ (∀ q : Nat, q < B → s.heap[q]? = H0[q]?) ∧ (∀ (q : Nat) (ce : Cell), B ≤ q → s.heap[q]? = some ce → ce.vm.isStatics = false) ∧ mExc y c ∧ mKn3 dC s
def mOut (o : mO) (oc : Outcome) : Prop := match o with
  | .inl v => oc = .returned v
  | .inr a => oc = .threw a
/-- how a method ends -/
def mEnd (dC : Nat → ClassId) (dI : Nat → Nat → Nat) (B : Nat) (H0 : Heap) (R : Room) (s : State) (below : List Frame) (Qm : mQ) : State → Prop := fun t =>
  ∃ (o : mO) (M' : mM) (oc : Outcome) (L : List Loc) (cells slots : Nat), Qm o M' ∧ mOut o oc ∧ mRel dC dI B H0 M' t.heap ∧ t.status = .running ∧ Ended t below oc ∧ s.WarmedH t.vm ∧ s.sameButNew ({ t with vm := s.vm } : State) L cells slots ∧ (∀ q ∈ L, B ≤ q.base) ∧ cells + mCC ≤ R.cells + (msz M' - B) ∧ slots + mCS ≤ R.slots + mns M'
theorem mRel.above {dC : Nat → ClassId} {dI : Nat → Nat → Nat} {B : Nat} {H0 H : Heap} {M : mM} (h : mRel dC dI B H0 M H) {q : Nat} {ce : Cell} (hq : B ≤ q) (hc : H[q]? = some ce) : ce.vm.isStatics = false := by
  have hlt : q < msz M := by rw [← h.1]; exact (Array.getElem?_eq_some_iff.mp hc).1
  have hk := h.2.1.2.2.2.2 q hq hlt
  obtain ⟨-, c1, c2, c3, c4⟩ := h.2.2.2 q hk
  rcases Nat.lt_or_ge (mkd M q) 10 with k1 | k1
  · have := hc.symm.trans (c1 k1)
    cases this
    rfl
  · rcases Nat.lt_or_ge (mkd M q) 100 with k2 | k2
    · obtain ⟨ce', e1, -, e3⟩ := c2 k1 k2
      cases hc.symm.trans e1
      rw [e3]; rfl
    · rcases Nat.lt_or_ge (mkd M q) 200 with k3 | k3
      · obtain ⟨ce', e1, -, e3, -⟩ := c3 k2 k3
        cases hc.symm.trans e1
        rw [e3]; rfl
      · obtain ⟨ce', e1, -, e3, -⟩ := c4 k3
        cases hc.symm.trans e1
        cases hv : ce.vm <;> first | rfl | exact absurd hv (e3 _)
section ENDS
variable {dC : Nat → ClassId} {dI : Nat → Nat → Nat} {B : Nat} {H0 : Heap}
variable {p : Program} {l : Launch} {e : Env} {R : Room} {s : State} {m : MethodId} {args : Array Value} {below : List Frame} {meth : Method} {c : Code} {n pc : Nat} {L : mL} {st : List Value} {M : mM}
/-- an end by a returning instruction -/
theorem mAtW.ret {v : Option Value} {Qm : mQ} (hq : Qm (.inl v) M)
    (h : ∀ (H : Heap) (ls : Array Slot) (locs : List Loc) (cells slots : Nat), (∀ q ∈ locs, B ≤ q.base) → W p l e R s m args below meth c H locs cells slots (MQ below (fun _ _ o t => o = .returned v ∧ t.heap = H) args s cells slots (fun q => B ≤ q)) (F0 m pc ls st)) :
    mAtW dC dI B H0 p l e R s m args below meth c (mEnd dC dI B H0 R s below Qm) n pc L st M := by
  intro H ls locs cells slots r1 r2 r3 r4 r5 T hT X
  obtain ⟨t, st1, o, g1, g2, ⟨g3, g4⟩, L', ⟨g5, g6, g7⟩, g8⟩ := h H ls locs cells slots r3 T hT X
  exact ⟨t, st1, .inl v, M, o, L', cells, slots, hq, g3, by rw [g4]; exact r1, g1, g2, g6, g7, g8, r4, r5⟩
end ENDS
