/-! ONE INSTRUCTION OF THE SMALL MACHINE IS ONE OF THE LARGE ONE'S (calls, ends and throws apart) -/
def mAtW (dC : Nat → ClassId) (dI : Nat → Nat → Nat) (B : Nat) (H0 : Heap) (p : Program) (l : Launch) (e : Env) (R : Room) (s : State) (m : MethodId) (args : Array Value) (below : List Frame) (meth : Method) (c : Code) (Q : State → Prop) (n pc : Nat) (L : mL) (st : List Value) (M : mM) : Prop :=
  ∀ (H : Heap) (ls : Array Slot) (locs : List Loc) (cells slots : Nat), mRel dC dI B H0 M H → mLR L ls n → (∀ q ∈ locs, B ≤ q.base) → cells + mCC ≤ R.cells + (msz M - B) → slots + mCS ≤ R.slots + mns M → W p l e R s m args below meth c H locs cells slots Q (F0 m pc ls st)
def mCtx (dC : Nat → ClassId) (dI : Nat → Nat → Nat) (y : Nat) (p : Program) (e : Env) (R : Room) (s : State) (m : MethodId) (meth : Method) (c : Code) : Prop :=
  p.tables.exec = Jvm.exec ∧ c.code = mBy y ∧ c.maxLocals = mNL y ∧ meth.sig.returnType = mRt y ∧ meth.locks = false ∧ s.vm.findClass (mOwn y) = some m.cls ∧ ((mYn y).name = "<init>" → meth.name = "<init>") ∧ mKnow dC dI s ∧ mFrm y ≤ R.frames ∧ mLoc y ≤ R.locals ∧ e.platform.stackTraces = false
theorem m_I_el {st : List Value} {k : Int32 → List Value → Prop} (h : m_I st k) : ∃ x r, st = .int x :: r ∧ k x r := by
  unfold m_I at h
  split at h
  next x r => exact ⟨x, r, rfl, h⟩
  next => exact h.elim
theorem m_J_el {st : List Value} {k : Int64 → List Value → Prop} (h : m_J st k) : ∃ x r, st = .long x :: r ∧ k x r := by
  unfold m_J at h
  split at h
  next x r => exact ⟨x, r, rfl, h⟩
  next => exact h.elim
theorem m_R_el {st : List Value} {k : Nat → List Value → Prop} (h : m_R st k) : ∃ x r, st = .ref x :: r ∧ k x r := by
  unfold m_R at h
  split at h
  next x r => exact ⟨x, r, rfl, h⟩
  next => exact h.elim
theorem m_II_el {st : List Value} {k : Int32 → Int32 → List Value → Prop} (h : m_II st k) : ∃ x y r, st = .int y :: .int x :: r ∧ k x y r := by
  obtain ⟨y, r, rfl, h1⟩ := m_I_el h
  obtain ⟨x, r, rfl, h2⟩ := m_I_el h1
  exact ⟨x, y, r, rfl, h2⟩
theorem m_JJ_el {st : List Value} {k : Int64 → Int64 → List Value → Prop} (h : m_JJ st k) : ∃ x y r, st = .long y :: .long x :: r ∧ k x y r := by
  obtain ⟨y, r, rfl, h1⟩ := m_J_el h
  obtain ⟨x, r, rfl, h2⟩ := m_J_el h1
  exact ⟨x, y, r, rfl, h2⟩
theorem m_JI_el {st : List Value} {k : Int64 → Int32 → List Value → Prop} (h : m_JI st k) : ∃ x y r, st = .int y :: .long x :: r ∧ k x y r := by
  obtain ⟨y, r, rfl, h1⟩ := m_I_el h
  obtain ⟨x, r, rfl, h2⟩ := m_J_el h1
  exact ⟨x, y, r, rfl, h2⟩
theorem m_RI_el {st : List Value} {k : Nat → Int32 → List Value → Prop} (h : m_RI st k) : ∃ a j r, st = .int j :: .ref a :: r ∧ k a j r := by
  obtain ⟨j, r, rfl, h1⟩ := m_I_el h
  obtain ⟨a, r, rfl, h2⟩ := m_R_el h1
  exact ⟨a, j, r, rfl, h2⟩
theorem m_lI_el {L : mL} {i : Nat} {k : Int32 → Prop} (h : m_lI L i k) : ∃ x, m_at L i = some (.int x) ∧ k x := by
  unfold m_lI at h
  split at h
  next x q => exact ⟨x, q, h⟩
  next => exact h.elim
theorem m_lJ_el {L : mL} {i : Nat} {k : Int64 → Prop} (h : m_lJ L i k) : ∃ x, m_at L i = some (.long x) ∧ k x := by
  unfold m_lJ at h
  split at h
  next x q => exact ⟨x, q, h⟩
  next => exact h.elim
theorem m_lR_el {L : mL} {i : Nat} {k : Nat → Prop} (h : m_lR L i k) : ∃ x, m_at L i = some (.ref x) ∧ k x := by
  unfold m_lR at h
  split at h
  next x q => exact ⟨x, q, h⟩
  next => exact h.elim
section SND
variable {dC : Nat → ClassId} {dI : Nat → Nat → Nat} {B : Nat} {H0 : Heap}
variable {p : Program} {l : Launch} {e : Env} {R : Room} {s : State} {m : MethodId} {args : Array Value} {below : List Frame} {meth : Method} {c : Code} {Q : State → Prop} {n pc : Nat} {L : mL} {st : List Value} {M : mM} {cc : ByteArray}
/-- a step that moves the stack alone -/
theorem mAtW.of {pc' : Nat} {st' : List Value} (k : mAtW dC dI B H0 p l e R s m args below meth c Q n pc' L st' M) (h : ∀ (H : Heap) (ls : Array Slot) (locs : List Loc) (cells slots : Nat), mLR L ls n → W p l e R s m args below meth c H locs cells slots Q (F0 m pc' ls st') → W p l e R s m args below meth c H locs cells slots Q (F0 m pc ls st)) : mAtW dC dI B H0 p l e R s m args below meth c Q n pc L st M :=
  fun H ls locs cells slots r1 r2 r3 r4 r5 => h H ls locs cells slots r2 (k H ls locs cells slots r1 r2 r3 r4 r5)
/-- a store of a value of one word -/
theorem mAtW.st1 {pc' i : Nat} {v : Value} {st' : List Value} (k : mAtW dC dI B H0 p l e R s m args below meth c Q n pc' (m_st1 L i v) st' M) (h : ∀ (H : Heap) (ls : Array Slot) (locs : List Loc) (cells slots : Nat), lv_has ls n (mAs 0 L) → mLR L ls n → (∀ ls' : Array Slot, lv_has ls' n ((i, v) :: (mAs 0 L).filter (fun q => !(q.1 == i) && !(q.1 + 1 == i && q.2.category == 2))) → W p l e R s m args below meth c H locs cells slots Q (F0 m pc' ls' st')) → W p l e R s m args below meth c H locs cells slots Q (F0 m pc ls st)) : mAtW dC dI B H0 p l e R s m args below meth c Q n pc L st M :=
  fun H ls locs cells slots r1 r2 r3 r4 r5 => h H ls locs cells slots r2.has r2 fun ls' hl => k H ls' locs cells slots r1 (r2.st1 hl) r3 r4 r5
theorem mAtW.st2 {pc' i : Nat} {v : Value} {st' : List Value} (hi : i + 1 < n) (k : mAtW dC dI B H0 p l e R s m args below meth c Q n pc' (m_st2 L i v) st' M) (h : ∀ (H : Heap) (ls : Array Slot) (locs : List Loc) (cells slots : Nat), lv_has ls n (mAs 0 L) → (∀ ls' : Array Slot, lv_has ls' n ((i, v) :: (mAs 0 L).filter (fun q => !(q.1 == i) && (!(q.1 == i + 1) && !(q.1 + 1 == i && q.2.category == 2)))) → W p l e R s m args below meth c H locs cells slots Q (F0 m pc' ls' st')) → W p l e R s m args below meth c H locs cells slots Q (F0 m pc ls st)) : mAtW dC dI B H0 p l e R s m args below meth c Q n pc L st M :=
  fun H ls locs cells slots r1 r2 r3 r4 r5 => h H ls locs cells slots r2.has fun ls' hl => k H ls' locs cells slots r1 (r2.st2 hi hl) r3 r4 r5
/-- a branch -/
theorem mAtW.br {C : Prop} {pt pf : Nat} {st' : List Value} (hb : m_br C (mAtW dC dI B H0 p l e R s m args below meth c Q n pt L st' M) (mAtW dC dI B H0 p l e R s m args below meth c Q n pf L st' M)) (h : ∀ (H : Heap) (ls : Array Slot) (locs : List Loc) (cells slots : Nat), (C → W p l e R s m args below meth c H locs cells slots Q (F0 m pt ls st')) → (¬ C → W p l e R s m args below meth c H locs cells slots Q (F0 m pf ls st')) → W p l e R s m args below meth c H locs cells slots Q (F0 m pc ls st)) : mAtW dC dI B H0 p l e R s m args below meth c Q n pc L st M :=
  fun H ls locs cells slots r1 r2 r3 r4 r5 => h H ls locs cells slots (fun z => hb.1 z H ls locs cells slots r1 r2 r3 r4 r5) (fun z => hb.2 z H ls locs cells slots r1 r2 r3 r4 r5)
/-- a store into a cell -/
theorem mAtW.put {pc' a : Nat} {M' : mM} {st' : List Value} (ha : mkd M a ≠ 0) (hw : mkd M a < 200) (e1 : M'.1 = M.1) (e2 : msz M' = msz M) (e3 : mns M' = mns M) (ag : ∀ b, b ≠ a → mAg M M' b)
    (k : mAtW dC dI B H0 p l e R s m args below meth c Q n pc' L st' M')
    (h : ∀ (H : Heap) (ls : Array Slot) (locs : List Loc) (cells slots : Nat), mRel dC dI B H0 M H → (∀ (H' : Heap) (i : Nat), mCell dC dI M' a (mkd M a) H' → H'.size = H.size → (∀ q, q ≠ a → H'[q]? = H[q]?) → W p l e R s m args below meth c H' (locs ++ [⟨a, i⟩]) cells slots Q (F0 m pc' ls st')) → W p l e R s m args below meth c H locs cells slots Q (F0 m pc ls st)) : mAtW dC dI B H0 p l e R s m args below meth c Q n pc L st M :=
  fun H ls locs cells slots r1 r2 r3 r4 r5 => h H ls locs cells slots r1 fun H' i hc z oq => k H' ls _ cells slots (r1.put ha hw e1 e2 e3 ag z oq hc) r2 (fun q hq => by
    rcases List.mem_append.mp hq with h1 | h1
    · exact r3 q h1
    · rw [List.mem_singleton] at h1
      subst h1
      exact (r1.2.2.2 a ha).1.2.2 hw) (by rw [e2]; exact r4) (by rw [e3]; exact r5)
/-- a new cell -/
theorem mAtW.new {pc' kd ln cst : Nat} {st' : List Value} (hk : kd < 200) (hk0 : ¬ kd = 0) (hr : msz M - B + 1 ≤ mCC ∧ mns M + cst ≤ mCS)
    (k : mAtW dC dI B H0 p l e R s m args below meth c Q n pc' L st' (mnw M kd ln cst))
    (h : ∀ (H : Heap) (ls : Array Slot) (locs : List Loc) (cells slots : Nat), H.size = msz M → cells + 1 ≤ R.cells → slots + cst ≤ R.slots → (∀ H' : Heap, mCell dC dI (mnw M kd ln cst) (msz M) kd H' → H'.size = H.size + 1 → (∀ q, q < H.size → H'[q]? = H[q]?) → W p l e R s m args below meth c H' locs (cells + 1) (slots + cst) Q (F0 m pc' ls st')) → W p l e R s m args below meth c H locs cells slots Q (F0 m pc ls st)) : mAtW dC dI B H0 p l e R s m args below meth c Q n pc L st M :=
  fun H ls locs cells slots r1 r2 r3 r4 r5 => h H ls locs cells slots r1.1 (by omega) (by omega) fun H' hc z oq => k H' ls _ (cells + 1) (slots + cst) (r1.new hk hk0 hr z oq hc) r2 r3 (by
    have : msz (mnw M kd ln cst) = msz M + 1 := rfl
    have := r1.2.1
    omega) (by
    have : mns (mnw M kd ln cst) = mns M + cst := rfl
    omega)
/-- a read of a cell -/
theorem mAtW.rd {pc' : Nat} {st' : List Value} (k : mAtW dC dI B H0 p l e R s m args below meth c Q n pc' L st' M) (h : ∀ (H : Heap) (ls : Array Slot) (locs : List Loc) (cells slots : Nat), mRel dC dI B H0 M H → W p l e R s m args below meth c H locs cells slots Q (F0 m pc' ls st') → W p l e R s m args below meth c H locs cells slots Q (F0 m pc ls st)) : mAtW dC dI B H0 p l e R s m args below meth c Q n pc L st M :=
  fun H ls locs cells slots r1 r2 r3 r4 r5 => h H ls locs cells slots r1 (k H ls locs cells slots r1 r2 r3 r4 r5)
theorem m_sz1 {cA : ClassId} {nn : Nat} {f : Nat → Value} {j : Int32} (hin : vp_in j nn) : ¬ (j < 0 ∨ (arrV cA nn f).slots.size ≤ j.toNatClampNeg) := by rw [arrV_size]; exact hin
theorem m_rd1 {cA : ClassId} {nn : Nat} {f : Nat → Value} {j : Int32} (hin : vp_in j nn) : (arrV cA nn f).slots[j.toNatClampNeg]? = some (f j.toNatClampNeg) := arrV_read _ _ (Nat.not_le.mp fun q => hin (Or.inr q))
theorem m_gtI {x : Int32} (hexec : p.tables.exec = Jvm.exec) (hb : c.code = cc) {H : Heap} {locs : List Loc} {cells slots : Nat} {ls : Array Slot} {r : List Value} {off : Int} {tgt : Nat} (hdg : decode cc pc = .ok (.ifCond .gt off, 3)) (ht : (pc : Int) + off = (tgt : Int))
    (kt : 0 < x → W p l e R s m args below meth c H locs cells slots Q (F0 m tgt ls r)) (kf : ¬ 0 < x → W p l e R s m args below meth c H locs cells slots Q (F0 m (pc + 3) ls r)) : W p l e R s m args below meth c H locs cells slots Q (F0 m pc ls (.int x :: r)) := lv_if_gt hexec hb hdg ht kt kf
end SND
