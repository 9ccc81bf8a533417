/-! A THROW: 'new E', dup, ldc, '<init>', athrow, walked as if the method began there -/
abbrev mBase (s T : State) : State := { s with heap := T.heap, slotsUsed := T.slotsUsed, vm := T.vm }
abbrev mRoomB (R : Room) (cells slots : Nat) : Room := { R with cells := R.cells - cells, slots := R.slots - slots }
theorem mRebase {p : Program} {l : Launch} {e : Env} {R : Room} {s : State} {m : MethodId} {args : Array Value} {below : List Frame} {meth : Method} {c : Code} {T : State} {locs : List Loc} {cells slots : Nat}
    (X : Stand p l e R s m args below meth c T locs cells slots) (hc : cells ≤ R.cells) (hs : slots ≤ R.slots) : Stand p l e (mRoomB R cells slots) (mBase s T) m args below meth c T [] 0 0 := by
  have e1 : T.setVm s.vm = { s.setFrames T.frames with heap := T.heap, slotsUsed := T.slotsUsed } := X.same.1
  have hroom := X.room
  have hsz := X.heapSize
  have hus := X.used
  have hl0 : (mBase s T).localsInUse = s.localsInUse := by
    unfold State.localsInUse
    have f1 : (mBase s T).frames = s.frames := rfl
    rw [f1, X.frames]
    have h2 := X.method
    have h3 : (mBase s T).vm.method? m = some meth := X.method'
    simp only [h2, h3]
  refine ⟨X.admits, X.cas, X.clock, X.frames, ?_, ?_, X.method', X.code, X.here, X.tail, State.WarmedH.refl _, X.limits, X.bytes, ?_⟩
  · simp only [State.hasRoom, Bool.and_eq_true, decide_eq_true_eq] at hroom ⊢
    obtain ⟨⟨⟨⟨h1, h2⟩, h3⟩, h4⟩, -⟩ := hroom
    rw [hl0]
    refine ⟨⟨⟨⟨h1, h2⟩, ?_⟩, ?_⟩, X.book⟩
    · show T.heap.size + (R.cells - cells) ≤ _
      omega
    · show T.slotsUsed + (R.slots - slots) ≤ _
      omega
  · have hh := X.hears
    cases below with
    | nil =>
      simp only [State.hears] at hh ⊢
      rw [X.method'] 
      rw [X.method] at hh
      exact hh
    | cons f r =>
      cases f with
      | java g =>
        simp only [State.hears] at hh ⊢
        have : (mBase s T).code? g.method = s.code? g.method := by
          rw [State.code?_eq, State.code?_eq]
          show (T.vm.method? g.method).bind _ = _
          rw [X.warmed.alike.method?]
        rw [this]
        exact hh
      | _ =>
        simp only [State.hears] at hh ⊢
        try rw [X.method']
        try rw [X.method] at hh
        try exact hh
  · have e2 : T.setVm (mBase s T).vm = { (mBase s T).setFrames T.frames with heap := T.heap, slotsUsed := T.slotsUsed } := by
      have : T = (T.setVm s.vm).setVm T.vm := rfl
      show T.setVm T.vm = _
      rw [show T.setVm T.vm = (T.setVm s.vm).setVm T.vm from rfl, e1]
      rfl
    refine ⟨e2, Nat.le_refl _, Nat.le_refl _, ?_, ?_, fun a c0 h => ⟨c0, h, rfl, rfl, fun _ _ => rfl⟩⟩
    · show T.slotsUsed = T.slotsUsed + _
      have : (T.heap.toList.drop T.heap.size) = [] := List.drop_eq_nil_of_le (by simp)
      show T.slotsUsed = T.slotsUsed + ((T.heap.toList.drop T.heap.size).map (·.slots.size)).sum
      rw [this]; rfl
    · show ((T.heap.toList.drop T.heap.size).map (·.slots.size)).sum ≤ 0
      have : (T.heap.toList.drop T.heap.size) = [] := List.drop_eq_nil_of_le (by simp)
      rw [this]; exact Nat.le_refl _
/-- what came behind the rebased start, said of the first one -/
theorem mUnbase {p : Program} {l : Launch} {e : Env} {R : Room} {s : State} {m : MethodId} {args : Array Value} {below : List Frame} {meth : Method} {c : Code} {T U : State} {locs L : List Loc} {cells slots k n : Nat}
    (X : Stand p l e R s m args below meth c T locs cells slots) (h : (mBase s T).sameButNew ({ U with vm := (mBase s T).vm } : State) L k n) : s.sameButNew ({ U with vm := s.vm } : State) (locs ++ L) (cells + k) (slots + n) := by
  have e1 : T.setVm s.vm = { s.setFrames T.frames with heap := T.heap, slotsUsed := T.slotsUsed } := X.same.1
  obtain ⟨g1, g2, g3, g4, g5, g6⟩ := h
  refine X.same.trans ⟨?_, g2, g3, g4, g5, g6⟩
  have e3 : (T.setVm s.vm).setFrames U.frames = ({ s.setFrames U.frames with heap := T.heap, slotsUsed := T.slotsUsed } : State) := by
    rw [e1]
    show ({ (s.setFrames T.frames).setFrames U.frames with heap := T.heap, slotsUsed := T.slotsUsed } : State) = _
    rw [State.setFrames_setFrames]
  have e4 := congrArg (fun z : State => z.setVm s.vm) g1
  refine Eq.trans (b := ({ (mBase s T).setFrames U.frames with heap := U.heap, slotsUsed := U.slotsUsed } : State).setVm s.vm) e4 ?_
  show _ = ({ (T.setVm s.vm).setFrames U.frames with heap := U.heap, slotsUsed := U.slotsUsed } : State)
  rw [e3]
  rfl
theorem m_fit90 : Bundle.fit (mNm 90) = true := by decide +kernel
theorem m_fit91 : Bundle.fit (mNm 91) = true := by decide +kernel
theorem m_fits : ∀ n ∈ ["java/lang/RuntimeException", "java/lang/Exception"], Bundle.fit n = true := by decide +kernel
section THR
variable {dC : Nat → ClassId} {dI : Nat → Nat → Nat} {dS : Nat → Nat} {B : Nat} {H0 : Heap}
variable {p : Program} {l : Launch} {e : Env} {R : Room} {s : State} {m : MethodId} {args : Array Value} {below : List Frame} {meth : Method} {c : Code} {pc : Nat} {L : mL} {st : List Value} {M : mM}
set_option maxHeartbeats 4000000 in
theorem m_throw {y ix kd li ii : Nat} (CX : mCtx2 dC dI dS B H0 y p e R s m meth c) (d : decode (mBy y) pc = .ok (.new ix, 3)) (hl : mW1 (.classLink (mOwn y) ix (mNm kd)) = true) (ht : mThr y pc kd li ii = true) (hy0 : 0 < y) (hcat : m_cat st ≤ 8) (hr : msz M - B + 1 ≤ mCC ∧ mns M + 6 ≤ mCS) {Qm : mQ} (hq : Qm (.inr (msz M)) (mnw M kd 0 6)) :
    mAtW dC dI B H0 p l e R s m args below meth c (mEnd dC dI B H0 R s below Qm) (mNL y) pc L st M := by
  obtain ⟨⟨hx, hb, hml, hrt, hlocks, hown, hini, hKn, hfr, hlo, htr⟩, hK2, hH, hab, hex, -⟩ := CX
  unfold mExc at hex
  rw [if_neg (by omega)] at hex
  simp only [mThr, Bool.and_eq_true, Bool.or_eq_true, decide_eq_true_eq, Nat.ble_eq, List.any_eq_true, List.all_eq_true] at ht
  obtain ⟨⟨⟨⟨⟨⟨⟨⟨⟨⟨d3, d4⟩, d6⟩, d9⟩, hkd⟩, w1⟩, w2⟩, ⟨r, hr1, hr2, hr3⟩⟩, hf6⟩, hl90⟩, hat⟩ := ht
  obtain ⟨sid, hsid⟩ := List.getElem?_of_mem hr1
  intro H ls locs cells slots r1 r2 r3 r4 r5 T hT X
  have hsz := r1.1
  have X' := mRebase X (by omega) (by omega)
  have hKn' : mKnow dC dI (mBase s T) := hKn.moved (U := mBase s T) X.warmed
  have hK2' : mKn2 dS B H0 (mBase s T) := hK2.moved (U := mBase s T) X.warmed
  have hH' : ∀ q : Nat, q < B → (mBase s T).heap[q]? = H0[q]? := fun q hq' => by
    show T.heap[q]? = _
    rw [hT]; exact r1.2.2.1 q hq'
  have hown' : (mBase s T).vm.findClass (mOwn y) = some m.cls := by
    show T.vm.findClass _ = _
    rw [X.warmed.alike.findClass]; exact hown
  have hfc : (mBase s T).vm.findClass (mNm kd) = some (dC kd) := by
    rcases hkd with rfl | rfl
    · exact hKn'.2.2.2.1.1
    · exact hKn'.2.2.2.1.2.1
  have hfit : Bundle.fit (mNm kd) = true := by
    rcases hkd with rfl | rfl
    · exact m_fit90
    · exact m_fit91
  have hZ : vk_R (mOwn y) li r.2.2 (dS sid) (mBase s T) := by
    have := hK2'.2.2.1 sid r hsid
    rw [hr2, hr3] at this
    exact this
  have hatoms : ∀ a ∈ Bundle.ownAtoms (mOwn y) ii (mNm kd) ["java/lang/RuntimeException", "java/lang/Exception"], a.before args (mBase s T) = true := by
    intro w hw
    rcases hat w hw with ((((h1 | h1) | h1) | h1) | h1) | h1
    · exact hKn'.word h1 args
    · exact hK2'.2.2.2.1 w h1.1 h1.2 args
    · rw [h1]; exact (hK2'.1.use hH' args).1
    · rw [h1]; exact (hK2'.2.1.use hH' args).1
    · rw [h1]; exact (hK2'.1.use hH' args).2
    · rw [h1]; exact (hK2'.2.1.use hH' args).2
  have key : W p l e (mRoomB R cells slots) (mBase s T) m args below meth c H [] 0 0 (fun U => U.status = .running ∧ Ended U below (.threw (msz M)) ∧ (mBase s T).WarmedH U.vm ∧ (mBase s T).sameButNew ({ U with vm := (mBase s T).vm } : State) [] 1 6 ∧ ∃ ce : Cell, U.heap[msz M]? = some ce ∧ ce.cls = dC kd ∧ ce.vm = .none) (F0 m pc ls st) := by
    refine W.newcK hx hb hown' (hKn'.word hl args) (hKn'.word w1 args) (hKn'.word w2 args) rfl d (by show 0 + 1 ≤ R.cells - cells; omega) (by show 0 + 6 ≤ R.slots - slots; omega) hfc hsz fun H' kC hkC e1 z1 o1 => ?_
    refine lv_dup hx hb d3 rfl ?_
    refine va_ldcS hx hb hown' hZ d4 ?_
    intro T2 hT2 X2
    obtain ⟨U, g1, g2, g3, g4, g5, ce, g6, g7⟩ := X2.ctorThrowS hx htr hown' hfit m_fits hatoms (fun x hx' => by cases hx') hfc hkC (a := msz M) (by rw [hT2]; exact e1) (by show T.heap.size ≤ _; rw [hT, hsz]; exact Nat.le_refl _) (msg := .ref (dS sid)) rfl
      (g := F0 m (pc + 6) ls (.ref (dS sid) :: .ref (msz M) :: .ref (msz M) :: st)) rfl (by rw [hml]; exact r2.1) rfl rfl rfl (by rw [hb]; exact d6) (by rw [hb]; exact d9)
      (fun z hz => by rw [Array.isEmpty_iff.mp hex] at hz; cases hz) (by show 2 + 3 < R.frames; omega) (by
        show 2 * 0 + (1 + m_cat st) + (13 * (2 + 1) + 42) ≤ R.locals
        omega) hlocks
    exact ⟨U, g1, g2, g3, g4, g5, ce, g6, by
      have := g7.cls
      exact (Option.some.inj (hfc.symm.trans this)).symm, g7.vm⟩
  obtain ⟨U, st1, g1, g2, g3, g4, ce, g5, g6, g7⟩ := key T hT X'
  have g8 : s.sameButNew ({ U with vm := s.vm } : State) (locs ++ []) (cells + 1) (slots + 6) := mUnbase X g4
  have hgr : U.heap.size = H.size + 1 := by
    have a1 : U.heap.size ≤ T.heap.size + 1 := g4.2.2.1
    have a2 := (Array.getElem?_eq_some_iff.mp g5).1
    rw [hT] at a1
    omega
  have hold : ∀ q : Nat, q < H.size → U.heap[q]? = H[q]? := fun q hq' => by
    have hc0 : (mBase s T).heap[q]? = some H[q] := by
      show T.heap[q]? = _
      rw [hT]; exact Array.getElem?_eq_getElem hq'
    obtain ⟨c', b1, b2, b3, b4⟩ := g4.2.2.2.2.2 q _ hc0
    have b5 : c'.slots = H[q].slots := Array.ext_getElem? fun i => b4 i (by simp)
    rw [show U.heap[q]? = some c' from b1, b2, b5]
    rw [Array.getElem?_eq_getElem hq']
  have hrel : mRel dC dI B H0 (mnw M kd 0 6) U.heap := r1.new (by omega) (by omega) hr hgr hold (mCell_exc (by omega) (by omega) g5 g6 g7)
  refine ⟨U, st1, .inr (msz M), mnw M kd 0 6, .threw (msz M), locs ++ [], cells + 1, slots + 6, hq, rfl, hrel, g1, g2, ?_, g8, fun q hq' => r3 q (by simpa using hq'), ?_, ?_⟩
  · exact State.WarmedH.trans X.warmed g3
  · have : msz (mnw M kd 0 6) = msz M + 1 := rfl
    have := r1.2.1
    omega
  · have : mns (mnw M kd 0 6) = mns M + 6 := rfl
    omega
end THR
