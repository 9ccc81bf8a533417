/-! THE LAW'S OWN 'run' CATCHES; the class of a catch may be linked there for the first time -/
theorem m_goLink {Q : Handler → Pre} {E : CtlPost} {e : Env} {d : Bool} {acts : List Action} {s : State} {f : JFrame} {a : Addr} {x : ExceptionTableEntry} {t : List ExceptionTableEntry} {cT : ClassId} {cell : Cell} (hx : covers x f.pc = true) (h0 : x.catchType ≠ 0)
    (hl : s.vm.ClassLinks e.platform f.method.cls x.catchType cT) (hcell : s.heap[a]? = some cell) (hobj : ∀ k, cell.vm ≠ .statics k) (hk : ∃ k, s.vm.classes[cell.cls]? = some k) (hc : ∃ k, s.vm.classes[cT]? = some k) :
    wp (findHandler.go f a (x :: t)) Q E e d acts s ↔ if s.vm.assignable cell.cls cT = true then Q (.found x.handlerPc) d acts (s.setVm (s.vm.noted f.method.cls x.catchType (.cls cT))) else wp (findHandler.go f a t) Q E e d acts (s.setVm (s.vm.noted f.method.cls x.catchType (.cls cT))) := by
  simp only [covers] at hx
  obtain ⟨ha, ht⟩ := (resolveClass_links e.toSetting hl).op (op := VmOp.resolveClass f.method.cls x.catchType) rfl
  have hal : s.vm.Alike (s.vm.noted f.method.cls x.catchType (.cls cT)) := (Vm.Alike.refl s.vm).noted _ _ _
  obtain ⟨k1, hk1⟩ := hk
  obtain ⟨k2, hk2⟩ := hc
  obtain ⟨k1', hk1', -⟩ := hal.2.2 _ _ hk1
  obtain ⟨k2', hk2', -⟩ := hal.2.2 _ _ hk2
  cases hfit : s.vm.assignable cell.cls cT
  · have hf' : (s.vm.noted f.method.cls x.catchType (.cls cT)).assignable cell.cls cT = false := by rw [hal.assignable]; exact hfit
    simp [findHandler.go, hx, h0, ha, ht, hcell, hobj, hk1', hk2', hf', VmOp.dirties, VmOp.acts]
  · have hf' : (s.vm.noted f.method.cls x.catchType (.cls cT)).assignable cell.cls cT = true := by rw [hal.assignable]; exact hfit
    simp [findHandler.go, hx, h0, ha, ht, hcell, hobj, hk1', hk2', hf', VmOp.dirties, VmOp.acts]
/-- a search that ends at a handler, and leaves other tables -/
def mFinds (e : Env) (s : State) (f : JFrame) (a : Addr) (pc : Nat) (vm' : Vm) : Prop := ∀ (Q : Handler → Pre) (E : CtlPost) (d : Bool) (acts : List Action), wp (findHandler f a) Q E e d acts s ↔ Q (.found pc) d acts (s.setVm vm')
theorem m_caught {tb : Tables} {e : Env} {s target : State} {g : JFrame} {c : Code} {below : List Frame} {a : Addr} (h : At s g.method c below) {pc : Nat} {vm' : Vm} (hfind : mFinds e ((s.setTop g).pushFrame (.throwing a)) g a pc vm')
    (hrest : Steps tb e below ((s.setVm vm').setTop { g with pc := pc, stack := [.ref a] }) target) : Steps tb e below ((s.setTop g).pushFrame (.throwing a)) target := by
  obtain ⟨hgo, hw⟩ := h.throwing a
  refine Steps.head hgo hw ?_
  have key : (stepThrowing e ((s.setTop g).pushFrame (.throwing a)) a (.java g :: s.frames.tail)).1 = (((s.setTop g).pushFrame (.throwing a)).setVm vm').setFrames (.java { g with pc := pc, stack := [.ref a] } :: s.frames.tail) := by
    simp only [stepThrowing, searchFrame, vmDo]
    generalize hr : Sem.go _ e false [] ((s.setTop g).pushFrame (.throwing a)) = res
    obtain ⟨as, rfl, ha⟩ := Sem.eq_ok_of hr (a := Handler.found pc) (s' := ((s.setTop g).pushFrame (.throwing a)).setVm vm') (acts' := []) (by simp [hfind _ _ _ _])
    rfl
  rw [stepThread_throwing (frames_entered h.top _), key]
  obtain ⟨g₀, hg⟩ := Option.isSome_iff_exists.mp h.top
  obtain ⟨r, hr⟩ := State.topJava?_eq_some.mp hg
  have hr' : (s.setVm vm').frames = .java g₀ :: r := hr
  rw [State.setTop_of_frames _ hr'] at hrest
  rw [hr, List.tail_cons, State.pushFrame, State.setTop_of_frames _ hr]
  have e1 : ∀ (u : State) (F G K : List Frame), (((u.setFrames F).setFrames G).setVm vm').setFrames K = (u.setVm vm').setFrames K := fun u F G K => by
    rw [State.setFrames_setFrames]
    show ((u.setVm vm').setFrames G).setFrames K = _
    rw [State.setFrames_setFrames]
  rw [e1]
  exact hrest
section CAT
variable {dC : Nat → ClassId} {dI : Nat → Nat → Nat} {B : Nat} {H0 : Heap}
variable {p : Program} {l : Launch} {e : Env} {R : Room} {s : State} {m : MethodId} {args : Array Value} {below : List Frame} {meth : Method} {c : Code} {M : mM} {T : State} {locs : List Loc} {cells slots : Nat} {ls : Array Slot} {rest : List Value} {pc a : Nat} {own : String}
theorem m_hnd (he : c.exceptionTable.toList.map (fun h => (h.startPc, h.endPc, h.handlerPc, h.catchType)) = mHnd) : c.exceptionTable.toList = [⟨0, 8, 11, 13⟩, ⟨0, 8, 14, 15⟩] := by
  match hl : c.exceptionTable.toList, he with
  | [⟨x1, x2, x3, x4⟩, ⟨y1, y2, y3, y4⟩], he =>
    simp only [mHnd, List.map_cons, List.map_nil, List.cons.injEq, Prod.mk.injEq, and_true] at he
    obtain ⟨⟨rfl, rfl, rfl, rfl⟩, ⟨rfl, rfl, rfl, rfl⟩⟩ := he
    rfl
theorem m_exc {k : Nat} (r1 : mRel dC dI B H0 M T.heap) (hk : mkd M a = k) (h1 : 10 ≤ k) (h2 : k < 100) : ∃ ce : Cell, T.heap[a]? = some ce ∧ ce.cls = dC k ∧ ce.vm = .none := by
  subst hk
  exact (r1.2.2.2 a (by omega)).2.2.1 h1 h2
theorem m_catch0 (X : Stand p l e R s m args below meth c T locs cells slots) (hown : s.vm.findClass own = some m.cls) (w0 : (Cond.classLink own 13 (mNm 90)).before args s = true) (hKn : mKnow dC dI s) (hK3 : mKn3 dC s) (he : c.exceptionTable.toList.map (fun h => (h.startPc, h.endPc, h.handlerPc, h.catchType)) = mHnd) (hpc : pc < 8) (r1 : mRel dC dI B H0 M T.heap) (hk : mkd M a = 90) :
    ∃ vm', Stand p l e R s m args below meth c (T.setVm vm') locs cells slots ∧ ∀ target, Steps p.tables e below ((T.setVm vm').setTop (F0 m 11 ls [.ref a])) target → Steps p.tables e below ((T.setTop (F0 m pc ls rest)).pushFrame (.throwing a)) target := by
  have hpl : e.platform.magicAccessors = ({} : Platform).magicAccessors := by rw [X.admits.platform]
  obtain ⟨c', hc', hcl⟩ := Cond.classLink_spec hown w0 e.platform hpl
  cases hKn.2.2.2.1.1.symm.trans hc'
  obtain ⟨dk, _, _, kt, hd, _, _, _, _, hkt, _, hopen⟩ := hcl.here
  have hW' : s.WarmedH (T.vm.noted m.cls 13 (.cls (dC 90))) := X.warmed.noted hd hopen (State.rightAt_cls hcl)
  have hcl₀ := X.warmed.classLinks hcl
  obtain ⟨ce, e1, e2, e3⟩ := m_exc r1 hk (by decide) (by decide)
  obtain ⟨f1, f2, f3, ⟨k1, f4⟩, f5⟩ := hK3.moved (U := T) X.warmed
  refine ⟨_, X.noted hW', fun target hrest => ?_⟩
  refine m_caught (g := F0 m pc ls rest) X.here (pc := 11) (vm' := T.vm.noted m.cls 13 (.cls (dC 90))) (fun Q E d acts => ?_) hrest
  rw [W.findHandler_eq (s := (T.setTop (F0 m pc ls rest)).pushFrame (.throwing a)) (f := F0 m pc ls rest) (meth := meth) (code := c) X.method' X.code, m_hnd he]
  rw [m_goLink (e := e) (x := ⟨0, 8, 11, 13⟩) (t := [⟨0, 8, 14, 15⟩]) (s := (T.setTop (F0 m pc ls rest)).pushFrame (.throwing a)) (f := F0 m pc ls rest) (cT := dC 90) (cell := ce) (by simp only [covers]; simp; omega) (by decide) hcl₀ e1 (by rw [e3]; intro k h; cases h) (by rw [e2]; exact ⟨k1, f4⟩) ⟨k1, f4⟩, if_pos (by rw [e2]; exact f2)]
  exact Iff.rfl
theorem m_catch1 (X : Stand p l e R s m args below meth c T locs cells slots) (hown : s.vm.findClass own = some m.cls) (w0 : (Cond.classLink own 13 (mNm 90)).before args s = true) (w1 : (Cond.classLink own 15 (mNm 91)).before args s = true) (hKn : mKnow dC dI s) (hK3 : mKn3 dC s) (he : c.exceptionTable.toList.map (fun h => (h.startPc, h.endPc, h.handlerPc, h.catchType)) = mHnd) (hpc : pc < 8) (r1 : mRel dC dI B H0 M T.heap) (hk : mkd M a = 91) :
    ∃ vm', Stand p l e R s m args below meth c (T.setVm vm') locs cells slots ∧ ∀ target, Steps p.tables e below ((T.setVm vm').setTop (F0 m 14 ls [.ref a])) target → Steps p.tables e below ((T.setTop (F0 m pc ls rest)).pushFrame (.throwing a)) target := by
  have hpl : e.platform.magicAccessors = ({} : Platform).magicAccessors := by rw [X.admits.platform]
  obtain ⟨c', hc', hcl⟩ := Cond.classLink_spec hown w0 e.platform hpl
  cases hKn.2.2.2.1.1.symm.trans hc'
  obtain ⟨c2', hc2', hcl2⟩ := Cond.classLink_spec hown w1 e.platform hpl
  cases hKn.2.2.2.1.2.1.symm.trans hc2'
  obtain ⟨dk, _, _, kt, hd, _, _, _, _, hkt, _, hopen⟩ := hcl.here
  obtain ⟨dk2, _, _, kt2, hd2, _, _, _, _, hkt2, _, hopen2⟩ := hcl2.here
  have hW' : s.WarmedH (T.vm.noted m.cls 13 (.cls (dC 90))) := X.warmed.noted hd hopen (State.rightAt_cls hcl)
  have hW2 : s.WarmedH ((T.vm.noted m.cls 13 (.cls (dC 90))).noted m.cls 15 (.cls (dC 91))) := hW'.noted hd2 hopen2 (State.rightAt_cls hcl2)
  have hcl₀ := X.warmed.classLinks hcl
  have hcl₂ := hW'.classLinks hcl2
  obtain ⟨ce, e1, e2, e3⟩ := m_exc r1 hk (by decide) (by decide)
  obtain ⟨f1, f2, f3, ⟨k1, f4⟩, ⟨k2, f5⟩⟩ := hK3.moved (U := T) X.warmed
  obtain ⟨g1, g2, g3, ⟨j1, g4⟩, ⟨j2, g5⟩⟩ := hK3.moved (U := T.setVm (T.vm.noted m.cls 13 (.cls (dC 90)))) hW'
  refine ⟨_, X.noted hW2, fun target hrest => ?_⟩
  refine m_caught (g := F0 m pc ls rest) X.here (pc := 14) (vm' := (T.vm.noted m.cls 13 (.cls (dC 90))).noted m.cls 15 (.cls (dC 91))) (fun Q E d acts => ?_) hrest
  rw [W.findHandler_eq (s := (T.setTop (F0 m pc ls rest)).pushFrame (.throwing a)) (f := F0 m pc ls rest) (meth := meth) (code := c) X.method' X.code, m_hnd he]
  rw [m_goLink (e := e) (x := ⟨0, 8, 11, 13⟩) (t := [⟨0, 8, 14, 15⟩]) (s := (T.setTop (F0 m pc ls rest)).pushFrame (.throwing a)) (f := F0 m pc ls rest) (cT := dC 90) (cell := ce) (by simp only [covers]; simp; omega) (by decide) hcl₀ e1 (by rw [e3]; intro k h; cases h) (by rw [e2]; exact ⟨k2, f5⟩) ⟨k1, f4⟩, if_neg (by rw [e2]; show ¬ T.vm.assignable _ _ = true; rw [f1]; decide)]
  refine Iff.trans (m_goLink (e := e) (x := ⟨0, 8, 14, 15⟩) (t := []) (s := ((T.setTop (F0 m pc ls rest)).pushFrame (.throwing a)).setVm (T.vm.noted m.cls 13 (.cls (dC 90)))) (f := F0 m pc ls rest) (cT := dC 91) (cell := ce) (by simp only [covers]; simp; omega) (by decide) hcl₂ e1 (by rw [e3]; intro k h; cases h) (by rw [e2]; exact ⟨j2, g5⟩) ⟨j2, g5⟩) ?_
  rw [if_pos (by rw [e2]; exact g3)]
  exact Iff.rfl
end CAT
