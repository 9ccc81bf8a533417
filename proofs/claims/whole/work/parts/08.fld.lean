/-! FIELDS -/
def mFok (k : Nat) : Bool := (u_ws (mNm k) (mT k) (mN k)).all mW1 && (List.range (mN k)).all fun a => decide (parseFieldDescriptor (mT k a).2.2.1 = some (mY k a)) && ((List.range (mN k)).all fun b => decide (a = b) || decide ((mT k a).2.1 ≠ (mT k b).2.1)) && decide ((mT k a).1 = mNm k)
set_option maxRecDepth 100000 in
theorem mFok_all : (List.range 12).all (fun k => mFok (100 + k)) = true := by decide +kernel
theorem mFok_at {k : Nat} (h1 : 100 ≤ k) (h2 : k < 112) : mFok k = true := by
  have := List.all_eq_true.mp mFok_all (k - 100) (List.mem_range.mpr (by omega))
  rwa [show 100 + (k - 100) = k by omega] at this
theorem mW1_el {w : Cond} (h : mW1 w = true) : w ∈ lw_tbl ∧ goodWord w = true := by
  unfold mW1 at h
  rw [Bool.and_eq_true, decide_eq_true_eq] at h
  exact h
theorem mKnow.word {dC : Nat → ClassId} {dI : Nat → Nat → Nat} {U : State} (h : mKnow dC dI U) {w : Cond} (hw : mW1 w = true) (a : Array Value) : w.before a U = true := h.1 w (mW1_el hw).1 (mW1_el hw).2 a
theorem mFok_ws {k : Nat} (h : mFok k = true) : ∀ w ∈ u_ws (mNm k) (mT k) (mN k), mW1 w = true := by
  unfold mFok at h
  rw [Bool.and_eq_true] at h
  exact List.all_eq_true.mp h.1
theorem mFok_fd {k a : Nat} (h : mFok k = true) (ha : a < mN k) : parseFieldDescriptor (mT k a).2.2.1 = some (mY k a) ∧ (∀ b, b < mN k → a ≠ b → (mT k a).2.1 ≠ (mT k b).2.1) ∧ (mT k a).1 = mNm k := by
  unfold mFok at h
  rw [Bool.and_eq_true] at h
  have := List.all_eq_true.mp h.2 a (List.mem_range.mpr ha)
  rw [Bool.and_eq_true, Bool.and_eq_true, decide_eq_true_eq, decide_eq_true_eq] at this
  obtain ⟨⟨g1, g2⟩, g3⟩ := this
  refine ⟨g1, fun b hb hne => ?_, g3⟩
  have := List.all_eq_true.mp g2 b (List.mem_range.mpr hb)
  rw [Bool.or_eq_true, decide_eq_true_eq, decide_eq_true_eq] at this
  exact this.resolve_left hne
/-- the words of a class, as a list of their own -/
theorem mKnow.ws {dC : Nat → ClassId} {dI : Nat → Nat → Nat} {U : State} (h : mKnow dC dI U) {k : Nat} (h1 : 100 ≤ k) (h2 : k < 112) (a : Array Value) : ∀ w ∈ u_ws (mNm k) (mT k) (mN k), w.before a U = true := fun w hw => h.word (mFok_ws (mFok_at h1 h2) w hw) a
theorem mKnow.apart {dC : Nat → ClassId} {dI : Nat → Nat → Nat} {U : State} (h : mKnow dC dI U) {k : Nat} (h1 : 100 ≤ k) (h2 : k < 112) : ∀ x y, x < mN k → y < mN k → x ≠ y → dI k x ≠ dI k y := by
  intro x y hx hy hne
  obtain ⟨hS, -⟩ := h.2.1 k h1 h2
  obtain ⟨_, _, _, fa, hia, ea⟩ := hS x hx
  obtain ⟨_, _, _, fb, hib, eb⟩ := hS y hy
  rw [← ea, ← eb]
  have hw := h.ws h1 h2 #[]
  refine u_apart (u_lays hw (fun _ z => z) hx) (u_lays hw (fun _ z => z) hy) hia hib ?_
  have o := mFok_at h1 h2
  rw [(State.fieldFound?_type hia (mFok_fd o hx).1).1, (State.fieldFound?_type hib (mFok_fd o hy).1).1]
  exact (mFok_fd o hx).2.1 y hy hne
theorem mFld_el {y ix kd f : Nat} (h : mFld y ix kd f = true) : 100 ≤ kd ∧ kd < 112 ∧ f < mN kd ∧ mW1 (.fieldLink (mOwn y) ix (mNm kd) (mT kd f).2.1 (mT kd f).2.2.1) = true := by
  unfold mFld at h
  simp only [Bool.and_eq_true, Nat.ble_eq, Nat.blt_eq] at h
  exact ⟨h.1.1.1.1, h.1.1.1.2, h.1.1.2, h.1.2⟩
section FLD
variable {dC : Nat → ClassId} {dI : Nat → Nat → Nat} {B : Nat} {H0 : Heap}
variable {p : Program} {l : Launch} {e : Env} {R : Room} {s : State} {m : MethodId} {args : Array Value} {below : List Frame} {meth : Method} {c : Code} {Q : State → Prop} {pc : Nat} {M : mM}
variable {H : Heap} {locs : List Loc} {cells slots : Nat} {ls : Array Slot} {r : List Value}
theorem m_getf {y ix kd f a : Nat} (CX : mCtx dC dI y p e R s m meth c) (hF : mFld y ix kd f = true) (hR : mRel dC dI B H0 M H) (hk : mkd M a = kd) {v : Value} (hv : mOV M a kd f = v) (d : decode (mBy y) pc = .ok (.getfield ix, 3))
    (kk : W p l e R s m args below meth c H locs cells slots Q (F0 m (pc + 3) ls (v :: r))) : W p l e R s m args below meth c H locs cells slots Q (F0 m pc ls (.ref a :: r)) := by
  obtain ⟨hx, hb, -, -, -, hown, -, hKn, -⟩ := CX
  obtain ⟨k1, k2, kf, kl⟩ := mFld_el hF
  obtain ⟨cell, q1, q2, q3, q4⟩ := hR.obj hk k1 (by omega)
  obtain ⟨hS, hfc, kC, hkC, hkind⟩ := hKn.2.1 kd k1 k2
  obtain ⟨cf, kf', fi, fd, hi, hsl⟩ := hS f kf
  have hlk := hKn.word kl args
  rw [(mFok_fd (mFok_at k1 k2) kf).2.2] at hi
  refine W.getf hx hb hown hlk hi (u_facts hfc hkC (u_lays (hKn.ws k1 k2 args) (fun _ z => z) kf) (by rw [(mFok_fd (mFok_at k1 k2) kf).2.2]; exact hi)).1 q1 (by rw [q3]; exact fun h => by cases h) (v := v) ?_ rfl rfl d kk
  rw [hsl, q4 f kf, hv]
theorem m_putf {y ix kd f a : Nat} (CX : mCtx dC dI y p e R s m meth c) (hF : mFld y ix kd f = true) (hfin : (!(mT kd f).2.2.2 || decide ((mYn y).name = "<init>") && decide (mOwn y = mNm kd)) = true) (hR : mRel dC dI B H0 M H) (hk : mkd M a = kd) {v : Value} (hn : narrow (mY kd f) v = v) (hfit : fits (mY kd f) v = true) (d : decode (mBy y) pc = .ok (.putfield ix, 3))
    (kk : ∀ (H' : Heap) (i : Nat), t_OB a (dC kd) (mN kd) (dI kd) H' (updV (mOV M a kd) f v) → H'.size = H.size → (∀ q, q ≠ a → H'[q]? = H[q]?) → W p l e R s m args below meth c H' (locs ++ [⟨a, i⟩]) cells slots Q (F0 m (pc + 3) ls r)) : W p l e R s m args below meth c H locs cells slots Q (F0 m pc ls (v :: .ref a :: r)) := by
  obtain ⟨hx, hb, -, -, -, hown, hini, hKn, -⟩ := CX
  obtain ⟨k1, k2, kf, kl⟩ := mFld_el hF
  obtain ⟨cell, q1, q2, q3, q4⟩ := hR.obj hk k1 (by omega)
  have hap := hKn.apart k1 k2
  obtain ⟨hS, hfc, kC, hkC, hkind⟩ := hKn.2.1 kd k1 k2
  obtain ⟨cf, kf', fi, fd, hi, hsl⟩ := hS f kf
  have hlk := hKn.word kl args
  have o := mFok_fd (mFok_at k1 k2) kf
  have hT := o.2.2
  have hlays := u_lays (hKn.ws k1 k2 args) (fun _ z => z) kf
  have hst := (u_facts hfc hkC hlays hi).1
  have hlay := hKn.ws k1 k2 args _ (u_in_lay kf)
  have hi2 := hi
  rw [hT] at hi2
  unfold u_lay at hlay
  by_cases hfb : (mT kd f).2.2.2 = true
  · rw [if_pos hfb] at hlay
    rw [hfb, Bool.or_eq_true, Bool.and_eq_true, decide_eq_true_eq, decide_eq_true_eq] at hfin
    obtain ⟨hin, how⟩ := hfin.resolve_left (by decide)
    have hcf : m.cls = cf := by
      obtain ⟨_, _, c', _, _, _, -, -, hf', -, -, -, hown2, -⟩ := Cond.laysFinal_spec hlay
      have e1 : c' = cf := by have := hi.symm.trans hf'; simp at this; exact this.1.symm
      rw [hT, ← how] at hown2
      rw [← e1]; exact Option.some.inj (hown.symm.trans hown2)
    have h6 := u_fits hfc hkC hkind (Or.inr hlay) hi o.1 hn hfit
    refine W.putFinK hx hb hown hlk hi2 hst hcf (hini hin) (by rw [q2]; exact h6) q1 q3 (by rw [hsl]; exact k2_hasslot (q4 f kf)) rfl rfl d fun H' e1 e2 e3 => ?_
    rw [hsl] at e1 ⊢
    exact kk H' _ ⟨_, e1, q2, q3, t_set q4 hap kf v⟩ e2 e3
  · rw [if_neg hfb] at hlay
    have h6 := u_store hfc hkC hkind hlay hi o.1 hn hfit
    refine W.putK hx hb (f := fd) ⟨hown, hlk, ⟨_, _, _, hi2⟩, hst⟩ (by rw [q2]; exact h6) q1 q3 (by rw [hsl]; exact k2_hasslot (q4 f kf)) rfl rfl d fun H' e1 e2 e3 => ?_
    rw [hsl] at e1 ⊢
    exact kk H' _ ⟨_, e1, q2, q3, t_set q4 hap kf v⟩ e2 e3
end FLD
