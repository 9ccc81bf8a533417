/-! THE SMALL MEMORY IN THE HEAP: stores and new cells -/
def mAg (M M' : mM) (b : Nat) : Prop := mln M' b = mln M b ∧ (∀ j, mi M' b j = mi M b j) ∧ (∀ j, mr M' b j = mr M b j) ∧ ∀ j, mj M' b j = mj M b j
theorem mAV_ag {M M' : mM} {b k : Nat} (h : mAg M M' b) : mAV M' b k = mAV M b k := by
  obtain ⟨-, h1, h2, h3⟩ := h
  unfold mAV
  split <;> funext j
  · rw [h3]
  · rw [h2]
  · rw [h1]
theorem mOV_ag {M M' : mM} {b k : Nat} (h : mAg M M' b) : mOV M' b k = mOV M b k := by
  obtain ⟨-, h1, h2, -⟩ := h
  funext f
  simp only [mOV]
  rw [h1, h2]
theorem mCell.ag {dC : Nat → ClassId} {dI : Nat → Nat → Nat} {M M' : mM} {b k : Nat} {H H' : Heap} (h : mAg M M' b) (hc : mCell dC dI M b k H) (hq : H'[b]? = H[b]?) : mCell dC dI M' b k H' := by
  obtain ⟨c1, c2, c3, c4⟩ := hc
  refine ⟨fun a => ?_, fun a a' => ?_, fun a a' => ?_, fun a => ?_⟩
  · rw [hq, h.1, mAV_ag h]; exact c1 a
  · rw [hq]; exact c2 a a'
  · rw [mOV_ag h]; exact (c3 a a').kept hq
  · obtain ⟨ce, e1, e2, e3, e4, e5, e6⟩ := c4 a
    exact ⟨ce, by rw [hq]; exact e1, e2, e3, e4, by rw [h.1]; exact e5, fun j hj => by rw [h.2.1]; exact e6 j (by rw [← h.1]; exact hj)⟩
theorem mRel.put {dC : Nat → ClassId} {dI : Nat → Nat → Nat} {B : Nat} {H0 H H' : Heap} {M M' : mM} {a : Nat} (h : mRel dC dI B H0 M H) (ha : mkd M a ≠ 0) (hw : mkd M a < 200) (e1 : M'.1 = M.1) (e2 : msz M' = msz M) (e3 : mns M' = mns M)
    (ag : ∀ b, b ≠ a → mAg M M' b) (z : H'.size = H.size) (oq : ∀ q : Nat, q ≠ a → H'[q]? = H[q]?) (hc : mCell dC dI M' a (mkd M a) H') : mRel dC dI B H0 M' H' := by
  obtain ⟨h1, h2, h3, h4⟩ := h
  have hB : B ≤ a := (h4 a ha).1.2.2 hw
  have h2' : 0 < B ∧ B ≤ msz M' ∧ msz M' - B ≤ mCC ∧ mns M' ≤ mCS ∧ ∀ a, B ≤ a → a < msz M' → ¬ mkd M' a = 0 := by
    unfold mkd
    rw [e1, e2, e3]
    exact h2
  refine ⟨by rw [z, e2]; exact h1, h2', fun q hq => by rw [oq q (by omega)]; exact h3 q hq, fun b hb => ?_⟩
  have hk : mkd M' b = mkd M b := by unfold mkd; rw [e1]
  rw [hk] at hb ⊢
  rw [e2]
  refine ⟨(h4 b hb).1, ?_⟩
  by_cases hba : b = a
  · subst hba; exact hc
  · exact (h4 b hb).2.ag (ag b hba) (oq b hba)
theorem mRel.new {dC : Nat → ClassId} {dI : Nat → Nat → Nat} {B : Nat} {H0 H H' : Heap} {M : mM} {kd n cst : Nat} (h : mRel dC dI B H0 M H) (hw : kd < 200) (hw0 : ¬ kd = 0) (hr : msz M - B + 1 ≤ mCC ∧ mns M + cst ≤ mCS)
    (z : H'.size = H.size + 1) (oq : ∀ q : Nat, q < H.size → H'[q]? = H[q]?) (hc : mCell dC dI (mnw M kd n cst) (msz M) kd H') : mRel dC dI B H0 (mnw M kd n cst) H' := by
  obtain ⟨h1, ⟨b1, b2, b3, b4, b5⟩, h3, h4⟩ := h
  have es : msz (mnw M kd n cst) = msz M + 1 := rfl
  have en : mns (mnw M kd n cst) = mns M + cst := rfl
  refine ⟨by rw [z, es, h1], ⟨b1, by rw [es]; omega, by rw [es]; omega, by rw [en]; exact hr.2, fun a ha1 ha2 => by
    by_cases hba : a = msz M
    · subst hba
      have hk : mkd (mnw M kd n cst) (msz M) = kd := by simp [mkd, mnw, mup]
      rw [hk]; exact hw0
    · have hk : mkd (mnw M kd n cst) a = mkd M a := by simp [mkd, mnw, mup, hba]
      rw [hk]; exact b5 a ha1 (by rw [es] at ha2; omega)⟩, fun q hq => by rw [oq q (by omega)]; exact h3 q hq, fun b hb => ?_⟩
  by_cases hba : b = msz M
  · subst hba
    have hk : mkd (mnw M kd n cst) (msz M) = kd := by simp [mkd, mnw, mup]
    rw [hk]
    exact ⟨⟨by rw [es]; omega, trivial, fun _ => b2⟩, hc⟩
  · have hk : mkd (mnw M kd n cst) b = mkd M b := by simp [mkd, mnw, mup, hba]
    rw [hk] at hb ⊢
    obtain ⟨⟨g1, g2, g3⟩, g4⟩ := h4 b hb
    refine ⟨⟨by rw [es]; omega, g2, g3⟩, g4.ag ⟨by simp [mln, mnw, mup, hba], fun j => by simp [mi, mnw, mup, hba], fun j => by simp [mr, mnw, mup, hba], fun j => by simp [mj, mnw, mup, hba]⟩ (oq b (by rw [h1]; exact g1))⟩
theorem mAg_i {M : mM} {a k b : Nat} {v : Int32} (h : b ≠ a) : mAg M (msi M a k v) b := ⟨rfl, fun j => by simp [mi, msi, mup2, h], fun _ => rfl, fun _ => rfl⟩
theorem mAg_r {M : mM} {a k b v : Nat} (h : b ≠ a) : mAg M (msr M a k v) b := ⟨rfl, fun _ => rfl, fun j => by simp [mr, msr, mup2, h], fun _ => rfl⟩
theorem mAg_j {M : mM} {a k b : Nat} {v : Int64} (h : b ≠ a) : mAg M (msj M a k v) b := ⟨rfl, fun _ => rfl, fun _ => rfl, fun j => by simp [mj, msj, mup2, h]⟩
theorem mAV_i {M : mM} {a k j : Nat} {v : Int32} (h : k ≠ 4 ∧ k ≠ 5) : mAV (msi M a j v) a k = updV (mAV M a k) j (.int v) := by
  funext q
  unfold mAV
  split
  · exact absurd rfl h.1
  · exact absurd rfl h.2
  · simp only [updV]
    by_cases hq : q = j <;> simp [mi, msi, mup2, hq]
theorem mAV_r {M : mM} {a j v : Nat} (h : ¬ v = 0) : mAV (msr M a j v) a 5 = updV (mAV M a 5) j (.ref v) := by
  funext q
  simp only [mAV, updV]
  by_cases hq : q = j
  · simp [mr, msr, mup2, hq, mrf, h]
  · simp [mr, msr, mup2, hq]
theorem mAV_j {M : mM} {a j : Nat} {v : Int64} : mAV (msj M a j v) a 4 = updV (mAV M a 4) j (.long v) := by
  funext q
  simp only [mAV, updV]
  by_cases hq : q = j <;> simp [mj, msj, mup2, hq]
theorem mOV_i {M : mM} {a k f : Nat} {v : Int32} (h : mIsR (mY k f) = false) : mOV (msi M a f v) a k = updV (mOV M a k) f (.int v) := by
  funext q
  simp only [mOV, updV]
  by_cases hq : q = f
  · subst hq; simp [h, mi, msi, mup2]
  · simp [hq, mi, mr, msi, mup2]
theorem mOV_r {M : mM} {a k f v : Nat} (h : mIsR (mY k f) = true) (hv : ¬ v = 0) : mOV (msr M a f v) a k = updV (mOV M a k) f (.ref v) := by
  funext q
  simp only [mOV, updV]
  by_cases hq : q = f
  · subst hq; simp [h, mr, msr, mup2, mrf, hv]
  · simp [hq, mi, mr, msr, mup2]
theorem mCell_arr {dC : Nat → ClassId} {dI : Nat → Nat → Nat} {M : mM} {a k : Nat} {H : Heap} (hk : k < 10) (h : H[a]? = some (arrV (dC k) (mln M a) (mAV M a k))) : mCell dC dI M a k H :=
  ⟨fun _ => h, fun z => by omega, fun z => by omega, fun z => by omega⟩
theorem mCell_obj {dC : Nat → ClassId} {dI : Nat → Nat → Nat} {M : mM} {a k : Nat} {H : Heap} (hk : 100 ≤ k) (hk2 : k < 200) (h : t_OB a (dC k) (mN k) (dI k) H (mOV M a k)) : mCell dC dI M a k H :=
  ⟨fun z => by omega, fun _ z => by omega, fun _ _ => h, fun z => by omega⟩
theorem mCell_exc {dC : Nat → ClassId} {dI : Nat → Nat → Nat} {M : mM} {a k : Nat} {H : Heap} (hk : 10 ≤ k) (hk2 : k < 100) {ce : Cell} (h : H[a]? = some ce) (h1 : ce.cls = dC k) (h2 : ce.vm = .none) : mCell dC dI M a k H :=
  ⟨fun z => by omega, fun _ _ => ⟨ce, h, h1, h2⟩, fun z => by omega, fun z => by omega⟩
theorem mRel.arr {dC : Nat → ClassId} {dI : Nat → Nat → Nat} {B : Nat} {H0 H : Heap} {M : mM} {a k : Nat} (h : mRel dC dI B H0 M H) (hk : mkd M a = k) (h0 : k ≠ 0) (h1 : k < 10) : H[a]? = some (arrV (dC k) (mln M a) (mAV M a k)) := by
  subst hk
  exact (h.2.2.2 a h0).2.1 h1
theorem mRel.obj {dC : Nat → ClassId} {dI : Nat → Nat → Nat} {B : Nat} {H0 H : Heap} {M : mM} {a k : Nat} (h : mRel dC dI B H0 M H) (hk : mkd M a = k) (h0 : 100 ≤ k) (h1 : k < 200) : t_OB a (dC k) (mN k) (dI k) H (mOV M a k) := by
  subst hk
  exact (h.2.2.2 a (by omega)).2.2.2.1 h0 h1
theorem mRel.base {dC : Nat → ClassId} {dI : Nat → Nat → Nat} {B : Nat} {H0 H : Heap} {M : mM} {a k : Nat} (h : mRel dC dI B H0 M H) (hk : mkd M a = k) (h0 : k ≠ 0) (h1 : k < 200) : B ≤ a := by
  subst hk
  exact (h.2.2.2 a h0).1.2.2 h1
theorem mRel.nz {dC : Nat → ClassId} {dI : Nat → Nat → Nat} {B : Nat} {H0 H : Heap} {M : mM} {a k : Nat} (h : mRel dC dI B H0 M H) (hk : mkd M a = k) (h0 : k ≠ 0) (h1 : k < 200) : ¬ a = 0 := by
  have := h.base hk h0 h1
  have := h.2.1.1
  omega
