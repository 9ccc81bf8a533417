/-! THE REFERENCE: characters given to a word, fields finished -/
def gAd (c : Nat) (g : fS) : Option fS := if g.2.1.length < 40 then some (g.1, g.2.1 ++ [c], g.2.2) else none
def gFi (fl : eL) (g : fS) : Option fS := if g.2.1 = [] ∧ g.2.2 = false then some g else (addF fl g.2.1 g.1).map fun F => (F, [], false)
def gCh (fl : eL) (pa qu : Bool) (c : Nat) (g : fS) : Option fS := if pa = true ∧ qu = false ∧ (c = 32 ∨ c = 10) then gFi fl g else gAd (if qu = true then c + 128 else c) g
def gChs (fl : eL) (pa qu : Bool) : List Nat → fS → Option fS
  | [], g => some g
  | c :: cs, g => (gCh fl pa qu c g).bind (gChs fl pa qu cs)
/-- the expansion goes on -/
def exA (M : mM) (m : Nat) (pa : Bool) (g : fS) : Prop := fdX M m g.1 ∧ mkX M m g.2.1 ∧ mi M m 30 = I (bI g.2.2) ∧ mi M m 31 = I (bI pa) ∧ mi M m 25 = I 0
/-- it was too much -/
def exD (M : mM) (m : Nat) (pa : Bool) : Prop := mi M m 25 = I 1 ∧ mi M m 31 = I (bI pa) ∧ ∃ w : Nat, w ≤ 40 ∧ mi M m 27 = I w
def exO (M : mM) (m : Nat) (pa : Bool) : Option fS → Prop
  | some g => exA M m pa g
  | none => exD M m pa
abbrev sE : List Nat := [60, 61, 125, 127, 130, 133]
theorem isPat_iff {u : List Nat} : isPat u = true ↔ ∃ k, k < u.length ∧ (u.getD k 0 = 42 ∨ u.getD k 0 = 63) := by
  have key : ∀ c, findS u c 0 < u.length ↔ ∃ k, k < u.length ∧ u.getD k 0 = c := by
    intro c
    have go : ∀ n f, u.length - f ≤ n → (findS u c f < u.length ↔ ∃ k, f ≤ k ∧ k < u.length ∧ u.getD k 0 = c) := by
      intro n
      induction n with
      | zero => intro f hf; rw [findS_out (by omega)]; exact ⟨fun z => by omega, fun ⟨k, a, b, _⟩ => by omega⟩
      | succ n ih =>
        intro f hf
        by_cases q : f < u.length
        · rw [findS_st q]
          by_cases z : u.getD f 0 = c
          · rw [if_pos z]; exact ⟨fun _ => ⟨f, Nat.le_refl _, q, z⟩, fun _ => q⟩
          · rw [if_neg z, ih (f + 1) (by omega)]
            exact ⟨fun ⟨k, a, b, d⟩ => ⟨k, by omega, b, d⟩, fun ⟨k, a, b, d⟩ => ⟨k, by
              by_cases y : k = f
              · subst y; exact absurd d z
              · omega, b, d⟩⟩
        · rw [findS_out (by omega)]; exact ⟨fun z => by omega, fun ⟨k, a, b, _⟩ => by omega⟩
    rw [go u.length 0 (by omega)]
    exact ⟨fun ⟨k, _, b, d⟩ => ⟨k, b, d⟩, fun ⟨k, b, d⟩ => ⟨k, by omega, b, d⟩⟩
  unfold isPat
  rw [Bool.or_eq_true, blt_t, blt_t, key, key]
  constructor
  · rintro (⟨k, a, b⟩ | ⟨k, a, b⟩)
    · exact ⟨k, a, Or.inl b⟩
    · exact ⟨k, a, Or.inr b⟩
  · rintro ⟨k, a, b | b⟩
    · exact Or.inl ⟨k, a, b⟩
    · exact Or.inr ⟨k, a, b⟩
section MEXP
variable {E : mE} {M M' : mM} {Q : mQ} {m : Nat} {F : List (List Nat)} {sp w : List Nat} {fl : eL} {pa : Bool} {o : Option fS} {g : fS} {S : List Nat}
theorem exA.mv (h : exA M m pa g) (f : fm m S M M') (h1 : S.contains 61 = false) (h2 : S.contains 133 = false) (h3 : S.contains 60 = false) (h4 : S.contains 127 = false) (h5 : S.contains 130 = false) (h6 : S.contains 131 = false) (h7 : S.contains 125 = false) : exA M' m pa g :=
  ⟨h.1.mv f h1 h2, h.2.1.mv f h3 h4, by rw [f.fld h5]; exact h.2.2.1, by rw [f.fld h6]; exact h.2.2.2.1, by rw [f.fld h7]; exact h.2.2.2.2⟩
theorem exO.mv (h : exO M m pa o) (f : fm m S M M') (h1 : S.contains 61 = false) (h2 : S.contains 133 = false) (h3 : S.contains 60 = false) (h4 : S.contains 127 = false) (h5 : S.contains 130 = false) (h6 : S.contains 131 = false) (h7 : S.contains 125 = false) : exO M' m pa o := by
  cases o with
  | some g => exact exA.mv h f h1 h2 h3 h4 h5 h6 h7
  | none =>
    obtain ⟨a, b, w, c, d⟩ := h
    exact ⟨by rw [f.fld h7]; exact a, by rw [f.fld h6]; exact b, w, c, by rw [f.fld h4]; exact d⟩
theorem m_addMade {c : Nat} {pl : Bool} (h : mS M m) (e : exO M m pa o) (hc : c < 128) (hq : ∀ M', exO M' m pa (o.bind (gAd (if pl = true then c else c + 128))) → fm m sE M M' → Q (.inl none) M') : mC E 146 [.ref m, .int (I c), .int (I (bI pl))] M Q := by
  have bn : bN (I (bI pl)) = I (bI pl) := by cases pl <;> decide
  cases o with
  | none =>
    obtain ⟨a, b, w, hw, d⟩ := e
    refine w146_0 ⟨h.k0, fun q => ⟨h.n28, by rw [h.f28]; exact h.k21, by rw [h.f28, h.l21, d]; exact I_in (by omega) (by omega) (by omega), fun M2 q2 => ⟨h.n29, by rw [h.f29]; exact h.k22, ?_⟩⟩, fun q M2 q2 => hq M2 ⟨by rw [q2, i_is], by rw [q2, i_ik (by omega)]; exact b, w, hw, by rw [q2, i_ik (by omega)]; exact d⟩ (fm_o q2 (by decide))⟩
    rw [d, I_eq (by omega) (by omega) (by omega) (by omega)] at q
    rw [h.f28, d, I_ntn (by omega)] at q2
    have d2 : mi M2 m 27 = I w := by rw [q2, i_ia (by omega)]; exact d
    rw [d2]
    refine ⟨by rw [h.f29, h.l22]; exact I_in (by omega) (by omega) (by omega), fun M3 q3 M4 q4 => ?_⟩
    rw [h.f29, I_ntn (by omega)] at q3
    have d3 : mi M3 m 27 = I w := by rw [q3, i_ia (by omega)]; exact d2
    rw [d3, I_add] at q4
    have f2 : fm m sE M M2 := fm_i (a := 21) q2 (by omega) rfl
    have f3 : fm m sE M2 M3 := fm_i (a := 22) q3 (by omega) rfl
    have f4 : fm m sE M3 M4 := fm_o q4 (by decide)
    refine hq M4 ⟨?_, ?_, w + 1, by omega, by rw [q4, i_is]; rfl⟩ ((f2.trans f3).trans f4)
    · rw [q4, i_ik (by omega), q3, i_ia (by omega), q2, i_ia (by omega)]; exact a
    · rw [q4, i_ik (by omega), q3, i_ia (by omega), q2, i_ia (by omega)]; exact b
  | some g =>
    obtain ⟨a1, ⟨b1, b2, b3, b4⟩, a3, a4, a5⟩ := e
    have hq2 : ∀ M', exO M' m pa (gAd (if pl = true then c else c + 128) g) → fm m sE M M' → Q (.inl none) M' := hq
    unfold gAd at hq2
    refine w146_0 ⟨h.k0, fun q => ⟨h.n28, by rw [h.f28]; exact h.k21, by rw [h.f28, h.l21, b1]; exact I_in (by omega) (by omega) (by omega), fun M2 q2 => ⟨h.n29, by rw [h.f29]; exact h.k22, ?_⟩⟩, fun q M2 q2 => ?_⟩
    · rw [b1, I_eq (by omega) (by omega) (by omega) (by omega)] at q
      rw [if_pos (by omega)] at hq2
      rw [h.f28, b1, I_ntn (by omega), I_i2c (by omega) (by omega), I_cN (by omega) (by omega)] at q2
      have d2 : mi M2 m 27 = I g.2.1.length := by rw [q2, i_ia (by omega)]; exact b1
      rw [d2]
      refine ⟨by rw [h.f29, h.l22]; exact I_in (by omega) (by omega) (by omega), fun M3 q3 M4 q4 => ?_⟩
      rw [h.f29, I_ntn (by omega), bn] at q3
      have d3 : mi M3 m 27 = I g.2.1.length := by rw [q3, i_ia (by omega)]; exact d2
      rw [d3, I_add] at q4
      have f2 : fm m [60, 127] M M2 := fm_i (a := 21) q2 (by omega) rfl
      have f3 : fm m [60, 127] M2 M3 := fm_i (a := 22) q3 (by omega) rfl
      have f4 : fm m [60, 127] M3 M4 := fm_o q4 (by decide)
      have f := (f2.trans f3).trans f4
      refine hq2 M4 ⟨a1.mv f (by decide) (by decide), ⟨?_, ?_, fun k hk => ?_, fun x hx => ?_⟩, ?_, ?_, ?_⟩ (f.w (by decide))
      · rw [q4, i_is, List.length_append]; rfl
      · rw [List.length_append]; simp; omega
      · rw [List.length_append] at hk
        simp only [List.length_cons, List.length_nil] at hk
        have A : mi M4 (m + 21) k = if k = g.2.1.length then I c else mi M (m + 21) k := by
          rw [q4, i_ia (by omega), q3, i_ia (by omega), q2, i_i]
          by_cases z : k = g.2.1.length
          · rw [if_pos ⟨rfl, z⟩, if_pos z]
          · rw [if_neg (fun y => z y.2), if_neg z]
        have B : mi M4 (m + 22) k = if k = g.2.1.length then I (bI pl) else mi M (m + 22) k := by
          rw [q4, i_ia (by omega), q3, i_i]
          by_cases z : k = g.2.1.length
          · rw [if_pos ⟨rfl, z⟩, if_pos z]
          · rw [if_neg (fun y => z y.2), if_neg z, q2, i_ia (by omega)]
        rw [A, B]
        show _ = I ((unm ((g.2.1 ++ [if pl = true then c else c + 128]).getD k 0) : Nat) : Int) ∧ _ = I (bI (Nat.blt ((g.2.1 ++ [if pl = true then c else c + 128]).getD k 0) 128))
        rw [getD_sn]
        by_cases z : k = g.2.1.length
        · rw [if_pos z, if_pos z, if_neg (show ¬ k < g.2.1.length by omega), if_pos z]
          cases pl with
          | true =>
            rw [if_pos rfl, unm_id hc]
            have : Nat.blt c 128 = true := blt_t.mpr hc
            rw [this]; exact ⟨rfl, rfl⟩
          | false =>
            rw [if_neg (by decide)]
            have : Nat.blt (c + 128) 128 = false := by rw [← Bool.not_eq_true, blt_t]; omega
            have u : unm (c + 128) = c := by unfold unm; rw [if_neg (by omega)]; omega
            rw [this, u]; exact ⟨rfl, rfl⟩
        · simp only [if_neg z, if_pos (show k < g.2.1.length by omega)]
          exact b3 k (by omega)
      · rcases List.mem_append.mp hx with y | y
        · exact b4 x y
        · rw [List.mem_singleton.mp y]; split <;> omega
      · rw [f.fld (by decide)]; exact a3
      · rw [f.fld (by decide)]; exact a4
      · rw [f.fld (by decide)]; exact a5
    · rw [b1, I_eq (by omega) (by omega) (by omega) (by omega)] at q
      rw [if_neg (by omega)] at hq2
      exact hq2 M2 ⟨by rw [q2, i_is], by rw [q2, i_ik (by omega)]; exact a4, g.2.1.length, b2, by rw [q2, i_ik (by omega)]; exact b1⟩ (fm_o q2 (by decide))
/-- one more field -/
theorem fdX.push {M1 : mM} (h : fdX M m F) (hl : F.length < 16) (hw : w.length ≤ 40) (ho : ok1 w) {gg : Nat → Int32} (c : cpd M M1 (m + 23) (40 * F.length) w.length gg) (hg : ∀ k, k < w.length → gg k = I (w.getD k 0)) {M2 M3 : mM} (q2 : M2 = msi M1 (m + 24) F.length (I w.length)) (q3 : M3 = msi M2 m 33 (I ((F.length + 1 : Nat) : Int))) : fdX M3 m (F ++ [w]) ∧ fm m [61, 133] M M3 := by
  have f1 : fm m [61, 133] M M1 := c.fm (by omega) (fun j j1 j2 => by show [61, 133].contains (61 + j / 640) = true; rw [show j / 640 = 0 by omega]; decide)
  have f2 : fm m [61, 133] M1 M2 := fm_i (a := 24) q2 (by omega) (by show [61, 133].contains (61 + F.length / 16) = true; rw [show F.length / 16 = 0 by omega]; decide)
  have f3 : fm m [61, 133] M2 M3 := fm_o q3 (by decide)
  refine ⟨⟨by rw [q3, i_is, List.length_append]; rfl, by rw [List.length_append]; simp; omega, fun f hf => ?_, fun t ht => ?_⟩, (f1.trans f2).trans f3⟩
  · rw [List.length_append] at hf
    simp only [List.length_cons, List.length_nil] at hf
    by_cases z : f = F.length
    · subst z
      have e : (F ++ [w]).getD F.length [] = w := by rw [List.getD_eq_getElem?_getD, List.getElem?_append_right (Nat.le_refl _), Nat.sub_self]; rfl
      have r := nmR.mk' (s := w) c (Nat.le_refl _) hg hw (fun x hx => by have := ho x hx; omega) q2 (by omega)
      have r3 := r.oth1 q3 (by omega) (by omega)
      rw [e]; exact ⟨r3.1, r3.2.1, r3.2.2.1⟩
    · have e : (F ++ [w]).getD f [] = F.getD f [] := by rw [List.getD_eq_getElem?_getD, List.getElem?_append_left (by omega), ← List.getD_eq_getElem?_getD]
      have r := ((h.row (show f < F.length by omega)).row c hw z (by omega)).row1 q2 z (by omega)
      have r3 := r.oth1 q3 (by omega) (by omega)
      rw [e]; exact ⟨r3.1, r3.2.1, r3.2.2.1⟩
  · rcases List.mem_append.mp ht with y | y
    · exact h.2.2.2 t y
    · rw [List.mem_singleton.mp y]; exact ho
theorem mkX.ok (k : mkX M m sp) : ok1 (sp.map unm) := fun c hc => by
  obtain ⟨x, hx, rfl⟩ := List.mem_map.mp hc
  exact unm_lt (k.2.2.2 x hx)
theorem map_get {sp : List Nat} {j : Nat} (hj : j < sp.length) : (sp.map unm).getD j 0 = unm (sp.getD j 0) := by
  rw [List.getD_eq_getElem?_getD, List.getElem?_map, List.getD_eq_getElem?_getD, List.getElem?_eq_getElem hj]; rfl
theorem m_pushField (h : mS M m) (hf : fdX M m F) (k : mkX M m sp) (hq : F.length < 16 → ∀ M', fdX M' m (F ++ [sp.map unm]) → fm m [61, 133] M M' → Q (.inl none) M') (hd : F.length = 16 → ∀ M', mi M' m 25 = I 1 → fm m [125] M M' → Q (.inl none) M') : mC E 152 [.ref m] M Q := by
  have k2 := k.2.1
  have hl := hf.2.1
  have ml : (sp.map unm).length = sp.length := List.length_map ..
  refine w152_0 ⟨h.k0, fun q => ?_, fun q M1 q1 => ?_⟩
  · rw [hf.1, I_eq (by omega) (by omega) (by omega) (by omega)] at q
    refine cp_loop (L := fun x => [some (.ref m), some (.int x)]) (A := m + 23) (t := 40 * F.length) (N := sp.length) (g := fun j => I (unm (sp.getD j 0))) (fun j M1 hj c1 cont => ?_) (fun M1 c1 => ?_)
    · have h1 := h.mv c1.1
      have e33 : mi M1 m 33 = I F.length := by rw [c1.2.1 _ (by omega)]; exact hf.1
      have e27 : mi M1 m 27 = I sp.length := by rw [c1.2.1 _ (by omega)]; exact k.1
      have e1 : nt (I 40 * I (F.length : Int) + I (j : Int)) = 40 * F.length + j := by
        rw [I_mul, I_add, show (40 : Int) * (F.length : Int) + (j : Int) = ((40 * F.length + j : Nat) : Int) by omega, I_ntn (by omega)]
      refine w152_2 ⟨h1.k0, fun c => ?_, fun c => ⟨h1.n34, h1.n28, by rw [h1.f28]; exact h1.k21, by rw [h1.f28, h1.l21]; exact I_in (by omega) (by omega) (by omega), by rw [h1.f34]; exact h1.k23, by rw [h1.f34, h1.l23, e33, I_mul, I_add]; exact I_in (by omega) (by omega) (by omega), fun M2 q2 => ?_⟩⟩
      · rw [e27, I_le (by omega) (by omega) (by omega) (by omega)] at c; omega
      · have cc := unm_lt (k.c j)
        rw [h1.f34, h1.f28, e33, e1, I_ntn (by omega), c1.2.1 _ (by omega), (k.2.2.1 j hj).1, I_cN (by omega) (by omega)] at q2
        rw [I_add]; exact cont M2 q2
    · have h1 := h.mv c1.1
      have e33 : mi M1 m 33 = I F.length := by rw [c1.2.1 _ (by omega)]; exact hf.1
      have e27 : mi M1 m 27 = I sp.length := by rw [c1.2.1 _ (by omega)]; exact k.1
      refine w152_2 ⟨h1.k0, fun c => ⟨h1.n35, by rw [h1.f35]; exact h1.k24, by rw [h1.f35, h1.l24, e33]; exact I_in (by omega) (by omega) (by omega), fun M2 q2 M3 q3 => ?_⟩, fun c => ?_⟩
      · rw [h1.f35, e33, e27, I_ntn (by omega), ← ml] at q2
        rw [q2, i_ia (by omega), ← q2, e33, I_add] at q3
        rw [← ml] at c1
        obtain ⟨p1, p2⟩ := hf.push (w := sp.map unm) (by omega) (by omega) k.ok c1 (fun j hj => by rw [map_get (by omega)]) q2 q3
        exact hq (by omega) M3 p1 p2
      · rw [e27, I_le (by omega) (by omega) (by omega) (by omega)] at c; omega
  · rw [hf.1, I_eq (by omega) (by omega) (by omega) (by omega)] at q
    exact hd (by omega) M1 (by rw [q1, i_is]) (fm_o q1 (by decide))
theorem m_pushName {i : Nat} (h : mS M m) (hf : fdX M m F) (r : nmR M (m + 14) (m + 15) 8 (8 + i) w) (hi : i < 8) (ho : ok1 w) (hq : F.length < 16 → ∀ M', fdX M' m (F ++ [w]) → fm m [61, 133] M M' → Q (.inl none) M') (hd : F.length = 16 → ∀ M', mi M' m 25 = I 1 → fm m [125] M M' → Q (.inl none) M') : mC E 154 [.ref m, .int (I i)] M Q := by
  have hl := hf.2.1
  have rl := r.2.1
  have e0 : nt (I 8 + I (i : Int)) = 8 + i := by
    rw [I_add, show (8 : Int) + (i : Int) = ((8 + i : Nat) : Int) by omega, I_ntn (by omega)]
  refine w154_0 ⟨h.k0, fun q => ?_, fun q M1 q1 => ?_⟩
  · rw [hf.1, I_eq (by omega) (by omega) (by omega) (by omega)] at q
    refine cp_loop (L := fun x => [some (.ref m), some (.int (I i)), some (.int x)]) (A := m + 23) (t := 40 * F.length) (N := w.length) (g := fun j => I (w.getD j 0)) (fun j M1 hj c1 cont => ?_) (fun M1 c1 => ?_)
    · have h1 := h.mv c1.1
      have r1 := r.oth c1 (by omega) (by omega)
      have e33 : mi M1 m 33 = I F.length := by rw [c1.2.1 _ (by omega)]; exact hf.1
      have e1 : nt (I 40 * I (F.length : Int) + I (j : Int)) = 40 * F.length + j := by
        rw [I_mul, I_add, show (40 : Int) * (F.length : Int) + (j : Int) = ((40 * F.length + j : Nat) : Int) by omega, I_ntn (by omega)]
      have e2 : nt (I 8 * (I 8 + I (i : Int)) + I (j : Int)) = 8 * (8 + i) + j := by
        rw [I_add, I_mul, I_add, show (8 : Int) * (8 + (i : Int)) + (j : Int) = ((8 * (8 + i) + j : Nat) : Int) by omega, I_ntn (by omega)]
      refine w154_2 ⟨h1.k0, h1.n19, by rw [h1.f19]; exact h1.k15, by rw [h1.f19, h1.l15, I_add]; exact I_in (by omega) (by omega) (by omega), fun c => ?_, fun c => ⟨h1.n34, h1.n18, by rw [h1.f18]; exact h1.k14, by rw [h1.f18, h1.l14, I_add, I_mul, I_add]; exact I_in (by omega) (by omega) (by omega), by rw [h1.f34]; exact h1.k23, by rw [h1.f34, h1.l23, e33, I_mul, I_add]; exact I_in (by omega) (by omega) (by omega), fun M2 q2 => ?_⟩⟩
      · rw [h1.f19, e0, r1.1, I_le (by omega) (by omega) (by omega) (by omega)] at c; omega
      · have cc := r1.ch j
        rw [h1.f34, h1.f18, e33, e1, e2, r1.2.2.1 j hj, I_cN (by omega) (by omega)] at q2
        rw [I_add]; exact cont M2 q2
    · have h1 := h.mv c1.1
      have r1 := r.oth c1 (by omega) (by omega)
      have e33 : mi M1 m 33 = I F.length := by rw [c1.2.1 _ (by omega)]; exact hf.1
      refine w154_2 ⟨h1.k0, h1.n19, by rw [h1.f19]; exact h1.k15, by rw [h1.f19, h1.l15, I_add]; exact I_in (by omega) (by omega) (by omega), fun c => ⟨h1.n35, by rw [h1.f35]; exact h1.k24, by rw [h1.f35, h1.l24, e33]; exact I_in (by omega) (by omega) (by omega), fun M2 q2 M3 q3 => ?_⟩, fun c => ?_⟩
      · rw [h1.f35, h1.f19, e33, e0, r1.1, I_ntn (by omega)] at q2
        rw [q2, i_ia (by omega), ← q2, e33, I_add] at q3
        obtain ⟨p1, p2⟩ := hf.push (w := w) (by omega) (by omega) ho c1 (fun j hj => rfl) q2 q3
        exact hq (by omega) M3 p1 p2
      · rw [h1.f19, e0, r1.1, I_le (by omega) (by omega) (by omega) (by omega)] at c; omega
  · rw [hf.1, I_eq (by omega) (by omega) (by omega) (by omega)] at q
    exact hd (by omega) M1 (by rw [q1, i_is]) (fm_o q1 (by decide))
end MEXP
