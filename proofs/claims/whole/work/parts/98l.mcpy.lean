/-! THE REFERENCE: its copies -/
theorem nt_l {z : Int} {S a k : Nat} (hz : z = S) (h : S * a + k < 2147483648) : nt (I z * I (a : Int) + I (k : Int)) = S * a + k := by
  rw [hz, I_mul, I_add, show (S : Int) * (a : Int) + (k : Int) = ((S * a + k : Nat) : Int) by rw [Int.natCast_add, Int.natCast_mul], I_ntn (by omega)]
theorem in_l {z : Int} {S a k n : Nat} (hz : z = S) (h : S * a + k < n) (hn : n < 2147483648) : vp_in (I z * I (a : Int) + I (k : Int)) n := by
  rw [hz, I_mul, I_add, show (S : Int) * (a : Int) + (k : Int) = ((S * a + k : Nat) : Int) by rw [Int.natCast_add, Int.natCast_mul]]; exact I_in (by omega) (by omega) (by omega)
def cp2 (M M' : mM) (A B t n : Nat) (g g2 : Nat → Int32) : Prop := ieq M M' ∧ (∀ x, ¬ x = A → ¬ x = B → ∀ k, mi M' x k = mi M x k) ∧ (∀ j, mi M' A j = if t ≤ j ∧ j < t + n then g (j - t) else mi M A j) ∧ ∀ j, mi M' B j = if t ≤ j ∧ j < t + n then g2 (j - t) else mi M B j
theorem cp2.st {M M1 M2 M3 : mM} {A B t n : Nat} {g g2 : Nat → Int32} (h : cp2 M M1 A B t n g g2) (hab : ¬ A = B) (q : M2 = msi M1 A (t + n) (g n)) (q3 : M3 = msi M2 B (t + n) (g2 n)) : cp2 M M3 A B t (n + 1) g g2 := by
  subst q q3
  refine ⟨h.1.trans ⟨fun _ => rfl, fun _ => rfl, fun _ _ => rfl, fun _ _ => rfl, rfl, rfl⟩, fun x hx hy k => ?_, fun j => ?_, fun j => ?_⟩
  · rw [i_ia hy, i_ia hx]; exact h.2.1 x hx hy k
  · rw [i_ia hab, i_i]
    by_cases z : j = t + n
    · rw [if_pos ⟨rfl, z⟩, if_pos (by omega), z, Nat.add_sub_cancel_left]
    · rw [if_neg (fun y => z y.2), h.2.2.1 j]
      by_cases z2 : t ≤ j ∧ j < t + n
      · rw [if_pos z2, if_pos (by omega)]
      · rw [if_neg z2, if_neg (by omega)]
  · rw [i_i]
    by_cases z : j = t + n
    · rw [if_pos ⟨rfl, z⟩, if_pos (by omega), z, Nat.add_sub_cancel_left]
    · rw [if_neg (fun y => z y.2), i_ia (fun y => hab y.symm), h.2.2.2 j]
      by_cases z2 : t ≤ j ∧ j < t + n
      · rw [if_pos z2, if_pos (by omega)]
      · rw [if_neg z2, if_neg (by omega)]
theorem cp2_loop {E : mE} {Q : mQ} {y b : Nat} {L : Int32 → mL} {M0 : mM} {A B t N : Nat} {g g2 : Nat → Int32} (hab : ¬ A = B) (step : ∀ k M, k < N → cp2 M0 M A B t k g g2 → (∀ M2 M3, M2 = msi M A (t + k) (g k) → M3 = msi M2 B (t + k) (g2 k) → mX E y b (L (I ((k : Int) + 1))) [] M3 Q) → mX E y b (L (I k)) [] M Q) (fin : ∀ M, cp2 M0 M A B t N g g2 → mX E y b (L (I N)) [] M Q) : mX E y b (L (I 0)) [] M0 Q := by
  have go : ∀ n k M, n = N - k → k ≤ N → cp2 M0 M A B t k g g2 → mX E y b (L (I k)) [] M Q := by
    intro n
    induction n with
    | zero =>
      intro k M hn hk c
      rw [show k = N by omega] at c ⊢
      exact fin M c
    | succ n ih =>
      intro k M hn hk c
      refine step k M (by omega) c (fun M2 M3 q q3 => ?_)
      exact ih (k + 1) M3 (by omega) (by omega) (c.st hab q q3)
  exact go N 0 M0 rfl (by omega) ⟨ieq.refl _, fun _ _ _ _ => rfl, fun j => by rw [if_neg (by omega)], fun j => by rw [if_neg (by omega)]⟩
theorem cp2.fm {M M' : mM} {m a a2 t n : Nat} {g g2 : Nat → Int32} (h : cp2 M M' (m + a) (m + a2) t n g g2) (ha : a < 29) (ha2 : a2 < 29) {S : List Nat} (hS : ∀ j, t ≤ j → j < t + n → S.contains (own a j) = true) (hS2 : ∀ j, t ≤ j → j < t + n → S.contains (own a2 j) = true) : fm m S M M' := by
  refine ⟨h.1, fun x hx k => h.2.1 x (by omega) (by omega) k, fun a' k ha' hs => ?_⟩
  by_cases z : a' = a
  · subst z
    rw [h.2.2.1 k, if_neg (fun y => ?_)]
    rw [hS k y.1 y.2] at hs; exact absurd hs (by decide)
  · by_cases z2 : a' = a2
    · subst z2
      rw [h.2.2.2 k, if_neg (fun y => ?_)]
      rw [hS2 k y.1 y.2] at hs; exact absurd hs (by decide)
    · exact h.2.1 _ (by omega) (by omega) k
theorem nmR.cp {M M' : mM} {A B cap R a b i : Nat} {w : List Nat} (h : nmR M A B cap (R * a + i) w) (hi : i < R) (hA : ∀ k, k < cap * R → mi M' A (cap * R * b + k) = cN (mi M A (cap * R * a + k))) (hB : ∀ k, k < R → mi M' B (R * b + k) = mi M B (R * a + k)) : nmR M' A B cap (R * b + i) w := by
  obtain ⟨h1, h2, h3, h4⟩ := h
  refine ⟨by rw [hB i hi]; exact h1, h2, fun k hk => ?_, h4⟩
  have e : ∀ x, cap * (R * x + i) + k = cap * R * x + (cap * i + k) := fun x => by rw [Nat.mul_add, Nat.mul_assoc, Nat.add_assoc]
  have lt : cap * i + k < cap * R := by
    have : cap * (i + 1) ≤ cap * R := Nat.mul_le_mul_left cap hi
    rw [Nat.mul_add, Nat.mul_one] at this
    omega
  have c : w.getD k 0 < 65536 := getD_lt h4 (by omega) k
  rw [e b, hA _ lt, ← e a, h3 k hk, I_cN (by omega) (by omega)]
section MCPY
variable {E : mE} {M M' : mM} {Q : mQ} {m : Nat} {vs fl : eL} {po : List (List Nat)} {a b : Nat}
/-- the number of a part that belongs to copy b -/
theorem cp_own {S b k j N : Nat} (h1 : S * b ≤ j) (h2 : j < S * b + S) : j / S = b := by
  have hS : 0 < S := by omega
  rw [Nat.div_eq_of_lt_le (by rw [Nat.mul_comm]; exact h1) (by rw [Nat.add_mul, Nat.one_mul, Nat.mul_comm]; exact h2)]
theorem m_copyV (h : mS M m) (ha : a ≤ 2) (hb : b ≤ 2) (hab : ¬ a = b) (v : vrX M m a vs) (p : poX M m a po) (hq : ∀ M', vrX M' m b vs → poX M' m b po → fm m [10 + b, 20 + b] M M' → Q (.inl none) M') : mC E 134 [.ref m, .int (I a), .int (I b)] M Q := by
  refine w134_0 ⟨h.k0, h.n9, by rw [h.f9]; exact h.k5, by rw [h.f9, h.l5]; exact I_in (by omega) (by omega) (by omega), by rw [h.f9, h.l5]; exact I_in (by omega) (by omega) (by omega), fun X1 q1 => ⟨h.n14, by rw [h.f14]; exact h.k10, by rw [h.f14, h.l10]; exact I_in (by omega) (by omega) (by omega), by rw [h.f14, h.l10]; exact I_in (by omega) (by omega) (by omega), fun X2 q2 => ?_⟩⟩
  rw [h.f9, I_ntn (by omega), I_ntn (by omega)] at q1
  rw [h.f14, I_ntn (by omega), I_ntn (by omega), q1, i_ia (by omega), ← q1] at q2
  have g1 : fm m [10 + b, 20 + b] M X1 := fm_i (a := 5) q1 (by omega) (by show [10 + b, 20 + b].contains (10 + b) = true; simp)
  have g2 : fm m [10 + b, 20 + b] X1 X2 := fm_i (a := 10) q2 (by omega) (by show [10 + b, 20 + b].contains (20 + b) = true; simp)
  have h2 := (h.mv g1.1).mv g2.1
  refine cp_loop (L := fun x => [some (.ref m), some (.int (I a)), some (.int (I b)), some (.int x)]) (A := m + 6) (t := 48 * b) (N := 48) (g := fun k => cN (mi X2 (m + 6) (48 * a + k))) (fun k X hk c cont => ?_) (fun X3 c3 => ?_)
  · have h1 := h2.mv c.1
    refine w134_1 ⟨fun z => ?_, fun _ => ⟨h1.k0, h1.n10, by rw [h1.f10]; exact h1.k6, by rw [h1.f10, h1.l6]; exact in_l (S := 48) rfl (by omega) (by omega), by rw [h1.f10, h1.l6]; exact in_l (S := 48) rfl (by omega) (by omega), fun Y q => ?_⟩⟩
    · rw [I_le (by omega) (by omega) (by omega) (by omega)] at z; omega
    · rw [h1.f10, nt_l (z := 48) (S := 48) rfl (by omega), nt_l (z := 48) (S := 48) rfl (by omega), c.2.2, if_neg (by omega)] at q
      rw [I_add]; exact cont Y q
  have h3 := h2.mv c3.1
  refine w134_1 ⟨fun _ => ?_, fun z => absurd (by decide) z⟩
  refine cp_loop (L := fun x => [some (.ref m), some (.int (I a)), some (.int (I b)), some (.int x)]) (A := m + 8) (t := 320 * b) (N := 320) (g := fun k => cN (mi X3 (m + 8) (320 * a + k))) (fun k X hk c cont => ?_) (fun X4 c4 => ?_)
  · have h1 := h3.mv c.1
    refine w134_3 ⟨fun z => ?_, fun _ => ⟨h1.k0, h1.n12, by rw [h1.f12]; exact h1.k8, by rw [h1.f12, h1.l8]; exact in_l (S := 320) rfl (by omega) (by omega), by rw [h1.f12, h1.l8]; exact in_l (S := 320) rfl (by omega) (by omega), fun Y q => ?_⟩⟩
    · rw [I_le (by omega) (by omega) (by omega) (by omega)] at z; omega
    · rw [h1.f12, nt_l (z := 320) (S := 320) rfl (by omega), nt_l (z := 320) (S := 320) rfl (by omega), c.2.2, if_neg (by omega)] at q
      rw [I_add]; exact cont Y q
  have h4 := h3.mv c4.1
  refine w134_3 ⟨fun _ => ?_, fun z => absurd (by decide) z⟩
  refine cp2_loop (L := fun x => [some (.ref m), some (.int (I a)), some (.int (I b)), some (.int x)]) (A := m + 7) (B := m + 9) (t := 8 * b) (N := 8) (g := fun k => mi X4 (m + 7) (8 * a + k)) (g2 := fun k => mi X4 (m + 9) (8 * a + k)) (by omega) (fun k X hk c cont => ?_) (fun X5 c5 => ?_)
  · have h1 := h4.mv c.1
    refine w134_5 ⟨fun z => ?_, fun _ => ⟨h1.k0, h1.n11, by rw [h1.f11]; exact h1.k7, by rw [h1.f11, h1.l7]; exact in_l (S := 8) rfl (by omega) (by omega), by rw [h1.f11, h1.l7]; exact in_l (S := 8) rfl (by omega) (by omega), fun Y q => ⟨h1.n13, by rw [h1.f13]; exact h1.k9, by rw [h1.f13, h1.l9]; exact in_l (S := 8) rfl (by omega) (by omega), by rw [h1.f13, h1.l9]; exact in_l (S := 8) rfl (by omega) (by omega), fun Z q2 => ?_⟩⟩⟩
    · rw [I_le (by omega) (by omega) (by omega) (by omega)] at z; omega
    · rw [h1.f11, nt_l (z := 8) (S := 8) rfl (by omega), nt_l (z := 8) (S := 8) rfl (by omega), c.2.2.1, if_neg (by omega)] at q
      rw [h1.f13, nt_l (z := 8) (S := 8) rfl (by omega), nt_l (z := 8) (S := 8) rfl (by omega), q, i_ia (by omega), ← q, c.2.2.2, if_neg (by omega)] at q2
      rw [I_add]; exact cont Y Z q q2
  have h5 := h4.mv c5.1
  refine w134_5 ⟨fun _ => ?_, fun z => absurd (by decide) z⟩
  refine cp_loop (L := fun x => [some (.ref m), some (.int (I a)), some (.int (I b)), some (.int x)]) (A := m + 11) (t := 360 * b) (N := 360) (g := fun k => cN (mi X5 (m + 11) (360 * a + k))) (fun k X hk c cont => ?_) (fun X6 c6 => ?_)
  · have h1 := h5.mv c.1
    refine w134_7 ⟨fun z => ?_, fun _ => ⟨h1.k0, h1.n15, by rw [h1.f15]; exact h1.k11, by rw [h1.f15, h1.l11]; exact in_l (S := 360) rfl (by omega) (by omega), by rw [h1.f15, h1.l11]; exact in_l (S := 360) rfl (by omega) (by omega), fun Y q => ?_⟩⟩
    · rw [I_le (by omega) (by omega) (by omega) (by omega)] at z; omega
    · rw [h1.f15, nt_l (z := 360) (S := 360) rfl (by omega), nt_l (z := 360) (S := 360) rfl (by omega), c.2.2, if_neg (by omega)] at q
      rw [I_add]; exact cont Y q
  have h6 := h5.mv c6.1
  refine w134_7 ⟨fun _ => ?_, fun z => absurd (by decide) z⟩
  refine cp_loop (L := fun x => [some (.ref m), some (.int (I a)), some (.int (I b)), some (.int x)]) (A := m + 12) (t := 9 * b) (N := 9) (g := fun k => mi X6 (m + 12) (9 * a + k)) (fun k X hk c cont => ?_) (fun X7 c7 => ?_)
  · have h1 := h6.mv c.1
    refine w134_9 ⟨fun z => ?_, fun _ => ⟨h1.k0, h1.n16, by rw [h1.f16]; exact h1.k12, by rw [h1.f16, h1.l12]; exact in_l (S := 9) rfl (by omega) (by omega), by rw [h1.f16, h1.l12]; exact in_l (S := 9) rfl (by omega) (by omega), fun Y q => ?_⟩⟩
    · rw [I_le (by omega) (by omega) (by omega) (by omega)] at z; omega
    · rw [h1.f16, nt_l (z := 9) (S := 9) rfl (by omega), nt_l (z := 9) (S := 9) rfl (by omega), c.2.2, if_neg (by omega)] at q
      rw [I_add]; exact cont Y q
  have h7 := h6.mv c7.1
  refine w134_9 ⟨fun _ => ?_, fun z => absurd (by decide) z⟩
  have ow : ∀ (S x j : Nat), S * b ≤ j → j < S * b + S → (x = 10 ∨ x = 20) → [10 + b, 20 + b].contains (x + j / S) = true := by
    intro S x j j1 j2 hx
    rw [cp_own (k := 0) (N := 0) j1 j2]
    rcases hx with e | e <;> (rw [e]; simp)
  have f3 : fm m [10 + b, 20 + b] X2 X3 := c3.fm (by omega) (fun j j1 j2 => ow 48 10 j j1 j2 (Or.inl rfl))
  have f4 : fm m [10 + b, 20 + b] X3 X4 := c4.fm (by omega) (fun j j1 j2 => ow 320 10 j j1 j2 (Or.inl rfl))
  have f5 : fm m [10 + b, 20 + b] X4 X5 := c5.fm (a := 7) (a2 := 9) (by omega) (by omega) (fun j j1 j2 => ow 8 10 j j1 j2 (Or.inl rfl)) (fun j j1 j2 => ow 8 10 j j1 j2 (Or.inl rfl))
  have f6 : fm m [10 + b, 20 + b] X5 X6 := c6.fm (by omega) (fun j j1 j2 => ow 360 20 j j1 j2 (Or.inr rfl))
  have f7 : fm m [10 + b, 20 + b] X6 X7 := c7.fm (by omega) (fun j j1 j2 => ow 9 20 j j1 j2 (Or.inr rfl))
  refine hq X7 ⟨?_, v.2.1, fun i hi => ⟨nmR.cp (R := 8) (v.2.2 i hi).1 (by have := v.2.1; omega) (fun k hk => ?_) (fun k hk => ?_), nmR.cp (R := 8) (v.2.2 i hi).2 (by have := v.2.1; omega) (fun k hk => ?_) (fun k hk => ?_)⟩⟩ ⟨?_, p.2.1, fun i hi => nmR.cp (R := 9) (p.2.2 i hi) (by have := p.2.1; omega) (fun k hk => ?_) (fun k hk => ?_)⟩ ((((((g1.trans g2).trans f3).trans f4).trans f5).trans f6).trans f7)
  · rw [c7.2.1 _ (by omega), c6.2.1 _ (by omega), c5.2.1 _ (by omega) (by omega), c4.2.1 _ (by omega), c3.2.1 _ (by omega), q2, i_ia (by omega), q1, i_is]; exact v.1
  · rw [c7.2.1 _ (by omega), c6.2.1 _ (by omega), c5.2.1 _ (by omega) (by omega), c4.2.1 _ (by omega), c3.2.2, if_pos (by omega), show 6 * 8 * b + k - 48 * b = k by omega]; dsimp only; rw [q2, i_ia (by omega), q1, i_ia (by omega)]; try rfl
  · rw [c7.2.1 _ (by omega), c6.2.1 _ (by omega), c5.2.2.1, if_pos (by omega), Nat.add_sub_cancel_left]; dsimp only; rw [c4.2.1 _ (by omega), c3.2.1 _ (by omega), q2, i_ia (by omega), q1, i_ia (by omega)]; try rfl
  · rw [c7.2.1 _ (by omega), c6.2.1 _ (by omega), c5.2.1 _ (by omega) (by omega), c4.2.2, if_pos (by omega), show 40 * 8 * b + k - 320 * b = k by omega]; dsimp only; rw [c3.2.1 _ (by omega), q2, i_ia (by omega), q1, i_ia (by omega)]; try rfl
  · rw [c7.2.1 _ (by omega), c6.2.1 _ (by omega), c5.2.2.2, if_pos (by omega), Nat.add_sub_cancel_left]; dsimp only; rw [c4.2.1 _ (by omega), c3.2.1 _ (by omega), q2, i_ia (by omega), q1, i_ia (by omega)]; try rfl
  · rw [c7.2.1 _ (by omega), c6.2.1 _ (by omega), c5.2.1 _ (by omega) (by omega), c4.2.1 _ (by omega), c3.2.1 _ (by omega), q2, i_is]; exact p.1
  · rw [c7.2.1 _ (by omega), c6.2.2, if_pos (by omega), show 40 * 9 * b + k - 360 * b = k by omega]; dsimp only; rw [c5.2.1 _ (by omega) (by omega), c4.2.1 _ (by omega), c3.2.1 _ (by omega), q2, i_ia (by omega), q1, i_ia (by omega)]; try rfl
  · rw [c7.2.2, if_pos (by omega), Nat.add_sub_cancel_left]; dsimp only; rw [c6.2.1 _ (by omega), c5.2.1 _ (by omega) (by omega), c4.2.1 _ (by omega), c3.2.1 _ (by omega), q2, i_ia (by omega), q1, i_ia (by omega)]; try rfl
/-- the output of a copy -/
def ouX (M : mM) (m c : Nat) (o : List Nat) : Prop := mi M (m + 19) c = I o.length ∧ o.length ≤ 240 ∧ (∀ k, k < o.length → mi M (m + 20) (240 * c + k) = I (o.getD k 0)) ∧ ok6 o
theorem ouX.mv {S : List Nat} {o : List Nat} {c : Nat} (h : ouX M m c o) (f : fm m S M M') (hS : S.contains (50 + c) = false) : ouX M' m c o := by
  obtain ⟨h1, h2, h3, h4⟩ := h
  refine ⟨by rw [f.2.2 19 c (by omega) hS]; exact h1, h2, fun k hk => ?_, h4⟩
  rw [f.2.2 20 (240 * c + k) (by omega) (by show S.contains (50 + (240 * c + k) / 240) = false; rw [show (240 * c + k) / 240 = c by omega]; exact hS)]
  exact h3 k hk
theorem m_copyA {st : Nat} {u : List Nat} (h : mS M m) (ha : a ≤ 1) (hb : b ≤ 1) (hab : ¬ a = b) (v : vrX M m a vs) (p : poX M m a po) (f : flX M m a fl) (hs : mi M (m + 18) a = I st) (ou : ouX M m a u) (hq : ∀ M', vrX M' m b vs → poX M' m b po → flX M' m b fl → mi M' (m + 18) b = I st → ouX M' m b u → fm m [10 + b, 20 + b, 30 + b, 40 + b, 50 + b] M M' → Q (.inl none) M') : mC E 135 [.ref m, .int (I a), .int (I b)] M Q := by
  refine w135_0 ⟨h.k0, m_copyV h (by omega) (by omega) hab v p (fun X0 v0 p0 f0 => ?_)⟩
  have h0 := h.mv f0.1
  refine ⟨h0.k0, h0.n17, by rw [h0.f17]; exact h0.k13, by rw [h0.f17, h0.l13]; exact I_in (by omega) (by omega) (by omega), by rw [h0.f17, h0.l13]; exact I_in (by omega) (by omega) (by omega), fun X2 q2 => ?_⟩
  rw [h0.f17, I_ntn (by omega), I_ntn (by omega)] at q2
  have cc : ∀ {S x : Nat}, S = 10 + b ∨ S = 20 + b ∨ S = 30 + b ∨ S = 40 + b ∨ S = 50 + b → [10 + b, 20 + b, 30 + b, 40 + b, 50 + b].contains S = true := by
    intro S x e
    rcases e with e | e | e | e | e <;> (rw [e]; simp)
  have ow : ∀ (S x j : Nat), S * b ≤ j → j < S * b + S → (x = 30 ∨ x = 50) → [10 + b, 20 + b, 30 + b, 40 + b, 50 + b].contains (x + j / S) = true := by
    intro S x j j1 j2 hx
    rw [cp_own (k := 0) (N := 0) j1 j2]
    exact cc (x := 0) (by omega)
  have f0' : fm m [10 + b, 20 + b, 30 + b, 40 + b, 50 + b] M X0 := f0.w (by simp)
  have g2 : fm m [10 + b, 20 + b, 30 + b, 40 + b, 50 + b] X0 X2 := fm_i (a := 13) q2 (by omega) (by show [10 + b, 20 + b, 30 + b, 40 + b, 50 + b].contains (30 + b) = true; exact cc (x := 0) (by omega))
  have h2 := h0.mv g2.1
  refine cp_loop (L := fun x => [some (.ref m), some (.int (I a)), some (.int (I b)), some (.int x)]) (A := m + 14) (t := 64 * b) (N := 64) (g := fun k => cN (mi X2 (m + 14) (64 * a + k))) (fun k X hk c cont => ?_) (fun X3 c3 => ?_)
  · have h1 := h2.mv c.1
    refine w135_1 ⟨fun z => ?_, fun _ => ⟨h1.k0, h1.n18, by rw [h1.f18]; exact h1.k14, by rw [h1.f18, h1.l14]; exact in_l (S := 64) rfl (by omega) (by omega), by rw [h1.f18, h1.l14]; exact in_l (S := 64) rfl (by omega) (by omega), fun Y q => ?_⟩⟩
    · rw [I_le (by omega) (by omega) (by omega) (by omega)] at z; omega
    · rw [h1.f18, nt_l (z := 64) (S := 64) rfl (by omega), nt_l (z := 64) (S := 64) rfl (by omega), c.2.2, if_neg (by omega)] at q
      rw [I_add]; exact cont Y q
  have h3 := h2.mv c3.1
  refine w135_1 ⟨fun _ => ?_, fun z => absurd (by decide) z⟩
  refine cp_loop (L := fun x => [some (.ref m), some (.int (I a)), some (.int (I b)), some (.int x)]) (A := m + 16) (t := 640 * b) (N := 640) (g := fun k => cN (mi X3 (m + 16) (640 * a + k))) (fun k X hk c cont => ?_) (fun X4 c4 => ?_)
  · have h1 := h3.mv c.1
    refine w135_3 ⟨fun z => ?_, fun _ => ⟨h1.k0, h1.n20, by rw [h1.f20]; exact h1.k16, by rw [h1.f20, h1.l16]; exact in_l (S := 640) rfl (by omega) (by omega), by rw [h1.f20, h1.l16]; exact in_l (S := 640) rfl (by omega) (by omega), fun Y q => ?_⟩⟩
    · rw [I_le (by omega) (by omega) (by omega) (by omega)] at z; omega
    · rw [h1.f20, nt_l (z := 640) (S := 640) rfl (by omega), nt_l (z := 640) (S := 640) rfl (by omega), c.2.2, if_neg (by omega)] at q
      rw [I_add]; exact cont Y q
  have h4 := h3.mv c4.1
  refine w135_3 ⟨fun _ => ?_, fun z => absurd (by decide) z⟩
  refine cp2_loop (L := fun x => [some (.ref m), some (.int (I a)), some (.int (I b)), some (.int x)]) (A := m + 15) (B := m + 17) (t := 8 * b) (N := 8) (g := fun k => mi X4 (m + 15) (8 * a + k)) (g2 := fun k => mi X4 (m + 17) (8 * a + k)) (by omega) (fun k X hk c cont => ?_) (fun X5 c5 => ?_)
  · have h1 := h4.mv c.1
    refine w135_5 ⟨fun z => ?_, fun _ => ⟨h1.k0, h1.n19, by rw [h1.f19]; exact h1.k15, by rw [h1.f19, h1.l15]; exact in_l (S := 8) rfl (by omega) (by omega), by rw [h1.f19, h1.l15]; exact in_l (S := 8) rfl (by omega) (by omega), fun Y q => ⟨h1.n21, by rw [h1.f21]; exact h1.k17, by rw [h1.f21, h1.l17]; exact in_l (S := 8) rfl (by omega) (by omega), by rw [h1.f21, h1.l17]; exact in_l (S := 8) rfl (by omega) (by omega), fun Z q2 => ?_⟩⟩⟩
    · rw [I_le (by omega) (by omega) (by omega) (by omega)] at z; omega
    · rw [h1.f19, nt_l (z := 8) (S := 8) rfl (by omega), nt_l (z := 8) (S := 8) rfl (by omega), c.2.2.1, if_neg (by omega)] at q
      rw [h1.f21, nt_l (z := 8) (S := 8) rfl (by omega), nt_l (z := 8) (S := 8) rfl (by omega), q, i_ia (by omega), ← q, c.2.2.2, if_neg (by omega)] at q2
      rw [I_add]; exact cont Y Z q q2
  have h5 := h4.mv c5.1
  refine w135_5 ⟨fun _ => ?_, fun z => absurd (by decide) z⟩
  refine ⟨h5.k0, h5.n22, by rw [h5.f22]; exact h5.k18, by rw [h5.f22, h5.l18]; exact I_in (by omega) (by omega) (by omega), by rw [h5.f22, h5.l18]; exact I_in (by omega) (by omega) (by omega), fun X6 q6 => ⟨h5.n23, by rw [h5.f23]; exact h5.k19, by rw [h5.f23, h5.l19]; exact I_in (by omega) (by omega) (by omega), by rw [h5.f23, h5.l19]; exact I_in (by omega) (by omega) (by omega), fun X7 q7 => ?_⟩⟩
  rw [h5.f22, I_ntn (by omega), I_ntn (by omega)] at q6
  rw [h5.f23, I_ntn (by omega), I_ntn (by omega), q6, i_ia (by omega), ← q6] at q7
  have g6 : fm m [10 + b, 20 + b, 30 + b, 40 + b, 50 + b] X5 X6 := fm_i (a := 18) q6 (by omega) (by show [10 + b, 20 + b, 30 + b, 40 + b, 50 + b].contains (40 + b) = true; exact cc (x := 0) (by omega))
  have g7 : fm m [10 + b, 20 + b, 30 + b, 40 + b, 50 + b] X6 X7 := fm_i (a := 19) q7 (by omega) (by show [10 + b, 20 + b, 30 + b, 40 + b, 50 + b].contains (50 + b) = true; exact cc (x := 0) (by omega))
  have h7 := (h5.mv g6.1).mv g7.1
  refine cp_loop (L := fun x => [some (.ref m), some (.int (I a)), some (.int (I b)), some (.int x)]) (A := m + 20) (t := 240 * b) (N := 240) (g := fun k => cN (mi X7 (m + 20) (240 * a + k))) (fun k X hk c cont => ?_) (fun X8 c8 => ?_)
  · have h1 := h7.mv c.1
    refine w135_7 ⟨fun z => ?_, fun _ => ⟨h1.k0, h1.n24, by rw [h1.f24]; exact h1.k20, by rw [h1.f24, h1.l20]; exact in_l (S := 240) rfl (by omega) (by omega), by rw [h1.f24, h1.l20]; exact in_l (S := 240) rfl (by omega) (by omega), fun Y q => ?_⟩⟩
    · rw [I_le (by omega) (by omega) (by omega) (by omega)] at z; omega
    · rw [h1.f24, nt_l (z := 240) (S := 240) rfl (by omega), nt_l (z := 240) (S := 240) rfl (by omega), c.2.2, if_neg (by omega)] at q
      rw [I_add]; exact cont Y q
  have h8 := h7.mv c8.1
  refine w135_7 ⟨fun _ => ?_, fun z => absurd (by decide) z⟩
  have f3 : fm m [10 + b, 20 + b, 30 + b, 40 + b, 50 + b] X2 X3 := c3.fm (by omega) (fun j j1 j2 => ow 64 30 j j1 j2 (Or.inl rfl))
  have f4 : fm m [10 + b, 20 + b, 30 + b, 40 + b, 50 + b] X3 X4 := c4.fm (by omega) (fun j j1 j2 => ow 640 30 j j1 j2 (Or.inl rfl))
  have f5 : fm m [10 + b, 20 + b, 30 + b, 40 + b, 50 + b] X4 X5 := c5.fm (a := 15) (a2 := 17) (by omega) (by omega) (fun j j1 j2 => ow 8 30 j j1 j2 (Or.inl rfl)) (fun j j1 j2 => ow 8 30 j j1 j2 (Or.inl rfl))
  have f8 : fm m [10 + b, 20 + b, 30 + b, 40 + b, 50 + b] X7 X8 := c8.fm (by omega) (fun j j1 j2 => ow 240 50 j j1 j2 (Or.inr rfl))
  -- what the copy of the variables has left
  have k0 : ∀ x k, 13 ≤ x → x < 21 → mi X0 (m + x) k = mi M (m + x) k := by
    intro x k x1 x2
    refine f0.2.2 x k (by omega) ?_
    have : 30 ≤ own x k := by
      rcases (show x = 13 ∨ x = 14 ∨ x = 15 ∨ x = 16 ∨ x = 17 ∨ x = 18 ∨ x = 19 ∨ x = 20 by omega) with e | e | e | e | e | e | e | e <;> (subst e; first | exact Nat.le_add_right 30 _ | exact Nat.le_trans (show 30 ≤ 40 by decide) (Nat.le_add_right 40 _) | exact Nat.le_trans (show 30 ≤ 50 by decide) (Nat.le_add_right 50 _))
    simp only [List.contains_cons, List.contains_nil, Bool.or_false, Bool.or_eq_false_iff]
    constructor
    · exact beq_false_of_ne (by omega)
    · exact beq_false_of_ne (by omega)
  have nv : ∀ x k, x < 13 → mi X8 (m + x) k = mi X0 (m + x) k := by
    intro x k hx
    rw [c8.2.1 _ (by omega), q7, i_ia (by omega), q6, i_ia (by omega), c5.2.1 _ (by omega) (by omega), c4.2.1 _ (by omega), c3.2.1 _ (by omega), q2, i_ia (by omega)]; try rfl
  have fa := (((((((f0'.trans g2).trans f3).trans f4).trans f5).trans g6).trans g7).trans f8)
  refine hq X8 ⟨by rw [nv 5 _ (by omega)]; exact v0.1, v0.2.1, fun i hi => ⟨⟨by rw [nv 7 _ (by omega)]; exact (v0.2.2 i hi).1.1, (v0.2.2 i hi).1.2.1, fun k hk => by rw [nv 6 _ (by omega)]; exact (v0.2.2 i hi).1.2.2.1 k hk, (v0.2.2 i hi).1.2.2.2⟩, ⟨by rw [nv 9 _ (by omega)]; exact (v0.2.2 i hi).2.1, (v0.2.2 i hi).2.2.1, fun k hk => by rw [nv 8 _ (by omega)]; exact (v0.2.2 i hi).2.2.2.1 k hk, (v0.2.2 i hi).2.2.2.2⟩⟩⟩ ⟨by rw [nv 10 _ (by omega)]; exact p0.1, p0.2.1, fun i hi => ⟨by rw [nv 12 _ (by omega)]; exact (p0.2.2 i hi).1, (p0.2.2 i hi).2.1, fun k hk => by rw [nv 11 _ (by omega)]; exact (p0.2.2 i hi).2.2.1 k hk, (p0.2.2 i hi).2.2.2⟩⟩ ⟨?_, f.2.1, fun i hi => ⟨nmR.cp (R := 8) (f.2.2 i hi).1 (by have := f.2.1; omega) (fun k hk => ?_) (fun k hk => ?_), nmR.cp (R := 8) (f.2.2 i hi).2 (by have := f.2.1; omega) (fun k hk => ?_) (fun k hk => ?_)⟩⟩ ?_ ⟨?_, ou.2.1, fun k hk => ?_, ou.2.2.2⟩ fa
  · rw [c8.2.1 _ (by omega), q7, i_ia (by omega), q6, i_ia (by omega), c5.2.1 _ (by omega) (by omega), c4.2.1 _ (by omega), c3.2.1 _ (by omega), q2, i_is, k0 13 _ (by omega) (by omega)]; exact f.1
  · rw [c8.2.1 _ (by omega), q7, i_ia (by omega), q6, i_ia (by omega), c5.2.1 _ (by omega) (by omega), c4.2.1 _ (by omega), c3.2.2, if_pos (by omega), show 8 * 8 * b + k - 64 * b = k by omega]; dsimp only; rw [q2, i_ia (by omega), k0 14 _ (by omega) (by omega)]; try rfl
  · rw [c8.2.1 _ (by omega), q7, i_ia (by omega), q6, i_ia (by omega), c5.2.2.1, if_pos (by omega), Nat.add_sub_cancel_left]; dsimp only; rw [c4.2.1 _ (by omega), c3.2.1 _ (by omega), q2, i_ia (by omega), k0 15 _ (by omega) (by omega)]; try rfl
  · rw [c8.2.1 _ (by omega), q7, i_ia (by omega), q6, i_ia (by omega), c5.2.1 _ (by omega) (by omega), c4.2.2, if_pos (by omega), show 80 * 8 * b + k - 640 * b = k by omega]; dsimp only; rw [c3.2.1 _ (by omega), q2, i_ia (by omega), k0 16 _ (by omega) (by omega)]; try rfl
  · rw [c8.2.1 _ (by omega), q7, i_ia (by omega), q6, i_ia (by omega), c5.2.2.2, if_pos (by omega), Nat.add_sub_cancel_left]; dsimp only; rw [c4.2.1 _ (by omega), c3.2.1 _ (by omega), q2, i_ia (by omega), k0 17 _ (by omega) (by omega)]; try rfl
  · rw [c8.2.1 _ (by omega), q7, i_ia (by omega), q6, i_is, c5.2.1 _ (by omega) (by omega), c4.2.1 _ (by omega), c3.2.1 _ (by omega), q2, i_ia (by omega), k0 18 _ (by omega) (by omega)]; exact hs
  · rw [c8.2.1 _ (by omega), q7, i_is, c5.2.1 _ (by omega) (by omega), c4.2.1 _ (by omega), c3.2.1 _ (by omega), q2, i_ia (by omega), k0 19 _ (by omega) (by omega)]; exact ou.1
  · have c : u.getD k 0 < 65536 := getD_lt ou.2.2.2 (by omega) k
    rw [c8.2.2, if_pos (by have := ou.2.1; omega), Nat.add_sub_cancel_left]; dsimp only; rw [q7, i_ia (by omega), q6, i_ia (by omega), c5.2.1 _ (by omega) (by omega), c4.2.1 _ (by omega), c3.2.1 _ (by omega), q2, i_ia (by omega), k0 20 _ (by omega) (by omega), ou.2.2.1 k hk, I_cN (by omega) (by omega)]; try rfl
end MCPY
