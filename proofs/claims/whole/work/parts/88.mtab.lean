/-! THE REFERENCE: rows of texts in an array, copies -/
/-- g was written into n places of A from t on -/
def cpd (M M' : mM) (A t n : Nat) (g : Nat → Int32) : Prop := ieq M M' ∧ (∀ x, ¬ x = A → ∀ k, mi M' x k = mi M x k) ∧ ∀ j, mi M' A j = if t ≤ j ∧ j < t + n then g (j - t) else mi M A j
theorem cpd.z (M : mM) (A t : Nat) (g : Nat → Int32) : cpd M M A t 0 g := ⟨ieq.refl M, fun _ _ _ => rfl, fun j => by rw [if_neg (by omega)]⟩
theorem cpd.st {M M1 M2 : mM} {A t n : Nat} {g : Nat → Int32} (h : cpd M M1 A t n g) (q : M2 = msi M1 A (t + n) (g n)) : cpd M M2 A t (n + 1) g := by
  subst q
  refine ⟨h.1.trans ⟨fun _ => rfl, fun _ => rfl, fun _ _ => rfl, fun _ _ => rfl, rfl, rfl⟩, fun x hx k => ?_, fun j => ?_⟩
  · rw [i_ia hx]; exact h.2.1 x hx k
  · rw [i_i]
    by_cases z : j = t + n
    · rw [if_pos ⟨rfl, z⟩, if_pos (by omega), z, Nat.add_sub_cancel_left]
    · rw [if_neg (fun y => z y.2), h.2.2 j]
      by_cases z2 : t ≤ j ∧ j < t + n
      · rw [if_pos z2, if_pos (by omega)]
      · rw [if_neg z2, if_neg (by omega)]
theorem cpd.fm {M M' : mM} {m a t n : Nat} {g : Nat → Int32} (h : cpd M M' (m + a) t n g) (ha : a < 29) {S : List Nat} (hS : ∀ j, t ≤ j → j < t + n → S.contains (own a j) = true) : fm m S M M' := by
  refine ⟨h.1, fun x hx k => h.2.1 x (by omega) k, fun a' k ha' hs => ?_⟩
  by_cases z : a' = a
  · subst z
    rw [h.2.2 k, if_neg (fun y => ?_)]
    rw [hS k y.1 y.2] at hs; exact absurd hs (by decide)
  · exact h.2.1 _ (by omega) k
/-- a loop that copies -/
theorem cp_loop {E : mE} {Q : mQ} {y b : Nat} {L : Int32 → mL} {M0 : mM} {A t N : Nat} {g : Nat → Int32} (step : ∀ k M, k < N → cpd M0 M A t k g → (∀ M2, M2 = msi M A (t + k) (g k) → mX E y b (L (I ((k : Int) + 1))) [] M2 Q) → mX E y b (L (I k)) [] M Q) (fin : ∀ M, cpd M0 M A t N g → mX E y b (L (I N)) [] M Q) : mX E y b (L (I 0)) [] M0 Q := by
  have go : ∀ n k M, n = N - k → k ≤ N → cpd M0 M A t k g → mX E y b (L (I k)) [] M Q := by
    intro n
    induction n with
    | zero =>
      intro k M hn hk c
      rw [show k = N by omega] at c ⊢
      exact fin M c
    | succ n ih =>
      intro k M hn hk c
      refine step k M (by omega) c (fun M2 q => ?_)
      exact ih (k + 1) M2 (by omega) (by omega) (c.st q)
  exact go N 0 M0 rfl (by omega) (cpd.z _ _ _ _)
/-- row j of the texts in A (cap characters a row), their sizes in B -/
def nmR (M : mM) (A B cap j : Nat) (s : List Nat) : Prop := mi M B j = I s.length ∧ s.length ≤ cap ∧ (∀ k, k < s.length → mi M A (cap * j + k) = I (s.getD k 0)) ∧ ∀ c ∈ s, c < 65536
theorem nmR.ch {M : mM} {A B cap j : Nat} {s : List Nat} (h : nmR M A B cap j s) (k : Nat) : s.getD k 0 < 65536 := getD_lt h.2.2.2 (by omega) k
theorem strip {cap j t k n : Nat} (hk : k < cap) (hn : n ≤ cap) (hj : ¬ j = t) : ¬ (cap * t ≤ cap * j + k ∧ cap * j + k < cap * t + n) := by
  intro z
  rcases Nat.lt_or_gt_of_ne hj with q | q
  · have := Nat.mul_le_mul_left cap (show j + 1 ≤ t by omega)
    rw [Nat.mul_add, Nat.mul_one] at this
    omega
  · have := Nat.mul_le_mul_left cap (show t + 1 ≤ j by omega)
    rw [Nat.mul_add, Nat.mul_one] at this
    omega
section NMR
variable {M M' : mM} {A B cap j t n : Nat} {s : List Nat} {g : Nat → Int32} {v : Int32}
theorem nmR.oth {x N : Nat} (h : nmR M A B cap j s) (c : cpd M M' x t N g) (h1 : ¬ A = x) (h2 : ¬ B = x) : nmR M' A B cap j s := ⟨by rw [c.2.1 B h2]; exact h.1, h.2.1, fun k hk => by rw [c.2.1 A h1]; exact h.2.2.1 k hk, h.2.2.2⟩
theorem nmR.oth1 {x i : Nat} (h : nmR M A B cap j s) (q : M' = msi M x i v) (h1 : ¬ A = x) (h2 : ¬ B = x) : nmR M' A B cap j s := by
  subst q
  exact ⟨by rw [i_ia h2]; exact h.1, h.2.1, fun k hk => by rw [i_ia h1]; exact h.2.2.1 k hk, h.2.2.2⟩
/-- another row -/
theorem nmR.row {N : Nat} (h : nmR M A B cap j s) (c : cpd M M' A (cap * t) N g) (hN : N ≤ cap) (hj : ¬ j = t) (h2 : ¬ B = A) : nmR M' A B cap j s := ⟨by rw [c.2.1 B h2]; exact h.1, h.2.1, fun k hk => by rw [c.2.2, if_neg (strip (by have := h.2.1; omega) hN hj)]; exact h.2.2.1 k hk, h.2.2.2⟩
theorem nmR.row1 (h : nmR M A B cap j s) (q : M' = msi M B t v) (hj : ¬ j = t) (h2 : ¬ A = B) : nmR M' A B cap j s := by
  subst q
  exact ⟨by rw [i_ik hj]; exact h.1, h.2.1, fun k hk => by rw [i_ia h2]; exact h.2.2.1 k hk, h.2.2.2⟩
/-- the row has been written -/
theorem nmR.mk' {M1 : mM} (c : cpd M M1 A (cap * t) n g) (hn : s.length ≤ n) (hg : ∀ k, k < s.length → g k = I (s.getD k 0)) (hc : s.length ≤ cap) (hs : ∀ c ∈ s, c < 65536) (q : M' = msi M1 B t (I s.length)) (h2 : ¬ A = B) : nmR M' A B cap t s := by
  subst q
  refine ⟨i_is, hc, fun k hk => ?_, hs⟩
  rw [i_ia h2, c.2.2, if_pos (by omega), Nat.add_sub_cancel_left]; exact hg k hk
end NMR
theorem ord_bd {s u : List Nat} (h1 : ∀ c ∈ s, c < 65536) (h2 : ∀ c ∈ u, c < 65536) (l1 : s.length ≤ 1000) (l2 : u.length ≤ 1000) : -65536 < ordS s u ∧ ordS s u < 65536 := ordS_bd s u h1 h2 l1 l2
section MCMP
variable {E : mE} {M M' : mM} {Q : mQ} {m : Nat} {s e w : List Nat}
theorem m_cmpV_l {i p n : Nat} (h : mS M m) (hr : nmR M (m + 6) (m + 7) 6 (8 + i) e) (hi : i < 8) (t : mdT M m s) (hp : p + n ≤ s.length) (z : Nat) : ∀ (k : Nat) (d : Option Value), z = min e.length n - k → k ≤ min e.length n → Q (.inl (some (.int (I (ordS (e.drop k) ((seg s p (p + n)).drop k)))))) M →
    mX E 136 1 [some (.ref m), some (.int (I i)), some (.int (I p)), some (.int (I n)), some (.int (I e.length)), some (.int (I k)), d] [] M Q := by
  have hl := t.2.1
  have he := hr.2.1
  have sl : (seg s p (p + n)).length = n := by rw [seg_len]; omega
  have fin : ∀ k : Nat, k ≤ e.length → k ≤ n → (k = e.length ∨ k = n) → Q (.inl (some (.int (I (ordS (e.drop k) ((seg s p (p + n)).drop k)))))) M → Q (.inl (some (.int (I e.length - I n)))) M := by
    intro k k1 k2 k3 hq
    rw [ordS_fin k1 (by omega) (by omega), sl] at hq
    rw [I_sub]; exact hq
  induction z with
  | zero =>
    intro k d hn hk hq
    refine w136_1 ⟨fun _ => fin k (by omega) (by omega) (by omega) hq, fun c => ⟨fun _ => fin k (by omega) (by omega) (by omega) hq, fun c2 => ?_⟩⟩
    rw [I_le (by omega) (by omega) (by omega) (by omega)] at c c2; omega
  | succ z ih =>
    intro k d hn hk hq
    have c1 := hr.ch k
    have c2 := t.ch (p + k)
    rw [ordS_st (by omega) (by omega), seg_get (by omega)] at hq
    refine w136_1 ⟨fun c => ?_, fun c => ⟨fun c => ?_, fun c => ⟨h.k0, h.n10, by rw [h.f10]; exact h.k6, ?_⟩⟩⟩
    · rw [I_le (by omega) (by omega) (by omega) (by omega)] at c; omega
    · rw [I_le (by omega) (by omega) (by omega) (by omega)] at c; omega
    · have e1 : nt (I 6 * (I 8 + I (i : Int)) + I (k : Int)) = 6 * (8 + i) + k := by
        rw [I_add, I_mul, I_add, show (6 : Int) * (8 + (i : Int)) + (k : Int) = ((6 * (8 + i) + k : Nat) : Int) by omega, I_ntn (by omega)]
      have e2 : nt (I (p : Int) + I (k : Int)) = p + k := by
        rw [I_add, show (p : Int) + (k : Int) = ((p + k : Nat) : Int) by omega, I_ntn (by omega)]
      rw [h.f10, h.f3, e1, e2, hr.2.2.1 k (by omega), t.2.2.1 _ (by omega), I_sub]
      refine ⟨by rw [h.l6, I_add, I_mul, I_add]; exact I_in (by omega) (by omega) (by omega), by rw [← h.f3]; exact h.n3, h.k1, by rw [h.l1, I_add]; exact I_in (by omega) (by omega) (by omega), fun z => ?_, fun z => ?_⟩
      · rw [I_eq (by omega) (by omega) (by omega) (by omega)] at z
        rw [if_pos (by omega)] at hq
        rw [I_add]
        exact ih (k + 1) _ (by omega) (by omega) hq
      · rw [I_eq (by omega) (by omega) (by omega) (by omega)] at z
        rw [if_neg (by omega)] at hq
        exact hq
theorem m_cmpV {i p n : Nat} (h : mS M m) (hr : nmR M (m + 6) (m + 7) 6 (8 + i) e) (hi : i < 8) (t : mdT M m s) (hp : p + n ≤ s.length) (hq : Q (.inl (some (.int (I (ordS e (seg s p (p + n))))))) M) : mC E 136 [.ref m, .int (I i), .int (I p), .int (I n)] M Q := by
  have hl := t.2.1
  refine w136_0 ⟨h.k0, h.n11, by rw [h.f11]; exact h.k7, by rw [h.f11, h.l7, I_add]; exact I_in (by omega) (by omega) (by omega), ?_⟩
  rw [h.f11, I_add, show (8 : Int) + (i : Int) = ((8 + i : Nat) : Int) by omega, I_ntn (by omega), hr.1]
  exact m_cmpV_l h hr hi t hp _ 0 none rfl (by omega) hq
theorem m_cmpF_l {i f : Nat} (h : mS M m) (hr : nmR M (m + 14) (m + 15) 8 (8 + i) e) (hi : i < 8) (t : nmR M (m + 23) (m + 24) 40 f w) (hf : f ≤ 16) (z : Nat) : ∀ (k : Nat) (d : Option Value), z = min e.length w.length - k → k ≤ min e.length w.length → Q (.inl (some (.int (I (ordS (e.drop k) (w.drop k)))))) M →
    mX E 141 1 [some (.ref m), some (.int (I i)), some (.int (I f)), some (.int (I e.length)), some (.int (I w.length)), some (.int (I k)), d] [] M Q := by
  have hl := t.2.1
  have he := hr.2.1
  have fin : ∀ k : Nat, k ≤ e.length → k ≤ w.length → (k = e.length ∨ k = w.length) → Q (.inl (some (.int (I (ordS (e.drop k) (w.drop k)))))) M → Q (.inl (some (.int (I e.length - I w.length)))) M := by
    intro k k1 k2 k3 hq
    rw [ordS_fin k1 (by omega) (by omega)] at hq
    rw [I_sub]; exact hq
  induction z with
  | zero =>
    intro k d hn hk hq
    refine w141_1 ⟨fun _ => fin k (by omega) (by omega) (by omega) hq, fun c => ⟨fun _ => fin k (by omega) (by omega) (by omega) hq, fun c2 => ?_⟩⟩
    rw [I_le (by omega) (by omega) (by omega) (by omega)] at c c2; omega
  | succ z ih =>
    intro k d hn hk hq
    have c1 := hr.ch k
    have c2 := t.ch k
    rw [ordS_st (by omega) (by omega)] at hq
    refine w141_1 ⟨fun c => ?_, fun c => ⟨fun c => ?_, fun c => ⟨h.k0, h.n18, by rw [h.f18]; exact h.k14, ?_⟩⟩⟩
    · rw [I_le (by omega) (by omega) (by omega) (by omega)] at c; omega
    · rw [I_le (by omega) (by omega) (by omega) (by omega)] at c; omega
    · have e1 : nt (I 8 * (I 8 + I (i : Int)) + I (k : Int)) = 8 * (8 + i) + k := by
        rw [I_add, I_mul, I_add, show (8 : Int) * (8 + (i : Int)) + (k : Int) = ((8 * (8 + i) + k : Nat) : Int) by omega, I_ntn (by omega)]
      have e2 : nt (I 40 * I (f : Int) + I (k : Int)) = 40 * f + k := by
        rw [I_mul, I_add, show (40 : Int) * (f : Int) + (k : Int) = ((40 * f + k : Nat) : Int) by omega, I_ntn (by omega)]
      rw [h.f18, h.f34, e1, e2, hr.2.2.1 k (by omega), t.2.2.1 _ (by omega), I_sub]
      refine ⟨by rw [h.l14, I_add, I_mul, I_add]; exact I_in (by omega) (by omega) (by omega), by rw [← h.f34]; exact h.n34, h.k23, by rw [h.l23, I_mul, I_add]; exact I_in (by omega) (by omega) (by omega), fun z => ?_, fun z => ?_⟩
      · rw [I_eq (by omega) (by omega) (by omega) (by omega)] at z
        rw [if_pos (by omega)] at hq
        rw [I_add]
        exact ih (k + 1) _ (by omega) (by omega) hq
      · rw [I_eq (by omega) (by omega) (by omega) (by omega)] at z
        rw [if_neg (by omega)] at hq
        exact hq
theorem m_cmpF {i f : Nat} (h : mS M m) (hr : nmR M (m + 14) (m + 15) 8 (8 + i) e) (hi : i < 8) (t : nmR M (m + 23) (m + 24) 40 f w) (hf : f ≤ 16) (hq : Q (.inl (some (.int (I (ordS e w))))) M) : mC E 141 [.ref m, .int (I i), .int (I f)] M Q := by
  refine w141_0 ⟨h.k0, h.n19, by rw [h.f19]; exact h.k15, by rw [h.f19, h.l15, I_add]; exact I_in (by omega) (by omega) (by omega), h.n35, by rw [h.f35]; exact h.k24, by rw [h.f35, h.l24]; exact I_in (by omega) (by omega) (by omega), ?_⟩
  rw [h.f19, h.f35, I_add, show (8 : Int) + (i : Int) = ((8 + i : Nat) : Int) by omega, I_ntn (by omega), I_ntn (n := f) (by omega), hr.1, t.1]
  exact m_cmpF_l h hr hi t hf _ 0 none rfl (by omega) hq
/-- the variable's name is the field -/
theorem m_varIs {i f : Nat} (h : mS M m) (hr : nmR M (m + 6) (m + 7) 6 (8 + i) e) (hi : i < 8) (t : nmR M (m + 23) (m + 24) 40 f w) (hf : f ≤ 16) (h1 : e = w → Q (.inl (some (.int (I 1)))) M) (h0 : ¬ e = w → Q (.inl (some (.int (I 0)))) M) : mC E 140 [.ref m, .int (I i), .int (I f)] M Q := by
  have hl := t.2.1
  have he := hr.2.1
  have lf : vp_in (I f) (mln M (mr M m 35)) := by rw [h.f35, h.l24]; exact I_in (by omega) (by omega) (by omega)
  have three0 : ∀ k : Nat, ¬ e = w → mX E 140 3 [some (.ref m), some (.int (I i)), some (.int (I f)), some (.int (I 0)), some (.int (I k))] [] M Q := fun k q => w140_3 ⟨h.k0, h.n35, by rw [h.f35]; exact h.k24, lf, fun _ => ⟨Or.inl rfl, h0 q⟩, fun _ => ⟨fun _ => ⟨Or.inl rfl, h0 q⟩, fun z => absurd rfl z⟩⟩
  have three : ∀ z k : Nat, z = w.length - k → k ≤ w.length → e.length = w.length → (∀ j, j < k → e.getD j 0 = w.getD j 0) → mX E 140 3 [some (.ref m), some (.int (I i)), some (.int (I f)), some (.int (I 1)), some (.int (I k))] [] M Q := by
    intro z
    induction z with
    | zero =>
      intro k hn hk hel hj
      have eq : e = w := by
        apply List.ext_getElem hel
        intro j j1 j2
        have := hj j (by omega)
        rw [List.getD_eq_getElem?_getD, List.getElem?_eq_getElem j1, List.getD_eq_getElem?_getD, List.getElem?_eq_getElem j2] at this
        exact this
      refine w140_3 ⟨h.k0, h.n35, by rw [h.f35]; exact h.k24, lf, fun _ => ⟨Or.inr rfl, h1 eq⟩, fun c => ?_⟩
      rw [h.f35, I_ntn (by omega), t.1, I_le (by omega) (by omega) (by omega) (by omega)] at c; omega
    | succ z ih =>
      intro k hn hk hel hj
      have c1 := hr.ch k
      have c2 := t.ch k
      refine w140_3 ⟨h.k0, h.n35, by rw [h.f35]; exact h.k24, lf, fun c => ?_, fun c => ⟨fun z => absurd z (by decide), fun _ => ⟨h.n10, by rw [h.f10]; exact h.k6, ?_⟩⟩⟩
      · rw [h.f35, I_ntn (by omega), t.1, I_le (by omega) (by omega) (by omega) (by omega)] at c; omega
      · have e1 : nt (I 6 * (I 8 + I (i : Int)) + I (k : Int)) = 6 * (8 + i) + k := by
          rw [I_add, I_mul, I_add, show (6 : Int) * (8 + (i : Int)) + (k : Int) = ((6 * (8 + i) + k : Nat) : Int) by omega, I_ntn (by omega)]
        have e2 : nt (I 40 * I (f : Int) + I (k : Int)) = 40 * f + k := by
          rw [I_mul, I_add, show (40 : Int) * (f : Int) + (k : Int) = ((40 * f + k : Nat) : Int) by omega, I_ntn (by omega)]
        rw [h.f10, h.f34, e1, e2, hr.2.2.1 k (by omega), t.2.2.1 _ (by omega)]
        refine ⟨by rw [h.l6, I_add, I_mul, I_add]; exact I_in (by omega) (by omega) (by omega), by rw [← h.f34]; exact h.n34, h.k23, by rw [h.l23, I_mul, I_add]; exact I_in (by omega) (by omega) (by omega), fun z => ?_, fun z => ?_⟩
        · rw [I_eq (by omega) (by omega) (by omega) (by omega)] at z
          rw [I_add]
          exact three0 (k + 1) (fun y => by rw [y] at z; omega)
        · rw [I_eq (by omega) (by omega) (by omega) (by omega)] at z
          rw [I_add]
          refine ih (k + 1) (by omega) (by omega) hel (fun j hj2 => ?_)
          by_cases y : j = k
          · subst y; omega
          · exact hj j (by omega)
  refine w140_0 ⟨h.k0, h.n11, by rw [h.f11]; exact h.k7, by rw [h.f11, h.l7, I_add]; exact I_in (by omega) (by omega) (by omega), h.n35, by rw [h.f35]; exact h.k24, lf, fun z => ?_, fun z => ?_⟩
  · rw [h.f11, h.f35, I_add, show (8 : Int) + (i : Int) = ((8 + i : Nat) : Int) by omega, I_ntn (by omega), I_ntn (n := f) (by omega), hr.1, t.1, I_eq (by omega) (by omega) (by omega) (by omega)] at z
    exact three0 0 (fun y => by rw [y] at z; omega)
  · rw [h.f11, h.f35, I_add, show (8 : Int) + (i : Int) = ((8 + i : Nat) : Int) by omega, I_ntn (by omega), I_ntn (n := f) (by omega), hr.1, t.1, I_eq (by omega) (by omega) (by omega) (by omega)] at z
    exact three _ 0 rfl (by omega) (by omega) (fun j hj => absurd hj (Nat.not_lt_zero j))
end MCMP
