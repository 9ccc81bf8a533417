/-! THE REFERENCE: grep, sort, uniq, rev -/
theorem ordS_neg : ∀ (s u : List Nat), ordS s u = - ordS u s
  | [], [] => by unfold ordS; simp
  | [], y :: u => by unfold ordS; simp
  | x :: s, [] => by unfold ordS; simp
  | x :: s, y :: u => by
    unfold ordS
    by_cases q : x = y
    · rw [if_pos q, if_pos q.symm, ordS_neg s u]
    · rw [if_neg q, if_neg (fun z => q z.symm)]; omega
theorem ordS_st {s u : List Nat} {k : Nat} (h1 : k < s.length) (h2 : k < u.length) : ordS (s.drop k) (u.drop k) = if s.getD k 0 = u.getD k 0 then ordS (s.drop (k + 1)) (u.drop (k + 1)) else (s.getD k 0 : Int) - u.getD k 0 := by
  rw [drop_getD h1, drop_getD h2]; rfl
theorem ordS_fin {s u : List Nat} {k : Nat} (h1 : k ≤ s.length) (h2 : k ≤ u.length) (h : k = s.length ∨ k = u.length) : ordS (s.drop k) (u.drop k) = (s.length : Int) - u.length := by
  rcases h with q | q
  · rw [List.drop_eq_nil_of_le (show s.length ≤ k by omega)]
    unfold ordS; rw [List.length_drop]; omega
  · rw [List.drop_eq_nil_of_le (show u.length ≤ k by omega), ordS_neg]
    unfold ordS; rw [List.length_drop]; omega
theorem seg_full {u p : List Nat} {st k : Nat} (hst : st + p.length ≤ u.length) (hk : k = p.length) (hj : ∀ j, j < k → u.getD (st + j) 0 = p.getD j 0) : seg u st (st + p.length) = p := by
  have sl : (seg u st (st + p.length)).length = p.length := by rw [seg_len]; omega
  apply List.ext_getElem
  · exact sl
  · intro j j1 j2
    have e1 := hj j (by omega)
    rw [← seg_get (e := st + p.length) (show j < st + p.length - st by omega)] at e1
    rw [List.getD_eq_getElem?_getD, List.getElem?_eq_getElem j1, List.getD_eq_getElem?_getD, List.getElem?_eq_getElem j2] at e1
    exact e1
theorem rv_take {C : List Nat} {n : Nat} (h : n < C.length) : (C.take (n + 1)).reverse = C.getD n 0 :: (C.take n).reverse := by
  rw [List.take_succ, List.getElem?_eq_getElem h, List.getD_eq_getElem?_getD, List.getElem?_eq_getElem h, List.reverse_append]; rfl
section MLINE
variable {E : mE} {M M' : mM} {Q : mQ} {m : Nat} {V u : List Nat} {fs rs : List (List Nat)} {S : List Nat}
theorem m_stand2 {l a p : Nat} {pat : List Nat} (h : mS M m) (hi : inX M m u) (hf : fdX M m fs) (h2 : 1 < fs.length) (hp : fs.getD 1 [] = pat) (hl : l < 240) (ha : mi M (m + 27) l = I a) (hst : a + p + pat.length ≤ u.length)
    (h1 : seg u (a + p) (a + p + pat.length) = pat → ∀ d, mX E 181 1 [some (.ref m), some (.int (I l)), some (.int (I 1)), some (.int (I p + I 1)), d] [] M Q) (h0 : ¬ seg u (a + p) (a + p + pat.length) = pat → ∀ d, mX E 181 1 [some (.ref m), some (.int (I l)), some (.int (I 0)), some (.int (I p + I 1)), d] [] M Q) (n : Nat) : ∀ (k : Nat), n = pat.length - k → k ≤ pat.length → (∀ j, j < k → u.getD (a + p + j) 0 = pat.getD j 0) →
    mX E 181 2 [some (.ref m), some (.int (I l)), some (.int (I 1)), some (.int (I p)), some (.int (I k))] [] M Q := by
  have hu := hi.2.1
  obtain ⟨a1, a2, a3⟩ := hf.2.2.1 1 h2
  rw [hp] at a1 a2 a3
  have n1 : nt (I 1) = 1 := by decide
  have lf : vp_in (I 1) (mln M (m + 24)) := by rw [h.l24]; exact I_in (by omega) (by omega) (by omega)
  induction n with
  | zero =>
    intro k hn hk hj
    refine w181_2 ⟨h.k0, h.n35, by rw [h.f35]; exact h.k24, by rw [h.f35]; exact lf, fun _ => h1 (seg_full (by omega) (show k = pat.length by omega) hj) _, fun c => ?_⟩
    rw [h.f35, n1, a1, I_le (by omega) (by omega) (by omega) (by omega)] at c; omega
  | succ n ih =>
    intro k hn hk hj
    have c1 := hi.ch (a + p + k)
    have c2 := hf.ch 1 k
    rw [hp] at c2
    refine w181_2 ⟨h.k0, h.n35, by rw [h.f35]; exact h.k24, by rw [h.f35]; exact lf, fun c => ?_, fun c => ⟨fun z => absurd z (by decide), fun _ => ⟨h.n37, h.n41, by rw [h.f41]; exact h.k27, by rw [h.f41, h.l27]; exact I_in (by omega) (by omega) (by omega), by rw [h.f37]; exact h.k25, ?_⟩⟩⟩
    · rw [h.f35, n1, a1, I_le (by omega) (by omega) (by omega) (by omega)] at c; omega
    · have e1 : mi M (m + 25) (nt (I (a : Int) + I (p : Int) + I (k : Int))) = I (u.getD (a + p + k) 0) := by
        rw [I_add, I_add, show (a : Int) + (p : Int) + (k : Int) = ((a + p + k : Nat) : Int) by omega, I_ntn (by omega), hi.2.2.1 _ (by omega)]
      have e2 : mi M (m + 23) (nt (I 40 + I (k : Int))) = I (pat.getD k 0) := by
        rw [I_add, show (40 : Int) + (k : Int) = ((40 * 1 + k : Nat) : Int) by omega, I_ntn (by omega), a3 k (by omega)]
      rw [h.f41, I_ntn (by omega), ha, h.f37, h.f34, e1, e2]
      refine ⟨by rw [h.l25, I_add, I_add]; exact I_in (by omega) (by omega) (by omega), by rw [← h.f34]; exact h.n34, h.k23, by rw [h.l23, I_add]; exact I_in (by omega) (by omega) (by omega), fun z => ?_, fun z => ?_⟩
      · rw [I_eq (by omega) (by omega) (by omega) (by omega)] at z
        have bad : ¬ seg u (a + p) (a + p + pat.length) = pat := by
          intro y
          have := seg_get (u := u) (f := a + p) (e := a + p + pat.length) (j := k) (by omega)
          rw [y] at this; omega
        refine w181_2 ⟨h.k0, h.n35, by rw [h.f35]; exact h.k24, by rw [h.f35]; exact lf, fun _ => h0 bad _, fun c => ⟨fun _ => h0 bad _, fun z => absurd rfl z⟩⟩
      · rw [I_eq (by omega) (by omega) (by omega) (by omega)] at z
        rw [I_add]
        refine ih (k + 1) (by omega) (by omega) (fun j hj2 => ?_)
        by_cases y : j = k
        · subst y; omega
        · exact hj j (by omega)
theorem m_stand_l {l : Nat} {pat : List Nat} (h : mS M m) (hi : inX M m u) (hf : fdX M m fs) (h2 : 1 < fs.length) (hp : fs.getD 1 [] = pat) (hr : lnX M m rs) (hl : l < rs.length) (hw : lnW u (rs.getD l [])) (n : Nat) : ∀ (p : Nat) (d : Option Value), n = (rs.getD l []).getD 2 0 + 1 - (pat.length + (rs.getD l []).getD 1 0) - p → p ≤ 1000 → Q (.inl (some (.int (I (bI (hsN u pat n ((rs.getD l []).getD 1 0 + p))))))) M →
    mX E 181 1 [some (.ref m), some (.int (I l)), some (.int (I 0)), some (.int (I p)), d] [] M Q := by
  have hu := hi.2.1
  have hrl := hr.2.1
  obtain ⟨r1, r2⟩ := hr.2.2 l hl
  have w1 := hw.2.1
  have w2 := hw.2.2
  obtain ⟨a1, a2, a3⟩ := hf.2.2.1 1 h2
  rw [hp] at a1 a2 a3
  generalize hA : (rs.getD l []).getD 1 0 = a at *
  generalize hB : (rs.getD l []).getD 2 0 = b at *
  have n1 : nt (I 1) = 1 := by decide
  have lf : vp_in (I 1) (mln M (mr M m 35)) := by rw [h.f35, h.l24]; exact I_in (by omega) (by omega) (by omega)
  have ll : vp_in (I l) (mln M (mr M m 42)) := by rw [h.f42, h.l28]; exact I_in (by omega) (by omega) (by omega)
  induction n with
  | zero =>
    intro p d hn hp2 hq
    refine w181_1 ⟨h.k0, h.n35, by rw [h.f35]; exact h.k24, lf, h.n42, by rw [h.f42]; exact h.k28, ll, fun _ => ⟨Or.inl rfl, hq⟩, fun c => ?_⟩
    rw [h.f42, h.f35, n1, I_ntn (by omega), a1, r2, I_add, I_lt (by omega) (by omega) (by omega) (by omega)] at c; omega
  | succ n ih =>
    intro p d hn hp2 hq
    unfold hsN at hq
    refine w181_1 ⟨h.k0, h.n35, by rw [h.f35]; exact h.k24, lf, h.n42, by rw [h.f42]; exact h.k28, ll, fun c => ?_, fun c => ⟨fun z => absurd rfl z, fun _ => ?_⟩⟩
    · rw [h.f42, h.f35, n1, I_ntn (by omega), a1, r2, I_add, I_lt (by omega) (by omega) (by omega) (by omega)] at c; omega
    · refine m_stand2 h hi hf h2 hp (by omega) r1 (by omega) (fun e d' => ?_) (fun e d' => ?_) _ 0 rfl (by omega) (fun j hj => absurd hj (Nat.not_lt_zero j))
      · rw [if_pos e] at hq
        exact w181_1 ⟨h.k0, h.n35, by rw [h.f35]; exact h.k24, lf, h.n42, by rw [h.f42]; exact h.k28, ll, fun _ => ⟨Or.inr rfl, hq⟩, fun c => ⟨fun z => ⟨Or.inr rfl, hq⟩, fun z => absurd z (by decide)⟩⟩
      · rw [if_neg e] at hq
        rw [I_add]
        exact ih (p + 1) d' (by omega) (by omega) hq
theorem m_stands {l : Nat} (h : mS M m) (hi : inX M m u) (hf : fdX M m fs) (h2 : 1 < fs.length) (hr : lnX M m rs) (hl : l < rs.length) (hw : lnW u (rs.getD l [])) (hq : Q (.inl (some (.int (I (bI (hsR u (fs.getD 1 []) (rs.getD l []))))))) M) : mC E 181 [.ref m, .int (I l)] M Q :=
  w181_0 (m_stand_l h hi hf h2 rfl hr hl hw _ 0 none rfl (by omega) hq)
theorem m_grep_l (h2 : 1 < fs.length) (hw : ∀ r ∈ rs, lnW u r) (n : Nat) : ∀ (k s : Nat) (V : List Nat) (M : mM), n = rs.length - k → k ≤ rs.length → mS M m → inX M m u → fdX M m fs → lnX M m rs → puX M m V → (∀ M', puX M' m (V ++ grL u (fs.getD 1 []) (rs.drop k)) → fm m [64, 138, 125] M M' → Q (.inl (some (.int (I (grS u (fs.getD 1 []) (rs.drop k) s))))) M') →
    mX E 182 1 [some (.ref m), some (.int (I s)), some (.int (I k))] [] M Q := by
  induction n with
  | zero =>
    intro k s V M hn hk h hi hf hr p hq
    have hl := hr.2.1
    rw [List.drop_eq_nil_of_le (by omega)] at hq
    refine w182_1 ⟨h.k0, fun _ => hq M (by simpa [grL] using p) (fm.refl _ _ _), fun c => ?_⟩
    rw [hr.1, I_le (by omega) (by omega) (by omega) (by omega)] at c; omega
  | succ n ih =>
    intro k s V M hn hk h hi hf hr p hq
    have hl := hr.2.1
    have hwk := hw _ (getL_mem (show k < rs.length by omega))
    have g1 : grL u (fs.getD 1 []) (rs.drop k) = (if hsR u (fs.getD 1 []) (rs.getD k []) = true then lnC u (rs.getD k []) ++ [10] else []) ++ grL u (fs.getD 1 []) (rs.drop (k + 1)) := by rw [drop_getL (d := []) (by omega)]; rfl
    have g2 : grS u (fs.getD 1 []) (rs.drop k) s = grS u (fs.getD 1 []) (rs.drop (k + 1)) (if hsR u (fs.getD 1 []) (rs.getD k []) = true then 0 else s) := by rw [drop_getL (d := []) (by omega)]; rfl
    rw [g1, g2] at hq
    refine w182_1 ⟨h.k0, fun c => ?_, fun c => m_stands h hi hf h2 hr (by omega) hwk ⟨fun z => ?_, fun z => ⟨h.k0, ?_⟩⟩⟩
    · rw [hr.1, I_le (by omega) (by omega) (by omega) (by omega)] at c; omega
    · rw [bI_0] at z
      rw [z, if_neg (by decide), if_neg (by decide), List.nil_append] at hq
      rw [I_add]
      exact ih (k + 1) s V M (by omega) (by omega) h hi hf hr p hq
    · rw [bI_0, Bool.not_eq_false] at z
      rw [z, if_pos rfl, if_pos rfl] at hq
      refine m_outLine h hi hr p (by omega) hwk (fun M1 p1 f1 => ?_)
      show mX E 182 1 _ [] M1 Q
      rw [I_add]
      refine ih (k + 1) 0 _ M1 (by omega) (by omega) (h.mv f1.1) (hi.mv f1 (by decide) (by decide)) (hf.mv f1 (by decide) (by decide)) (hr.mv f1 (by decide) (by decide)) p1 (fun M' j1 j2 => hq M' ?_ (f1.trans j2))
      rw [List.append_assoc] at j1; exact j1
theorem m_grep (h : mS M m) (hf : fdX M m fs) (h2 : 1 < fs.length) (hi : inX M m u) (p : puX M m V) (hq : ∀ M', puX M' m (V ++ grL u (fs.getD 1 []) (lnL u 240 0)) → fm m [64, 138, 125, 65, 140] M M' → Q (.inl (some (.int (I (grS u (fs.getD 1 []) (lnL u 240 0) 1))))) M') : mC E 182 [.ref m] M Q :=
  w182_0 ⟨h.k0, m_cutLines h hi (fun M1 l1 f1 => m_grep_l h2 (lnL_w u 240 0) _ 0 1 V M1 rfl (by omega) (h.mv f1.1) (hi.mv f1 (by decide) (by decide)) (hf.mv f1 (by decide) (by decide)) l1 (p.mv f1 (by decide) (by decide) (by decide)) (fun M' g1 g2 => hq M' g1 ((f1.w (by decide)).trans (g2.w (by decide)))))⟩
/-- a line as the reference looks at it -/
theorem ln_at {l k : Nat} (hi : inX M m u) (hr : lnX M m rs) (hl : l < rs.length) (hw : lnW u (rs.getD l [])) : mi M (m + 28) l = I (lnC u (rs.getD l [])).length ∧ (lnC u (rs.getD l [])).length ≤ 240 ∧ ((rs.getD l []).getD 1 0 + (lnC u (rs.getD l [])).length ≤ 240) ∧ (k < (lnC u (rs.getD l [])).length → mi M (m + 25) ((rs.getD l []).getD 1 0 + k) = I ((lnC u (rs.getD l [])).getD k 0)) := by
  have hu := hi.2.1
  obtain ⟨r1, r2⟩ := hr.2.2 l hl
  have w1 := hw.2.1
  have w2 := hw.2.2
  have sl : (lnC u (rs.getD l [])).length = (rs.getD l []).getD 2 0 - (rs.getD l []).getD 1 0 := by unfold lnC; rw [seg_len]; omega
  refine ⟨by rw [r2, sl], by omega, by omega, fun hk => ?_⟩
  rw [hi.2.2.1 _ (by omega)]
  unfold lnC; rw [seg_get (by omega)]
theorem lnC_ch (hi : inX M m u) (l : Nat) : ∀ c ∈ lnC u (rs.getD l []), c < 65536 := fun c hc => hi.2.2.2 c (seg_mem hc)
theorem m_cmp_l {x y : Nat} (h : mS M m) (hi : inX M m u) (hr : lnX M m rs) (hx : x < rs.length) (hy : y < rs.length) (wx : lnW u (rs.getD x [])) (wy : lnW u (rs.getD y [])) (n : Nat) : ∀ (k : Nat) (d : Option Value), n = min (lnC u (rs.getD x [])).length (lnC u (rs.getD y [])).length - k → k ≤ min (lnC u (rs.getD x [])).length (lnC u (rs.getD y [])).length → Q (.inl (some (.int (I (ordS ((lnC u (rs.getD x [])).drop k) ((lnC u (rs.getD y [])).drop k)))))) M →
    mX E 183 1 [some (.ref m), some (.int (I x)), some (.int (I y)), some (.int (I k)), d] [] M Q := by
  have hrl := hr.2.1
  have x0 := ln_at (k := 0) hi hr hx wx
  have y0 := ln_at (k := 0) hi hr hy wy
  have x1 := x0.2.1
  have y1 := y0.2.1
  have x2 := x0.2.2.1
  have y2 := y0.2.2.1
  have lx : vp_in (I x) (mln M (m + 28)) := by rw [h.l28]; exact I_in (by omega) (by omega) (by omega)
  have ly : vp_in (I y) (mln M (m + 28)) := by rw [h.l28]; exact I_in (by omega) (by omega) (by omega)
  have three : ∀ (k : Nat) (d : Option Value), k ≤ (lnC u (rs.getD x [])).length → k ≤ (lnC u (rs.getD y [])).length → (k = (lnC u (rs.getD x [])).length ∨ k = (lnC u (rs.getD y [])).length) → Q (.inl (some (.int (I (ordS ((lnC u (rs.getD x [])).drop k) ((lnC u (rs.getD y [])).drop k)))))) M → mX E 183 3 [some (.ref m), some (.int (I x)), some (.int (I y)), some (.int (I k)), d] [] M Q := by
    intro k d k1 k2 k3 hq
    rw [ordS_fin k1 k2 k3] at hq
    refine w183_3 ⟨h.k0, h.n42, by rw [h.f42]; exact h.k28, by rw [h.f42]; exact lx, by rw [h.f42]; exact ly, ?_⟩
    rw [h.f42, I_ntn (by omega), I_ntn (n := y) (by omega), x0.1, y0.1, I_sub]; exact hq
  induction n with
  | zero =>
    intro k d hn hk hq
    refine w183_1 ⟨h.k0, h.n42, by rw [h.f42]; exact h.k28, by rw [h.f42]; exact lx, fun _ => three k d (by omega) (by omega) (by omega) hq, fun c => ⟨by rw [h.f42]; exact ly, fun _ => three k d (by omega) (by omega) (by omega) hq, fun c2 => ?_⟩⟩
    rw [h.f42, I_ntn (by omega), x0.1, I_le (by omega) (by omega) (by omega) (by omega)] at c
    rw [h.f42, I_ntn (by omega), y0.1, I_le (by omega) (by omega) (by omega) (by omega)] at c2; omega
  | succ n ih =>
    intro k d hn hk hq
    have x3 := (ln_at (k := k) hi hr hx wx).2.2.2 (by omega)
    have y3 := (ln_at (k := k) hi hr hy wy).2.2.2 (by omega)
    have cx := getD_lt (lnC_ch (rs := rs) hi x) (by omega) k
    have cy := getD_lt (lnC_ch (rs := rs) hi y) (by omega) k
    rw [ordS_st (by omega) (by omega)] at hq
    refine w183_1 ⟨h.k0, h.n42, by rw [h.f42]; exact h.k28, by rw [h.f42]; exact lx, fun c => ?_, fun c => ⟨by rw [h.f42]; exact ly, fun c2 => ?_, fun c2 => ⟨h.n37, h.n41, by rw [h.f41]; exact h.k27, by rw [h.f41, h.l27]; exact I_in (by omega) (by omega) (by omega), by rw [h.f37]; exact h.k25, ?_⟩⟩⟩
    · rw [h.f42, I_ntn (by omega), x0.1, I_le (by omega) (by omega) (by omega) (by omega)] at c; omega
    · rw [h.f42, I_ntn (by omega), y0.1, I_le (by omega) (by omega) (by omega) (by omega)] at c2; omega
    · have e1 : nt (I ((rs.getD x []).getD 1 0 : Nat) + I (k : Int)) = (rs.getD x []).getD 1 0 + k := by
        rw [I_add, show (((rs.getD x []).getD 1 0 : Nat) : Int) + (k : Int) = (((rs.getD x []).getD 1 0 + k : Nat) : Int) by omega, I_ntn (by omega)]
      have e2 : nt (I ((rs.getD y []).getD 1 0 : Nat) + I (k : Int)) = (rs.getD y []).getD 1 0 + k := by
        rw [I_add, show (((rs.getD y []).getD 1 0 : Nat) : Int) + (k : Int) = (((rs.getD y []).getD 1 0 + k : Nat) : Int) by omega, I_ntn (by omega)]
      rw [h.f41, h.f37, I_ntn (n := x) (by omega), I_ntn (n := y) (by omega), (hr.2.2 x hx).1, (hr.2.2 y hy).1, e1, e2, x3, y3, I_sub]
      refine ⟨by rw [h.l25, I_add]; exact I_in (by omega) (by omega) (by omega), by rw [h.l27]; exact I_in (by omega) (by omega) (by omega), by rw [h.l25, I_add]; exact I_in (by omega) (by omega) (by omega), fun z => ?_, fun z => ?_⟩
      · rw [I_eq (by omega) (by omega) (by omega) (by omega)] at z
        rw [if_pos (by omega)] at hq
        rw [I_add]
        exact ih (k + 1) _ (by omega) (by omega) hq
      · rw [I_eq (by omega) (by omega) (by omega) (by omega)] at z
        rw [if_neg (by omega)] at hq
        exact hq
theorem m_compare {x y : Nat} (h : mS M m) (hi : inX M m u) (hr : lnX M m rs) (hx : x < rs.length) (hy : y < rs.length) (wx : lnW u (rs.getD x [])) (wy : lnW u (rs.getD y [])) (hq : Q (.inl (some (.int (I (ordS (lnC u (rs.getD x [])) (lnC u (rs.getD y []))))))) M) : mC E 183 [.ref m, .int (I x), .int (I y)] M Q :=
  w183_0 (m_cmp_l h hi hr hx hy wx wy _ 0 none rfl (by omega) hq)
theorem lnX_swp {k : Nat} {M1 M2 M3 M4 : mM} (hr : lnX M m rs) (hk : k + 1 < rs.length) (q1 : M1 = msi M (m + 27) (k + 1) (mi M (m + 27) k)) (q2 : M2 = msi M1 (m + 28) (k + 1) (mi M1 (m + 28) k)) (q3 : M3 = msi M2 (m + 27) k (mi M (m + 27) (k + 1))) (q4 : M4 = msi M3 (m + 28) k (mi M (m + 28) (k + 1))) : lnX M4 m (swp rs k) ∧ fm m [65, 140] M M4 := by
  have f1 : fm m [65, 140] M M1 := fm_i (a := 27) q1 (by omega) rfl
  have f2 : fm m [65, 140] M1 M2 := fm_i (a := 28) q2 (by omega) rfl
  have f3 : fm m [65, 140] M2 M3 := fm_i (a := 27) q3 (by omega) rfl
  have f4 : fm m [65, 140] M3 M4 := fm_i (a := 28) q4 (by omega) rfl
  refine ⟨⟨?_, by rw [swp_len]; exact hr.2.1, fun l hl => ?_⟩, ((f1.trans f2).trans f3).trans f4⟩
  · rw [swp_len, q4, i_ia (by omega), q3, i_ia (by omega), q2, i_ia (by omega), q1, i_ia (by omega)]; exact hr.1
  · rw [swp_len] at hl
    have A : mi M4 (m + 27) l = if l = k then mi M (m + 27) (k + 1) else if l = k + 1 then mi M (m + 27) k else mi M (m + 27) l := by
      rw [q4, i_ia (by omega), q3, i_i]
      by_cases z : l = k
      · rw [if_pos ⟨rfl, z⟩, if_pos z]
      · rw [if_neg (fun y => z y.2), if_neg z, q2, i_ia (by omega), q1, i_i]
        by_cases z2 : l = k + 1
        · rw [if_pos ⟨rfl, z2⟩, if_pos z2]
        · rw [if_neg (fun y => z2 y.2), if_neg z2]
    have B : mi M4 (m + 28) l = if l = k then mi M (m + 28) (k + 1) else if l = k + 1 then mi M (m + 28) k else mi M (m + 28) l := by
      rw [q4, i_i]
      by_cases z : l = k
      · rw [if_pos ⟨rfl, z⟩, if_pos z]
      · rw [if_neg (fun y => z y.2), if_neg z, q3, i_ia (by omega), q2, i_i]
        by_cases z2 : l = k + 1
        · rw [if_pos ⟨rfl, z2⟩, if_pos z2, q1, i_ia (by omega)]
        · rw [if_neg (fun y => z2 y.2), if_neg z2, q1, i_ia (by omega)]
    have C : (swp rs k).getD l [] = if l = k then rs.getD (k + 1) [] else if l = k + 1 then rs.getD k [] else rs.getD l [] := by
      unfold swp
      rw [set_get, set_get, List.length_set]
      by_cases z2 : l = k + 1
      · rw [if_pos ⟨z2.symm, hk⟩, if_neg (by omega), if_pos z2]
      · rw [if_neg (fun y => z2 y.1.symm)]
        by_cases z : l = k
        · rw [if_pos ⟨z.symm, by omega⟩, if_pos z]
        · rw [if_neg (fun y => z y.1.symm), if_neg z, if_neg z2]
    rw [A, B, C]
    by_cases z : l = k
    · rw [if_pos z, if_pos z, if_pos z]; exact hr.2.2 _ hk
    · rw [if_neg z, if_neg z, if_neg z]
      by_cases z2 : l = k + 1
      · rw [if_pos z2, if_pos z2, if_pos z2]; exact hr.2.2 _ (by omega)
      · rw [if_neg z2, if_neg z2, if_neg z2]; exact hr.2.2 _ hl
end MLINE
