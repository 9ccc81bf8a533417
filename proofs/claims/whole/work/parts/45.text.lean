/-! TEXTS: numbers, order, search, the constructor -/
/-- a number of 0 to 999 in digits -/
def numS (n : Nat) : List Nat := (if 100 ≤ n then [48 + n / 100 % 10] else []) ++ ((if 10 ≤ n then [48 + n / 10 % 10] else []) ++ [48 + n % 10])
/-- the number that stands in s in 1 to d digits, or -1 -/
def digV : List Nat → Int → Int
  | [], v => v
  | c :: s, v => if 48 ≤ c ∧ c ≤ 57 then digV s (v * 10 + (c - 48 : Int)) else -1
def numV (s : List Nat) (d : Nat) : Int := if s.length = 0 ∨ d < s.length then -1 else digV s 0
/-- below 0, 0, above 0: s stands before u, is u, stands behind u -/
def ordS : List Nat → List Nat → Int
  | [], u => -(u.length : Int)
  | s, [] => (s.length : Int)
  | x :: s, y :: u => if x = y then ordS s u else (x : Int) - y
theorem ordS_bd : ∀ (s u : List Nat), (∀ c ∈ s, c < 65536) → (∀ c ∈ u, c < 65536) → s.length ≤ 1000 → u.length ≤ 1000 → -65536 < ordS s u ∧ ordS s u < 65536
  | [], u, _, _, _, h => by unfold ordS; omega
  | x :: s, [], _, _, h, _ => by unfold ordS; omega
  | x :: s, y :: u, h1, h2, h3, h4 => by
    unfold ordS
    simp only [List.length_cons] at h3 h4
    split
    · exact ordS_bd s u (fun c hc => h1 c (List.mem_cons_of_mem _ hc)) (fun c hc => h2 c (List.mem_cons_of_mem _ hc)) (by omega) (by omega)
    · have := h1 x List.mem_cons_self
      have := h2 y List.mem_cons_self
      omega
theorem ordS_0 : ∀ (s u : List Nat), ordS s u = 0 ↔ s = u
  | [], [] => by unfold ordS; simp
  | [], y :: u => by unfold ordS; simp; omega
  | x :: s, [] => by unfold ordS; simp; omega
  | x :: s, y :: u => by
    unfold ordS
    split
    · next q => rw [ordS_0 s u, q]; simp
    · next q => constructor
                · intro h; omega
                · intro h; cases h; exact absurd rfl q
/-- the first place of c at or behind f -/
def findS (s : List Nat) (c f : Nat) : Nat := if f < s.length then f + (s.drop f).findIdx (· == c) else s.length
theorem findS_le (s : List Nat) (c f : Nat) : findS s c f ≤ s.length := by
  unfold findS; split
  · have := List.findIdx_le_length (xs := s.drop f) (p := (· == c)); rw [List.length_drop] at this; omega
  · omega
theorem findS_st {s : List Nat} {c f : Nat} (h : f < s.length) : findS s c f = if s.getD f 0 = c then f else findS s c (f + 1) := by
  unfold findS
  rw [if_pos h, drop_getD h, List.findIdx_cons]
  by_cases q : s.getD f 0 = c
  · rw [if_pos q, show (s.getD f 0 == c) = true by simpa using q]; rfl
  · rw [if_neg q, show (s.getD f 0 == c) = false by simpa using q]
    simp only [cond_false]
    by_cases r : f + 1 < s.length
    · rw [if_pos r]; omega
    · rw [if_neg r, List.drop_eq_nil_of_le (by omega)]; simp; omega
section TXT
variable {E : mE} {M : mM} {Q : mQ} {a b cap cap' : Nat} {s u : List Nat}
theorem t_num2 {n w : Nat} (hn : n ≤ 999) (hw : 1 ≤ w ∧ w ≤ 100) (h : tX M a cap s) (hq : ∀ M', tX M' a cap (s ++ [48 + n / w % 10]) → fr M M' a (a + 2) → mX E 20 1 [some (.ref a), some (.int (I n)), some (.int (I (w / 10 : Nat)))] [] M' Q) (ht : s.length = cap → mTh E 91 M Q) : mX E 20 2 [some (.ref a), some (.int (I n)), some (.int (I w))] [] M Q := by
  obtain ⟨e1, e2, e3, e4, e5, e6, e7, e8, e9⟩ := id h
  refine w20_2 ⟨e1, fun q => ?_, fun _ => ⟨by rw [e2]; omega, by rw [e2]; exact e3, fun q => ⟨?_, ?_⟩, fun q => ?_⟩⟩
  · rw [e5, I_lt (by omega) (by omega) (by omega) (by omega)] at q; omega
  · rw [I_z, I_eq (by omega) (by omega) (by omega) (by omega)]; omega
  · rw [e2, e5, e4, I_nI, I_lt (by omega) (by omega) (by omega) (by omega)] at q
    have b1 : n / w ≤ n := Nat.div_le_self n w
    have ed : I (n : Int) / I (w : Int) = I ((n / w : Nat) : Int) := by rw [I_div (by omega) (by omega) (by omega) (by omega)]; rfl
    have em : (I 48 : Int32) + (I (n : Int) / I (w : Int) - I (n : Int) / I (w : Int) / I 10 * I 10) = I ((48 + n / w % 10 : Nat) : Int) := by
      rw [ed]
      generalize n / w = z at b1
      rw [I_div (by omega) (by omega) (by omega) (by omega), I_mul, I_sub, I_add]; congr 1; omega
    rw [em, I_i2c (by omega) (by omega), I_cN (by omega) (by omega), e2, e4, e5, I_ntn (by omega)]
    refine ⟨I_in (by omega) (by omega) (by omega), fun M1 q1 M2 q2 => ?_⟩
    have hp := h.push (c := 48 + n / w % 10) (by omega) (by omega)
    have e : M2 = msi (msi M (a + 1) s.length (I (48 + n / w % 10 : Nat))) a 1 (I (s.length + 1 : Nat)) := by
      rw [q2, q1, i_ia (by omega), e5, I_add]; rfl
    rw [← e] at hp
    have ew : I (w : Int) / I 10 = I ((w / 10 : Nat) : Int) := by rw [I_div (by omega) (by omega) (by omega) (by omega)]; rfl
    rw [ew]
    exact hq M2 hp.1 hp.2
  · rw [e2, e5, e4, I_nI, I_lt (by omega) (by omega) (by omega) (by omega)] at q
    exact ht (by omega)
theorem t_addNumber {n : Nat} (hn : n ≤ 999) (h : tX M a cap s) (hq : ∀ M', tX M' a cap (s ++ numS n) → fr M M' a (a + 2) → Q (.inl none) M')
    (ht : ∀ M' s', cap < s.length + (numS n).length → tX M' a cap s' → fr M M' a (a + 2) → mTh E 91 M' Q) : mC E 20 [.ref a, .int (I n)] M Q := by
  have e10 : I ((100 / 10 : Nat) : Int) = I ((10 : Nat) : Int) := rfl
  have e1 : I ((10 / 10 : Nat) : Int) = I ((1 : Nat) : Int) := rfl
  have e0 : I ((1 / 10 : Nat) : Int) = I ((0 : Nat) : Int) := rfl
  have d10 : (I 100 : Int32) / I 10 = I ((10 : Nat) : Int) := by decide
  have d1 : (I 10 : Int32) / I 10 = I ((1 : Nat) : Int) := by decide
  have S1 : ∀ M1 s1, tX M1 a cap s1 → fr M M1 a (a + 2) → s1 ++ [48 + n % 10] = s ++ numS n → mX E 20 1 [some (.ref a), some (.int (I n)), some (.int (I (1 : Nat)))] [] M1 Q := by
    intro M1 s1 t1 f1 q1
    refine w20_1 ⟨fun c => ?_, fun _ => ⟨fun _ => ?_, fun c => ?_⟩⟩
    · exact absurd c (by decide)
    · refine t_num2 hn (by omega) t1 (fun M2 t2 f2 => ?_) (fun q => ht M1 s1 ?_ t1 f1)
      · refine w20_1 ⟨fun _ => hq M2 ?_ (f1.then f2), fun c => absurd c (by decide)⟩
        rw [Nat.div_one, q1] at t2; exact t2
      · have := congrArg List.length q1; simp at this; omega
    · exact absurd c (by decide)
  have S10 : ∀ M1 s1, tX M1 a cap s1 → fr M M1 a (a + 2) → s1 ++ ((if 10 ≤ n then [48 + n / 10 % 10] else []) ++ [48 + n % 10]) = s ++ numS n → mX E 20 1 [some (.ref a), some (.int (I n)), some (.int (I (10 : Nat)))] [] M1 Q := by
    intro M1 s1 t1 f1 q1
    refine w20_1 ⟨fun c => absurd c (by decide), fun _ => ⟨fun c => absurd c (by decide), fun _ => ⟨fun c => ?_, fun c => ?_⟩⟩⟩
    · rw [I_le (by omega) (by omega) (by omega) (by omega)] at c
      rw [if_pos (by omega)] at q1
      refine t_num2 hn (by omega) t1 (fun M2 t2 f2 => S1 M2 _ t2 (f1.then f2) (by rw [← q1]; simp)) (fun q => ht M1 s1 ?_ t1 f1)
      have := congrArg List.length q1; simp at this; omega
    · rw [I_le (by omega) (by omega) (by omega) (by omega)] at c
      rw [if_neg (by omega)] at q1
      exact S1 M1 s1 t1 f1 (by rw [← q1]; simp)
  refine w20_0 (w20_1 ⟨fun c => absurd c (by decide), fun _ => ⟨fun c => absurd c (by decide), fun _ => ⟨fun c => ?_, fun c => ?_⟩⟩⟩)
  · have c' : (100 : Int) ≤ n := (I_le (by omega) (by omega) (by omega) (by omega)).mp c
    refine t_num2 (w := 100) hn (by omega) h (fun M2 t2 f2 => S10 M2 _ t2 f2 ?_) (fun q => ht M s ?_ h (fr.refl _ _ _))
    · unfold numS; rw [if_pos (show 100 ≤ n by omega)]; simp
    · unfold numS; simp; omega
  · have c' : ¬ (100 : Int) ≤ n := fun q => c ((I_le (by omega) (by omega) (by omega) (by omega)).mpr q)
    rw [d10]
    refine S10 M s h (fr.refl _ _ _) ?_
    unfold numS; rw [if_neg (show ¬ 100 ≤ n by omega)]; rfl
theorem digV_r : ∀ (s : List Nat) (v : Int) (j : Nat), 0 ≤ v → v < 10 ^ j → -1 ≤ digV s v ∧ digV s v < 10 ^ (j + s.length)
  | [], v, j, h1, h2 => by unfold digV; simp; omega
  | c :: s, v, j, h1, h2 => by
    unfold digV
    split
    · next q =>
      have := digV_r s (v * 10 + (c - 48 : Int)) (j + 1) (by omega) (by rw [Int.pow_succ]; omega)
      rw [List.length_cons, show j + (s.length + 1) = j + 1 + s.length by omega]; exact this
    · refine ⟨by omega, ?_⟩
      have : (0 : Int) < 10 ^ (j + (c :: s).length) := Int.pow_pos (by omega)
      omega
theorem t_asNumber_l {d : Int32} (h : tX M a cap s) (h3 : s.length ≤ 3) (m : Nat) : ∀ (k : Nat) (v : Int) (d4 : Option Value), s.length - k ≤ m → k ≤ s.length → 0 ≤ v → v < 10 ^ k → Q (.inl (some (.int (I (digV (s.drop k) v))))) M →
    mX E 21 3 [some (.ref a), some (.int d), some (.int (I v)), some (.int (I k)), d4] [] M Q := by
  have hl := h.len
  induction m with
  | zero =>
    intro k v d4 hm hk hv hv2 hq
    rw [List.drop_eq_nil_of_le (by omega)] at hq
    refine w21_3 ⟨h.1, fun _ => hq, fun c => ?_⟩
    rw [h.2.2.2.2.1, I_le (by omega) (by omega) (by omega) (by omega)] at c; omega
  | succ m ih =>
    intro k v d4 hm hk hv hv2 hq
    refine w21_3 ⟨h.1, fun c => ?_, fun c => ?_⟩
    · rw [h.2.2.2.2.1, I_le (by omega) (by omega) (by omega) (by omega)] at c
      rw [List.drop_eq_nil_of_le (by omega)] at hq; exact hq
    · rw [h.2.2.2.2.1, I_le (by omega) (by omega) (by omega) (by omega)] at c
      have hc := getD_lt h.2.2.2.2.2.2.2.2 (by omega) k
      have hk3 : (10 : Int) ^ k ≤ 10 ^ 2 := by
        rcases (show k = 0 ∨ k = 1 ∨ k = 2 by omega) with r | r | r <;> rw [r] <;> decide
      rw [drop_getD (by omega)] at hq
      unfold digV at hq
      refine t_at h (by omega) (by omega) ?_
      rw [if_pos (by omega), show ((k : Int).toNat) = k by omega]
      refine ⟨fun c => ?_, fun c => ⟨fun c2 => ?_, fun c2 => ?_⟩⟩
      · rw [I_sub, I_lt (by omega) (by omega) (by omega) (by omega)] at c
        rw [if_neg (by omega)] at hq; exact hq
      · rw [I_sub, I_lt (by omega) (by omega) (by omega) (by omega)] at c
        rw [I_sub, I_le (by omega) (by omega) (by omega) (by omega)] at c2
        rw [if_pos (by omega)] at hq
        rw [I_sub, I_mul, I_add, I_add]
        exact ih (k + 1) _ _ (by omega) (by omega) (by omega) (by rw [Int.pow_succ]; omega) hq
      · rw [I_sub, I_le (by omega) (by omega) (by omega) (by omega)] at c2
        rw [if_neg (by omega)] at hq; exact hq
theorem t_asNumber {d : Nat} (hd : d ≤ 3) (h : tX M a cap s) (hq : Q (.inl (some (.int (I (numV s d))))) M) : mC E 21 [.ref a, .int (I d)] M Q := by
  have hl := h.len
  unfold numV at hq
  refine w21_0 ⟨h.1, fun c => ?_, fun c => ⟨fun c2 => ?_, fun c2 => ?_⟩⟩
  · rw [h.2.2.2.2.1, I_eq (by omega) (by omega) (by omega) (by omega)] at c
    rw [if_pos (by omega)] at hq; exact hq
  · rw [h.2.2.2.2.1, I_eq (by omega) (by omega) (by omega) (by omega)] at c
    rw [h.2.2.2.2.1, I_le (by omega) (by omega) (by omega) (by omega)] at c2
    rw [if_neg (by omega)] at hq
    exact t_asNumber_l h (by omega) s.length 0 0 none (by omega) (by omega) (by omega) (by omega) hq
  · rw [h.2.2.2.2.1, I_le (by omega) (by omega) (by omega) (by omega)] at c2
    rw [if_pos (by omega)] at hq; exact hq
theorem t_order_l (h : tX M a cap s) (g : tX M b cap' u) (m : Nat) : ∀ (k : Nat) (d3 : Option Value), s.length - k ≤ m → k ≤ s.length → k ≤ u.length → Q (.inl (some (.int (I (ordS (s.drop k) (u.drop k)))))) M →
    mX E 22 1 [some (.ref a), some (.ref b), some (.int (I k)), d3] [] M Q := by
  have hl := h.len
  have hl' := g.len
  have h5 := h.2.2.2.2.1
  have g5 := g.2.2.2.2.1
  have last : ∀ k : Nat, k ≤ s.length → k ≤ u.length → k = s.length ∨ k = u.length → ordS (s.drop k) (u.drop k) = (s.length : Int) - u.length := by
    intro k k1 k2 k3
    rcases k3 with q | q
    · rw [List.drop_eq_nil_of_le (show s.length ≤ k by omega)]; unfold ordS; rw [List.length_drop]; omega
    · rw [List.drop_eq_nil_of_le (show u.length ≤ k by omega)]
      cases hs : s.drop k with
      | nil => have := congrArg List.length hs; rw [List.length_drop] at this; unfold ordS; simp at this ⊢; omega
      | cons x r => have := congrArg List.length hs; rw [List.length_drop] at this; unfold ordS; simp at this ⊢; omega
  induction m with
  | zero =>
    intro k d3 hm hk hk' hq
    rw [last k hk hk' (by omega)] at hq
    refine w22_1 ⟨h.1, fun c => ⟨g.1, by rw [h5, g5, I_sub]; exact hq⟩, fun c => ?_⟩
    rw [h5, I_le (by omega) (by omega) (by omega) (by omega)] at c; omega
  | succ m ih =>
    intro k d3 hm hk hk' hq
    refine w22_1 ⟨h.1, fun c => ⟨g.1, ?_⟩, fun c => ⟨g.1, fun d => ?_, fun d => ?_⟩⟩
    · rw [h5, I_le (by omega) (by omega) (by omega) (by omega)] at c
      rw [last k hk hk' (by omega)] at hq
      rw [h5, g5, I_sub]; exact hq
    · rw [g5, I_le (by omega) (by omega) (by omega) (by omega)] at d
      rw [last k hk hk' (by omega)] at hq
      rw [h5, g5, I_sub]; exact hq
    · rw [h5, I_le (by omega) (by omega) (by omega) (by omega)] at c
      rw [g5, I_le (by omega) (by omega) (by omega) (by omega)] at d
      obtain ⟨e1, e2, e3, e4, e5, e6, e7, e8, e9⟩ := id h
      obtain ⟨d1, d2, d3, d4, d5, d6, d7, d8, d9⟩ := id g
      have c1 := getD_lt e9 (by omega) k
      have c2 := getD_lt d9 (by omega) k
      rw [drop_getD (show k < s.length by omega), drop_getD (show k < u.length by omega)] at hq
      unfold ordS at hq
      rw [e2, d2, e4, d4, I_ntn (by omega), e8 k (by omega), d8 k (by omega), I_sub]
      refine ⟨by omega, e3, I_in (by omega) (by omega) (by omega), by omega, d3, I_in (by omega) (by omega) (by omega), fun c => ?_, fun c => ?_⟩
      · rw [I_eq (by omega) (by omega) (by omega) (by omega)] at c
        rw [if_pos (by omega)] at hq
        rw [I_add]
        exact ih (k + 1) _ (by omega) (by omega) (by omega) hq
      · rw [I_eq (by omega) (by omega) (by omega) (by omega)] at c
        rw [if_neg (by omega)] at hq
        exact hq
theorem t_order (h : tX M a cap s) (g : tX M b cap' u) (hq : Q (.inl (some (.int (I (ordS s u))))) M) : mC E 22 [.ref a, .ref b] M Q := by
  have hl := h.len
  exact w22_0 (t_order_l h g s.length 0 none (by omega) (by omega) (by omega) hq)
theorem t_find_l {c : Nat} (hc : c < 65536) {v2 : Int32} (h : tX M a cap s) (m : Nat) : ∀ (k : Nat), s.length - k ≤ m → k ≤ 100000 → Q (.inl (some (.int (I (findS s c k))))) M →
    mX E 24 1 [some (.ref a), some (.int (I c)), some (.int v2), some (.int (I k))] [] M Q := by
  have hl := h.len
  have h5 := h.2.2.2.2.1
  induction m with
  | zero =>
    intro k hm hk hq
    refine w24_1 ⟨h.1, fun _ => ?_, fun d => ?_⟩
    · unfold findS at hq; rw [if_neg (by omega)] at hq; rw [h5]; exact hq
    · rw [h5, I_le (by omega) (by omega) (by omega) (by omega)] at d; omega
  | succ m ih =>
    intro k hm hk hq
    refine w24_1 ⟨h.1, fun d => ?_, fun d => ?_⟩
    · rw [h5, I_le (by omega) (by omega) (by omega) (by omega)] at d
      unfold findS at hq; rw [if_neg (by omega)] at hq; rw [h5]; exact hq
    · rw [h5, I_le (by omega) (by omega) (by omega) (by omega)] at d
      have c1 := getD_lt h.2.2.2.2.2.2.2.2 (by omega) k
      rw [findS_st (by omega)] at hq
      refine t_at h (by omega) (by omega) ?_
      rw [if_pos (by omega), show ((k : Int).toNat) = k by omega]
      refine ⟨fun q => ?_, fun q => ?_⟩
      · rw [I_eq (by omega) (by omega) (by omega) (by omega)] at q
        rw [if_neg (by omega)] at hq
        rw [I_add]
        exact ih (k + 1) (by omega) (by omega) hq
      · rw [I_eq (by omega) (by omega) (by omega) (by omega)] at q
        rw [if_pos (by omega)] at hq
        exact hq
theorem t_find {c f : Nat} (hc : c < 65536) (hf : f < 100000) (h : tX M a cap s) (hq : Q (.inl (some (.int (I (findS s c f))))) M) : mC E 24 [.ref a, .int (I c), .int (I f)] M Q :=
  w24_0 (t_find_l hc h s.length f (by omega) (by omega) hq)
/-- the constructor: the text's own cell is the last there is; its characters come behind it -/
theorem t_init (hk : mkd M a = 101) (ha : a + 1 = msz M) (hc : cap ≤ 1000) (hr : m_room E M cap)
    (hq : ∀ M', tX M' a cap [] → msz M' = msz M + 1 → mns M' = mns M + cap → (∀ x, x < a → ceq M M' x) → Q (.inl none) M') : mC E 13 [.ref a, .int (I cap)] M Q := by
  refine w13_0 (c_max (by omega) (by omega) (by omega) (by omega) ?_)
  rw [show max (cap : Int) 0 = cap by omega]
  refine ⟨?_, by rw [I_ntn (by omega)]; omega, by rw [I_ntn (by omega)]; exact hr, fun M1 q1 => ⟨?_, by omega, fun M2 q2 M3 q3 => ?_⟩⟩
  · rw [I_z, I_lt (by omega) (by omega) (by omega) (by omega)]; omega
  · rw [q1, kd_n, if_neg (by omega)]; exact hk
  · rw [I_ntn (by omega)] at q1
    have k1 : ∀ x, mkd M3 x = if x = msz M then 2 else mkd M x := fun x => by rw [q3, kd_i, q2, kd_r, q1, kd_n]
    have l1 : ∀ x, mln M3 x = if x = msz M then cap else mln M x := fun x => by rw [q3, ln_i, q2, ln_r, q1, ln_n]
    refine hq M3 ⟨?_, ?_, ?_, ?_, ?_, Nat.zero_le _, hc, fun k hk => absurd hk (Nat.not_lt_zero k), fun c hc => absurd hc List.not_mem_nil⟩ (by rw [q3, sz_i, q2, sz_r, q1, sz_n]) (by rw [q3, ns_i, q2, ns_r, q1, ns_n]) (fun x hx => ⟨?_, ?_, fun k => ?_, fun k => ?_, fun k => ?_⟩)
    · rw [k1, if_neg (by omega)]; exact hk
    · rw [q3, r_i, q2, r_rs, ha]
    · rw [k1, if_pos ha]
    · rw [l1, if_pos ha]
    · rw [q3, i_is]; rfl
    · rw [k1, if_neg (by omega)]
    · rw [l1, if_neg (by omega)]
    · rw [q3, i_ia (by omega), q2, i_r, q1, i_n, if_neg (by omega)]
    · rw [q3, r_i, q2, r_ra (by omega), q1, r_n, if_neg (by omega)]
    · rw [q3, j_i, q2, j_r, q1, j_n, if_neg (by omega)]
end TXT
