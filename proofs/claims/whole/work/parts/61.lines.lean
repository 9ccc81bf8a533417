/-! LINES -/
/-- the rows of an input's lines, from f on -/
def lnL (u : List Nat) : Nat → Nat → List (List Nat)
  | 0, _ => []
  | n + 1, f => if f < u.length then [0, f, findS u 10 f, 0, 0] :: lnL u n (findS u 10 f + 1) else []
/-- a line's characters -/
def lnC (u : List Nat) (r : List Nat) : List Nat := seg u (r.getD 1 0) (r.getD 2 0)
/-- a row of a line of u -/
def lnW (u : List Nat) (r : List Nat) : Prop := r.length = 5 ∧ r.getD 1 0 ≤ r.getD 2 0 ∧ r.getD 2 0 ≤ u.length
/-- the lines of some rows, put out -/
def ptL (u : List Nat) (rs : List (List Nat)) : List Nat := rs.flatMap fun r => lnC u r ++ [10]
theorem findS_ge (s : List Nat) (c f : Nat) (h : f ≤ s.length) : f ≤ findS s c f := by
  unfold findS; split <;> omega
theorem lnL_w (u : List Nat) : ∀ n f, ∀ r ∈ lnL u n f, lnW u r
  | 0, f, r, h => absurd h List.not_mem_nil
  | n + 1, f, r, h => by
    unfold lnL at h
    split at h
    · next q =>
      rcases List.mem_cons.mp h with e | e
      · rw [e]; exact ⟨rfl, findS_ge u 10 f (by omega), findS_le u 10 f⟩
      · exact lnL_w u n _ r e
    · exact absurd h List.not_mem_nil
section LINES
variable {E : mE} {M : mM} {Q : mQ} {b : Nat} {R : RT} {o : List Nat} {rs : List (List Nat)}
theorem RX.s27 (h : RX b M R) {rs : List (List Nat)} (e : R 27 = vS rs) : shX M (b + 302) 240 rs := by
  have := h.c27
  rw [e] at this; exact this
theorem l_read_l (n : Nat) : ∀ (k f : Nat) (rs : List (List Nat)) (M : mM) (R : RT) (d3 : Option Value), k + n = 240 → rs.length ≤ k → f ≤ (R 24).2.2.1.length + 1 → RX b M R → R 27 = vS rs →
    (∀ M' R', RX b M' R' → ag [27] R R' → R' 27 = vS (rs ++ lnL (R 24).2.2.1 n f) → fr M M' b (b + 369) → Q (.inl none) M') →
    mX E 106 1 [some (.ref (b + 301)), some (.int (I f)), some (.int (I k)), d3] [] M Q := by
  induction n with
  | zero =>
    intro k f rs M R d3 hk hl hf h h27 hq
    refine w106_1 ⟨fun _ => hq M R h (ag.refl _ _) ?_ (fr.refl _ _ _), fun c => ?_⟩
    · unfold lnL; rw [List.append_nil]; exact h27
    · rw [I_le (by omega) (by omega) (by omega) (by omega)] at c; omega
  | succ n ih =>
    intro k f rs M R d3 hk hl hf h h27 hq
    have hb := h.1
    have t24 := h.c24
    have l24 := t24.len
    have s27 := h.s27 h27
    unfold lnL at hq
    refine w106_1 ⟨fun c => ?_, fun c => ⟨h.k26, nz h.f26_0 h.1, by rw [h.f26_0]; exact t24.1, fun u => ?_, fun u => ?_⟩⟩
    · rw [I_le (by omega) (by omega) (by omega) (by omega)] at c; omega
    · rw [h.f26_0, t24.2.2.2.2.1, I_le (by omega) (by omega) (by omega) (by omega)] at u
      rw [if_neg (by omega), List.append_nil] at hq
      exact hq M R h (ag.refl _ _) h27 (fr.refl _ _ _)
    · rw [h.f26_0, t24.2.2.2.2.1, I_le (by omega) (by omega) (by omega) (by omega)] at u
      rw [if_pos (by omega)] at hq
      have fl := findS_le (R 24).2.2.1 10 f
      rw [h.f26_0]
      refine t_find (c := 10) (by omega) (by omega) t24 ⟨h.k26, nz h.f26_2 h.1, by rw [h.f26_2]; exact s27.1, ?_⟩
      rw [h.f26_2]
      refine sh_add (v0 := 0) (v3 := 0) (v4 := 0) s27 (by omega) (by omega) (by omega) (by omega) (by omega) (by omega) (fun M1 t1 f1 => ?_)
      have h1 := h.u27 t1 f1
      show mX E 106 1 _ [] M1 Q
      rw [I_add, I_add]
      have e24 : up R 27 (vS (rs ++ [[0, f, findS (R 24).2.2.1 10 f, 0, 0]])) 24 = R 24 := up_n (by decide)
      refine ih (k + 1) (findS (R 24).2.2.1 10 f + 1) _ M1 _ _ (by omega) (by simp; omega) (by rw [e24]; omega) h1.1 (up_s _ _ _) (fun M' R' j1 j2 j3 j4 => hq M' R' j1 ((ag_up (by decide)).trans j2) ?_ (h1.2.then j4))
      rw [j3, e24]; simp
theorem l_read (h : RX b M R) (hq : ∀ M' R', RX b M' R' → ag [27] R R' → R' 27 = vS (lnL (R 24).2.2.1 240 0) → fr M M' b (b + 369) → Q (.inl none) M') : mC E 106 [.ref (b + 301)] M Q := by
  refine w106_0 ⟨h.k26, nz h.f26_2 h.1, by rw [h.f26_2]; exact h.c27.1, fun M1 q1 => ?_⟩
  rw [h.f26_2] at q1
  have k1 : shX M1 (b + 302) 240 [] ∧ fr M M1 (b + 302) (b + 302 + 2) := by
    obtain ⟨e1, e2, e3, e4, e5, e6, e7, e8, e9⟩ := h.c27
    rw [q1]
    exact ⟨⟨e1, e2, e3, e4, i_is, Nat.zero_le _, e7, fun k hk => absurd hk (Nat.not_lt_zero k), fun c hc => absurd hc List.not_mem_nil⟩, fr_i (by omega) (by omega)⟩
  have h1 := h.u27 k1.1 k1.2
  have e24 : up R 27 (vS []) 24 = R 24 := up_n (by decide)
  refine l_read_l 240 0 0 [] M1 _ none rfl (by simp) (by omega) h1.1 (up_s _ _ _) (fun M' R' j1 j2 j3 j4 => hq M' R' j1 ((ag_up (by decide)).trans j2) ?_ (h1.2.then j4))
  rw [j3, e24]; rfl
theorem shL_27 (h : shX M (b + 302) 240 rs) (k c : Nat) : (rs.getD k []).getD c 0 < 100000 := by
  rw [← shL_nat]; exact shL_lt h.2.2.2.2.2.2.2.2 _ _
/-- one line put out -/
theorem l_put {k : Nat} (h : RX b M R) (h27 : R 27 = vS rs) (h25 : R 25 = vT o) (hk : k < 100000) (hq : o.length + (lnC (R 24).2.2.1 (rs.getD k []) ++ [10]).length ≤ 240 → ∀ M' R', RX b M' R' → ag [25] R R' → R' 25 = vT (o ++ (lnC (R 24).2.2.1 (rs.getD k []) ++ [10])) → fr M M' (b + 299) (b + 301) → Q (.inl none) M') (ht : 240 < o.length + (lnC (R 24).2.2.1 (rs.getD k []) ++ [10]).length → TH E b M R Q) : mC E 112 [.ref (b + 301), .int (I k)] M Q := by
  have hb := h.1
  have t24 := h.c24
  have s27 := h.s27 h27
  have b1 := shL_27 s27 k 1
  have b2 := shL_27 s27 k 2
  simp only [List.length_append, List.length_singleton] at hq ht
  refine w112_0 ⟨h.k26, nz h.f26_1 h.1, nz h.f26_0 h.1, nz h.f26_2 h.1, by rw [h.f26_2]; exact s27.1, ?_⟩
  rw [h.f26_2, h.f26_1, h.f26_0]
  refine sh_at (c := 1) s27 (by omega) (by omega) (by omega) ⟨h.k26, nz h.f26_2 h.1, by rw [h.f26_2]; exact s27.1, ?_⟩
  rw [h.f26_2]
  refine sh_at (c := 2) s27 (by omega) (by omega) (by omega) ⟨h.c25.1, ?_⟩
  rw [shL_nat, shL_nat]
  refine o_range h h25 t24 (by omega) b1 b2 (fun l M1 h1 f1 => ?_) (fun l => ht (by unfold lnC; omega))
  have f1' := f1.wide (l := b) (u := b + 369) (by omega) (by omega)
  refine ⟨h1.k26, nz h1.f26_1 h.1, by rw [h1.f26_1]; exact h1.c25.1, ?_⟩
  rw [h1.f26_1]
  refine o_add (c := 10) h1 (up_s _ _ _) (by omega) (fun l2 M2 h2 f2 => ?_) (fun l2 => (ht (by rw [List.length_append] at l2; unfold lnC; omega)).st f1' ((ag_up (S := [25]) (by decide)).lo (by decide)))
  refine hq (by rw [List.length_append] at l2; unfold lnC; omega) M2 _ h2 ((ag_up (by decide)).trans (ag_up (by decide))) ?_ (f1.then f2)
  rw [up_s, List.append_assoc]; rfl
theorem drop_getL {α : Type} {l : List α} {k : Nat} {d : α} (h : k < l.length) : l.drop k = l.getD k d :: l.drop (k + 1) := by
  rw [List.getD_eq_getElem?_getD, List.getElem?_eq_getElem h]; exact List.drop_eq_getElem_cons h
theorem l_first_l {m : Nat} (hm : m < 100000) (n : Nat) : ∀ (k : Nat) (o : List Nat) (M : mM) (R : RT), n = min m rs.length - k → k ≤ min m rs.length → RX b M R → R 27 = vS rs → R 25 = vT o →
    (o.length + (ptL (R 24).2.2.1 ((rs.take m).drop k)).length ≤ 240 → ∀ M' R', RX b M' R' → ag [25] R R' → R' 25 = vT (o ++ ptL (R 24).2.2.1 ((rs.take m).drop k)) → fr M M' b (b + 369) → Q (.inl (some (.int (I 0)))) M') → (240 < o.length + (ptL (R 24).2.2.1 ((rs.take m).drop k)).length → TH E b M R Q) →
    mX E 108 1 [some (.ref (b + 301)), some (.int (I m)), some (.int (I k))] [] M Q := by
  induction n with
  | zero =>
    intro k o M R hn hk h h27 h25 hq ht
    have s27 := h.s27 h27
    have l27 := s27.len
    have l25 := (h.t25 h25).len
    rw [List.drop_eq_nil_of_le (by rw [List.length_take]; omega)] at hq
    have fin : Q (.inl (some (.int (I 0)))) M := hq (by simp [ptL]; omega) M R h (ag.refl _ _) (by rw [h25]; simp [ptL]) (fr.refl _ _ _)
    refine w108_1 ⟨fun _ => fin, fun c => ⟨h.k26, nz h.f26_2 h.1, by rw [h.f26_2]; exact s27.1, fun _ => fin, fun c2' => ?_⟩⟩
    rw [I_le (by omega) (by omega) (by omega) (by omega)] at c
    rw [h.f26_2, s27.2.2.2.2.1, I_le (by omega) (by omega) (by omega) (by omega)] at c2'; omega
  | succ n ih =>
    intro k o M R hn hk h h27 h25 hq ht
    have s27 := h.s27 h27
    have l27 := s27.len
    have dr : (rs.take m).drop k = rs.getD k [] :: (rs.take m).drop (k + 1) := by
      rw [drop_getL (d := []) (by rw [List.length_take]; omega)]
      congr 1
      rw [List.getD_eq_getElem?_getD, List.getElem?_take_of_lt (by omega), ← List.getD_eq_getElem?_getD]
    have pt : ptL (R 24).2.2.1 ((rs.take m).drop k) = (lnC (R 24).2.2.1 (rs.getD k []) ++ [10]) ++ ptL (R 24).2.2.1 ((rs.take m).drop (k + 1)) := by rw [dr]; rfl
    rw [pt] at hq ht
    rw [List.length_append] at hq ht
    refine w108_1 ⟨fun c => ?_, fun c => ⟨h.k26, nz h.f26_2 h.1, by rw [h.f26_2]; exact s27.1, fun c2' => ?_, fun c2' => ?_⟩⟩
    · rw [I_le (by omega) (by omega) (by omega) (by omega)] at c; omega
    · rw [h.f26_2, s27.2.2.2.2.1, I_le (by omega) (by omega) (by omega) (by omega)] at c2'; omega
    · refine l_put h h27 h25 (by omega) (fun l M1 R1 h1 a1 e1 f0 => ?_) (fun l => ht (by omega))
      have f1 := f0.wide (l := b) (u := b + 369) (by omega) (by omega)
      show mX E 108 1 _ [] M1 Q
      rw [I_add]
      have e24 : R1 24 = R 24 := a1 24 (by decide)
      refine ih (k + 1) _ M1 R1 (by omega) (by omega) h1 (by rw [a1 27 (by decide)]; exact h27) e1 ?_ ?_
      · rw [e24]
        intro l3 M' R' j1 j2 j3 j4
        refine hq (by rw [List.length_append] at l3; omega) M' R' j1 (a1.trans j2) ?_ (f1.then j4)
        rw [j3, List.append_assoc]
      · rw [e24]
        intro l3
        exact (ht (by rw [List.length_append] at l3; omega)).st f1 (a1.lo (by decide))
theorem l_first {m : Nat} (h : RX b M R) (h27 : R 27 = vS rs) (h25 : R 25 = vT o) (hm : m < 100000) (hq : o.length + (ptL (R 24).2.2.1 (rs.take m)).length ≤ 240 → ∀ M' R', RX b M' R' → ag [25] R R' → R' 25 = vT (o ++ ptL (R 24).2.2.1 (rs.take m)) → fr M M' b (b + 369) → Q (.inl (some (.int (I 0)))) M') (ht : 240 < o.length + (ptL (R 24).2.2.1 (rs.take m)).length → TH E b M R Q) : mC E 108 [.ref (b + 301), .int (I m)] M Q :=
  w108_0 (l_first_l hm _ 0 o M R rfl (by omega) h h27 h25 hq ht)
/-- the order of two lines -/
theorem l_order_l {x y : Nat} {f1 e1 f2 e2 : Nat} (h : RX b M R) (hf1 : f1 ≤ e1) (he1 : e1 ≤ (R 24).2.2.1.length) (hf2 : f2 ≤ e2) (he2 : e2 ≤ (R 24).2.2.1.length) (n : Nat) : ∀ (k : Nat) (d9 : Option Value), n = min (e1 - f1) (e2 - f2) - k → k ≤ min (e1 - f1) (e2 - f2) → Q (.inl (some (.int (I (ordS ((seg (R 24).2.2.1 f1 e1).drop k) ((seg (R 24).2.2.1 f2 e2).drop k)))))) M →
    mX E 113 1 [some (.ref (b + 301)), some (.int (I x)), some (.int (I y)), some (.int (I f1)), some (.int (I f2)), some (.int (I ((e1 : Int) - f1))), some (.int (I ((e2 : Int) - f2))), some (.int (I (min ((e1 : Int) - f1) ((e2 : Int) - f2)))), some (.int (I k)), d9] [] M Q := by
  have hb := h.1
  have t24 := h.c24
  have l24 := t24.len
  generalize (R 24).2.2.1 = u at *
  have sl1 : (seg u f1 e1).length = e1 - f1 := by rw [seg_len]; omega
  have sl2 : (seg u f2 e2).length = e2 - f2 := by rw [seg_len]; omega
  have sg : ∀ f e j, f ≤ e → e ≤ u.length → j < e - f → (seg u f e).getD j 0 = u.getD (f + j) 0 := by
    intro f e j h1 h2 h3
    unfold seg
    rw [List.getD_eq_getElem?_getD, List.getElem?_take_of_lt h3, List.getElem?_drop, ← List.getD_eq_getElem?_getD]
  have last : ∀ k : Nat, k = min (e1 - f1) (e2 - f2) → ordS ((seg u f1 e1).drop k) ((seg u f2 e2).drop k) = ((e1 : Int) - f1) - ((e2 : Int) - f2) := by
    intro k hk
    rcases Nat.le_total (e1 - f1) (e2 - f2) with q | q
    · rw [List.drop_eq_nil_of_le (show (seg u f1 e1).length ≤ k by omega)]; unfold ordS; rw [List.length_drop, sl2]; omega
    · rw [List.drop_eq_nil_of_le (show (seg u f2 e2).length ≤ k by omega)]
      cases hs : (seg u f1 e1).drop k with
      | nil => have := congrArg List.length hs; rw [List.length_drop, sl1] at this; unfold ordS; simp at this ⊢; omega
      | cons z r => have := congrArg List.length hs; rw [List.length_drop, sl1] at this; unfold ordS; simp at this ⊢; omega
  induction n with
  | zero =>
    intro k d9 hn hk hq
    rw [last k (by omega)] at hq
    refine w113_1 ⟨fun _ => by rw [I_sub]; exact hq, fun c => ?_⟩
    rw [I_le (by omega) (by omega) (by omega) (by omega)] at c; omega
  | succ n ih =>
    intro k d9 hn hk hq
    refine w113_1 ⟨fun c => ?_, fun c => ⟨h.k26, nz h.f26_0 h.1, by rw [h.f26_0]; exact t24.1, ?_⟩⟩
    · rw [I_le (by omega) (by omega) (by omega) (by omega)] at c; omega
    · rw [h.f26_0, I_add, I_add, show (f1 : Int) + k = ((f1 + k : Nat) : Int) by omega, show (f2 : Int) + k = ((f2 + k : Nat) : Int) by omega]
      have z1 := t24.ch (f1 + k)
      have z2 := t24.ch (f2 + k)
      rw [drop_getD (show k < (seg u f1 e1).length by omega), drop_getD (show k < (seg u f2 e2).length by omega), sg f1 e1 k hf1 he1 (by omega), sg f2 e2 k hf2 he2 (by omega)] at hq
      unfold ordS at hq
      refine t_at t24 (by omega) (by omega) ⟨h.k26, nz h.f26_0 h.1, by rw [h.f26_0]; exact t24.1, ?_⟩
      rw [h.f26_0]
      refine t_at t24 (by omega) (by omega) ?_
      rw [if_pos (by omega), if_pos (by omega), show (((f1 + k : Nat) : Int).toNat) = f1 + k by omega, show (((f2 + k : Nat) : Int).toNat) = f2 + k by omega]
      show _ ∧ _
      rw [I_sub]
      refine ⟨fun u1 => ?_, fun u1 => ?_⟩
      · rw [I_eq (by omega) (by omega) (by omega) (by omega)] at u1
        rw [if_pos (by omega)] at hq
        rw [I_add]; exact ih (k + 1) _ (by omega) (by omega) hq
      · rw [I_eq (by omega) (by omega) (by omega) (by omega)] at u1
        rw [if_neg (by omega)] at hq
        exact hq
theorem l_order {x y : Nat} (h : RX b M R) (h27 : R 27 = vS rs) (hx : x < 1000) (hy : y < 1000) (wx : lnW (R 24).2.2.1 (rs.getD x [])) (wy : lnW (R 24).2.2.1 (rs.getD y [])) (hq : Q (.inl (some (.int (I (ordS (lnC (R 24).2.2.1 (rs.getD x [])) (lnC (R 24).2.2.1 (rs.getD y []))))))) M) : mC E 113 [.ref (b + 301), .int (I x), .int (I y)] M Q := by
  have hb := h.1
  have t24 := h.c24
  have l24 := t24.len
  have s27 := h.s27 h27
  refine w113_0 ⟨h.k26, nz h.f26_2 h.1, by rw [h.f26_2]; exact s27.1, ?_⟩
  rw [h.f26_2]
  refine sh_at (c := 1) s27 (by omega) (by omega) (by omega) ⟨h.k26, nz h.f26_2 h.1, by rw [h.f26_2]; exact s27.1, ?_⟩
  rw [h.f26_2]
  refine sh_at (c := 1) s27 (by omega) (by omega) (by omega) ⟨h.k26, nz h.f26_2 h.1, by rw [h.f26_2]; exact s27.1, ?_⟩
  rw [h.f26_2]
  refine sh_at (c := 2) s27 (by omega) (by omega) (by omega) ⟨h.k26, nz h.f26_2 h.1, by rw [h.f26_2]; exact s27.1, ?_⟩
  rw [h.f26_2]
  refine sh_at (c := 2) s27 (by omega) (by omega) (by omega) ?_
  rw [shL_nat, shL_nat, shL_nat, shL_nat]
  show mC E 198 _ M _
  rw [I_sub, I_sub]
  obtain ⟨-, w1, w2⟩ := wx
  obtain ⟨-, w3, w4⟩ := wy
  refine c_min (by omega) (by omega) (by omega) (by omega) ?_
  exact l_order_l h w1 w2 w3 w4 _ 0 none rfl (by omega) hq
end LINES
