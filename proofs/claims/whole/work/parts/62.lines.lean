/-! LINES: reversed, changed, holding a part, sorted -/
def rvL (u : List Nat) (rs : List (List Nat)) : List Nat := rs.flatMap fun r => (lnC u r).reverse ++ [10]
/-- lines that are not the one before -/
def chL (u : List Nat) (rs : List (List Nat)) : Nat → Nat → List Nat
  | 0, _ => []
  | n + 1, k => (if k = 0 ∨ ¬ ordS (lnC u (rs.getD (k - 1) [])) (lnC u (rs.getD k [])) = 0 then lnC u (rs.getD k []) ++ [10] else []) ++ chL u rs n (k + 1)
/-- the part stands in u at one of n places from st on -/
def hsN (u p : List Nat) : Nat → Nat → Bool
  | 0, _ => false
  | n + 1, st => if seg u st (st + p.length) = p then true else hsN u p n (st + 1)
def hsR (u p r : List Nat) : Bool := hsN u p (r.getD 2 0 + 1 - (p.length + r.getD 1 0)) (r.getD 1 0)
def grL (u p : List Nat) (rs : List (List Nat)) : List Nat := rs.flatMap fun r => if hsR u p r = true then lnC u r ++ [10] else []
def grS (u p : List Nat) : List (List Nat) → Nat → Nat
  | [], st => st
  | r :: rs, st => grS u p rs (if hsR u p r = true then 0 else st)
def swp (rs : List (List Nat)) (k : Nat) : List (List Nat) := (rs.set k (rs.getD (k + 1) [])).set (k + 1) (rs.getD k [])
def inK (u : List Nat) : Nat → List (List Nat) → List (List Nat)
  | 0, rs => rs
  | k + 1, rs => if 0 < ordS (lnC u (rs.getD k [])) (lnC u (rs.getD (k + 1) [])) then inK u k (swp rs k) else rs
def srN (u : List Nat) : Nat → Nat → List (List Nat) → List (List Nat)
  | 0, _, rs => rs
  | n + 1, i, rs => srN u n (i + 1) (inK u i rs)
theorem swp_len (rs : List (List Nat)) (k : Nat) : (swp rs k).length = rs.length := by unfold swp; rw [List.length_set, List.length_set]
theorem inK_len (u : List Nat) : ∀ k rs, (inK u k rs).length = rs.length
  | 0, rs => rfl
  | k + 1, rs => by
    unfold inK; split
    · rw [inK_len u k, swp_len]
    · rfl
theorem getL_mem {rs : List (List Nat)} {k : Nat} (h : k < rs.length) : rs.getD k [] ∈ rs := by
  rw [List.getD_eq_getElem?_getD, List.getElem?_eq_getElem h]; exact List.getElem_mem _
theorem swp_mem {rs : List (List Nat)} {k : Nat} (h : k + 1 < rs.length) : ∀ r ∈ swp rs k, r ∈ rs := by
  intro r hr
  unfold swp at hr
  rcases List.mem_or_eq_of_mem_set hr with q | q
  · rcases List.mem_or_eq_of_mem_set q with q | q
    · exact q
    · rw [q]; exact getL_mem h
  · rw [q]; exact getL_mem (by omega)
theorem l5 {l : List Nat} (h : l.length = 5) : ∃ a0 a1 a2 a3 a4, l = [a0, a1, a2, a3, a4] := by
  match l, h with
  | [a0, a1, a2, a3, a4], _ => exact ⟨a0, a1, a2, a3, a4, rfl⟩
def mx5 (c : Nat) (x y : List Nat) : List Nat := x.take c ++ y.drop c
theorem mx5_s {x y : List Nat} {c : Nat} (hx : x.length = 5) (hy : y.length = 5) (hc : c < 5) : (mx5 c x y).set c (x.getD c 0) = mx5 (c + 1) x y ∧ (mx5 c x y).getD c 0 = y.getD c 0 ∧ (mx5 c x y).length = 5 := by
  obtain ⟨a0, a1, a2, a3, a4, rfl⟩ := l5 hx
  obtain ⟨b0, b1, b2, b3, b4, rfl⟩ := l5 hy
  rcases (show c = 0 ∨ c = 1 ∨ c = 2 ∨ c = 3 ∨ c = 4 by omega) with r | r | r | r | r <;> subst r <;> exact ⟨rfl, rfl, rfl⟩
section LINES
variable {E : mE} {M : mM} {Q : mQ} {b : Nat} {R : RT} {o : List Nat} {rs : List (List Nat)}
theorem set_get {l : List (List Nat)} {k j : Nat} {x : List Nat} : (l.set k x).getD j [] = if k = j ∧ k < l.length then x else l.getD j [] := by
  rw [List.getD_eq_getElem?_getD, List.getElem?_set]
  by_cases q : k = j
  · subst q
    by_cases q2 : k < l.length
    · rw [if_pos rfl, if_pos q2, if_pos ⟨rfl, q2⟩]; rfl
    · rw [if_pos rfl, if_neg q2, if_neg (fun z => q2 z.2), List.getD_eq_getElem?_getD, List.getElem?_eq_none (by omega)]
  · rw [if_neg q, if_neg (fun z => q z.1), List.getD_eq_getElem?_getD]
/-- two rows change places -/
theorem sh_swap_l {a n k j : Nat} {rk rj : List Nat} (hk : k < rs.length) (hj : j < rs.length) (hkj : ¬ k = j) (h5 : ∀ r ∈ rs, r.length = 5) (ek : rk = rs.getD k []) (ej : rj = rs.getD j []) (m : Nat) : ∀ (c : Nat) (M : mM) (d4 : Option Value), c + m = 5 → shX M a n ((rs.set k (mx5 c rj rk)).set j (mx5 c rk rj)) → (∀ M', shX M' a n ((rs.set k rj).set j rk) → fr M M' a (a + 2) → Q (.inl none) M') →
    mX E 47 1 [some (.ref a), some (.int (I k)), some (.int (I j)), some (.int (I c)), d4] [] M Q := by
  have lk : rk.length = 5 := by rw [ek]; exact h5 _ (getL_mem hk)
  have lj : rj.length = 5 := by rw [ej]; exact h5 _ (getL_mem hj)
  induction m with
  | zero =>
    intro c M d4 hc h hq
    have e5 : c = 5 := by omega
    subst e5
    have z1 : mx5 5 rj rk = rj := by unfold mx5; rw [List.take_of_length_le (by omega), List.drop_eq_nil_of_le (by omega), List.append_nil]
    have z2 : mx5 5 rk rj = rk := by unfold mx5; rw [List.take_of_length_le (by omega), List.drop_eq_nil_of_le (by omega), List.append_nil]
    rw [z1, z2] at h
    exact w47_1 ⟨fun _ => hq M h (fr.refl _ _ _), fun q => absurd (by decide) q⟩
  | succ m ih =>
    intro c M d4 hc h hq
    have hl := h.len
    simp only [List.length_set] at hl
    obtain ⟨p1, p2, p3⟩ := mx5_s lj lk (show c < 5 by omega)
    obtain ⟨q1, q2, q3⟩ := mx5_s lk lj (show c < 5 by omega)
    have v1 : shL ((rs.set k (mx5 c rj rk)).set j (mx5 c rk rj)) (k : Int) c = rk.getD c 0 := by
      rw [shL_nat, set_get, if_neg (fun z => hkj z.1.symm), set_get, if_pos ⟨rfl, hk⟩, p2]
    have v2 : shL ((rs.set k (mx5 c rj rk)).set j (mx5 c rk rj)) (j : Int) c = rj.getD c 0 := by
      rw [shL_nat, set_get, if_pos ⟨rfl, by rw [List.length_set]; exact hj⟩, q2]
    have b1 := shL_lt h.2.2.2.2.2.2.2.2 (k : Int) c
    have b2 := shL_lt h.2.2.2.2.2.2.2.2 (j : Int) c
    rw [v1] at b1
    rw [v2] at b2
    have all5 : ∀ r ∈ ((rs.set k (mx5 c rj rk)).set j (mx5 c rk rj)), r.length = 5 := by
      intro r hr
      rcases List.mem_or_eq_of_mem_set hr with q | q
      · rcases List.mem_or_eq_of_mem_set q with q | q
        · exact h5 r q
        · rw [q]; exact p3
      · rw [q]; exact q3
    refine w47_1 ⟨fun q => ?_, fun _ => ⟨h.1, sh_at h (by omega) (by omega) (by omega) ⟨h.1, sh_at h (by omega) (by omega) (by omega) ⟨h.1, ?_⟩⟩⟩⟩
    · rw [I_le (by omega) (by omega) (by omega) (by omega)] at q; omega
    · rw [v1, v2]
      refine sh_set h (by omega) b2 all5 (by omega) (by rw [List.length_set, List.length_set]; omega) (fun M1 t1 f1 => ⟨t1.1, ?_⟩)
      have e1 : ((rs.set k (mx5 c rj rk)).set j (mx5 c rk rj)).set ((k : Int).toNat) ((((rs.set k (mx5 c rj rk)).set j (mx5 c rk rj)).getD ((k : Int).toNat) []).set c (rj.getD c 0)) = (rs.set k (mx5 (c + 1) rj rk)).set j (mx5 c rk rj) := by
        rw [show ((k : Int).toNat) = k by omega, set_get, if_neg (fun z => hkj z.1.symm), set_get, if_pos ⟨rfl, hk⟩, p1, List.set_comm _ _ (fun z => hkj z.symm), List.set_set]
      rw [e1] at t1
      have all5' : ∀ r ∈ ((rs.set k (mx5 (c + 1) rj rk)).set j (mx5 c rk rj)), r.length = 5 := by
        intro r hr
        rcases List.mem_or_eq_of_mem_set hr with q | q
        · rcases List.mem_or_eq_of_mem_set q with q | q
          · exact h5 r q
          · rw [q, ← p1, List.length_set]; exact p3
        · rw [q]; exact q3
      refine sh_set t1 (by omega) b1 all5' (by omega) (by rw [List.length_set, List.length_set]; omega) (fun M2 t2 f2 => ?_)
      have e2 : ((rs.set k (mx5 (c + 1) rj rk)).set j (mx5 c rk rj)).set ((j : Int).toNat) ((((rs.set k (mx5 (c + 1) rj rk)).set j (mx5 c rk rj)).getD ((j : Int).toNat) []).set c (rk.getD c 0)) = (rs.set k (mx5 (c + 1) rj rk)).set j (mx5 (c + 1) rk rj) := by
        rw [show ((j : Int).toNat) = j by omega, set_get, if_pos ⟨rfl, by rw [List.length_set]; exact hj⟩, q1, List.set_set]
      rw [e2] at t2
      show mX E 47 1 _ [] M2 Q
      rw [I_add]
      exact ih (c + 1) M2 _ (by omega) t2 (fun M' t' f' => hq M' t' ((f1.then f2).then f'))
theorem sh_swap {a n k : Nat} (h : shX M a n rs) (hk : k + 1 < rs.length) (h5 : ∀ r ∈ rs, r.length = 5) (hq : ∀ M', shX M' a n (swp rs k) → fr M M' a (a + 2) → Q (.inl none) M') : mC E 47 [.ref a, .int (I k), .int (I (k + 1 : Nat))] M Q := by
  refine w47_0 (sh_swap_l (k := k) (j := k + 1) (by omega) hk (by omega) h5 rfl rfl 5 0 M none rfl ?_ hq)
  have z1 : mx5 0 (rs.getD (k + 1) []) (rs.getD k []) = rs.getD k [] := rfl
  have z2 : mx5 0 (rs.getD k []) (rs.getD (k + 1) []) = rs.getD (k + 1) [] := rfl
  rw [z1, z2]
  have e : (rs.set k (rs.getD k [])).set (k + 1) (rs.getD (k + 1) []) = rs := by
    have ss : ∀ i (l : List (List Nat)), i < l.length → l.set i (l.getD i []) = l := by
      intro i l hi
      rw [List.getD_eq_getElem?_getD, List.getElem?_eq_getElem hi]; exact List.set_getElem_self hi
    rw [ss k rs (by omega), ss (k + 1) rs hk]
  rw [e]; exact h
theorem l_rev2 {x : Nat} (hx : x < rs.length) (n : Nat) : ∀ (o : List Nat) (M : mM) (R : RT), (rs.getD x []).getD 1 0 + n ≤ (R 24).2.2.1.length → RX b M R → R 27 = vS rs → R 25 = vT o →
    (o.length + ((seg (R 24).2.2.1 ((rs.getD x []).getD 1 0) ((rs.getD x []).getD 1 0 + n)).reverse ++ [10]).length ≤ 240 → ∀ M' R' d2, RX b M' R' → ag [25] R R' → R' 25 = vT (o ++ ((seg (R 24).2.2.1 ((rs.getD x []).getD 1 0) ((rs.getD x []).getD 1 0 + n)).reverse ++ [10])) → fr M M' b (b + 369) → mX E 109 1 [some (.ref (b + 301)), some (.int (I x + I 1)), d2] [] M' Q) →
    (240 < o.length + ((seg (R 24).2.2.1 ((rs.getD x []).getD 1 0) ((rs.getD x []).getD 1 0 + n)).reverse ++ [10]).length → TH E b M R Q) →
    mX E 109 2 [some (.ref (b + 301)), some (.int (I x)), some (.int (I ((((rs.getD x []).getD 1 0 + n : Nat) : Int) - 1)))] [] M Q := by
  induction n with
  | zero =>
    intro o M R hn h h27 h25 hq ht
    have hb := h.1
    have s27 := h.s27 h27
    have l24 := h.c24.len
    have l27 := s27.len
    rw [Nat.add_zero, seg_nil (Or.inl (Nat.le_refl _))] at hq ht
    refine w109_2 ⟨h.k26, nz h.f26_2 h.1, by rw [h.f26_2]; exact s27.1, ?_⟩
    rw [h.f26_2]
    refine sh_at (c := 1) s27 (by omega) (by omega) (by omega) ?_
    rw [shL_nat]
    refine ⟨fun u => ⟨h.k26, nz h.f26_1 h.1, by rw [h.f26_1]; exact h.c25.1, ?_⟩, fun u => ?_⟩
    · rw [h.f26_1]
      refine o_add (c := 10) h h25 (by omega) (fun l M1 h1 f1 => ?_) (fun l => ht (by simp; omega))
      exact hq (by simp; omega) M1 _ _ h1 (ag_up (by decide)) (by rw [up_s]; rfl) (f1.wide (by omega) (by omega))
    · rw [I_lt (by omega) (by omega) (by omega) (by omega)] at u; omega
  | succ n ih =>
    intro o M R hn h h27 h25 hq ht
    have hb := h.1
    have s27 := h.s27 h27
    have t24 := h.c24
    have l24 := t24.len
    have l27 := s27.len
    generalize hf : (rs.getD x []).getD 1 0 = f at *
    have sg : (seg (R 24).2.2.1 f (f + (n + 1))).reverse = (R 24).2.2.1.getD (f + n) 0 :: (seg (R 24).2.2.1 f (f + n)).reverse := by
      have : seg (R 24).2.2.1 f (f + (n + 1)) = seg (R 24).2.2.1 f (f + n) ++ [(R 24).2.2.1.getD (f + n) 0] := by
        unfold seg
        rw [show f + (n + 1) - f = n + 1 by omega, show f + n - f = n by omega, List.take_succ, List.getElem?_drop, List.getD_eq_getElem?_getD, List.getElem?_eq_getElem (show f + n < (R 24).2.2.1.length by omega)]; rfl
      rw [this, List.reverse_append]; rfl
    rw [sg] at hq ht
    simp only [List.length_append, List.length_cons, List.length_nil] at hq ht
    have hc := t24.ch (f + n)
    refine w109_2 ⟨h.k26, nz h.f26_2 h.1, by rw [h.f26_2]; exact s27.1, ?_⟩
    rw [h.f26_2]
    refine sh_at (c := 1) s27 (by omega) (by omega) (by omega) ?_
    rw [shL_nat, hf]
    refine ⟨fun u => ?_, fun u => ⟨h.k26, nz h.f26_1 h.1, nz h.f26_0 h.1, by rw [h.f26_0]; exact t24.1, ?_⟩⟩
    · rw [I_lt (by omega) (by omega) (by omega) (by omega)] at u; omega
    · rw [h.f26_0, h.f26_1, show (((f + (n + 1) : Nat) : Int) - 1) = ((f + n : Nat) : Int) by omega]
      refine t_at t24 (by omega) (by omega) ⟨h.c25.1, ?_⟩
      rw [if_pos (by omega), show (((f + n : Nat) : Int).toNat) = f + n by omega]
      refine o_add h h25 hc (fun l M1 h1 f1 => ?_) (fun l => ht (by omega))
      show mX E 109 2 _ [] M1 Q
      rw [I_add, show (((f + n : Nat) : Int) + -1) = (((f + n : Nat) : Int) - 1) by omega]
      have f1' := f1.wide (l := b) (u := b + 369) (by omega) (by omega)
      have e24 : up R 25 (vT (o ++ [(R 24).2.2.1.getD (f + n) 0])) 24 = R 24 := up_n (by decide)
      refine ih _ M1 _ (by rw [e24]; omega) h1 (by rw [up_n (by decide)]; exact h27) (up_s _ _ _) ?_ ?_
      · rw [e24]
        intro l3 M' R' d2 j1 j2 j3 j4
        refine hq (by simp only [List.length_append, List.length_cons, List.length_nil] at l3; omega) M' R' d2 j1 ((ag_up (by decide)).trans j2) ?_ (f1'.then j4)
        rw [j3]; simp
      · rw [e24]
        intro l3
        exact (ht (by simp only [List.length_append, List.length_cons, List.length_nil] at l3; omega)).st f1' ((ag_up (S := [25]) (by decide)).lo (by decide))
theorem l_rev_l (n : Nat) : ∀ (k : Nat) (o : List Nat) (M : mM) (R : RT) (d2 : Option Value), n = rs.length - k → k ≤ rs.length → RX b M R → R 27 = vS rs → R 25 = vT o → (∀ r ∈ rs, lnW (R 24).2.2.1 r) →
    (o.length + (rvL (R 24).2.2.1 (rs.drop k)).length ≤ 240 → ∀ M' R', RX b M' R' → ag [25] R R' → R' 25 = vT (o ++ rvL (R 24).2.2.1 (rs.drop k)) → fr M M' b (b + 369) → Q (.inl (some (.int (I 0)))) M') → (240 < o.length + (rvL (R 24).2.2.1 (rs.drop k)).length → TH E b M R Q) →
    mX E 109 1 [some (.ref (b + 301)), some (.int (I k)), d2] [] M Q := by
  induction n with
  | zero =>
    intro k o M R d2 hn hk h h27 h25 hw hq ht
    have s27 := h.s27 h27
    have l27 := s27.len
    have l25 := (h.t25 h25).len
    rw [List.drop_eq_nil_of_le (by omega)] at hq
    refine w109_1 ⟨h.k26, nz h.f26_2 h.1, by rw [h.f26_2]; exact s27.1, fun _ => hq (by simp [rvL]; omega) M R h (ag.refl _ _) (by rw [h25]; simp [rvL]) (fr.refl _ _ _), fun c => ?_⟩
    rw [h.f26_2, s27.2.2.2.2.1, I_le (by omega) (by omega) (by omega) (by omega)] at c; omega
  | succ n ih =>
    intro k o M R d2 hn hk h h27 h25 hw hq ht
    have hb := h.1
    have s27 := h.s27 h27
    have l27 := s27.len
    have l24 := h.c24.len
    obtain ⟨w0, w1, w2⟩ := hw _ (getL_mem (show k < rs.length by omega))
    have pt : rvL (R 24).2.2.1 (rs.drop k) = ((lnC (R 24).2.2.1 (rs.getD k [])).reverse ++ [10]) ++ rvL (R 24).2.2.1 (rs.drop (k + 1)) := by rw [drop_getL (d := []) (by omega)]; rfl
    rw [pt] at hq ht
    rw [List.length_append] at hq ht
    refine w109_1 ⟨h.k26, nz h.f26_2 h.1, by rw [h.f26_2]; exact s27.1, fun c => ?_, fun c => ?_⟩
    · rw [h.f26_2, s27.2.2.2.2.1, I_le (by omega) (by omega) (by omega) (by omega)] at c; omega
    · rw [h.f26_2]
      refine sh_at (c := 2) s27 (by omega) (by omega) (by omega) ?_
      rw [shL_nat]
      show mX E 109 2 _ _ M Q
      rw [I_sub]
      have key := l_rev2 (E := E) (Q := Q) (b := b) (rs := rs) (x := k) (by omega) ((rs.getD k []).getD 2 0 - (rs.getD k []).getD 1 0) o M R (by omega) h h27 h25
      rw [show (rs.getD k []).getD 1 0 + ((rs.getD k []).getD 2 0 - (rs.getD k []).getD 1 0) = (rs.getD k []).getD 2 0 by omega] at key
      refine key (fun l M1 R1 d2' h1 a1 e1 f1 => ?_) (fun l => ht (by unfold lnC; omega))
      rw [I_add]
      have e24 : R1 24 = R 24 := a1 24 (by decide)
      refine ih (k + 1) _ M1 R1 d2' (by omega) (by omega) h1 (by rw [a1 27 (by decide)]; exact h27) e1 (by rw [e24]; exact hw) ?_ ?_
      · rw [e24]
        intro l3 M' R' j1 j2 j3 j4
        refine hq (by rw [List.length_append] at l3; unfold lnC; omega) M' R' j1 (a1.trans j2) ?_ (f1.then j4)
        rw [j3, List.append_assoc]; rfl
      · rw [e24]
        intro l3
        exact (ht (by rw [List.length_append] at l3; unfold lnC; omega)).st f1 (a1.lo (by decide))
theorem l_rev (h : RX b M R) (h27 : R 27 = vS rs) (h25 : R 25 = vT o) (hw : ∀ r ∈ rs, lnW (R 24).2.2.1 r) (hq : o.length + (rvL (R 24).2.2.1 rs).length ≤ 240 → ∀ M' R', RX b M' R' → ag [25] R R' → R' 25 = vT (o ++ rvL (R 24).2.2.1 rs) → fr M M' b (b + 369) → Q (.inl (some (.int (I 0)))) M') (ht : 240 < o.length + (rvL (R 24).2.2.1 rs).length → TH E b M R Q) : mC E 109 [.ref (b + 301)] M Q :=
  w109_0 (l_rev_l _ 0 o M R none rfl (by omega) h h27 h25 hw hq ht)
theorem l_uniq_l (n : Nat) : ∀ (k : Nat) (o : List Nat) (M : mM) (R : RT), n = rs.length - k → k ≤ rs.length → RX b M R → R 27 = vS rs → R 25 = vT o → (∀ r ∈ rs, lnW (R 24).2.2.1 r) →
    (o.length + (chL (R 24).2.2.1 rs n k).length ≤ 240 → ∀ M' R', RX b M' R' → ag [25] R R' → R' 25 = vT (o ++ chL (R 24).2.2.1 rs n k) → fr M M' b (b + 369) → Q (.inl (some (.int (I 0)))) M') → (240 < o.length + (chL (R 24).2.2.1 rs n k).length → TH E b M R Q) →
    mX E 110 1 [some (.ref (b + 301)), some (.int (I k))] [] M Q := by
  induction n with
  | zero =>
    intro k o M R hn hk h h27 h25 hw hq ht
    have s27 := h.s27 h27
    have l27 := s27.len
    have l25 := (h.t25 h25).len
    refine w110_1 ⟨h.k26, nz h.f26_2 h.1, by rw [h.f26_2]; exact s27.1, fun _ => hq (by simp [chL]; omega) M R h (ag.refl _ _) (by rw [h25]; simp [chL]) (fr.refl _ _ _), fun c => ?_⟩
    rw [h.f26_2, s27.2.2.2.2.1, I_le (by omega) (by omega) (by omega) (by omega)] at c; omega
  | succ n ih =>
    intro k o M R hn hk h h27 h25 hw hq ht
    have hb := h.1
    have s27 := h.s27 h27
    have l27 := s27.len
    have l24 := h.c24.len
    unfold chL at hq ht
    rw [List.length_append] at hq ht
    have two : (k = 0 ∨ ¬ ordS (lnC (R 24).2.2.1 (rs.getD (k - 1) [])) (lnC (R 24).2.2.1 (rs.getD k [])) = 0) → mX E 110 2 [some (.ref (b + 301)), some (.int (I k))] [] M Q := by
      intro g
      rw [if_pos g] at hq ht
      refine w110_2 ⟨h.k26, l_put h h27 h25 (by omega) (fun l M1 R1 h1 a1 e1 f0 => ?_) (fun l => ht (by omega))⟩
      have f1 := f0.wide (l := b) (u := b + 369) (by omega) (by omega)
      show mX E 110 1 _ [] M1 Q
      rw [I_add]
      have e24 : R1 24 = R 24 := a1 24 (by decide)
      refine ih (k + 1) _ M1 R1 (by omega) (by omega) h1 (by rw [a1 27 (by decide)]; exact h27) e1 (by rw [e24]; exact hw) ?_ ?_
      · rw [e24]
        intro l3 M' R' j1 j2 j3 j4
        refine hq (by rw [List.length_append] at l3; omega) M' R' j1 (a1.trans j2) ?_ (f1.then j4)
        rw [j3, List.append_assoc]
      · rw [e24]
        intro l3
        exact (ht (by rw [List.length_append] at l3; omega)).st f1 (a1.lo (by decide))
    refine w110_1 ⟨h.k26, nz h.f26_2 h.1, by rw [h.f26_2]; exact s27.1, fun c => ?_, fun c => ⟨fun u => two (Or.inl ?_), fun u => ?_⟩⟩
    · rw [h.f26_2, s27.2.2.2.2.1, I_le (by omega) (by omega) (by omega) (by omega)] at c; omega
    · rw [I_eq (by omega) (by omega) (by omega) (by omega)] at u; omega
    · rw [I_eq (by omega) (by omega) (by omega) (by omega)] at u
      rw [I_sub, show ((k : Int) - 1) = ((k - 1 : Nat) : Int) by omega]
      have wa := hw _ (getL_mem (show k - 1 < rs.length by omega))
      have wb := hw _ (getL_mem (show k < rs.length by omega))
      have bd := ordS_bd (lnC (R 24).2.2.1 (rs.getD (k - 1) [])) (lnC (R 24).2.2.1 (rs.getD k [])) (fun c hc => h.c24.2.2.2.2.2.2.2.2 c (seg_mem hc)) (fun c hc => h.c24.2.2.2.2.2.2.2.2 c (seg_mem hc)) (by unfold lnC; rw [seg_len]; omega) (by unfold lnC; rw [seg_len]; omega)
      refine l_order h h27 (by omega) (by omega) wa wb ⟨fun w => ?_, fun w => two (Or.inr ?_)⟩
      · rw [I_eq (by omega) (by omega) (by omega) (by omega)] at w
        rw [if_neg (by omega)] at hq ht
        simp only [List.length_nil, Nat.zero_add, List.nil_append] at hq ht
        rw [I_add]
        exact ih (k + 1) o M R (by omega) (by omega) h h27 h25 hw hq ht
      · rw [I_eq (by omega) (by omega) (by omega) (by omega)] at w; exact w
theorem l_uniq (h : RX b M R) (h27 : R 27 = vS rs) (h25 : R 25 = vT o) (hw : ∀ r ∈ rs, lnW (R 24).2.2.1 r) (hq : o.length + (chL (R 24).2.2.1 rs rs.length 0).length ≤ 240 → ∀ M' R', RX b M' R' → ag [25] R R' → R' 25 = vT (o ++ chL (R 24).2.2.1 rs rs.length 0) → fr M M' b (b + 369) → Q (.inl (some (.int (I 0)))) M') (ht : 240 < o.length + (chL (R 24).2.2.1 rs rs.length 0).length → TH E b M R Q) : mC E 110 [.ref (b + 301)] M Q :=
  w110_0 (l_uniq_l _ 0 o M R rfl (by omega) h h27 h25 hw hq ht)
end LINES
