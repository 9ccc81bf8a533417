/-! LINES: those that hold a part; sorted; head -/
section LINES
variable {E : mE} {M : mM} {Q : mQ} {b : Nat} {R : RT} {o : List Nat} {rs : List (List Nat)}
theorem seg_get {u : List Nat} {f e j : Nat} (h3 : j < e - f) : (seg u f e).getD j 0 = u.getD (f + j) 0 := by
  unfold seg
  rw [List.getD_eq_getElem?_getD, List.getElem?_take_of_lt h3, List.getElem?_drop, ← List.getD_eq_getElem?_getD]
/-- the part is compared at one place -/
theorem l_hold2 {q cap : Nat} {p u : List Nat} {v1 : Int32} {v3 : Int32} {st : Nat} (h : RX b M R) (hu : (R 24).2.2.1 = u) (t : tX M q cap p) (hst : st + p.length ≤ u.length) (h1 : seg u st (st + p.length) = p → Q (.inl (some (.int (I 1)))) M) (h0 : ¬ seg u st (st + p.length) = p → ∀ d5 d6, mX E 114 1 [some (.ref (b + 301)), some (.int v1), some (.ref q), some (.int v3), some (.int (I st + I 1)), d5, d6] [] M Q) (n : Nat) : ∀ (k : Nat), n = p.length - k → k ≤ p.length → (∀ j, j < k → u.getD (st + j) 0 = p.getD j 0) →
    mX E 114 2 [some (.ref (b + 301)), some (.int v1), some (.ref q), some (.int v3), some (.int (I st)), some (.int (I k)), some (.int (I k))] [] M Q := by
  have hb := h.1
  have t24 := h.c24
  rw [hu] at t24
  have l24 := t24.len
  have tl := t.len
  have sl : (seg u st (st + p.length)).length = p.length := by rw [seg_len]; omega
  have three : ∀ k : Nat, k ≤ p.length → (k = p.length → Q (.inl (some (.int (I 1)))) M) → (¬ k = p.length → ∀ d5 d6, mX E 114 1 [some (.ref (b + 301)), some (.int v1), some (.ref q), some (.int v3), some (.int (I st + I 1)), d5, d6] [] M Q) → mX E 114 3 [some (.ref (b + 301)), some (.int v1), some (.ref q), some (.int v3), some (.int (I st)), some (.int (I k)), some (.int (I k))] [] M Q := by
    intro k hk g1 g0
    refine w114_3 ⟨t.1, fun c => g0 ?_ _ _, fun c => g1 ?_⟩
    · rw [t.2.2.2.2.1, I_eq (by omega) (by omega) (by omega) (by omega)] at c; omega
    · rw [t.2.2.2.2.1, I_eq (by omega) (by omega) (by omega) (by omega)] at c; omega
  have full : ∀ k : Nat, k = p.length → (∀ j, j < k → u.getD (st + j) 0 = p.getD j 0) → seg u st (st + p.length) = p := by
    intro k hk hj
    apply List.ext_getElem
    · exact sl
    · intro j j1 j2
      have e1 := hj j (by omega)
      rw [← seg_get (e := st + p.length) (show j < st + p.length - st by omega)] at e1
      rw [List.getD_eq_getElem?_getD, List.getElem?_eq_getElem j1, List.getD_eq_getElem?_getD, List.getElem?_eq_getElem j2] at e1
      exact e1
  induction n with
  | zero =>
    intro k hn hk hj
    refine w114_2 ⟨t.1, fun _ => three k hk (fun e => h1 (full k e hj)) (fun e => absurd (show k = p.length by omega) e), fun c => ?_⟩
    rw [t.2.2.2.2.1, I_le (by omega) (by omega) (by omega) (by omega)] at c; omega
  | succ n ih =>
    intro k hn hk hj
    have z1 := t24.ch (st + k)
    have z2 := t.ch k
    refine w114_2 ⟨t.1, fun c => ?_, fun c => ⟨h.k26, nz h.f26_0 h.1, by rw [h.f26_0]; exact t24.1, ?_⟩⟩
    · rw [t.2.2.2.2.1, I_le (by omega) (by omega) (by omega) (by omega)] at c; omega
    · rw [h.f26_0, I_add, show (st : Int) + k = ((st + k : Nat) : Int) by omega]
      refine t_at t24 (by omega) (by omega) ⟨t.1, t_at t (by omega) (by omega) ?_⟩
      rw [if_pos (by omega), if_pos (by omega), show (((st + k : Nat) : Int).toNat) = st + k by omega, show ((k : Int).toNat) = k by omega]
      refine ⟨fun w => three k hk (fun e => by omega) (fun _ d5 d6 => h0 (fun e => ?_) d5 d6), fun w => ?_⟩
      · rw [I_eq (by omega) (by omega) (by omega) (by omega)] at w
        have : (seg u st (st + p.length)).getD k 0 = p.getD k 0 := by rw [e]
        rw [seg_get (by omega)] at this; omega
      · rw [I_eq (by omega) (by omega) (by omega) (by omega)] at w
        rw [I_add]
        refine ih (k + 1) (by omega) (by omega) (fun j hj' => ?_)
        by_cases e : j = k
        · subst e; omega
        · exact hj j (by omega)
theorem l_hold_l {q cap : Nat} {p u : List Nat} {v1 : Int32} {last : Int} (h : RX b M R) (hu : (R 24).2.2.1 = u) (t : tX M q cap p) (hla : last + p.length ≤ u.length) (hlb : -1000 ≤ last) (n : Nat) : ∀ (st : Nat) (d5 d6 : Option Value), n = (last + 1 - st).toNat → st ≤ u.length + 1 → Q (.inl (some (.int (I (bI (hsN u p n st)))))) M →
    mX E 114 1 [some (.ref (b + 301)), some (.int v1), some (.ref q), some (.int (I last)), some (.int (I st)), d5, d6] [] M Q := by
  have hb := h.1
  have l24 := h.c24.len
  rw [hu] at l24
  have tl := t.len
  induction n with
  | zero =>
    intro st d5 d6 hn hs hq
    refine w114_1 ⟨fun _ => hq, fun c => ?_⟩
    rw [I_lt (by omega) (by omega) (by omega) (by omega)] at c; omega
  | succ n ih =>
    intro st d5 d6 hn hs hq
    unfold hsN at hq
    refine w114_1 ⟨fun c => ?_, fun c => ?_⟩
    · rw [I_lt (by omega) (by omega) (by omega) (by omega)] at c; omega
    · refine l_hold2 h hu t (by omega) (fun e => ?_) (fun e d5 d6 => ?_) p.length 0 (by omega) (by omega) (fun j hj => absurd hj (Nat.not_lt_zero j))
      · rw [if_pos e] at hq; exact hq
      · rw [if_neg e] at hq
        rw [I_add]; exact ih (st + 1) d5 d6 (by omega) (by omega) hq
theorem l_hold {q cap k : Nat} {p : List Nat} (h : RX b M R) (h27 : R 27 = vS rs) (t : tX M q cap p) (hk : k < 1000) (hw : lnW (R 24).2.2.1 (rs.getD k [])) (hq : Q (.inl (some (.int (I (bI (hsR (R 24).2.2.1 p (rs.getD k []))))))) M) : mC E 114 [.ref (b + 301), .int (I k), .ref q] M Q := by
  have hb := h.1
  have s27 := h.s27 h27
  have l24 := h.c24.len
  have tl := t.len
  obtain ⟨w0, w1, w2⟩ := hw
  refine w114_0 ⟨h.k26, nz h.f26_2 h.1, by rw [h.f26_2]; exact s27.1, ?_⟩
  rw [h.f26_2]
  refine sh_at (c := 2) s27 (by omega) (by omega) (by omega) ⟨t.1, h.k26, nz h.f26_2 h.1, by rw [h.f26_2]; exact s27.1, ?_⟩
  rw [h.f26_2]
  refine sh_at (c := 1) s27 (by omega) (by omega) (by omega) ?_
  rw [shL_nat, shL_nat, t.2.2.2.2.1, I_sub]
  unfold hsR at hq
  exact l_hold_l h rfl t (by omega) (by omega) _ _ none none (by omega) (by omega) hq
theorem l_grep_l {q cap : Nat} {p : List Nat} (hq1 : q + 2 ≤ b + 299) (n : Nat) : ∀ (k st : Nat) (o : List Nat) (M : mM) (R : RT), n = rs.length - k → k ≤ rs.length → RX b M R → R 27 = vS rs → R 25 = vT o → tX M q cap p → (∀ r ∈ rs, lnW (R 24).2.2.1 r) →
    (o.length + (grL (R 24).2.2.1 p (rs.drop k)).length ≤ 240 → ∀ M' R', RX b M' R' → ag [25] R R' → R' 25 = vT (o ++ grL (R 24).2.2.1 p (rs.drop k)) → fr M M' b (b + 369) → Q (.inl (some (.int (I (grS (R 24).2.2.1 p (rs.drop k) st))))) M') → (240 < o.length + (grL (R 24).2.2.1 p (rs.drop k)).length → TH E b M R Q) →
    mX E 111 1 [some (.ref (b + 301)), some (.ref q), some (.int (I st)), some (.int (I k))] [] M Q := by
  induction n with
  | zero =>
    intro k st o M R hn hk h h27 h25 t hw hq ht
    have s27 := h.s27 h27
    have l27 := s27.len
    have l25 := (h.t25 h25).len
    rw [List.drop_eq_nil_of_le (by omega)] at hq
    refine w111_1 ⟨h.k26, nz h.f26_2 h.1, by rw [h.f26_2]; exact s27.1, fun _ => hq (by simp [grL]; omega) M R h (ag.refl _ _) (by rw [h25]; simp [grL]) (fr.refl _ _ _), fun c => ?_⟩
    rw [h.f26_2, s27.2.2.2.2.1, I_le (by omega) (by omega) (by omega) (by omega)] at c; omega
  | succ n ih =>
    intro k st o M R hn hk h h27 h25 t hw hq ht
    have hb := h.1
    have s27 := h.s27 h27
    have l27 := s27.len
    have pt : grL (R 24).2.2.1 p (rs.drop k) = (if hsR (R 24).2.2.1 p (rs.getD k []) = true then lnC (R 24).2.2.1 (rs.getD k []) ++ [10] else []) ++ grL (R 24).2.2.1 p (rs.drop (k + 1)) := by rw [drop_getL (d := []) (by omega)]; rfl
    have ps : grS (R 24).2.2.1 p (rs.drop k) st = grS (R 24).2.2.1 p (rs.drop (k + 1)) (if hsR (R 24).2.2.1 p (rs.getD k []) = true then 0 else st) := by rw [drop_getL (d := []) (by omega)]; rfl
    rw [pt, ps] at hq
    rw [pt] at ht
    rw [List.length_append] at hq ht
    refine w111_1 ⟨h.k26, nz h.f26_2 h.1, by rw [h.f26_2]; exact s27.1, fun c => ?_, fun c => ?_⟩
    · rw [h.f26_2, s27.2.2.2.2.1, I_le (by omega) (by omega) (by omega) (by omega)] at c; omega
    · refine l_hold h h27 t (by omega) (hw _ (getL_mem (by omega))) ⟨fun w => ?_, fun w => ⟨h.k26, ?_⟩⟩
      · rw [bI_0] at w
        rw [if_neg (by rw [w]; decide)] at ht
        rw [if_neg (by rw [w]; decide), if_neg (by rw [w]; decide)] at hq
        simp only [List.length_nil, Nat.zero_add, List.nil_append] at hq ht
        rw [I_add]
        exact ih (k + 1) st o M R (by omega) (by omega) h h27 h25 t hw hq ht
      · rw [bI_0] at w
        have wt : hsR (R 24).2.2.1 p (rs.getD k []) = true := by cases z : hsR (R 24).2.2.1 p (rs.getD k []) with | true => rfl | false => exact absurd z w
        rw [if_pos wt] at ht
        rw [if_pos wt, if_pos wt] at hq
        refine l_put h h27 h25 (by omega) (fun l M1 R1 h1 a1 e1 f0 => ?_) (fun l => ht (by omega))
        have f1 := f0.wide (l := b) (u := b + 369) (by omega) (by omega)
        show mX E 111 1 _ [] M1 Q
        rw [I_add]
        have e24 : R1 24 = R 24 := a1 24 (by decide)
        refine ih (k + 1) 0 _ M1 R1 (by omega) (by omega) h1 (by rw [a1 27 (by decide)]; exact h27) e1 (t.mv f0 (by omega)) (by rw [e24]; exact hw) ?_ ?_
        · rw [e24]
          intro l3 M' R' j1 j2 j3 j4
          refine hq (by rw [List.length_append] at l3; omega) M' R' j1 (a1.trans j2) ?_ (f1.then j4)
          rw [j3, List.append_assoc]
        · rw [e24]
          intro l3
          exact (ht (by rw [List.length_append] at l3; omega)).st f1 (a1.lo (by decide))
theorem l_grep {q cap : Nat} {p : List Nat} (h : RX b M R) (h27 : R 27 = vS rs) (h25 : R 25 = vT o) (t : tX M q cap p) (hq1 : q + 2 ≤ b + 299) (hw : ∀ r ∈ rs, lnW (R 24).2.2.1 r) (hq : o.length + (grL (R 24).2.2.1 p rs).length ≤ 240 → ∀ M' R', RX b M' R' → ag [25] R R' → R' 25 = vT (o ++ grL (R 24).2.2.1 p rs) → fr M M' b (b + 369) → Q (.inl (some (.int (I (grS (R 24).2.2.1 p rs 1))))) M') (ht : 240 < o.length + (grL (R 24).2.2.1 p rs).length → TH E b M R Q) : mC E 111 [.ref (b + 301), .ref q] M Q :=
  w111_0 (l_grep_l hq1 _ 0 1 o M R rfl (by omega) h h27 h25 t hw hq ht)
/-- sort: the inner walk down -/
theorem l_sort2 {i : Nat} {u : List Nat} (k : Nat) : ∀ (rs : List (List Nat)) (M : mM) (R : RT), k < rs.length → rs.length ≤ 240 → RX b M R → R 27 = vS rs → (R 24).2.2.1 = u → (∀ r ∈ rs, lnW u r) →
    (∀ M' R' d2, RX b M' R' → ag [27] R R' → R' 27 = vS (inK u k rs) → (∀ r ∈ inK u k rs, lnW u r) → fr M M' b (b + 369) → mX E 107 1 [some (.ref (b + 301)), some (.int (I i + I 1)), d2] [] M' Q) →
    mX E 107 2 [some (.ref (b + 301)), some (.int (I i)), some (.int (I k))] [] M Q := by
  induction k with
  | zero =>
    intro rs M R hk hl h h27 hu hw hq
    exact w107_2 ⟨fun _ => hq M R _ h (ag.refl _ _) h27 hw (fr.refl _ _ _), fun c => absurd (by decide) c⟩
  | succ k ih =>
    intro rs M R hk hl h h27 hu hw hq
    have hb := h.1
    have s27 := h.s27 h27
    have l24 := h.c24.len
    rw [hu] at l24
    have wa := hw _ (getL_mem (show k < rs.length by omega))
    have wb := hw _ (getL_mem hk)
    have ch := h.c24.2.2.2.2.2.2.2.2
    rw [hu] at ch
    have bd := ordS_bd (lnC u (rs.getD k [])) (lnC u (rs.getD (k + 1) [])) (fun c hc => ch c (seg_mem hc)) (fun c hc => ch c (seg_mem hc)) (by unfold lnC; rw [seg_len]; omega) (by unfold lnC; rw [seg_len]; omega)
    have e0 : I ((k + 1 : Nat) : Int) - I 1 = I (k : Int) := by rw [I_sub]; congr 1; omega
    unfold inK at hq
    refine w107_2 ⟨fun c => ?_, fun c => ⟨h.k26, ?_⟩⟩
    · rw [I_le (by omega) (by omega) (by omega) (by omega)] at c; omega
    · rw [e0]
      refine l_order h h27 (by omega) (by omega) (by rw [hu]; exact wa) (by rw [hu]; exact wb) ?_
      rw [hu]
      refine ⟨fun c => ?_, fun c => ⟨h.k26, nz h.f26_2 h.1, by rw [h.f26_2]; exact s27.1, ?_⟩⟩
      · rw [I_le (by omega) (by omega) (by omega) (by omega)] at c
        rw [if_neg (by omega)] at hq
        exact hq M R _ h (ag.refl _ _) h27 hw (fr.refl _ _ _)
      · rw [I_le (by omega) (by omega) (by omega) (by omega)] at c
        rw [if_pos (by omega)] at hq
        rw [h.f26_2]
        refine sh_swap s27 (by omega) (fun r hr => (hw r hr).1) (fun M1 t1 f1 => ?_)
        have h1 := h.u27 t1 f1
        show mX E 107 2 _ [] M1 Q
        rw [I_add, show (((k + 1 : Nat) : Int) + -1) = (k : Int) by omega]
        exact ih (swp rs k) M1 _ (by rw [swp_len]; omega) (by rw [swp_len]; omega) h1.1 (up_s _ _ _) (by rw [up_n (by decide)]; exact hu) (fun r hr => hw r (swp_mem (by omega) r hr)) (fun M' R' d2 j1 j2 j3 j4 j5 => hq M' R' d2 j1 ((ag_up (by decide)).trans j2) j3 j4 (h1.2.then j5))
theorem l_sort_l {u : List Nat} (n : Nat) : ∀ (i : Nat) (rs : List (List Nat)) (M : mM) (R : RT) (d2 : Option Value), n = rs.length - i → 1 ≤ i → i ≤ 1000 → RX b M R → R 27 = vS rs → R 25 = vT o → (R 24).2.2.1 = u → (∀ r ∈ rs, lnW u r) →
    (o.length + (ptL u (srN u n i rs)).length ≤ 240 → ∀ M' R', RX b M' R' → ag [25, 27] R R' → R' 25 = vT (o ++ ptL u (srN u n i rs)) → fr M M' b (b + 369) → Q (.inl (some (.int (I 0)))) M') → (240 < o.length + (ptL u (srN u n i rs)).length → TH E b M R Q) →
    mX E 107 1 [some (.ref (b + 301)), some (.int (I i)), d2] [] M Q := by
  induction n with
  | zero =>
    intro i rs M R d2 hn hi hi2 h h27 h25 hu hw hq ht
    have s27 := h.s27 h27
    have l27 := s27.len
    refine w107_1 ⟨h.k26, nz h.f26_2 h.1, by rw [h.f26_2]; exact s27.1, fun _ => ?_, fun c => ?_⟩
    · rw [h.f26_2, s27.2.2.2.2.1]
      have tt : rs.take rs.length = rs := List.take_length
      refine l_first h h27 h25 (by omega) ?_ ?_
      · rw [tt, hu]
        intro l M' R' j1 j2 j3 j4
        exact hq l M' R' j1 (j2.w (by decide)) j3 j4
      · rw [tt, hu]; exact ht
    · rw [h.f26_2, s27.2.2.2.2.1, I_le (by omega) (by omega) (by omega) (by omega)] at c; omega
  | succ n ih =>
    intro i rs M R d2 hn hi hi2 h h27 h25 hu hw hq ht
    have s27 := h.s27 h27
    have l27 := s27.len
    unfold srN at hq ht
    refine w107_1 ⟨h.k26, nz h.f26_2 h.1, by rw [h.f26_2]; exact s27.1, fun c => ?_, fun c => ?_⟩
    · rw [h.f26_2, s27.2.2.2.2.1, I_le (by omega) (by omega) (by omega) (by omega)] at c; omega
    · refine l_sort2 i rs M R (by omega) (by omega) h h27 hu hw (fun M1 R1 d2' h1 a1 e1 w1 f1 => ?_)
      rw [I_add]
      exact ih (i + 1) (inK u i rs) M1 R1 d2' (by rw [inK_len]; omega) (by omega) (by omega) h1 e1 (by rw [a1 25 (by decide)]; exact h25) (by rw [a1 24 (by decide)]; exact hu) w1 (fun l M' R' j1 j2 j3 j4 => hq l M' R' j1 ((a1.w (by decide)).trans j2) j3 (f1.then j4)) (fun l => (ht l).st f1 (a1.lo (by decide)))
theorem l_sort (h : RX b M R) (h27 : R 27 = vS rs) (h25 : R 25 = vT o) (hw : ∀ r ∈ rs, lnW (R 24).2.2.1 r) (hq : o.length + (ptL (R 24).2.2.1 (srN (R 24).2.2.1 (rs.length - 1) 1 rs)).length ≤ 240 → ∀ M' R', RX b M' R' → ag [25, 27] R R' → R' 25 = vT (o ++ ptL (R 24).2.2.1 (srN (R 24).2.2.1 (rs.length - 1) 1 rs)) → fr M M' b (b + 369) → Q (.inl (some (.int (I 0)))) M') (ht : 240 < o.length + (ptL (R 24).2.2.1 (srN (R 24).2.2.1 (rs.length - 1) 1 rs)).length → TH E b M R Q) : mC E 107 [.ref (b + 301)] M Q :=
  w107_0 (l_sort_l _ 1 rs M R none rfl (by omega) (by omega) h h27 h25 rfl hw hq ht)
/-- head: its status, what it puts out -/
def hdS (fs : List (List Nat)) : Nat := if 0 ≤ numV (fs.getD 1 []) 2 then 0 else 2
def hdO (fs : List (List Nat)) (u : List Nat) (rs : List (List Nat)) : List Nat := if 0 ≤ numV (fs.getD 1 []) 2 then ptL u (rs.take (numV (fs.getD 1 []) 2).toNat) else []
theorem u_head {fs : List (List Nat)} {sp : List Nat} (h : RX b M R) (h23 : R 23 = vR fs sp) (h27 : R 27 = vS rs) (h25 : R 25 = vT o) (hq : o.length + (hdO fs (R 24).2.2.1 rs).length ≤ 240 → ∀ M' R', RX b M' R' → ag [25] R R' → R' 25 = vT (o ++ hdO fs (R 24).2.2.1 rs) → fr M M' b (b + 369) → Q (.inl (some (.int (I (hdS fs))))) M') (ht : 240 < o.length + (hdO fs (R 24).2.2.1 rs).length → TH E b M R Q) : mC E 104 [.ref (b + 258)] M Q := by
  have hb := h.1
  have r23 := h.r23 h23
  have l25 := (h.t25 h25).len
  have nr := numV_r (fs.getD 1 []) 2 (by omega)
  unfold hdO hdS at hq
  unfold hdO at ht
  refine w104_0 ⟨h.k22, nz h.f22_0 h.1, by rw [h.f22_0]; exact r23.1.1, ?_⟩
  rw [h.f22_0]
  refine r_at (k := 1) r23 (by omega) (by omega) (fun p cap' tp p1 p2 p3 => ⟨tp.1, ?_⟩)
  rw [show atL fs 1 = fs.getD 1 [] from atL_nat fs 1] at tp
  refine t_asNumber (d := 2) (by omega) tp ⟨fun c => ⟨h.k22, nz h.f22_5 h.1, by rw [h.f22_5]; exact h.c26.1, ?_⟩, fun c => ?_⟩
  · rw [I_le (by omega) (by omega) (by omega) (by omega)] at c
    rw [if_pos c, if_pos c] at hq
    rw [if_pos c] at ht
    rw [h.f22_5, show numV (fs.getD 1 []) 2 = (((numV (fs.getD 1 []) 2).toNat : Nat) : Int) by omega]
    exact l_first h h27 h25 (by omega) hq ht
  · rw [I_le (by omega) (by omega) (by omega) (by omega)] at c
    rw [if_neg c, if_neg c] at hq
    exact hq (by simp; omega) M R h (ag.refl _ _) (by rw [h25]; simp) (fr.refl _ _ _)
end LINES
