/-! THE REFERENCE: sort, uniq, rev -/
section MLINE
variable {E : mE} {M M' : mM} {Q : mQ} {m : Nat} {V u : List Nat} {fs rs : List (List Nat)} {S : List Nat}
theorem inK_mem {u : List Nat} : ∀ (k : Nat) (rs : List (List Nat)), k < rs.length → ∀ r ∈ inK u k rs, r ∈ rs
  | 0, rs, _, r, h => h
  | k + 1, rs, hk, r, h => by
    unfold inK at h
    split at h
    · exact swp_mem hk r (inK_mem k (swp rs k) (by rw [swp_len]; omega) r h)
    · exact h
theorem m_ins_l {i : Nat} {v1 : Int32} (hu : ∀ c ∈ u, c < 65536) (n : Nat) : ∀ (rs : List (List Nat)) (M : mM) (d5 d6 : Option Value), n < rs.length → mS M m → inX M m u → lnX M m rs → (∀ r ∈ rs, lnW u r) → (∀ M' d4 d5 d6, lnX M' m (inK u n rs) → fm m [65, 140] M M' → mX E 184 1 [some (.ref m), some (.int v1), some (.int (I 1)), some (.int (I i + I 1)), d4, d5, d6] [] M' Q) →
    mX E 184 2 [some (.ref m), some (.int v1), some (.int (I 1)), some (.int (I i)), some (.int (I n)), d5, d6] [] M Q := by
  induction n with
  | zero =>
    intro rs M d5 d6 hn h hi hr hw hq
    exact w184_2 ⟨fun _ => hq M _ _ _ hr (fm.refl _ _ _), fun c => absurd (by decide) c⟩
  | succ n ih =>
    intro rs M d5 d6 hn h hi hr hw hq
    have hrl := hr.2.1
    have hl := hi.2.1
    have wa := hw _ (getL_mem (show n < rs.length by omega))
    have wb := hw _ (getL_mem hn)
    have bd := ordS_bd (lnC u (rs.getD (n + 1) [])) (lnC u (rs.getD n [])) (fun c hc => hu c (seg_mem hc)) (fun c hc => hu c (seg_mem hc)) (by unfold lnC; rw [seg_len]; omega) (by unfold lnC; rw [seg_len]; omega)
    have ng := ordS_neg (lnC u (rs.getD (n + 1) [])) (lnC u (rs.getD n []))
    unfold inK at hq
    have e1 : (I ((n + 1 : Nat) : Int) - I 1) = I (n : Int) := by rw [I_sub]; congr 1; omega
    have e2 : nt (I ((n + 1 : Nat) : Int)) = n + 1 := I_ntn (by omega)
    have e3 : nt (I (n : Int)) = n := I_ntn (by omega)
    refine w184_2 ⟨fun c => ?_, fun c => ⟨h.k0, ?_⟩⟩
    · rw [I_le (by omega) (by omega) (by omega) (by omega)] at c; omega
    · rw [e1]
      refine m_compare h hi hr hn (by omega) wb wa ⟨fun z => ?_, fun z => ⟨h.k0, h.n41, by rw [h.f41]; exact h.k27, by rw [h.f41, h.l27]; exact I_in (by omega) (by omega) (by omega), h.n42, by rw [h.f42]; exact h.k28, by rw [h.f42, h.l28]; exact I_in (by omega) (by omega) (by omega), by rw [h.f41, h.l27]; exact I_in (by omega) (by omega) (by omega), fun M1 q1 => ⟨by rw [h.f42, h.l28]; exact I_in (by omega) (by omega) (by omega), fun M2 q2 M3 q3 M4 q4 => ?_⟩⟩⟩
      · rw [I_le (by omega) (by omega) (by omega) (by omega)] at z
        rw [if_neg (by omega)] at hq
        exact hq M _ _ _ hr (fm.refl _ _ _)
      · rw [I_le (by omega) (by omega) (by omega) (by omega)] at z
        rw [if_pos (by omega)] at hq
        rw [h.f41, e2, e3] at q1 q3
        rw [h.f42, e2, e3] at q2 q4
        obtain ⟨s1, s2⟩ := lnX_swp hr hn q1 q2 q3 q4
        rw [I_add, show (((n + 1 : Nat) : Int) + -1) = (n : Int) by omega]
        exact ih _ M4 _ _ (by rw [swp_len]; omega) (h.mv s2.1) (hi.mv s2 (by decide) (by decide)) s1 (fun r hr2 => hw r (swp_mem hn r hr2)) (fun M' d4 d5 d6 g1 g2 => hq M' d4 d5 d6 g1 (s2.trans g2))
theorem srN_len (u : List Nat) : ∀ n i rs, (srN u n i rs).length = rs.length
  | 0, _, _ => rfl
  | n + 1, i, rs => by unfold srN; rw [srN_len u n, inK_len]
theorem m_sort_l {v1 : Int32} (n : Nat) : ∀ (i : Nat) (rs : List (List Nat)) (M : mM) (d4 d5 d6 : Option Value), n = rs.length - i → 1 ≤ i → i ≤ 1000 → mS M m → inX M m u → lnX M m rs → (∀ r ∈ rs, lnW u r) → (∀ M' d4 d5 d6, lnX M' m (srN u n i rs) → (∀ r ∈ srN u n i rs, lnW u r) → fm m [65, 140] M M' → mX E 184 5 [some (.ref m), some (.int v1), some (.int (I 1)), some (.int (I 0)), d4, d5, d6] [] M' Q) →
    mX E 184 1 [some (.ref m), some (.int v1), some (.int (I 1)), some (.int (I i)), d4, d5, d6] [] M Q := by
  induction n with
  | zero =>
    intro i rs M d4 d5 d6 hn h1 h2 h hi hr hw hq
    have hrl := hr.2.1
    refine w184_1 ⟨h.k0, fun _ => hq M _ _ _ hr hw (fm.refl _ _ _), fun c => ?_⟩
    rw [hr.1, I_le (by omega) (by omega) (by omega) (by omega)] at c; omega
  | succ n ih =>
    intro i rs M d4 d5 d6 hn h1 h2 h hi hr hw hq
    have hrl := hr.2.1
    refine w184_1 ⟨h.k0, fun c => ?_, fun c => ⟨fun z => absurd z (by decide), fun _ => m_ins_l hi.2.2.2 i rs M _ _ (by omega) h hi hr hw (fun M1 d4 d5 d6 g1 g2 => ?_)⟩⟩
    · rw [hr.1, I_le (by omega) (by omega) (by omega) (by omega)] at c; omega
    · rw [I_add]
      exact ih (i + 1) _ M1 _ _ _ (by rw [inK_len]; omega) (by omega) (by omega) (h.mv g2.1) (hi.mv g2 (by decide) (by decide)) g1 (fun r hr2 => hw r (inK_mem i rs (by omega) r hr2)) (fun M' d4 d5 d6 j1 j2 j3 => hq M' d4 d5 d6 j1 j2 (g2.trans j3))
theorem m_rev6 {l : Nat} {v1 v2 : Int32} (hl : l < rs.length) (hw : lnW u (rs.getD l [])) (n : Nat) : ∀ (V : List Nat) (M : mM) (d5 d6 : Option Value), n ≤ (lnC u (rs.getD l [])).length → mS M m → inX M m u → lnX M m rs → puX M m V → (∀ M' d4 d5 d6, puX M' m (V ++ (((lnC u (rs.getD l [])).take n).reverse ++ [10])) → fm m [64, 138, 125] M M' → mX E 184 5 [some (.ref m), some (.int v1), some (.int v2), some (.int (I l + I 1)), d4, d5, d6] [] M' Q) →
    mX E 184 6 [some (.ref m), some (.int v1), some (.int v2), some (.int (I l)), some (.int (I ((n : Int) - 1))), d5, d6] [] M Q := by
  induction n with
  | zero =>
    intro V M d5 d6 hn h hi hr p hq
    exact w184_6 ⟨fun _ => ⟨h.k0, m_out (c := 10) h p (by omega) (fun M1 p1 f1 => hq M1 _ _ _ (by simpa using p1) f1)⟩, fun c => absurd (by decide) c⟩
  | succ n ih =>
    intro V M d5 d6 hn h hi hr p hq
    have hrl := hr.2.1
    have la := ln_at (k := n) hi hr hl hw
    have l1 := la.2.1
    have l2 := la.2.2.1
    have l3 := la.2.2.2 (by omega)
    have cc := getD_lt (lnC_ch (rs := rs) hi l) (by omega) n
    rw [rv_take (by omega)] at hq
    refine w184_6 ⟨fun c => ?_, fun c => ⟨h.k0, h.n37, h.n41, by rw [h.f41]; exact h.k27, by rw [h.f41, h.l27]; exact I_in (by omega) (by omega) (by omega), by rw [h.f37]; exact h.k25, ?_⟩⟩
    · rw [I_lt (by omega) (by omega) (by omega) (by omega)] at c; omega
    · rw [h.f41, h.f37, I_ntn (by omega), (hr.2.2 l hl).1, I_add, show (((rs.getD l []).getD 1 0 : Nat) : Int) + (((n + 1 : Nat) : Int) - 1) = (((rs.getD l []).getD 1 0 + n : Nat) : Int) by omega, I_ntn (by omega), l3]
      refine ⟨by rw [h.l25]; exact I_in (by omega) (by omega) (by omega), m_out h p cc (fun M1 p1 f1 => ?_)⟩
      show mX E 184 6 _ [] M1 Q
      rw [I_add, show (((n + 1 : Nat) : Int) - 1 + -1) = ((n : Int) - 1) by omega]
      refine ih _ M1 _ _ (by omega) (h.mv f1.1) (hi.mv f1 (by decide) (by decide)) (hr.mv f1 (by decide) (by decide)) p1 (fun M' d4 d5 d6 g1 g2 => hq M' d4 d5 d6 ?_ (f1.trans g2))
      rw [List.append_assoc] at g1; exact g1
/-- lines put out: reversed, as they are, or those that are not the one before -/
def blO (u : List Nat) (rs : List (List Nat)) (w : Nat) (n k : Nat) : List Nat := if w = 0 then rvL u (rs.drop k) else if w = 1 then ptL u (rs.drop k) else chL u rs n k
theorem m_by5 {w : Nat} (hw2 : w ≤ 2) (hw : ∀ r ∈ rs, lnW u r) (n : Nat) : ∀ (k : Nat) (V : List Nat) (M : mM) (d4 d5 d6 : Option Value), n = rs.length - k → k ≤ rs.length → mS M m → inX M m u → lnX M m rs → puX M m V → (∀ M', puX M' m (V ++ blO u rs w n k) → fm m [64, 138, 125] M M' → Q (.inl none) M') →
    mX E 184 5 [some (.ref m), some (.int (I (if w = 0 then 1 else 0))), some (.int (I (if w = 1 then 1 else 0))), some (.int (I k)), d4, d5, d6] [] M Q := by
  induction n with
  | zero =>
    intro k V M d4 d5 d6 hn hk h hi hr p hq
    have hl := hr.2.1
    have e : blO u rs w 0 k = [] := by
      unfold blO; rw [List.drop_eq_nil_of_le (by omega)]
      split
      · rfl
      · split <;> rfl
    rw [e, List.append_nil] at hq
    refine w184_5 ⟨h.k0, fun _ => hq M p (fm.refl _ _ _), fun c => ?_⟩
    rw [hr.1, I_le (by omega) (by omega) (by omega) (by omega)] at c; omega
  | succ n ih =>
    intro k V M d4 d5 d6 hn hk h hi hr p hq
    have hl := hr.2.1
    have hul := hi.2.1
    have hwk := hw _ (getL_mem (show k < rs.length by omega))
    have nine : ∀ d4 d5 d6, (∀ M', puX M' m (V ++ ((lnC u (rs.getD k []) ++ [10]) ++ blO u rs w n (k + 1))) → fm m [64, 138, 125] M M' → Q (.inl none) M') → mX E 184 9 [some (.ref m), some (.int (I (if w = 0 then 1 else 0))), some (.int (I (if w = 1 then 1 else 0))), some (.int (I k)), d4, d5, d6] [] M Q := by
      intro d4 d5 d6 hq
      refine w184_9 ⟨h.k0, m_outLine h hi hr p (by omega) hwk (fun M1 p1 f1 => ?_)⟩
      show mX E 184 5 _ [] M1 Q
      rw [I_add]
      refine ih (k + 1) _ M1 _ _ _ (by omega) (by omega) (h.mv f1.1) (hi.mv f1 (by decide) (by decide)) (hr.mv f1 (by decide) (by decide)) p1 (fun M' j1 j2 => hq M' ?_ (f1.trans j2))
      rw [List.append_assoc] at j1; exact j1
    refine w184_5 ⟨h.k0, fun c => ?_, fun c => ⟨fun z => ?_, fun z => ?_⟩⟩
    · rw [hr.1, I_le (by omega) (by omega) (by omega) (by omega)] at c; omega
    · have w0 : ¬ w = 0 := by
        intro y; rw [if_pos y] at z; exact absurd z (by decide)
      refine ⟨fun y => ?_, fun y => ⟨fun x => ?_, fun x => ?_⟩⟩
      · have w1 : w = 1 := by
          by_cases a : w = 1
          · exact a
          · rw [if_neg a] at y; exact absurd rfl y
        subst w1
        refine nine _ _ _ ?_
        unfold blO at hq ⊢
        rw [if_neg (by decide), if_pos rfl] at hq ⊢
        have pt : ptL u (rs.drop k) = (lnC u (rs.getD k []) ++ [10]) ++ ptL u (rs.drop (k + 1)) := by rw [drop_getL (d := []) (by omega)]; rfl
        rw [pt] at hq; exact hq
      · have w1 : ¬ w = 1 := by
          intro a; rw [if_pos a] at y; exact absurd y (by decide)
        rw [I_eq (by omega) (by omega) (by omega) (by omega)] at x
        refine nine _ _ _ ?_
        unfold blO at hq ⊢
        rw [if_neg w0, if_neg w1] at hq ⊢
        unfold chL at hq
        rw [if_pos (Or.inl (by omega))] at hq; exact hq
      · have w1 : ¬ w = 1 := by
          intro a; rw [if_pos a] at y; exact absurd y (by decide)
        rw [I_eq (by omega) (by omega) (by omega) (by omega)] at x
        rw [I_sub, show ((k : Int) - 1) = ((k - 1 : Nat) : Int) by omega]
        have wa := hw _ (getL_mem (show k - 1 < rs.length by omega))
        have bd := ordS_bd (lnC u (rs.getD k [])) (lnC u (rs.getD (k - 1) [])) (fun c hc => hi.2.2.2 c (seg_mem hc)) (fun c hc => hi.2.2.2 c (seg_mem hc)) (by unfold lnC; rw [seg_len]; omega) (by unfold lnC; rw [seg_len]; omega)
        have ng := ordS_neg (lnC u (rs.getD k [])) (lnC u (rs.getD (k - 1) []))
        unfold blO at hq
        rw [if_neg w0, if_neg w1] at hq
        unfold chL at hq
        refine m_compare h hi hr (by omega) (by omega) hwk wa ⟨fun v => ?_, fun v => ?_⟩
        · rw [I_eq (by omega) (by omega) (by omega) (by omega)] at v
          rw [if_neg (by omega), List.nil_append] at hq
          rw [I_add]
          refine ih (k + 1) V M _ _ _ (by omega) (by omega) h hi hr p ?_
          unfold blO
          rw [if_neg w0, if_neg w1]; exact hq
        · rw [I_eq (by omega) (by omega) (by omega) (by omega)] at v
          rw [if_pos (Or.inr (by omega))] at hq
          refine nine _ _ _ ?_
          unfold blO
          rw [if_neg w0, if_neg w1]; exact hq
    · have w0 : w = 0 := by
        by_cases a : w = 0
        · exact a
        · rw [if_neg a] at z; exact absurd rfl z
      have la := ln_at (k := 0) hi hr (show k < rs.length by omega) hwk
      refine ⟨h.n42, by rw [h.f42]; exact h.k28, by rw [h.f42, h.l28]; exact I_in (by omega) (by omega) (by omega), ?_⟩
      rw [h.f42, I_ntn (by omega), la.1, I_sub]
      refine m_rev6 (by omega) hwk _ V M _ _ (Nat.le_refl _) h hi hr p (fun M1 d4 d5 d6 p1 f1 => ?_)
      rw [I_add]
      refine ih (k + 1) _ M1 _ _ _ (by omega) (by omega) (h.mv f1.1) (hi.mv f1 (by decide) (by decide)) (hr.mv f1 (by decide) (by decide)) p1 (fun M' j1 j2 => hq M' ?_ (f1.trans j2))
      unfold blO at j1 ⊢
      rw [if_pos w0] at j1 ⊢
      have pt : rvL u (rs.drop k) = ((lnC u (rs.getD k [])).reverse ++ [10]) ++ rvL u (rs.drop (k + 1)) := by rw [drop_getL (d := []) (by omega)]; rfl
      rw [List.take_length] at j1
      rw [pt, ← List.append_assoc]; exact j1
/-- rev (0), sort (1), uniq (2) -/
def blR (u : List Nat) (w : Nat) : List Nat := if w = 0 then rvL u (lnL u 240 0) else if w = 1 then ptL u (srN u ((lnL u 240 0).length - 1) 1 (lnL u 240 0)) else chL u (lnL u 240 0) (lnL u 240 0).length 0
theorem m_byLines {w : Nat} (hw2 : w ≤ 2) (h : mS M m) (hi : inX M m u) (p : puX M m V) (hq : ∀ M', puX M' m (V ++ blR u w) → fm m [64, 138, 125, 65, 140] M M' → Q (.inl none) M') : mC E 184 [.ref m, .int (I (if w = 0 then 1 else 0)), .int (I (if w = 1 then 1 else 0))] M Q := by
  refine w184_0 ⟨h.k0, m_cutLines h hi (fun M1 l1 f1 => ?_)⟩
  show mX E 184 1 _ [] M1 Q
  have h1 := h.mv f1.1
  have i1 := hi.mv f1 (by decide) (by decide)
  have p1 := p.mv f1 (by decide) (by decide) (by decide)
  unfold blR at hq
  by_cases q : w = 1
  · subst q
    rw [if_neg (by decide), if_pos rfl] at hq
    refine m_sort_l _ 1 _ M1 none none none rfl (by omega) (by omega) h1 i1 l1 (lnL_w u 240 0) (fun M2 d4 d5 d6 g1 g2 g3 => ?_)
    refine m_by5 (w := 1) (by omega) g2 _ 0 V M2 _ _ _ rfl (by omega) (h1.mv g3.1) (i1.mv g3 (by decide) (by decide)) g1 (p1.mv g3 (by decide) (by decide) (by decide)) (fun M' j1 j2 => hq M' j1 (((f1.w (by decide)).trans (g3.w (by decide))).trans (j2.w (by decide))))
  · have five := fun d4 d5 d6 => m_by5 (E := E) (Q := Q) hw2 (lnL_w u 240 0) _ 0 V M1 d4 d5 d6 rfl (by omega) h1 i1 l1 p1 (fun M' j1 j2 => hq M' (by
      unfold blO at j1
      rw [if_neg q] at j1 ⊢
      exact j1) ((f1.w (by decide)).trans (j2.w (by decide))))
    rw [if_neg q] at five ⊢
    have hl := l1.2.1
    refine w184_1 ⟨h1.k0, fun _ => five _ _ _, fun c => ⟨fun _ => five _ _ _, fun z => absurd rfl z⟩⟩
end MLINE
