/-! THE REFERENCE: lines, numbers -/
def lnX (M : mM) (m : Nat) (rs : List (List Nat)) : Prop := mi M m 40 = I rs.length ∧ rs.length ≤ 240 ∧ ∀ l, l < rs.length → mi M (m + 27) l = I ((rs.getD l []).getD 1 0 : Nat) ∧ mi M (m + 28) l = I (((rs.getD l []).getD 2 0 - (rs.getD l []).getD 1 0 : Nat) : Int)
section MLINE
variable {E : mE} {M M' : mM} {Q : mQ} {m : Nat} {V u : List Nat} {fs rs : List (List Nat)} {S : List Nat}
theorem lnX.mv (h : lnX M m rs) (f : fm m S M M') (h1 : S.contains 65 = false) (h2 : S.contains 140 = false) : lnX M' m rs :=
  ⟨by rw [f.fld h2]; exact h.1, h.2.1, fun l hl => by rw [f.2.2 27 l (by omega) h1, f.2.2 28 l (by omega) h1]; exact h.2.2 l hl⟩
/-- no line's end from p up to k -/
theorem findS_skip {p k : Nat} (h1 : p ≤ k) : (∀ j, p ≤ j → j < k → ¬ u.getD j 0 = 10) → k ≤ u.length → findS u 10 p = findS u 10 k := by
  induction k with
  | zero => intro _ _; rw [show p = 0 by omega]
  | succ k ih =>
    intro hj hk
    by_cases q : p = k + 1
    · rw [q]
    · rw [ih (by omega) (fun j a b => hj j a (by omega)) (by omega), findS_st (show k < u.length by omega), if_neg (hj k (by omega) (by omega))]
theorem m_cut_l (n : Nat) : ∀ (p k : Nat) (acc : List (List Nat)) (nl : Nat) (M : mM) (d : Option Value), n = u.length + 1 - k → k ≤ u.length + 1 → p ≤ k → (p ≤ u.length ∨ p = u.length + 1) → (∀ j, p ≤ j → j < k → ¬ u.getD j 0 = 10) → acc.length ≤ p → acc.length ≤ 240 → u.length - p ≤ nl → (k = u.length + 1 → u.length ≤ p) → mS M m → inX M m u → lnX M m acc → (∀ M', lnX M' m (acc ++ lnL u nl p) → fm m [65, 140] M M' → Q (.inl none) M') →
    mX E 176 1 [some (.ref m), some (.int (I p)), some (.int (I k)), d] [] M Q := by
  induction n with
  | zero =>
    intro p k acc nl M d hn hk hpk hpl hj ha ha2 hnl hend h hi hl hq
    have hu := hi.2.1
    have e : lnL u nl p = [] := by
      cases nl with
      | zero => rfl
      | succ nl => unfold lnL; rw [if_neg (by have := hend (by omega); omega)]
    rw [e, List.append_nil] at hq
    refine w176_1 ⟨h.k0, fun _ => hq M hl (fm.refl _ _ _), fun c => ?_⟩
    rw [hi.1, I_lt (by omega) (by omega) (by omega) (by omega)] at c; omega
  | succ n ih =>
    intro p k acc nl M d hn hk hpk hpl hj ha ha2 hnl hend h hi hl hq
    have hu := hi.2.1
    have five : ∀ (v3 : Int32), p < u.length → k ≤ u.length → findS u 10 p = k → mX E 176 5 [some (.ref m), some (.int (I p)), some (.int (I k)), some (.int v3)] [] M Q := by
      intro v3 hp hk2 fk
      obtain ⟨nl', rfl⟩ : ∃ x, nl = x + 1 := ⟨nl - 1, by omega⟩
      unfold lnL at hq
      rw [if_pos hp, fk] at hq
      obtain ⟨l1, l2, l3⟩ := hl
      refine w176_5 ⟨h.k0, h.n41, by rw [h.f41]; exact h.k27, by rw [h.f41, h.l27, l1]; exact I_in (by omega) (by omega) (by omega), fun M1 q1 => ?_⟩
      rw [h.f41, l1, I_ntn (by omega)] at q1
      have e1 : mi M1 m 40 = I acc.length := by rw [q1, i_ia (by omega), l1]
      refine ⟨h.n42, by rw [h.f42]; exact h.k28, by rw [h.f42, h.l28, e1]; exact I_in (by omega) (by omega) (by omega), fun M2 q2 M3 q3 => ?_⟩
      rw [h.f42, e1, I_ntn (by omega), I_sub] at q2
      have e2 : mi M2 m 40 = I acc.length := by rw [q2, i_ia (by omega), e1]
      rw [e2, I_add] at q3
      have f1 : fm m [65, 140] M M1 := fm_i (a := 27) q1 (by omega) rfl
      have f2 : fm m [65, 140] M1 M2 := fm_i (a := 28) q2 (by omega) rfl
      have f3 : fm m [65, 140] M2 M3 := fm_o q3 (by decide)
      have f := (f1.trans f2).trans f3
      rw [I_add]
      refine ih (k + 1) (k + 1) (acc ++ [[0, p, k, 0, 0]]) nl' M3 _ (by omega) (by omega) (by omega) (by omega) (fun j a b => by omega) (by rw [List.length_append]; simp; omega) (by rw [List.length_append]; simp; omega) (by omega) (fun z => by omega) (h.mv f.1) (hi.mv f (by decide) (by decide)) ⟨?_, by rw [List.length_append]; simp; omega, fun l hl => ?_⟩ (fun M' g1 g2 => hq M' ?_ (f.trans g2))
      · rw [q3, i_is, List.length_append]; rfl
      · rw [List.length_append] at hl
        simp only [List.length_cons, List.length_nil] at hl
        have a27 : ∀ j, mi M3 (m + 27) j = mi M1 (m + 27) j := fun j => by rw [q3, i_ia (by omega), q2, i_ia (by omega)]
        have a28 : ∀ j, mi M3 (m + 28) j = mi M2 (m + 28) j := fun j => by rw [q3, i_ia (by omega)]
        rw [a27, a28, q2, i_i]
        by_cases z : l = acc.length
        · subst z
          rw [if_pos ⟨rfl, rfl⟩, q1, i_is, List.getD_eq_getElem?_getD (l := acc ++ _), List.getElem?_append_right (Nat.le_refl _), Nat.sub_self]
          refine ⟨rfl, ?_⟩
          show I _ = I ((k - p : Nat) : Int)
          congr 1; omega
        · rw [if_neg (fun y => z y.2), q1, i_ik z, i_ik z, List.getD_eq_getElem?_getD (l := acc ++ _), List.getElem?_append_left (by omega), ← List.getD_eq_getElem?_getD]
          exact l3 l (by omega)
      · rw [List.append_assoc] at g1; exact g1
    refine w176_1 ⟨h.k0, fun c => ?_, fun c => ⟨fun w => w176_3 ⟨fun _ => ⟨h.k0, h.n37, by rw [h.f37]; exact h.k25, ?_⟩, fun z => absurd rfl z⟩, fun w => w176_3 ⟨fun z => absurd z (by decide), fun _ => ⟨fun v => ?_, fun v => ?_⟩⟩⟩⟩
    · rw [hi.1, I_lt (by omega) (by omega) (by omega) (by omega)] at c; omega
    · rw [hi.1, I_eq (by omega) (by omega) (by omega) (by omega)] at w
      have hc := hi.ch k
      rw [h.f37, h.l25, I_ntn (by omega), hi.2.2.1 k (by omega)]
      refine ⟨I_in (by omega) (by omega) (by omega), fun z => ?_, fun z => five _ (by omega) (by omega) ?_⟩
      · rw [I_eq (by omega) (by omega) (by omega) (by omega)] at z
        rw [I_add]
        exact ih p (k + 1) acc nl M _ (by omega) (by omega) (by omega) hpl (fun j a b => by
          by_cases y : j = k
          · subst y; omega
          · exact hj j a (by omega)) ha ha2 hnl (fun y => by omega) h hi hl hq
      · rw [I_eq (by omega) (by omega) (by omega) (by omega)] at z
        rw [findS_skip hpk hj (by omega), findS_st (by omega), if_pos (by omega)]
    · rw [hi.1, I_eq (by omega) (by omega) (by omega) (by omega)] at w
      rw [I_le (by omega) (by omega) (by omega) (by omega)] at v
      rw [I_add]
      exact ih p (k + 1) acc nl M _ (by omega) (by omega) (by omega) hpl (fun j a b => by
        rw [mdT.o (s := u) (by omega)]; decide) ha ha2 hnl (fun y => by omega) h hi hl hq
    · rw [hi.1, I_eq (by omega) (by omega) (by omega) (by omega)] at w
      rw [I_le (by omega) (by omega) (by omega) (by omega)] at v
      refine five _ (by omega) (by omega) ?_
      rw [findS_skip hpk hj (by omega), findS_out (by omega)]; omega
theorem m_cutLines (h : mS M m) (hi : inX M m u) (hq : ∀ M', lnX M' m (lnL u 240 0) → fm m [65, 140] M M' → Q (.inl none) M') : mC E 176 [.ref m] M Q := by
  have hu := hi.2.1
  refine w176_0 ⟨h.k0, fun M1 q1 => ?_⟩
  have f1 : fm m [65, 140] M M1 := fm_o q1 (by decide)
  exact m_cut_l (u.length + 1) 0 0 [] 240 M1 none rfl (by omega) (by omega) (by omega) (fun j a b => by omega) (by simp) (by simp) (by omega) (fun z => by omega) (h.mv f1.1) (hi.mv f1 (by decide) (by decide)) ⟨by rw [q1, i_is]; rfl, by simp, fun l hl => absurd hl (Nat.not_lt_zero l)⟩ (fun M' g1 g2 => hq M' g1 (f1.trans g2))
/-- what a line put out looks at -/
theorem m_line_l {l : Nat} (hl : l < rs.length) (hw : lnW u (rs.getD l [])) (n : Nat) : ∀ (k : Nat) (V : List Nat) (M : mM), n = (rs.getD l []).getD 2 0 - (rs.getD l []).getD 1 0 - k → k ≤ (rs.getD l []).getD 2 0 - (rs.getD l []).getD 1 0 → mS M m → inX M m u → lnX M m rs → puX M m V → (∀ M', puX M' m (V ++ ((lnC u (rs.getD l [])).drop k ++ [10])) → fm m [64, 138, 125] M M' → Q (.inl none) M') →
    mX E 177 1 [some (.ref m), some (.int (I l)), some (.int (I k))] [] M Q := by
  have sl : (lnC u (rs.getD l [])).length = (rs.getD l []).getD 2 0 - (rs.getD l []).getD 1 0 := by unfold lnC; rw [seg_len]; have := hw.2.2; omega
  have sg : ∀ k, k < (rs.getD l []).getD 2 0 - (rs.getD l []).getD 1 0 → (lnC u (rs.getD l [])).getD k 0 = u.getD ((rs.getD l []).getD 1 0 + k) 0 := fun k hk => seg_get hk
  have w1 := hw.2.1
  have w2 := hw.2.2
  generalize hA : (rs.getD l []).getD 1 0 = a at *
  generalize hB : (rs.getD l []).getD 2 0 = b at *
  generalize hC : lnC u (rs.getD l []) = C at *
  induction n with
  | zero =>
    intro k V M hn hk h hi hr p hq
    have hu := hi.2.1
    obtain ⟨r1, r2⟩ := hr.2.2 l hl
    rw [hA, hB] at r2
    have hrl := hr.2.1
    refine w177_1 ⟨h.k0, h.n42, by rw [h.f42]; exact h.k28, by rw [h.f42, h.l28]; exact I_in (by omega) (by omega) (by omega), fun _ => m_out (c := 10) h p (by omega) (fun M1 p1 f1 => hq M1 ?_ f1), fun c => ?_⟩
    · rw [List.drop_eq_nil_of_le (by omega)]; exact p1
    · rw [h.f42, I_ntn (by omega), r2, I_le (by omega) (by omega) (by omega) (by omega)] at c; omega
  | succ n ih =>
    intro k V M hn hk h hi hr p hq
    have hu := hi.2.1
    obtain ⟨r1, r2⟩ := hr.2.2 l hl
    rw [hA] at r1
    rw [hA, hB] at r2
    have hrl := hr.2.1
    have hc := hi.ch (a + k)
    refine w177_1 ⟨h.k0, h.n42, by rw [h.f42]; exact h.k28, by rw [h.f42, h.l28]; exact I_in (by omega) (by omega) (by omega), fun c => ?_, fun c => ⟨h.n37, h.n41, by rw [h.f41]; exact h.k27, by rw [h.f41, h.l27]; exact I_in (by omega) (by omega) (by omega), by rw [h.f37]; exact h.k25, ?_⟩⟩
    · rw [h.f42, I_ntn (by omega), r2, I_le (by omega) (by omega) (by omega) (by omega)] at c; omega
    · rw [h.f41, h.f37, h.l25, I_ntn (by omega), r1, I_add, show (a : Int) + (k : Int) = ((a + k : Nat) : Int) by omega, I_ntn (by omega), hi.2.2.1 (a + k) (by omega)]
      refine ⟨I_in (by omega) (by omega) (by omega), m_out h p (by omega) (fun M1 p1 f1 => ?_)⟩
      show mX E 177 1 _ [] M1 Q
      rw [I_add]
      refine ih (k + 1) _ M1 (by omega) (by omega) (h.mv f1.1) (hi.mv f1 (by decide) (by decide)) (hr.mv f1 (by decide) (by decide)) p1 (fun M' g1 g2 => hq M' ?_ (f1.trans g2))
      rw [drop_getD (show k < C.length by omega), sg k (by omega)]
      rw [List.append_assoc] at g1; exact g1
theorem m_outLine {l : Nat} (h : mS M m) (hi : inX M m u) (hr : lnX M m rs) (p : puX M m V) (hl : l < rs.length) (hw : lnW u (rs.getD l [])) (hq : ∀ M', puX M' m (V ++ (lnC u (rs.getD l []) ++ [10])) → fm m [64, 138, 125] M M' → Q (.inl none) M') : mC E 177 [.ref m, .int (I l)] M Q :=
  w177_0 (m_line_l hl hw _ 0 V M rfl (by omega) h hi hr p hq)
end MLINE
