/-! THE REFERENCE: wc, head, grep, sort, uniq, rev -/
section MLINE
variable {E : mE} {M M' : mM} {Q : mQ} {m : Nat} {V u : List Nat} {fs rs : List (List Nat)} {S : List Nat}
theorem m_outNum {n : Nat} (h : mS M m) (p : puX M m V) (hn : n ≤ 999) (hq : ∀ M', puX M' m (V ++ numS n) → fm m [64, 138, 125] M M' → Q (.inl none) M') : mC E 179 [.ref m, .int (I n)] M Q := by
  have two : ∀ (V1 : List Nat) (M1 : mM), mS M1 m → puX M1 m V1 → fm m [64, 138, 125] M M1 → V1 ++ [48 + n % 10] = V ++ numS n → mX E 179 2 [some (.ref m), some (.int (I n))] [] M1 Q := by
    intro V1 M1 h1 p1 f1 e1
    have em : (I 48 : Int32) + (I (n : Int) - I (n : Int) / I 10 * I 10) = I ((48 + n % 10 : Nat) : Int) := by
      rw [I_div (by omega) (by omega) (by omega) (by omega), I_mul, I_sub, I_add]; congr 1; omega
    refine w179_2 ⟨h1.k0, ?_⟩
    rw [em]
    refine m_out h1 p1 (by omega) (fun M2 p2 f2 => hq M2 ?_ (f1.trans f2))
    rw [← e1]; exact p2
  have one : ∀ (V1 : List Nat) (M1 : mM), mS M1 m → puX M1 m V1 → fm m [64, 138, 125] M M1 → V1 ++ ((if 10 ≤ n then [48 + n / 10 % 10] else []) ++ [48 + n % 10]) = V ++ numS n → mX E 179 1 [some (.ref m), some (.int (I n))] [] M1 Q := by
    intro V1 M1 h1 p1 f1 e1
    have em : (I 48 : Int32) + (I (n : Int) / I 10 - I (n : Int) / I 10 / I 10 * I 10) = I ((48 + n / 10 % 10 : Nat) : Int) := by
      rw [I_div (by omega) (by omega) (by omega) (by omega), I_div (by omega) (by omega) (by omega) (by omega), I_mul, I_sub, I_add]; congr 1; omega
    refine w179_1 ⟨fun c => two V1 M1 h1 p1 f1 ?_, fun c => ⟨h1.k0, ?_⟩⟩
    · rw [I_le (by omega) (by omega) (by omega) (by omega)] at c
      rw [if_neg (by omega)] at e1; exact e1
    · rw [I_le (by omega) (by omega) (by omega) (by omega)] at c
      rw [if_pos (by omega)] at e1
      rw [em]
      refine m_out h1 p1 (by omega) (fun M2 p2 f2 => two _ M2 (h1.mv f2.1) p2 (f1.trans f2) ?_)
      rw [List.append_assoc]; exact e1
  have em : (I 48 : Int32) + I (n : Int) / I 100 = I ((48 + n / 100 % 10 : Nat) : Int) := by
    rw [I_div (by omega) (by omega) (by omega) (by omega), I_add]; congr 1; omega
  refine w179_0 ⟨fun c => one V M h p (fm.refl _ _ _) ?_, fun c => ⟨h.k0, ?_⟩⟩
  · rw [I_le (by omega) (by omega) (by omega) (by omega)] at c
    unfold numS; rw [if_neg (show ¬ 100 ≤ n by omega)]; rfl
  · rw [I_le (by omega) (by omega) (by omega) (by omega)] at c
    rw [em]
    refine m_out h p (by omega) (fun M2 p2 f2 => one _ M2 (h.mv f2.1) p2 f2 ?_)
    unfold numS; rw [if_pos (show 100 ≤ n by omega), List.append_assoc]
theorem m_wc_l (h : mS M m) (hi : inX M m u) (p : puX M m V) (hq : ∀ M', puX M' m (V ++ wcO u) → fm m [64, 138, 125] M M' → Q (.inl none) M') (n : Nat) : ∀ (k : Nat), n = u.length - k → k ≤ u.length → mX E 178 1 [some (.ref m), some (.int (I (cnt10 (u.take k)))), some (.int (I k))] [] M Q := by
  have hu := hi.2.1
  induction n with
  | zero =>
    intro k hn hk
    have hc := cnt_le u
    rw [show k = u.length by omega, List.take_length]
    refine w178_1 ⟨h.k0, fun _ => m_outNum h p (by omega) (fun M1 p1 f1 => ⟨(h.mv f1.1).k0, m_out (c := 32) (h.mv f1.1) p1 (by omega) (fun M2 p2 f2 => ?_)⟩), fun c => ?_⟩
    · have f12 := f1.trans f2
      have i2 := hi.mv f12 (by decide) (by decide)
      refine ⟨(h.mv f12.1).k0, ?_⟩
      rw [i2.1]
      refine m_outNum (h.mv f12.1) p2 (by omega) (fun M3 p3 f3 => ⟨(h.mv (f12.trans f3).1).k0, m_out (c := 10) (h.mv (f12.trans f3).1) p3 (by omega) (fun M4 p4 f4 => hq M4 ?_ ((f12.trans f3).trans f4))⟩)
      unfold wcO
      simpa [List.append_assoc] using p4
    · rw [hi.1, I_le (by omega) (by omega) (by omega) (by omega)] at c; omega
  | succ n ih =>
    intro k hn hk
    have hc := hi.ch k
    have cs := cnt_snoc (u := u) (k := k) (by omega)
    have next := ih (k + 1) (by omega) (by omega)
    rw [cs] at next
    refine w178_1 ⟨h.k0, fun c => ?_, fun c => ⟨h.n37, by rw [h.f37]; exact h.k25, by rw [h.f37, h.l25]; exact I_in (by omega) (by omega) (by omega), fun w => ?_, fun w => ?_⟩⟩
    · rw [hi.1, I_le (by omega) (by omega) (by omega) (by omega)] at c; omega
    · rw [h.f37, I_ntn (by omega), hi.2.2.1 k (by omega), I_eq (by omega) (by omega) (by omega) (by omega)] at w
      rw [if_neg (by omega)] at next
      rw [I_add, I_add, Int.add_zero]; exact next
    · rw [h.f37, I_ntn (by omega), hi.2.2.1 k (by omega), I_eq (by omega) (by omega) (by omega) (by omega)] at w
      rw [if_pos (by omega)] at next
      rw [I_add, I_add]; exact next
theorem m_wc (h : mS M m) (hi : inX M m u) (p : puX M m V) (hq : ∀ M', puX M' m (V ++ wcO u) → fm m [64, 138, 125] M M' → Q (.inl none) M') : mC E 178 [.ref m] M Q :=
  w178_0 (m_wc_l h hi p hq _ 0 rfl (by omega))
/-- a field's number -/
theorem m_num_l {f d : Nat} (hff : f < fs.length) (h : mS M m) (hf : fdX M m fs) (hd : (fs.getD f []).length ≤ 3) (n : Nat) : ∀ (k : Nat) (v : Int), n = (fs.getD f []).length - k → k ≤ (fs.getD f []).length → 0 ≤ v → v < 10 ^ k → Q (.inl (some (.int (I (digV ((fs.getD f []).drop k) v))))) M →
    mX E 173 3 [some (.ref m), some (.int (I f)), some (.int (I d)), some (.int (I v)), some (.int (I 1)), some (.int (I k))] [] M Q := by
  obtain ⟨a1, a2, a3⟩ := hf.2.2.1 f hff
  have hl := hf.2.1
  have go3 : ∀ (x : Int32) (k : Nat) (bd : Bool), k ≤ (fs.getD f []).length → (bd = true → k = (fs.getD f []).length ∧ Q (.inl (some (.int x))) M) → (bd = false → Q (.inl (some (.int (I (-1))))) M) → mX E 173 3 [some (.ref m), some (.int (I f)), some (.int (I d)), some (.int x), some (.int (I (bI bd))), some (.int (I k))] [] M Q := by
    intro x k bd hk k1 k0
    refine w173_3 ⟨h.k0, h.n35, by rw [h.f35]; exact h.k24, by rw [h.f35, h.l24]; exact I_in (by omega) (by omega) (by omega), fun c => ⟨fun z => k0 ((bI_0 _).mp z), fun z => (k1 ?_).2⟩, fun c => ⟨fun z => ⟨fun _ => k0 ((bI_0 _).mp z), fun y => absurd z y⟩, fun z => ?_⟩⟩
    · rw [bI_0] at z; cases bd with | true => rfl | false => exact absurd rfl z
    · rw [h.f35, I_ntn (by omega), a1, I_le (by omega) (by omega) (by omega) (by omega)] at c
      rw [bI_0] at z
      have := (k1 (by cases bd with | true => rfl | false => exact absurd rfl z)).1
      omega
  induction n with
  | zero =>
    intro k v hn hk hv hv2 hq
    rw [List.drop_eq_nil_of_le (by omega)] at hq
    exact go3 (I v) k true hk (fun _ => ⟨by omega, hq⟩) (fun z => absurd z (by decide))
  | succ n ih =>
    intro k v hn hk hv hv2 hq
    have hc := hf.ch f k
    have hk3 : (10 : Int) ^ k ≤ 10 ^ 2 := by
      rcases (show k = 0 ∨ k = 1 ∨ k = 2 by omega) with r | r | r <;> rw [r] <;> decide
    rw [drop_getD (by omega)] at hq
    unfold digV at hq
    refine w173_3 ⟨h.k0, h.n35, by rw [h.f35]; exact h.k24, by rw [h.f35, h.l24]; exact I_in (by omega) (by omega) (by omega), fun c => ?_, fun c => ⟨fun z => absurd z (by decide), fun _ => ⟨h.n34, by rw [h.f34]; exact h.k23, ?_⟩⟩⟩
    · rw [h.f35, I_ntn (by omega), a1, I_le (by omega) (by omega) (by omega) (by omega)] at c; omega
    · rw [h.f34, h.l23, I_mul, I_add, show (40 : Int) * (f : Int) + (k : Int) = ((40 * f + k : Nat) : Int) by omega, I_ntn (by omega), a3 k (by omega)]
      refine ⟨I_in (by omega) (by omega) (by omega), m_digit (by omega) ⟨h.k0, h.n34, by rw [h.f34]; exact h.k23, by rw [h.f34, h.l23]; exact I_in (by omega) (by omega) (by omega), ?_⟩⟩
      rw [h.f34, a3 k (by omega), I_mul, I_add, I_sub, I_add]
      by_cases g : 48 ≤ (fs.getD f []).getD k 0 ∧ (fs.getD f []).getD k 0 ≤ 57
      · rw [if_pos g] at hq
        rw [isD_iff.mpr g]
        have e : (10 * v + ((fs.getD f []).getD k 0 : Int) - 48) = v * 10 + (((fs.getD f []).getD k 0 : Int) - 48) := by omega
        rw [e]
        exact ih (k + 1) _ (by omega) (by omega) (by omega) (by rw [Int.pow_succ]; omega) hq
      · rw [if_neg g] at hq
        rw [isD_f g]
        exact go3 _ (k + 1) false (by omega) (fun z => absurd z (by decide)) (fun _ => hq)
theorem m_number {f d : Nat} (hff : f < fs.length) (h : mS M m) (hf : fdX M m fs) (hd : d ≤ 3) (hq : Q (.inl (some (.int (I (numV (fs.getD f []) d))))) M) : mC E 173 [.ref m, .int (I f), .int (I d)] M Q := by
  obtain ⟨a1, a2, a3⟩ := hf.2.2.1 f hff
  have hl := hf.2.1
  have bad : numV (fs.getD f []) d = -1 → mX E 173 3 [some (.ref m), some (.int (I f)), some (.int (I d)), some (.int (I 0)), some (.int (I 0)), some (.int (I 0))] [] M Q := by
    intro e
    rw [e] at hq
    exact w173_3 ⟨h.k0, h.n35, by rw [h.f35]; exact h.k24, by rw [h.f35, h.l24]; exact I_in (by omega) (by omega) (by omega), fun c => ⟨fun _ => hq, fun z => absurd rfl z⟩, fun c => ⟨fun _ => ⟨fun _ => hq, fun z => absurd rfl z⟩, fun z => absurd rfl z⟩⟩
  refine w173_0 ⟨h.k0, h.n35, by rw [h.f35]; exact h.k24, by rw [h.f35, h.l24]; exact I_in (by omega) (by omega) (by omega), fun c => bad ?_, fun c => ⟨fun w => bad ?_, fun w => ?_⟩⟩
  · rw [h.f35, I_ntn (by omega), a1, I_lt (by omega) (by omega) (by omega) (by omega)] at c
    unfold numV; rw [if_pos (by omega)]
  · rw [h.f35, I_ntn (by omega), a1, I_lt (by omega) (by omega) (by omega) (by omega)] at w
    unfold numV; rw [if_pos (by omega)]
  · rw [h.f35, I_ntn (by omega), a1, I_lt (by omega) (by omega) (by omega) (by omega)] at c w
    unfold numV at hq
    rw [if_neg (by omega)] at hq
    exact m_num_l hff h hf (by omega) _ 0 0 rfl (by omega) (by omega) (by omega) hq
theorem m_head_l {w : Nat} (hw' : w < 100000) (hw : ∀ r ∈ rs, lnW u r) (n : Nat) : ∀ (k : Nat) (V : List Nat) (M : mM), n = min w rs.length - k → k ≤ min w rs.length → mS M m → inX M m u → lnX M m rs → puX M m V → (∀ M', puX M' m (V ++ ptL u ((rs.take w).drop k)) → fm m [64, 138, 125] M M' → Q (.inl (some (.int (I 0)))) M') →
    mX E 180 2 [some (.ref m), some (.int (I w)), some (.int (I k))] [] M Q := by
  induction n with
  | zero =>
    intro k V M hn hk h hi hr p hq
    have hl := hr.2.1
    rw [List.drop_eq_nil_of_le (by rw [List.length_take]; omega)] at hq
    have fin : Q (.inl (some (.int (I 0)))) M := hq M (by simpa [ptL] using p) (fm.refl _ _ _)
    refine w180_2 ⟨fun _ => fin, fun c => ⟨h.k0, fun _ => fin, fun c2 => ?_⟩⟩
    rw [I_le (by omega) (by omega) (by omega) (by omega)] at c
    rw [hr.1, I_le (by omega) (by omega) (by omega) (by omega)] at c2; omega
  | succ n ih =>
    intro k V M hn hk h hi hr p hq
    have hl := hr.2.1
    have dr : (rs.take w).drop k = rs.getD k [] :: (rs.take w).drop (k + 1) := by
      rw [drop_getL (d := []) (by rw [List.length_take]; omega)]
      congr 1
      rw [List.getD_eq_getElem?_getD, List.getElem?_take_of_lt (by omega), ← List.getD_eq_getElem?_getD]
    have pt : ptL u ((rs.take w).drop k) = (lnC u (rs.getD k []) ++ [10]) ++ ptL u ((rs.take w).drop (k + 1)) := by rw [dr]; rfl
    rw [pt] at hq
    refine w180_2 ⟨fun c => ?_, fun c => ⟨h.k0, fun c2 => ?_, fun c2 => m_outLine h hi hr p (by omega) (hw _ (getL_mem (by omega))) (fun M1 p1 f1 => ?_)⟩⟩
    · rw [I_le (by omega) (by omega) (by omega) (by omega)] at c; omega
    · rw [hr.1, I_le (by omega) (by omega) (by omega) (by omega)] at c2; omega
    · show mX E 180 2 _ [] M1 Q
      rw [I_add]
      refine ih (k + 1) _ M1 (by omega) (by omega) (h.mv f1.1) (hi.mv f1 (by decide) (by decide)) (hr.mv f1 (by decide) (by decide)) p1 (fun M' g1 g2 => hq M' ?_ (f1.trans g2))
      rw [List.append_assoc] at g1; exact g1
theorem m_head (h : mS M m) (hf : fdX M m fs) (h2 : 1 < fs.length) (hi : inX M m u) (p : puX M m V) (hq : ∀ M', puX M' m (V ++ hdO fs u (lnL u 240 0)) → fm m [64, 138, 125, 65, 140] M M' → Q (.inl (some (.int (I (hdS fs))))) M') : mC E 180 [.ref m] M Q := by
  have nr := numV_r (fs.getD 1 []) 2 (by omega)
  unfold hdO hdS at hq
  refine w180_0 ⟨h.k0, m_number (f := 1) (d := 2) h2 h hf (by omega) ⟨fun c => ⟨h.k0, m_cutLines h hi (fun M1 l1 f1 => ?_)⟩, fun c => ?_⟩⟩
  · rw [I_le (by omega) (by omega) (by omega) (by omega)] at c
    rw [if_pos c, if_pos c] at hq
    show mX E 180 2 _ [] M1 Q
    rw [show numV (fs.getD 1 []) 2 = (((numV (fs.getD 1 []) 2).toNat : Nat) : Int) by omega]
    exact m_head_l (by omega) (lnL_w u 240 0) _ 0 V M1 rfl (by omega) (h.mv f1.1) (hi.mv f1 (by decide) (by decide)) l1 (p.mv f1 (by decide) (by decide) (by decide)) (fun M' g1 g2 => hq M' g1 ((f1.w (by decide)).trans (g2.w (by decide))))
  · rw [I_le (by omega) (by omega) (by omega) (by omega)] at c
    rw [if_neg c, if_neg c] at hq
    exact hq M (by simpa using p) (fm.refl _ _ _)
end MLINE
