/-! THE REFERENCE: what it puts out; its fields and input -/
/-- what has been put out, had there been no limit -/
def puX (M : mM) (m : Nat) (V : List Nat) : Prop := mi M m 38 = I ((min V.length 240 : Nat) : Int) ∧ (∀ k, k < min V.length 240 → mi M (m + 26) k = I (V.getD k 0)) ∧ mi M m 25 = I (bI (decide (240 < V.length)))
def fdX (M : mM) (m : Nat) (fs : List (List Nat)) : Prop := mi M m 33 = I fs.length ∧ fs.length ≤ 16 ∧ (∀ f, f < fs.length → mi M (m + 24) f = I (fs.getD f []).length ∧ (fs.getD f []).length ≤ 40 ∧ ∀ k, k < (fs.getD f []).length → mi M (m + 23) (40 * f + k) = I ((fs.getD f []).getD k 0)) ∧ okL fs
def inX (M : mM) (m : Nat) (u : List Nat) : Prop := mi M m 36 = I u.length ∧ u.length ≤ 240 ∧ (∀ k, k < u.length → mi M (m + 25) k = I (u.getD k 0)) ∧ ∀ c ∈ u, c < 65536
section MUT
variable {E : mE} {M M' : mM} {Q : mQ} {m : Nat} {V u : List Nat} {fs : List (List Nat)} {S : List Nat}
theorem puX.mv (h : puX M m V) (f : fm m S M M') (h1 : S.contains 64 = false) (h2 : S.contains 138 = false) (h3 : S.contains 125 = false) : puX M' m V :=
  ⟨by rw [f.fld h2]; exact h.1, fun k hk => by rw [f.2.2 26 k (by omega) h1]; exact h.2.1 k hk, by rw [f.fld h3]; exact h.2.2⟩
theorem fdX.mv (h : fdX M m fs) (f : fm m S M M') (h1 : S.contains 61 = false) (h2 : S.contains 133 = false) : fdX M' m fs := by
  refine ⟨by rw [f.fld h2]; exact h.1, h.2.1, fun j hj => ?_, h.2.2.2⟩
  obtain ⟨a1, a2, a3⟩ := h.2.2.1 j hj
  have hl := h.2.1
  refine ⟨?_, a2, fun k hk => ?_⟩
  · rw [f.2.2 24 j (by omega) (by show S.contains (61 + j / 16) = false; rw [show j / 16 = 0 by omega]; exact h1)]; exact a1
  · rw [f.2.2 23 (40 * j + k) (by omega) (by show S.contains (61 + (40 * j + k) / 640) = false; rw [show (40 * j + k) / 640 = 0 by omega]; exact h1)]; exact a3 k hk
theorem inX.mv (h : inX M m u) (f : fm m S M M') (h1 : S.contains 63 = false) (h2 : S.contains 136 = false) : inX M' m u :=
  ⟨by rw [f.fld h2]; exact h.1, h.2.1, fun k hk => by rw [f.2.2 25 k (by omega) h1]; exact h.2.2.1 k hk, h.2.2.2⟩
theorem inX.ch (h : inX M m u) (k : Nat) : u.getD k 0 < 65536 := getD_lt h.2.2.2 (by omega) k
theorem getD_sn {V : List Nat} {c k : Nat} : (V ++ [c]).getD k 0 = if k < V.length then V.getD k 0 else if k = V.length then c else 0 := by
  simp only [List.getD_eq_getElem?_getD]
  by_cases q : k < V.length
  · rw [if_pos q, List.getElem?_append_left q]
  · rw [if_neg q, List.getElem?_append_right (by omega)]
    by_cases q2 : k = V.length
    · subst q2; rw [if_pos rfl, Nat.sub_self]; rfl
    · rw [if_neg q2, List.getElem?_eq_none (by simp; omega)]; rfl
theorem m_out {c : Nat} (h : mS M m) (p : puX M m V) (hc : c < 65536) (hq : ∀ M', puX M' m (V ++ [c]) → fm m [64, 138, 125] M M' → Q (.inl none) M') : mC E 163 [.ref m, .int (I c)] M Q := by
  obtain ⟨p1, p2, p3⟩ := p
  have le : (V ++ [c]).length = V.length + 1 := by simp
  refine w163_0 ⟨h.k0, fun g => ⟨h.n39, by rw [h.f39]; exact h.k26, ?_⟩, fun g M4 q4 => ?_⟩
  · rw [p1, I_eq (by omega) (by omega) (by omega) (by omega)] at g
    have hv : V.length < 240 := by omega
    rw [h.f39, h.l26, p1, show min V.length 240 = V.length by omega, I_ntn (by omega), I_i2c (by omega) (by omega), I_cN (by omega) (by omega)]
    refine ⟨I_in (by omega) (by omega) (by omega), fun M2 q2 M3 q3 => ?_⟩
    have f2 : fm m [64, 138, 125] M M2 := fm_i (a := 26) q2 (by omega) rfl
    have f3 : fm m [64, 138, 125] M2 M3 := fm_o q3 (by decide)
    refine hq M3 ⟨?_, fun k hk => ?_, ?_⟩ (f2.trans f3)
    · rw [q3, i_is, q2, i_ia (by omega), p1, I_add, le, show min V.length 240 = V.length by omega, show min (V.length + 1) 240 = V.length + 1 by omega]; rfl
    · rw [le] at hk
      rw [q3, i_ia (by omega), q2, getD_sn]
      by_cases z : k = V.length
      · subst z; rw [i_is, if_neg (by omega), if_pos rfl]
      · rw [i_ik z, if_pos (by omega)]; exact p2 k (by omega)
    · rw [q3, i_ik (by omega), q2, i_ia (by omega), p3, le, decide_eq_false (show ¬ 240 < V.length by omega), decide_eq_false (show ¬ 240 < V.length + 1 by omega)]
  · rw [p1, I_eq (by omega) (by omega) (by omega) (by omega)] at g
    have f4 : fm m [64, 138, 125] M M4 := fm_o q4 (by decide)
    refine hq M4 ⟨?_, fun k hk => ?_, ?_⟩ f4
    · rw [q4, i_ik (by omega), p1, le]; congr 2; omega
    · rw [le] at hk
      rw [q4, i_ia (by omega), getD_sn, if_pos (by omega)]; exact p2 k (by omega)
    · rw [q4, i_is, le, decide_eq_true (show 240 < V.length + 1 by omega)]; rfl
theorem fdX.ch (h : fdX M m fs) (f k : Nat) : (fs.getD f []).getD k 0 < 128 := by
  by_cases q : f < fs.length
  · exact (h.2.2.2 _ (getL_mem q)).get k
  · rw [List.getD_eq_getElem?_getD, List.getD_eq_getElem?_getD (l := fs), List.getElem?_eq_none (show fs.length ≤ f by omega)]; simp
/-- a field's characters put out -/
theorem m_echo3 {f : Nat} (hf : f < fs.length) (n : Nat) : ∀ (k : Nat) (V : List Nat) (M : mM), n = (fs.getD f []).length - k → k ≤ (fs.getD f []).length → mS M m → fdX M m fs → puX M m V → (∀ M' d, mS M' m → fdX M' m fs → puX M' m (V ++ (fs.getD f []).drop k) → fm m [64, 138, 125] M M' → mX E 166 1 [some (.ref m), some (.int (I f + I 1)), d] [] M' Q) →
    mX E 166 3 [some (.ref m), some (.int (I f)), some (.int (I k))] [] M Q := by
  induction n with
  | zero =>
    intro k V M hn hk h hf' p hq
    obtain ⟨a1, a2, a3⟩ := hf'.2.2.1 f hf
    have hl := hf'.2.1
    refine w166_3 ⟨h.k0, h.n35, by rw [h.f35]; exact h.k24, by rw [h.f35, h.l24]; exact I_in (by omega) (by omega) (by omega), fun _ => hq M _ h hf' ?_ (fm.refl _ _ _), fun c => ?_⟩
    · rw [List.drop_eq_nil_of_le (by omega), List.append_nil]; exact p
    · rw [h.f35, I_ntn (by omega), a1, I_le (by omega) (by omega) (by omega) (by omega)] at c; omega
  | succ n ih =>
    intro k V M hn hk h hf' p hq
    obtain ⟨a1, a2, a3⟩ := hf'.2.2.1 f hf
    have hl := hf'.2.1
    have hc := hf'.ch f k
    refine w166_3 ⟨h.k0, h.n35, by rw [h.f35]; exact h.k24, by rw [h.f35, h.l24]; exact I_in (by omega) (by omega) (by omega), fun c => ?_, fun c => ⟨h.n34, by rw [h.f34]; exact h.k23, ?_⟩⟩
    · rw [h.f35, I_ntn (by omega), a1, I_le (by omega) (by omega) (by omega) (by omega)] at c; omega
    · rw [h.f34, h.l23, I_mul, I_add, show (40 : Int) * (f : Int) + (k : Int) = ((40 * f + k : Nat) : Int) by omega, I_ntn (by omega), a3 k (by omega)]
      refine ⟨I_in (by omega) (by omega) (by omega), m_out h p (by omega) (fun M1 p1 f1 => ?_)⟩
      show mX E 166 3 _ [] M1 Q
      rw [I_add]
      refine ih (k + 1) _ M1 (by omega) (by omega) (h.mv f1.1) (hf'.mv f1 (by decide) (by decide)) p1 (fun M' d g1 g2 g3 g4 => hq M' d g1 g2 ?_ (f1.trans g4))
      rw [drop_getD (by omega)]
      rw [List.append_assoc] at g3; exact g3
theorem m_echo_l (n : Nat) : ∀ (i : Nat) (V : List Nat) (M : mM) (d : Option Value), n = fs.length - i → 1 ≤ i → i ≤ 1000 → mS M m → fdX M m fs → puX M m V → (∀ M', puX M' m (V ++ ecL fs n i) → fm m [64, 138, 125] M M' → Q (.inl (some (.int (I 0)))) M') →
    mX E 166 1 [some (.ref m), some (.int (I i)), d] [] M Q := by
  induction n with
  | zero =>
    intro i V M d hn hi hi2 h hf p hq
    have hl := hf.2.1
    refine w166_1 ⟨h.k0, fun _ => m_out (c := 10) h p (by omega) (fun M1 p1 f1 => hq M1 p1 f1), fun c => ?_⟩
    rw [hf.1, I_le (by omega) (by omega) (by omega) (by omega)] at c; omega
  | succ n ih =>
    intro i V M d hn hi hi2 h hf p hq
    have hl := hf.2.1
    unfold ecL at hq
    have three : ∀ (V1 : List Nat) (M1 : mM), mS M1 m → fdX M1 m fs → puX M1 m V1 → fm m [64, 138, 125] M M1 → V1 = V ++ (if 1 < i then [32] else []) → mX E 166 3 [some (.ref m), some (.int (I i)), some (.int (I 0))] [] M1 Q := by
      intro V1 M1 h1 hf1 p1 f1 e1
      refine m_echo3 (by omega) _ 0 V1 M1 rfl (by omega) h1 hf1 p1 (fun M' d' g1 g2 g3 g4 => ?_)
      rw [I_add]
      refine ih (i + 1) _ M' d' (by omega) (by omega) (by omega) g1 g2 g3 (fun M2 g5 g6 => hq M2 ?_ ((f1.trans g4).trans g6))
      rw [e1] at g5
      rw [List.drop_zero] at g5
      simpa [List.append_assoc] using g5
    refine w166_1 ⟨h.k0, fun c => ?_, fun c => ⟨fun u => three V M h hf p (fm.refl _ _ _) ?_, fun u => m_out (c := 32) h p (by omega) (fun M1 p1 f1 => three _ M1 (h.mv f1.1) (hf.mv f1 (by decide) (by decide)) p1 f1 ?_)⟩⟩
    · rw [hf.1, I_le (by omega) (by omega) (by omega) (by omega)] at c; omega
    · rw [I_le (by omega) (by omega) (by omega) (by omega)] at u; rw [if_neg (by omega), List.append_nil]
    · rw [I_le (by omega) (by omega) (by omega) (by omega)] at u; rw [if_pos (by omega)]
theorem m_echo (h : mS M m) (hf : fdX M m fs) (p : puX M m V) (hq : ∀ M', puX M' m (V ++ ecL fs (fs.length - 1) 1) → fm m [64, 138, 125] M M' → Q (.inl (some (.int (I 0)))) M') : mC E 166 [.ref m] M Q :=
  w166_0 (m_echo_l _ 1 V M none rfl (by omega) (by omega) h hf p hq)
theorem m_tr_l {x y : Nat} (h2 : (fs.getD 1 []).getD 0 0 = x) (h3 : (fs.getD 2 []).getD 0 0 = y) (l1 : (fs.getD 1 []).length = 1) (l2 : (fs.getD 2 []).length = 1) (l3 : fs.length = 3) (n : Nat) : ∀ (k : Nat) (V : List Nat) (M : mM), n = u.length - k → k ≤ u.length → mS M m → fdX M m fs → inX M m u → puX M m V → (∀ M', puX M' m (V ++ trL x y (u.drop k)) → fm m [64, 138, 125] M M' → Q (.inl (some (.int (I 0)))) M') →
    mX E 175 3 [some (.ref m), some (.int (I k))] [] M Q := by
  induction n with
  | zero =>
    intro k V M hn hk h hf hi p hq
    have hl := hi.2.1
    rw [List.drop_eq_nil_of_le (by omega)] at hq
    refine w175_3 ⟨h.k0, fun _ => hq M (by simpa [trL] using p) (fm.refl _ _ _), fun c => ?_⟩
    rw [hi.1, I_le (by omega) (by omega) (by omega) (by omega)] at c; omega
  | succ n ih =>
    intro k V M hn hk h hf hi p hq
    have hl := hi.2.1
    have hc := hi.ch k
    have hx := hf.ch 1 0
    have hy := hf.ch 2 0
    have a1 := (hf.2.2.1 1 (by omega)).2.2 0 (by omega)
    have a2 := (hf.2.2.1 2 (by omega)).2.2 0 (by omega)
    have a1' : mi M (m + 23) 40 = I (x : Int) := by rw [← h2]; exact a1
    have a2' : mi M (m + 23) 80 = I (y : Int) := by rw [← h3]; exact a2
    have dr : trL x y (u.drop k) = (if u.getD k 0 = x then y else u.getD k 0) :: trL x y (u.drop (k + 1)) := by rw [drop_getD (by omega)]; rfl
    rw [dr] at hq
    have five : ∀ z : Nat, z < 65536 → z = (if u.getD k 0 = x then y else u.getD k 0) → mX E 175 5 [some (.ref m), some (.int (I k))] [.int (I z), .ref m] M Q := by
      intro z hz ez
      refine w175_5 ⟨h.k0, m_out h p hz (fun M1 p1 f1 => ?_)⟩
      show mX E 175 3 _ [] M1 Q
      rw [I_add]
      refine ih (k + 1) _ M1 (by omega) (by omega) (h.mv f1.1) (hf.mv f1 (by decide) (by decide)) (hi.mv f1 (by decide) (by decide)) p1 (fun M' g1 g2 => hq M' ?_ (f1.trans g2))
      rw [ez, List.append_assoc] at g1; exact g1
    have n40 : nt (I 40) = 40 := by decide
    have n80 : nt (I 80) = 80 := by decide
    refine w175_3 ⟨h.k0, fun c => ?_, fun c => ⟨h.n37, by rw [h.f37]; exact h.k25, by rw [h.f37, h.l25]; exact I_in (by omega) (by omega) (by omega), h.n34, by rw [h.f34]; exact h.k23, by rw [h.f34, h.l23]; exact I_in (by omega) (by omega) (by omega), fun w => ?_, fun w => ⟨by rw [h.f34, h.l23]; exact I_in (by omega) (by omega) (by omega), ?_⟩⟩⟩
    · rw [hi.1, I_le (by omega) (by omega) (by omega) (by omega)] at c; omega
    · rw [h.f37, h.f34, n40, I_ntn (by omega), a1', hi.2.2.1 k (by omega), I_eq (by omega) (by omega) (by omega) (by omega)] at w
      rw [h.f37, I_ntn (by omega), hi.2.2.1 k (by omega)]
      exact five _ hc (by rw [if_neg (by omega)])
    · rw [h.f37, h.f34, n40, I_ntn (by omega), a1', hi.2.2.1 k (by omega), I_eq (by omega) (by omega) (by omega) (by omega)] at w
      rw [h.f34, n80, a2']
      exact five y (by omega) (by rw [if_pos (by omega)])
/-- tr in the reference: also with a wrong number of fields -/
theorem m_turn (h : mS M m) (hf : fdX M m fs) (hi : inX M m u) (p : puX M m V) (hq2 : ¬ fs.length = 3 → Q (.inl (some (.int (I 2)))) M) (hq : fs.length = 3 → ∀ M', puX M' m (V ++ trO fs u) → fm m [64, 138, 125] M M' → Q (.inl (some (.int (I (trS fs))))) M') : mC E 175 [.ref m] M Q := by
  have hl := hf.2.1
  unfold trO trS at hq
  have n1 : nt (I 1) = 1 := by decide
  have n2 : nt (I 2) = 2 := by decide
  refine w175_0 ⟨h.k0, fun c => hq2 ?_, fun c => ⟨h.n35, by rw [h.f35]; exact h.k24, by rw [h.f35, h.l24]; exact I_in (by omega) (by omega) (by omega), fun w => ?_, fun w => ⟨by rw [h.f35, h.l24]; exact I_in (by omega) (by omega) (by omega), fun v => ?_, fun v => ?_⟩⟩⟩
  · rw [hf.1, I_eq (by omega) (by omega) (by omega) (by omega)] at c; omega
  all_goals rw [hf.1, I_eq (by omega) (by omega) (by omega) (by omega)] at c
  all_goals have l3 : fs.length = 3 := by omega
  all_goals have q1 := hf.2.2.1 1 (by omega)
  all_goals have q2 := hf.2.2.1 2 (by omega)
  all_goals have b1 := q1.2.1
  all_goals have b2 := q2.2.1
  · rw [h.f35, n1, q1.1, I_eq (by omega) (by omega) (by omega) (by omega)] at w
    have g : ¬ ((fs.getD 1 []).length = 1 ∧ (fs.getD 2 []).length = 1) := by omega
    rw [if_neg g, if_neg g] at hq
    exact hq l3 M (by simpa using p) (fm.refl _ _ _)
  · rw [h.f35, n1, q1.1, I_eq (by omega) (by omega) (by omega) (by omega)] at w
    rw [h.f35, n2, q2.1, I_eq (by omega) (by omega) (by omega) (by omega)] at v
    have g : (fs.getD 1 []).length = 1 ∧ (fs.getD 2 []).length = 1 := by omega
    rw [if_pos g, if_pos g] at hq
    exact m_tr_l rfl rfl g.1 g.2 l3 _ 0 V M rfl (by omega) h hf hi p (hq l3)
  · rw [h.f35, n1, q1.1, I_eq (by omega) (by omega) (by omega) (by omega)] at w
    rw [h.f35, n2, q2.1, I_eq (by omega) (by omega) (by omega) (by omega)] at v
    have g : ¬ ((fs.getD 1 []).length = 1 ∧ (fs.getD 2 []).length = 1) := by omega
    rw [if_neg g, if_neg g] at hq
    exact hq l3 M (by simpa using p) (fm.refl _ _ _)
end MUT
