/-! TEXTS: the longer methods -/
/-- what stands in u from f up to e -/
def seg (u : List Nat) (f e : Nat) : List Nat := (u.drop f).take (e - f)
theorem seg_nil {u : List Nat} {f e : Nat} (h : e ≤ f ∨ u.length ≤ f) : seg u f e = [] := by
  unfold seg
  rcases h with h | h
  · rw [show e - f = 0 by omega, List.take_zero]
  · rw [List.drop_eq_nil_of_le h, List.take_nil]
theorem drop_getD {u : List Nat} {f : Nat} (h : f < u.length) : u.drop f = u.getD f 0 :: u.drop (f + 1) := by
  rw [List.getD_eq_getElem?_getD, List.getElem?_eq_getElem h]
  exact List.drop_eq_getElem_cons h
theorem seg_cons {u : List Nat} {f e : Nat} (h1 : f < e) (h2 : f < u.length) : seg u f e = u.getD f 0 :: seg u (f + 1) e := by
  unfold seg
  rw [drop_getD h2, show e - f = (e - (f + 1)) + 1 by omega, List.take_succ_cons]
theorem seg_len {u : List Nat} {f e : Nat} : (seg u f e).length = min e u.length - f := by
  unfold seg; rw [List.length_take, List.length_drop]; omega
theorem seg_all (u : List Nat) : seg u 0 u.length = u := by
  unfold seg; rw [List.drop_zero, Nat.sub_zero, List.take_length]
theorem seg_mem {u : List Nat} {f e c : Nat} (h : c ∈ seg u f e) : c ∈ u := List.mem_of_mem_drop (List.mem_of_mem_take h)
/-- two texts, or what else is of two cells, lie apart -/
def apart (a b : Nat) : Prop := a + 2 ≤ b ∨ b + 2 ≤ a
section TXT
variable {E : mE} {M : mM} {Q : mQ} {a b cap cap' : Nat} {s u : List Nat}
theorem tX.len (h : tX M a cap s) : s.length ≤ cap ∧ cap ≤ 1000 := ⟨h.2.2.2.2.2.1, h.2.2.2.2.2.2.1⟩
theorem c_max {x y : Int} (h1 : -2147483648 ≤ x) (h2 : x < 2147483648) (h3 : -2147483648 ≤ y) (h4 : y < 2147483648) (hq : Q (.inl (some (.int (I (max x y))))) M) : mC E 197 [.int (I x), .int (I y)] M Q := by
  refine w197_0 ⟨fun c => ?_, fun c => ?_⟩
  · rw [I_lt h1 h2 h3 h4] at c; rw [show max x y = y by omega] at hq; exact hq
  · rw [I_lt h1 h2 h3 h4] at c; rw [show max x y = x by omega] at hq; exact hq
theorem c_min {x y : Int} (h1 : -2147483648 ≤ x) (h2 : x < 2147483648) (h3 : -2147483648 ≤ y) (h4 : y < 2147483648) (hq : Q (.inl (some (.int (I (min x y))))) M) : mC E 198 [.int (I x), .int (I y)] M Q := by
  refine w198_0 ⟨fun c => ?_, fun c => ?_⟩
  · rw [I_lt h3 h4 h1 h2] at c; rw [show min x y = y by omega] at hq; exact hq
  · rw [I_lt h3 h4 h1 h2] at c; rw [show min x y = x by omega] at hq; exact hq
theorem t_addRange_l {v2 : Int32} {e : Nat} (he : e < 100000) (hab : apart a b) (m : Nat) : ∀ (k : Nat) (M : mM) (s : List Nat), u.length - k ≤ m → k ≤ 100000 → tX M a cap s → tX M b cap' u →
    (∀ M', tX M' a cap (s ++ seg u k e) → fr M M' a (a + 2) → Q (.inl none) M') →
    (∀ M' s', cap < s.length + (seg u k e).length → tX M' a cap s' → fr M M' a (a + 2) → mTh E 91 M' Q) →
    mX E 18 1 [some (.ref a), some (.ref b), some (.int v2), some (.int (I e)), some (.int (I k))] [] M Q := by
  induction m with
  | zero =>
    intro k M s hm hk h g hq ht
    have hl := g.len
    refine w18_1 ⟨fun c => ?_, fun c => ⟨g.1, fun d => ?_, fun d => ?_⟩⟩
    · rw [I_le (by omega) (by omega) (by omega) (by omega)] at c
      rw [seg_nil (by omega), List.append_nil] at hq
      exact hq M h (fr.refl _ _ _)
    · rw [seg_nil (by omega), List.append_nil] at hq
      exact hq M h (fr.refl _ _ _)
    · rw [g.2.2.2.2.1, I_le (by omega) (by omega) (by omega) (by omega)] at d; omega
  | succ m ih =>
    intro k M s hm hk h g hq ht
    have hl := g.len
    have hl' := h.len
    refine w18_1 ⟨fun c => ?_, fun c => ⟨g.1, fun d => ?_, fun d => ?_⟩⟩
    · rw [I_le (by omega) (by omega) (by omega) (by omega)] at c
      rw [seg_nil (by omega), List.append_nil] at hq
      exact hq M h (fr.refl _ _ _)
    · rw [g.2.2.2.2.1, I_le (by omega) (by omega) (by omega) (by omega)] at d
      rw [seg_nil (by omega), List.append_nil] at hq
      exact hq M h (fr.refl _ _ _)
    · rw [I_le (by omega) (by omega) (by omega) (by omega)] at c
      rw [g.2.2.2.2.1, I_le (by omega) (by omega) (by omega) (by omega)] at d
      obtain ⟨e1, e2, e3, e4, e5, e6, e7, e8, e9⟩ := id h
      obtain ⟨d1, d2, d3, d4, d5, d6, d7, d8, d9⟩ := id g
      rw [seg_cons (by omega) (by omega)] at hq ht
      refine ⟨e1, fun q => ?_, fun _ => ⟨by rw [e2]; omega, by rw [e2]; exact e3, fun q => ⟨by rw [d2]; omega, by rw [d2]; exact d3, ?_⟩, fun q => ?_⟩⟩
      · rw [e5, I_lt (by omega) (by omega) (by omega) (by omega)] at q; omega
      · rw [e2, e5, e4, I_nI, I_lt (by omega) (by omega) (by omega) (by omega)] at q
        have hc := getD_lt d9 (by omega) k
        rw [d2, d4, e2, e4, e5, I_ntn (by omega), I_ntn (by omega), d8 k (by omega), I_cN (by omega) (by omega)]
        refine ⟨I_in (by omega) (by omega) (by omega), I_in (by omega) (by omega) (by omega), fun M1 q1 M2 q2 => ?_⟩
        have hp := h.push hc (by omega)
        have e : M2 = msi (msi M (a + 1) s.length (I (u.getD k 0))) a 1 (I (s.length + 1 : Nat)) := by
          rw [q2, q1, i_ia (by omega), e5, I_add]; rfl
        rw [← e] at hp
        rw [I_add]
        refine ih (k + 1) M2 _ (by omega) (by omega) hp.1 (g.mv hp.2 (by unfold apart at hab; omega)) (fun M' t f => hq M' (by simpa using t) (hp.2.then f)) (fun M' s' hs t f => ht M' s' (by simp at hs ⊢; omega) t (hp.2.then f))
      · rw [e2, e5, e4, I_nI, I_lt (by omega) (by omega) (by omega) (by omega)] at q
        exact ht M s (by simp; omega) h (fr.refl _ _ _)
theorem t_addRange {f e : Nat} (h : tX M a cap s) (g : tX M b cap' u) (hab : apart a b) (hf : f < 100000) (he : e < 100000)
    (hq : ∀ M', tX M' a cap (s ++ seg u f e) → fr M M' a (a + 2) → Q (.inl none) M')
    (ht : ∀ M' s', cap < s.length + (seg u f e).length → tX M' a cap s' → fr M M' a (a + 2) → mTh E 91 M' Q) : mC E 18 [.ref a, .ref b, .int (I f), .int (I e)] M Q := by
  refine w18_0 (c_max (by omega) (by omega) (by omega) (by omega) ?_)
  rw [show max (f : Int) 0 = f by omega]
  exact t_addRange_l he hab u.length f M s (by omega) (by omega) h g hq ht
/-- one character written within a text's room, its size as it was -/
theorem t_become_l (hab : apart a b) (hcap : u.length ≤ cap) (m : Nat) : ∀ (k : Nat) (M : mM), u.length - k ≤ m → k ≤ u.length → (mkd M a = 101 ∧ mr M a 0 = a + 1 ∧ mkd M (a + 1) = 2 ∧ mln M (a + 1) = cap ∧ cap ≤ 1000 ∧ ∀ j, j < k → mi M (a + 1) j = I (u.getD j 0)) → tX M b cap' u →
    (∀ M', tX M' a cap u → fr M M' a (a + 2) → Q (.inl none) M') →
    mX E 19 2 [some (.ref a), some (.ref b), some (.int (I k))] [] M Q := by
  have fin : ∀ (k : Nat) (M : mM), k = u.length → (mkd M a = 101 ∧ mr M a 0 = a + 1 ∧ mkd M (a + 1) = 2 ∧ mln M (a + 1) = cap ∧ cap ≤ 1000 ∧ ∀ j, j < k → mi M (a + 1) j = I (u.getD j 0)) → tX M b cap' u →
    (∀ M', tX M' a cap u → fr M M' a (a + 2) → Q (.inl none) M') → ∀ M2, M2 = msi M a 1 (mi M b 1) → Q (.inl none) M2 := by
    intro k M hk h g hq M2 q
    obtain ⟨e1, e2, e3, e4, e7, e8⟩ := h
    subst q
    refine hq _ ⟨e1, e2, e3, e4, by rw [i_is, g.2.2.2.2.1], hcap, e7, fun j hj => ?_, g.2.2.2.2.2.2.2.2⟩ (fr_i (by omega) (by omega))
    rw [i_ia (by omega), e8 j (by omega)]
  induction m with
  | zero =>
    intro k M hm hk h g hq
    have hl := g.len
    refine w19_2 ⟨g.1, fun c => ⟨h.1, fin k M (by omega) h g hq⟩, fun c => ?_⟩
    rw [g.2.2.2.2.1, I_le (by omega) (by omega) (by omega) (by omega)] at c; omega
  | succ m ih =>
    intro k M hm hk h g hq
    have hl := g.len
    obtain ⟨e1, e2, e3, e4, e7, e8⟩ := id h
    obtain ⟨d1, d2, d3, d4, d5, d6, d7, d8, d9⟩ := id g
    refine w19_2 ⟨g.1, fun c => ⟨h.1, ?_⟩, fun c => ⟨e1, by rw [e2]; omega, by rw [d2]; omega, by rw [d2]; exact d3, ?_⟩⟩
    · rw [d5, I_le (by omega) (by omega) (by omega) (by omega)] at c
      exact fin k M (by omega) h g hq
    · rw [d5, I_le (by omega) (by omega) (by omega) (by omega)] at c
      have hc := getD_lt d9 (by omega) k
      rw [d2, d4, e2, e4, I_ntn (by omega), d8 k (by omega), I_cN (by omega) (by omega)]
      refine ⟨I_in (by omega) (by omega) (by omega), e3, I_in (by omega) (by omega) (by omega), fun M1 q1 => ?_⟩
      have hf : fr M M1 a (a + 2) := by rw [q1]; exact fr_i (by omega) (by omega)
      rw [I_add]
      refine ih (k + 1) M1 (by omega) (by omega) ?_ (g.mv hf (by unfold apart at hab; omega)) (fun M' t f => hq M' t (hf.then f))
      subst q1
      refine ⟨e1, e2, e3, e4, e7, fun j hj => ?_⟩
      by_cases q : j = k
      · subst q; rw [i_is]
      · rw [i_ik q, e8 j (by omega)]
theorem t_become (h : tX M a cap s) (g : tX M b cap' u) (hab : apart a b)
    (hq : u.length ≤ cap → ∀ M', tX M' a cap u → fr M M' a (a + 2) → Q (.inl none) M')
    (ht : cap < u.length → mTh E 91 M Q) : mC E 19 [.ref a, .ref b] M Q := by
  obtain ⟨e1, e2, e3, e4, e5, e6, e7, e8, e9⟩ := id h
  have hl := g.len
  refine w19_0 ⟨g.1, e1, by rw [e2]; omega, by rw [e2]; exact e3, fun c => ?_, fun c => ?_⟩
  · rw [g.2.2.2.2.1, e2, e4, I_nI, I_le (by omega) (by omega) (by omega) (by omega)] at c
    exact t_become_l hab (by omega) u.length 0 M (by omega) (by omega) ⟨e1, e2, e3, e4, e7, fun j hj => absurd hj (Nat.not_lt_zero j)⟩ g (hq (by omega))
  · rw [g.2.2.2.2.1, e2, e4, I_nI, I_le (by omega) (by omega) (by omega) (by omega)] at c
    exact ht (by omega)
end TXT
