/-! ROWS. A row lies at r: the array at r + 1, text i at r + 2 + 2 i, none at r + 2 n + 4; up to r + 2 n + 6 -/
def rS (M : mM) (r n : Nat) : Prop := mkd M r = 102 ∧ mr M r 0 = r + 1 ∧ mr M r 1 = r + 2 * n + 4 ∧ mkd M (r + 1) = 5 ∧ mln M (r + 1) = n + 1 ∧ (∀ i, i ≤ n → mr M (r + 1) i = r + 2 + 2 * i) ∧ n ≤ 100
def rX (M : mM) (r n cap : Nat) (ts : List (List Nat)) (sp : List Nat) : Prop := rS M r n ∧ mi M r 2 = I ts.length ∧ ts.length ≤ n ∧ (∀ i, i < ts.length → tX M (r + 2 + 2 * i) cap (ts.getD i [])) ∧ tX M (r + 2 + 2 * ts.length) cap sp ∧ (∀ i, ts.length < i → i ≤ n → ∃ s, tX M (r + 2 + 2 * i) cap s) ∧ tX M (r + 2 * n + 4) 0 []
theorem rS.mv {M M' : mM} {r n : Nat} (h : rS M r n) (h1 : ceq M M' r) (h2 : ceq M M' (r + 1)) : rS M' r n := by
  obtain ⟨a1, a2, a3, a4, a5, a6, a7⟩ := h
  exact ⟨by rw [h1.1, a1], by rw [h1.2.2.2.1, a2], by rw [h1.2.2.2.1, a3], by rw [h2.1, a4], by rw [h2.2.1, a5], fun i hi => by rw [h2.2.2.2.1, a6 i hi], a7⟩
theorem rX.mv {M M' : mM} {r n cap : Nat} {ts : List (List Nat)} {sp : List Nat} {lo hi : Nat} (h : rX M r n cap ts sp) (f : fr M M' lo hi) (hd : r + 2 * n + 6 ≤ lo ∨ hi ≤ r) : rX M' r n cap ts sp := by
  obtain ⟨a1, a2, a3, a4, a5, a6, a7⟩ := h
  refine ⟨a1.mv (f.2.2 _ (by omega)) (f.2.2 _ (by omega)), by rw [(f.2.2 r (by omega)).2.2.1, a2], a3, fun i hi => (a4 i hi).mv f (by omega), a5.mv f (by omega), fun i h1 h2 => ?_, a7.mv f (by omega)⟩
  obtain ⟨s, hs⟩ := a6 i h1 h2
  exact ⟨s, hs.mv f (by omega)⟩
/-- the spare text has changed -/
theorem rX.spare {M M' : mM} {r n cap : Nat} {ts : List (List Nat)} {sp sp' : List Nat} (h : rX M r n cap ts sp) (f : fr M M' (r + 2 + 2 * ts.length) (r + 2 + 2 * ts.length + 2)) (t : tX M' (r + 2 + 2 * ts.length) cap sp') : rX M' r n cap ts sp' := by
  obtain ⟨a1, a2, a3, a4, a5, a6, a7⟩ := h
  refine ⟨a1.mv (f.2.2 _ (by omega)) (f.2.2 _ (by omega)), by rw [(f.2.2 r (by omega)).2.2.1, a2], a3, fun i hi => (a4 i hi).mv f (by omega), t, fun i h1 h2 => ?_, a7.mv f (by omega)⟩
  obtain ⟨s, hs⟩ := a6 i h1 h2
  exact ⟨s, hs.mv f (by omega)⟩
section ROW
variable {E : mE} {M : mM} {Q : mQ} {r n cap : Nat} {ts us : List (List Nat)} {sp : List Nat}
theorem rX.len (h : rX M r n cap ts sp) : ts.length ≤ n ∧ n ≤ 100 ∧ cap ≤ 1000 := ⟨h.2.2.1, h.1.2.2.2.2.2.2, h.2.2.2.2.1.len.2⟩
/-- the entry at k; nothing where there is none -/
def atL (ts : List (List Nat)) (k : Int) : List Nat := if 0 ≤ k then ts.getD k.toNat [] else []
theorem rX.at' (h : rX M r n cap ts sp) {i : Nat} : tX M (r + 2 + 2 * i) cap (ts.getD i []) ∨ ts.length ≤ i := by
  by_cases q : i < ts.length
  · exact Or.inl (h.2.2.2.1 i q)
  · exact Or.inr (by omega)
theorem r_at {k : Int} (h : rX M r n cap ts sp) (h1 : -2147483648 ≤ k) (h2 : k < 2147483648) (hq : ∀ p cap', tX M p cap' (atL ts k) → r + 2 ≤ p → p + 2 ≤ r + 2 * n + 6 → cap' ≤ cap → Q (.inl (some (.ref p))) M) : mC E 27 [.ref r, .int (I k)] M Q := by
  have hl := h.len
  obtain ⟨⟨a1, a2, a3, a4, a5, a6, a7⟩, b2, b3, b4, b5, b6, b7⟩ := id h
  have none' : (k < 0 ∨ ts.length ≤ k) → ¬ mr M r 1 = 0 ∧ Q (.inl (some (.ref (mr M r 1)))) M := by
    intro hk
    rw [a3]
    refine ⟨by omega, hq _ 0 ?_ (by omega) (by omega) (by omega)⟩
    have : atL ts k = [] := by
      unfold atL; split
      · rw [List.getD_eq_getElem?_getD, List.getElem?_eq_none (by omega)]; rfl
      · rfl
    rw [this]; exact b7
  refine w27_0 ⟨fun c => ⟨a1, ?_⟩, fun c => ⟨a1, fun d => ?_, fun d => ⟨by rw [a2]; omega, by rw [a2]; exact a4, fun e => ?_, fun e => ?_⟩⟩⟩
  · rw [I_lt h1 h2 (by omega) (by omega)] at c; exact none' (by omega)
  · rw [b2, I_le (by omega) (by omega) h1 h2] at d; exact none' (by omega)
  · rw [a2, a5, I_nI, I_le (by omega) (by omega) h1 h2] at e; exact none' (by omega)
  · rw [I_lt h1 h2 (by omega) (by omega)] at c
    rw [b2, I_le (by omega) (by omega) h1 h2] at d
    rw [a2, a5, I_nt (by omega) h2, a6 _ (by omega)]
    refine ⟨I_in (by omega) (by omega) h2, by omega, hq _ cap ?_ (by omega) (by omega) (Nat.le_refl _)⟩
    unfold atL; rw [if_pos (by omega)]
    exact b4 _ (by omega)
theorem r_spare (h : rX M r n cap ts sp) (hq : Q (.inl (some (.ref (r + 2 + 2 * ts.length)))) M) : mC E 28 [.ref r] M Q := by
  have hl := h.len
  obtain ⟨⟨a1, a2, a3, a4, a5, a6, a7⟩, b2, b3, b4, b5, b6, b7⟩ := id h
  refine w28_0 ⟨a1, fun c => ?_, fun _ => ⟨by rw [a2]; omega, by rw [a2]; exact a4, fun e => ?_, fun e => ?_⟩⟩
  · rw [b2, I_lt (by omega) (by omega) (by omega) (by omega)] at c; omega
  · rw [a2, a5, b2, I_nI, I_le (by omega) (by omega) (by omega) (by omega)] at e; omega
  · rw [a2, a5, b2, I_ntn (by omega), a6 _ (by omega)]
    exact ⟨I_in (by omega) (by omega) (by omega), by omega, hq⟩
/-- a row's size set, and the text there emptied -/
theorem rX.cut (h : rX M r n cap ts sp) {us : List (List Nat)} (hus : us.length ≤ n) (ht : ∀ i, i < us.length → tX M (r + 2 + 2 * i) cap (us.getD i [])) {M' : mM} (e : M' = msi (msi M r 2 (I us.length)) (r + 2 + 2 * us.length) 1 (I 0)) : rX M' r n cap us [] ∧ fr M M' r (r + 2 * n + 6) := by
  have all : ∀ i, i ≤ n → ∃ s, tX M (r + 2 + 2 * i) cap s := by
    intro i hi
    rcases Nat.lt_trichotomy i ts.length with q | q | q
    · exact ⟨_, h.2.2.2.1 i q⟩
    · subst q; exact ⟨_, h.2.2.2.2.1⟩
    · exact h.2.2.2.2.2.1 i q hi
  have f1 : fr M (msi M r 2 (I us.length)) r (r + 1) := fr_i (by omega) (by omega)
  have f2 : fr (msi M r 2 (I us.length)) M' (r + 2 + 2 * us.length) (r + 2 + 2 * us.length + 1) := by rw [e]; exact fr_i (by omega) (by omega)
  obtain ⟨⟨a1, a2, a3, a4, a5, a6, a7⟩, b2, b3, b4, b5, b6, b7⟩ := id h
  refine ⟨⟨⟨by rw [e]; exact a1, by rw [e]; exact a2, by rw [e]; exact a3, by rw [e]; exact a4, by rw [e]; exact a5, by rw [e]; exact a6, a7⟩, ?_, hus, fun i hi => ((ht i hi).mv f1 (by omega)).mv f2 (by omega), ?_, fun i q1 q2 => ?_, (b7.mv f1 (by omega)).mv f2 (by omega)⟩, f1.trans f2 (by omega) (by omega) (by omega) (by omega)⟩
  · rw [e, i_ia (by omega), i_is]
  · obtain ⟨s, hs⟩ := all us.length hus
    obtain ⟨e1, e2, e3, e4, e5, e6, e7, e8, e9⟩ := hs.mv f1 (by omega)
    rw [e]
    exact ⟨e1, e2, e3, e4, i_is, Nat.zero_le _, e7, fun k hk => absurd hk (Nat.not_lt_zero k), fun c hc => absurd hc List.not_mem_nil⟩
  · obtain ⟨s, hs⟩ := all i q2
    exact ⟨s, (hs.mv f1 (by omega)).mv f2 (by omega)⟩
theorem r_clear (h : rX M r n cap ts sp) (hq : ∀ M', rX M' r n cap [] [] → fr M M' r (r + 2 * n + 6) → Q (.inl none) M') : mC E 29 [.ref r] M Q := by
  have hl := h.len
  refine w29_0 ⟨h.1.1, fun M1 q1 => ?_⟩
  have hM := h.cut (us := []) (by simp) (fun i hi => absurd hi (Nat.not_lt_zero i)) rfl
  have f1 : fr M M1 r (r + 1) := by rw [q1]; exact fr_i (by omega) (by omega)
  obtain ⟨⟨a1, a2, a3, a4, a5, a6, a7⟩, b2, b3, b4, b5, b6, b7⟩ := id h
  refine w28_0 ⟨by rw [q1]; exact a1, fun c => ?_, fun _ => ⟨by rw [q1, r_i, a2]; omega, by rw [q1, r_i, a2]; exact a4, fun e => ?_, fun e => ?_⟩⟩
  · rw [q1, i_is] at c; exact absurd c (by decide)
  · rw [q1, r_i, a2, ln_i, a5, i_is, I_nI, I_le (by omega) (by omega) (by omega) (by omega)] at e; omega
  · rw [q1, r_i, a2, ln_i, a5, i_is]
    refine ⟨I_in (by omega) (by omega) (by omega), ?_, ?_⟩
    · rw [r_i, show nt (I 0) = 0 by decide, a6 0 (by omega)]; omega
    · refine ⟨?_, fun M2 q2 => ?_⟩
      · rw [r_i, show nt (I 0) = 0 by decide, a6 0 (by omega), kd_i]
        rcases Nat.eq_zero_or_pos ts.length with q | q
        · rw [q] at b5; exact b5.1
        · exact (b4 0 q).1
      · rw [r_i, show nt (I 0) = 0 by decide, a6 0 (by omega)] at q2
        rw [q2]
        exact hq _ hM.1 hM.2
theorem r_take {bb : Bool} (h : rX M r n cap ts sp) (h0 : sp = [] → bb = false → Q (.inl none) M) (hq : (sp ≠ [] ∨ bb = true) → ts.length < n → ∀ M', rX M' r n cap (ts ++ [sp]) [] → fr M M' r (r + 2 * n + 6) → Q (.inl none) M') (ht : (sp ≠ [] ∨ bb = true) → ts.length = n → mTh E 91 M Q) : mC E 30 [.ref r, .int (I (bI bb))] M Q := by
  have hl := h.len
  obtain ⟨⟨a1, a2, a3, a4, a5, a6, a7⟩, b2, b3, b4, b5, b6, b7⟩ := id h
  have go : (sp ≠ [] ∨ bb = true) → mX E 30 1 [some (.ref r), some (.int (I (bI bb)))] [] M Q := by
    intro hh
    refine w30_1 ⟨a1, fun c => ?_, fun _ => ⟨by rw [a2]; omega, by rw [a2]; exact a4, fun c M1 q1 => ?_, fun c => ht hh ?_⟩⟩
    · rw [b2, I_lt (by omega) (by omega) (by omega) (by omega)] at c; omega
    · rw [b2, a2, a5, I_nI, I_add, I_lt (by omega) (by omega) (by omega) (by omega)] at c
      have e1 : mi M1 r 2 = I ((ts.length + 1 : Nat) : Int) := by rw [q1, i_is, b2, I_add]; rfl
      rw [e1, a2, a5, I_ntn (by omega), a6 _ (by omega)]
      have hk : mkd M (r + 2 + 2 * (ts.length + 1)) = 101 := by
        obtain ⟨s, hs⟩ := b6 (ts.length + 1) (by omega) (by omega); exact hs.1
      refine ⟨I_in (by omega) (by omega) (by omega), by omega, hk, fun M2 q2 => ?_⟩
      have hM := h.cut (us := ts ++ [sp]) (by simp; omega) (fun i hi => by
        simp only [List.length_append, List.length_cons, List.length_nil] at hi
        by_cases q : i = ts.length
        · subst q; rw [List.getD_eq_getElem?_getD, List.getElem?_append_right (Nat.le_refl _)]; simpa using b5
        · rw [List.getD_eq_getElem?_getD, List.getElem?_append_left (by omega), ← List.getD_eq_getElem?_getD]; exact b4 i (by omega)) (M' := M2) (by
        rw [q2, q1, b2, I_add]; simp)
      exact hq hh (by omega) M2 hM.1 hM.2
    · rw [b2, a2, a5, I_nI, I_add, I_lt (by omega) (by omega) (by omega) (by omega)] at c; omega
  refine w30_0 ⟨a1, r_spare h ?_⟩
  refine ⟨b5.1, fun c => go ?_, fun c => ⟨fun d => go ?_, fun d => ?_⟩⟩
  · left; intro q; rw [q] at b5; exact c (by rw [b5.2.2.2.2.1]; rfl)
  · right; cases bb
    · exact absurd rfl d
    · rfl
  · have hs := b5.len
    rw [b5.2.2.2.2.1, I_eq (by omega) (by omega) (by omega) (by omega)] at c
    refine h0 (List.length_eq_zero_iff.mp (by omega)) ?_
    cases bb
    · rfl
    · exact absurd d (by decide)
theorem r_add {b cap' : Nat} {u : List Nat} (h : rX M r n cap ts sp) (g : tX M b cap' u) (hab : b + 2 ≤ r ∨ r + 2 * n + 6 ≤ b)
    (hq : u.length ≤ cap → ts.length < n → ∀ M', rX M' r n cap (ts ++ [u]) [] → fr M M' r (r + 2 * n + 6) → Q (.inl none) M')
    (ht : (cap < u.length ∨ ts.length = n) → ∀ M' sp', rX M' r n cap ts sp' → fr M M' r (r + 2 * n + 6) → mTh E 91 M' Q) : mC E 31 [.ref r, .ref b] M Q := by
  have hl := h.len
  refine w31_0 ⟨h.1.1, r_spare h ⟨h.2.2.2.2.1.1, t_become h.2.2.2.2.1 g (by unfold apart; omega) (fun hu M1 t1 f1 => ?_) (fun hu => ht (Or.inl hu) M sp h (fr.refl _ _ _))⟩⟩
  have h1 := h.spare f1 t1
  have f1' := f1.wide (l := r) (u := r + 2 * n + 6) (by omega) (by omega)
  refine ⟨h1.1.1, r_take (bb := true) h1 (fun _ q => absurd q (by decide)) (fun _ hn M2 h2 f2 => hq hu hn M2 h2 (f1'.then f2)) (fun _ hn => ht (Or.inr hn) M1 u h1 f1')⟩
theorem r_become_l {q : Nat} {sp' : List Nat} (hd : r + 2 * n + 6 ≤ q ∨ q + 2 * n + 6 ≤ r) (m : Nat) : ∀ (k : Nat) (M : mM), us.length - k ≤ m → k ≤ us.length → rX M r n cap (us.take k) [] → rX M q n cap us sp' → (∀ M', rX M' r n cap us [] → fr M M' r (r + 2 * n + 6) → Q (.inl none) M') → mX E 32 1 [some (.ref r), some (.ref q), some (.int (I k))] [] M Q := by
  induction m with
  | zero =>
    intro k M hm hk h g hq
    have hl := g.len
    refine w32_1 ⟨g.1.1, fun _ => ?_, fun c => ?_⟩
    · rw [List.take_of_length_le (by omega)] at h; exact hq M h (fr.refl _ _ _)
    · rw [g.2.1, I_le (by omega) (by omega) (by omega) (by omega)] at c; omega
  | succ m ih =>
    intro k M hm hk h g hq
    have hl := g.len
    refine w32_1 ⟨g.1.1, fun c => ?_, fun c => ?_⟩
    · rw [g.2.1, I_le (by omega) (by omega) (by omega) (by omega)] at c
      rw [List.take_of_length_le (by omega)] at h; exact hq M h (fr.refl _ _ _)
    · rw [g.2.1, I_le (by omega) (by omega) (by omega) (by omega)] at c
      refine r_at g (by omega) (by omega) (fun p cap' t p1 p2 p3 => ⟨h.1.1, r_add h t (by omega) (fun _ hn M1 h1 f1 => ?_) (fun hx => ?_)⟩)
      · rw [I_add]
        refine ih (k + 1) M1 (by omega) (by omega) ?_ (g.mv f1 (by omega)) (fun M' h' f' => hq M' h' (f1.then f'))
        have e : us.take k ++ [atL us k] = us.take (k + 1) := by
          unfold atL
          rw [if_pos (by omega), show ((k : Int).toNat) = k by omega, List.take_succ, List.getD_eq_getElem?_getD, List.getElem?_eq_getElem (show k < us.length by omega)]; rfl
        rw [← e]; exact h1
      · exfalso
        have := t.len
        rcases hx with hx | hx
        · omega
        · rw [List.length_take] at hx; omega
theorem r_become {q : Nat} {sp' : List Nat} (h : rX M r n cap ts sp) (g : rX M q n cap us sp') (hd : r + 2 * n + 6 ≤ q ∨ q + 2 * n + 6 ≤ r) (hq : ∀ M', rX M' r n cap us [] → fr M M' r (r + 2 * n + 6) → Q (.inl none) M') : mC E 32 [.ref r, .ref q] M Q := by
  refine w32_0 ⟨h.1.1, r_clear h (fun M1 h1 f1 => ?_)⟩
  exact r_become_l hd us.length 0 M1 (by omega) (by omega) h1 (g.mv f1 (by omega)) (fun M' h' f' => hq M' h' (f1.then f'))
end ROW
