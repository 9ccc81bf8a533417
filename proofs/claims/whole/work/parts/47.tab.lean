/-! TABLES. A table lies at t: the names' array at t + 1, the texts' at t + 2, texts in pairs from t + 3, none at t + 3 + 4 n; up to t + 4 n + 5 -/
abbrev eL : Type := List (List Nat × List Nat)
def tbS (M : mM) (t n : Nat) : Prop := mkd M t = 103 ∧ mr M t 0 = t + 1 ∧ mr M t 1 = t + 2 ∧ mr M t 2 = t + 3 + 4 * n ∧ mkd M (t + 1) = 5 ∧ mln M (t + 1) = n ∧ mkd M (t + 2) = 5 ∧ mln M (t + 2) = n ∧ n ≤ 100 ∧ tX M (t + 3 + 4 * n) 0 []
def tbA (M : mM) (t n : Nat) (σ : Nat → Nat) : Prop := ∀ i, i < n → mr M (t + 1) i = t + 3 + 4 * σ i ∧ mr M (t + 2) i = t + 5 + 4 * σ i
def tbP (n : Nat) (σ : Nat → Nat) : Prop := (∀ i, i < n → σ i < n) ∧ ∀ i j, i < n → j < n → σ i = σ j → i = j
def tbC (M : mM) (t n cn ct : Nat) (σ : Nat → Nat) (f : Nat → List Nat × List Nat) : Prop := ∀ i, i < n → tX M (t + 3 + 4 * σ i) cn (f i).1 ∧ tX M (t + 5 + 4 * σ i) ct (f i).2
def tbX (M : mM) (t n cn ct : Nat) (es : eL) : Prop := tbS M t n ∧ mi M t 3 = I es.length ∧ es.length ≤ n ∧ ∃ (σ : Nat → Nat) (f : Nat → List Nat × List Nat), tbA M t n σ ∧ tbP n σ ∧ tbC M t n cn ct σ f ∧ ∀ i, i < es.length → f i = es.getD i ([], [])
theorem tbS.mv {M M' : mM} {t n : Nat} (h : tbS M t n) (h0 : ceq M M' t) (h1 : ceq M M' (t + 1)) (h2 : ceq M M' (t + 2)) {lo hi : Nat} (f : fr M M' lo hi) (hd : t + 4 * n + 5 ≤ lo ∨ hi ≤ t + 4 * n + 3) : tbS M' t n := by
  obtain ⟨a1, a2, a3, a4, a5, a6, a7, a8, a9, a10⟩ := h
  exact ⟨by rw [h0.1, a1], by rw [h0.2.2.2.1, a2], by rw [h0.2.2.2.1, a3], by rw [h0.2.2.2.1, a4], by rw [h1.1, a5], by rw [h1.2.1, a6], by rw [h2.1, a7], by rw [h2.2.1, a8], a9, a10.mv f (by omega)⟩
theorem tbX.mv {M M' : mM} {t n cn ct : Nat} {es : eL} {lo hi : Nat} (h : tbX M t n cn ct es) (f : fr M M' lo hi) (hd : t + 4 * n + 5 ≤ lo ∨ hi ≤ t) : tbX M' t n cn ct es := by
  obtain ⟨a1, a2, a3, σ, g, b1, b2, b3, b4⟩ := h
  have hn := a1.2.2.2.2.2.2.2.2.1
  refine ⟨a1.mv (f.2.2 _ (by omega)) (f.2.2 _ (by omega)) (f.2.2 _ (by omega)) f (by omega), by rw [(f.2.2 t (by omega)).2.2.1, a2], a3, σ, g, fun i hi => ?_, b2, fun i hi => ?_, b4⟩
  · rw [(f.2.2 (t + 1) (by omega)).2.2.2.1, (f.2.2 (t + 2) (by omega)).2.2.2.1]; exact b1 i hi
  · have := b2.1 i hi
    exact ⟨(b3 i hi).1.mv f (by omega), (b3 i hi).2.mv f (by omega)⟩
theorem tbX.len {M : mM} {t n cn ct : Nat} {es : eL} (h : tbX M t n cn ct es) : es.length ≤ n ∧ n ≤ 100 := ⟨h.2.2.1, h.1.2.2.2.2.2.2.2.2.1⟩
/-- the name and the text at k; nothing where there is none -/
def nmL (es : eL) (k : Int) : List Nat := if 0 ≤ k then (es.getD k.toNat ([], [])).1 else []
def txL (es : eL) (k : Int) : List Nat := if 0 ≤ k then (es.getD k.toNat ([], [])).2 else []
theorem nmL_out {es : eL} {k : Int} (h : k < 0 ∨ es.length ≤ k) : nmL es k = [] := by
  unfold nmL; split
  · rw [List.getD_eq_getElem?_getD, List.getElem?_eq_none (by omega)]; rfl
  · rfl
theorem txL_out {es : eL} {k : Int} (h : k < 0 ∨ es.length ≤ k) : txL es k = [] := by
  unfold txL; split
  · rw [List.getD_eq_getElem?_getD, List.getElem?_eq_none (by omega)]; rfl
  · rfl
/-- where the name stands; -1 when it is not there -/
def fdT : eL → List Nat → Nat → Int
  | [], _, _ => -1
  | e :: es, nm, k => if e.1 = nm then (k : Int) else fdT es nm (k + 1)
theorem fdT_r : ∀ (es : eL) (nm : List Nat) (k : Nat), fdT es nm k = -1 ∨ (k ≤ fdT es nm k ∧ fdT es nm k < k + es.length)
  | [], nm, k => Or.inl rfl
  | e :: es, nm, k => by
    unfold fdT
    split
    · right; simp only [List.length_cons]; omega
    · rcases fdT_r es nm (k + 1) with h | h
      · exact Or.inl h
      · right; simp only [List.length_cons]; omega
/-- where a name goes in, looked for from k down -/
def slT (es : eL) (nm : List Nat) : Nat → Nat
  | 0 => 0
  | k + 1 => if 0 < ordS (es.getD k ([], [])).1 nm then slT es nm k else k + 1
theorem slT_le (es : eL) (nm : List Nat) : ∀ k, slT es nm k ≤ k
  | 0 => Nat.le_refl 0
  | k + 1 => by unfold slT; have := slT_le es nm k; split <;> omega
def insT (es : eL) (nm tx : List Nat) : eL := es.take (slT es nm es.length) ++ (nm, tx) :: es.drop (slT es nm es.length)
theorem getD_ins {α : Type} {l : List α} {k : Nat} (hk : k ≤ l.length) (x d : α) (i : Nat) : (l.take k ++ x :: l.drop k).getD i d = if i < k then l.getD i d else if i = k then x else l.getD (i - 1) d := by
  simp only [List.getD_eq_getElem?_getD]
  by_cases h1 : i < k
  · rw [if_pos h1, List.getElem?_append_left (by rw [List.length_take]; omega), List.getElem?_take_of_lt h1]
  · rw [if_neg h1, List.getElem?_append_right (by rw [List.length_take]; omega), List.length_take, show min k l.length = k by omega]
    by_cases h2 : i = k
    · rw [if_pos h2, show i - k = 0 by omega]; rfl
    · rw [if_neg h2, show i - k = (i - k - 1) + 1 by omega, List.getElem?_cons_succ, List.getElem?_drop, show k + (i - k - 1) = i - 1 by omega]
theorem getD_del {α : Type} {l : List α} {k : Nat} (d : α) (i : Nat) : (l.eraseIdx k).getD i d = if i < k then l.getD i d else l.getD (i + 1) d := by
  simp only [List.getD_eq_getElem?_getD, List.getElem?_eraseIdx]
  split <;> rfl
section TAB
variable {E : mE} {M : mM} {Q : mQ} {t n cn ct : Nat} {es : eL}
theorem tb_size (h : tbX M t n cn ct es) (hq : Q (.inl (some (.int (I es.length)))) M) : mC E 34 [.ref t] M Q := by
  refine w34_0 ⟨h.1.1, ?_⟩
  rw [h.2.1]; exact hq
theorem tb_nameAt {k : Int} (h : tbX M t n cn ct es) (h1 : -2147483648 ≤ k) (h2 : k < 2147483648) (hq : ∀ p cap', tX M p cap' (nmL es k) → t + 3 ≤ p → p + 2 ≤ t + 4 * n + 5 → cap' ≤ cn → Q (.inl (some (.ref p))) M) : mC E 35 [.ref t, .int (I k)] M Q := by
  have hl := h.len
  obtain ⟨⟨a1, a2, a3, a4, a5, a6, a7, a8, a9, a10⟩, b2, b3, σ, f, c1, c2, c3, c4⟩ := id h
  have none' : (k < 0 ∨ es.length ≤ k) → ¬ mr M t 2 = 0 ∧ Q (.inl (some (.ref (mr M t 2)))) M := by
    intro hk
    rw [a4]
    refine ⟨by omega, hq _ 0 ?_ (by omega) (by omega) (by omega)⟩
    rw [nmL_out hk]; exact a10
  refine w35_0 ⟨fun c => ⟨a1, ?_⟩, fun c => ⟨a1, fun d => ?_, fun d => ⟨by rw [a2]; omega, by rw [a2]; exact a5, fun e => ?_, fun e => ?_⟩⟩⟩
  · rw [I_lt h1 h2 (by omega) (by omega)] at c; exact none' (by omega)
  · rw [b2, I_le (by omega) (by omega) h1 h2] at d; exact none' (by omega)
  · rw [a2, a6, I_nI, I_le (by omega) (by omega) h1 h2] at e; exact none' (by omega)
  · rw [I_lt h1 h2 (by omega) (by omega)] at c
    rw [b2, I_le (by omega) (by omega) h1 h2] at d
    have s1 := c2.1 k.toNat (by omega)
    rw [a2, a6, I_nt (by omega) h2, (c1 _ (by omega)).1]
    refine ⟨I_in (by omega) (by omega) h2, by omega, hq _ cn ?_ (by omega) (by omega) (Nat.le_refl _)⟩
    unfold nmL; rw [if_pos (by omega), ← c4 _ (by omega)]
    exact (c3 _ (by omega)).1
/-- one text has changed -/
theorem tbX.set (h : tbX M t n cn ct es) {σ : Nat → Nat} {f : Nat → List Nat × List Nat} (c1 : tbA M t n σ) (c2 : tbP n σ) (c3 : tbC M t n cn ct σ f) (c4 : ∀ i, i < es.length → f i = es.getD i ([], [])) {j : Nat} (hj : j < es.length) {M' : mM} {s' : List Nat} (ht : tX M' (t + 5 + 4 * σ j) ct s') (hf : fr M M' (t + 5 + 4 * σ j) (t + 5 + 4 * σ j + 2)) : tbX M' t n cn ct (es.set j ((es.getD j ([], [])).1, s')) := by
  have hl := h.len
  have sj := c2.1 j (by omega)
  obtain ⟨a1, b2, b3, -⟩ := id h
  refine ⟨a1.mv (hf.2.2 _ (by omega)) (hf.2.2 _ (by omega)) (hf.2.2 _ (by omega)) hf (by omega), by rw [(hf.2.2 t (by omega)).2.2.1, b2, List.length_set], by rw [List.length_set]; exact b3, σ, fun i => if i = j then ((f j).1, s') else f i, fun i hi => ?_, c2, fun i hi => ?_, fun i hi => ?_⟩
  · rw [(hf.2.2 (t + 1) (by omega)).2.2.2.1, (hf.2.2 (t + 2) (by omega)).2.2.2.1]; exact c1 i hi
  · have si := c2.1 i hi
    by_cases q : i = j
    · subst q; simp only [if_pos]; exact ⟨(c3 i hi).1.mv hf (by omega), ht⟩
    · simp only [if_neg q]
      have : σ i ≠ σ j := fun e => q (c2.2 i j hi (by omega) e)
      exact ⟨(c3 i hi).1.mv hf (by omega), (c3 i hi).2.mv hf (by omega)⟩
  · rw [List.length_set] at hi
    rw [List.getD_eq_getElem?_getD, List.getElem?_set]
    by_cases q : i = j
    · subst q; simp only [if_pos, hi]; rw [c4 i hi]; rfl
    · simp only [if_neg q, if_neg (fun e : j = i => q e.symm)]; rw [c4 i hi, List.getD_eq_getElem?_getD]
theorem tb_textAt {k : Int} (h : tbX M t n cn ct es) (h1 : -2147483648 ≤ k) (h2 : k < 2147483648) (hq : ∀ p cap', tX M p cap' (txL es k) → t + 3 ≤ p → p + 2 ≤ t + 4 * n + 5 → cap' ≤ ct → (0 ≤ k → k < es.length → cap' = ct ∧ ∀ M' s', tX M' p ct s' → fr M M' p (p + 2) → tbX M' t n cn ct (es.set k.toNat ((es.getD k.toNat ([], [])).1, s'))) → Q (.inl (some (.ref p))) M) : mC E 36 [.ref t, .int (I k)] M Q := by
  have hl := h.len
  obtain ⟨⟨a1, a2, a3, a4, a5, a6, a7, a8, a9, a10⟩, b2, b3, σ, f, c1, c2, c3, c4⟩ := id h
  have none' : (k < 0 ∨ es.length ≤ k) → ¬ mr M t 2 = 0 ∧ Q (.inl (some (.ref (mr M t 2)))) M := by
    intro hk
    rw [a4]
    refine ⟨by omega, hq _ 0 ?_ (by omega) (by omega) (by omega) (fun _ _ => by omega)⟩
    rw [txL_out hk]; exact a10
  refine w36_0 ⟨fun c => ⟨a1, ?_⟩, fun c => ⟨a1, fun d => ?_, fun d => ⟨by rw [a3]; omega, by rw [a3]; exact a7, fun e => ?_, fun e => ?_⟩⟩⟩
  · rw [I_lt h1 h2 (by omega) (by omega)] at c; exact none' (by omega)
  · rw [b2, I_le (by omega) (by omega) h1 h2] at d; exact none' (by omega)
  · rw [a3, a8, I_nI, I_le (by omega) (by omega) h1 h2] at e; exact none' (by omega)
  · rw [I_lt h1 h2 (by omega) (by omega)] at c
    rw [b2, I_le (by omega) (by omega) h1 h2] at d
    have s1 := c2.1 k.toNat (by omega)
    rw [a3, a8, I_nt (by omega) h2, (c1 _ (by omega)).2]
    refine ⟨I_in (by omega) (by omega) h2, by omega, hq _ ct ?_ (by omega) (by omega) (Nat.le_refl _) (fun _ _ => ⟨rfl, fun M' s' g1 g2 => h.set c1 c2 c3 c4 (by omega) g1 g2⟩)⟩
    unfold txL; rw [if_pos (by omega), ← c4 _ (by omega)]
    exact (c3 _ (by omega)).2
theorem tb_find_l {b cap : Nat} {u : List Nat} (h : tbX M t n cn ct es) (g : tX M b cap u) (m : Nat) : ∀ (k : Nat), es.length - k ≤ m → k ≤ es.length → Q (.inl (some (.int (I (fdT (es.drop k) u k))))) M →
    mX E 37 1 [some (.ref t), some (.ref b), some (.int (I k))] [] M Q := by
  have hl := h.len
  obtain ⟨⟨a1, a2, a3, a4, a5, a6, a7, a8, a9, a10⟩, b2, b3, σ, f, c1, c2, c3, c4⟩ := id h
  induction m with
  | zero =>
    intro k hm hk hq
    rw [List.drop_eq_nil_of_le (by omega)] at hq
    refine w37_1 ⟨a1, fun _ => hq, fun c => ?_⟩
    rw [b2, I_le (by omega) (by omega) (by omega) (by omega)] at c; omega
  | succ m ih =>
    intro k hm hk hq
    refine w37_1 ⟨a1, fun c => ?_, fun c => ⟨by rw [a2]; omega, by rw [a2]; exact a5, fun d => ?_, fun d => ?_⟩⟩
    · rw [b2, I_le (by omega) (by omega) (by omega) (by omega)] at c
      rw [List.drop_eq_nil_of_le (by omega)] at hq; exact hq
    · rw [b2, I_le (by omega) (by omega) (by omega) (by omega)] at c
      rw [a2, a6, I_nI, I_le (by omega) (by omega) (by omega) (by omega)] at d; omega
    · rw [b2, I_le (by omega) (by omega) (by omega) (by omega)] at c
      have s1 := c2.1 k (by omega)
      have t1 := (c3 k (by omega)).1
      rw [a2, a6, I_ntn (by omega), (c1 _ (by omega)).1]
      refine ⟨I_in (by omega) (by omega) (by omega), by omega, t1.1, t_order t1 g ?_⟩
      have l1 := t1.len
      have l2 := g.len
      have bd := ordS_bd (f k).1 u t1.2.2.2.2.2.2.2.2 g.2.2.2.2.2.2.2.2 (by omega) (by omega)
      have e : es.drop k = f k :: es.drop (k + 1) := by
        rw [c4 k (by omega), List.getD_eq_getElem?_getD, List.getElem?_eq_getElem (show k < es.length by omega)]
        exact List.drop_eq_getElem_cons (by omega)
      rw [e] at hq
      unfold fdT at hq
      refine ⟨fun q => ?_, fun q => ?_⟩
      · rw [I_eq (by omega) (by omega) (by omega) (by omega), ordS_0] at q
        rw [if_neg q] at hq
        rw [I_add]; exact ih (k + 1) (by omega) (by omega) hq
      · rw [I_eq (by omega) (by omega) (by omega) (by omega), ordS_0] at q
        rw [if_pos q] at hq; exact hq
theorem tb_find {b cap : Nat} {u : List Nat} (h : tbX M t n cn ct es) (g : tX M b cap u) (hq : Q (.inl (some (.int (I (fdT es u 0))))) M) : mC E 37 [.ref t, .ref b] M Q :=
  w37_0 (tb_find_l h g es.length 0 (by omega) (by omega) hq)
/-- the places of an entry's texts, permuted -/
theorem tbP.perm {σ π : Nat → Nat} (h : tbP n σ) (h1 : ∀ i, i < n → π i < n) (h2 : ∀ i j, i < n → j < n → π i = π j → i = j) : tbP n (fun i => σ (π i)) :=
  ⟨fun i hi => h.1 _ (h1 i hi), fun i j hi hj e => h2 i j hi hj (h.2 _ _ (h1 i hi) (h1 j hj) e)⟩
/-- within open: entries from k up to z have gone one place on -/
def shU (k z i : Nat) : Nat := if k < i ∧ i ≤ z then i - 1 else i
/-- within open: what stands at the end -/
def shE (k z i : Nat) : Nat := if i = k then z else shU k z i
theorem tb_open_e {b z k : Nat} {σ : Nat → Nat} {f : Nat → List Nat × List Nat} (hk : k ≤ z) (hz : z < n) (a : tbS M t n) (b2 : mi M t 3 = I z) (c1 : tbA M t n (fun i => σ (shU k z i))) (c2 : tbP n σ) (c3 : tbC M t n cn ct σ f) (hq : ∀ M', tbS M' t n → mi M' t 3 = I (z + 1 : Nat) → tbA M' t n (fun i => σ (shE k z i)) → tbC M' t n cn ct σ f → fr M M' t (t + 3) → Q (.inl none) M') :
    mX E 38 5 [some (.ref t), some (.ref b), some (.ref (t + 3 + 4 * σ z)), some (.ref (t + 5 + 4 * σ z)), some (.int (I k))] [] M Q := by
  obtain ⟨a1, a2, a3, a4, a5, a6, a7, a8, a9, a10⟩ := id a
  have sz := c2.1 z hz
  refine w38_5 ⟨a1, by rw [a2]; omega, by rw [a2]; exact a5, by rw [a2, a6]; exact I_in (by omega) (by omega) (by omega), (c3 z hz).1.1, fun M1 q1 => ?_⟩
  rw [a2, I_ntn (by omega)] at q1
  have r1 : mr M1 t 1 = t + 2 := by rw [q1, r_ra (by omega), a3]
  rw [r1]
  refine ⟨by omega, a7, by rw [a8]; exact I_in (by omega) (by omega) (by omega), (c3 z hz).2.1, fun M2 q2 M3 q3 => ?_⟩
  rw [I_ntn (by omega)] at q2
  rw [b2, I_add] at q3
  have hf : fr M M3 t (t + 3) := by
    have f1 : fr M M1 t (t + 3) := by rw [q1]; exact fr_r (by omega) (by omega)
    have f2 : fr M1 M2 t (t + 3) := by rw [q2]; exact fr_r (by omega) (by omega)
    have f3 : fr M2 M3 t (t + 3) := by rw [q3]; exact fr_i (by omega) (by omega)
    exact (f1.then f2).then f3
  have rr : ∀ x i, mr M3 x i = mr (msr (msr M (t + 1) k (t + 3 + 4 * σ z)) (t + 2) k (t + 5 + 4 * σ z)) x i := fun x i => by rw [q3, r_i, q2, q1]
  have kk : ∀ x, mkd M3 x = mkd M x := fun x => by rw [q3, kd_i, q2, kd_r, q1, kd_r]
  have ll : ∀ x, mln M3 x = mln M x := fun x => by rw [q3, ln_i, q2, ln_r, q1, ln_r]
  refine hq M3 ⟨by rw [kk, a1], ?_, ?_, ?_, by rw [kk, a5], by rw [ll, a6], by rw [kk, a7], by rw [ll, a8], a9, a10.mv hf (by omega)⟩ (by rw [q3, i_is]; rfl) (fun i hi => ?_) (fun i hi => ?_) hf
  · rw [rr, r_ra (by omega), r_ra (by omega), a2]
  · rw [rr, r_ra (by omega), r_ra (by omega), a3]
  · rw [rr, r_ra (by omega), r_ra (by omega), a4]
  · rw [rr, rr, r_ra (show ¬ t + 1 = t + 2 by omega)]
    by_cases q : i = k
    · subst q; rw [r_rs, r_rs]; simp [shE]
    · rw [r_rk q, r_rk q, r_ra (show ¬ t + 2 = t + 1 by omega)]; simp only [shE, if_neg q]; exact c1 i hi
  · have := c2.1 i hi
    exact ⟨(c3 i hi).1.mv hf (by omega), (c3 i hi).2.mv hf (by omega)⟩
theorem tb_open_l {b z cap : Nat} {u : List Nat} {σ : Nat → Nat} {f : Nat → List Nat × List Nat} (hz : z < n) (hzl : z = es.length) (c2 : tbP n σ) (c4 : ∀ i, i < es.length → f i = es.getD i ([], [])) (hb : b + 2 ≤ t ∨ t + 4 * n + 5 ≤ b) (k : Nat) : ∀ (M : mM), k ≤ z → tbS M t n → mi M t 3 = I z → tbA M t n (fun i => σ (shU k z i)) → tbC M t n cn ct σ f → tX M b cap u → (∀ M', tbS M' t n → mi M' t 3 = I (z + 1 : Nat) → tbA M' t n (fun i => σ (shE (slT es u k) z i)) → tbC M' t n cn ct σ f → fr M M' t (t + 3) → Q (.inl none) M') →
    mX E 38 4 [some (.ref t), some (.ref b), some (.ref (t + 3 + 4 * σ z)), some (.ref (t + 5 + 4 * σ z)), some (.int (I k))] [] M Q := by
  induction k with
  | zero =>
    intro M hk a b2 c1 c3 g hq
    refine w38_4 ⟨fun _ => tb_open_e hk hz a b2 c1 c2 c3 hq, fun c => absurd (by rw [I_le (by omega) (by omega) (by omega) (by omega)]; omega) c⟩
  | succ k ih =>
    intro M hk a b2 c1 c3 g hq
    obtain ⟨a1, a2, a3, a4, a5, a6, a7, a8, a9, a10⟩ := id a
    have i1 : shU (k + 1) z k = k := by unfold shU; rw [if_neg (by omega)]
    have s1 := c2.1 k (by omega)
    have t1 := c3 k (by omega)
    have p1 := c1 k (by omega)
    simp only [i1] at p1
    have e0 : I ((k + 1 : Nat) : Int) - I 1 = I (k : Int) := by rw [I_sub]; congr 1; omega
    refine w38_4 ⟨fun c => ?_, fun _ => ⟨a1, by rw [a2]; omega, by rw [a2]; exact a5, ?_⟩⟩
    · rw [I_le (by omega) (by omega) (by omega) (by omega)] at c; omega
    · rw [e0, a2, a6, I_ntn (by omega), p1.1]
      refine ⟨I_in (by omega) (by omega) (by omega), by omega, t1.1.1, t_order t1.1 g ?_⟩
      have l1 := t1.1.len
      have l2 := g.len
      have bd := ordS_bd (f k).1 u t1.1.2.2.2.2.2.2.2.2 g.2.2.2.2.2.2.2.2 (by omega) (by omega)
      rw [c4 k (by omega)] at bd ⊢
      unfold slT at hq
      refine ⟨fun c => ?_, fun c => ⟨a1, by rw [a2]; omega, by rw [a2]; exact a5, ?_⟩⟩
      · rw [I_le (by omega) (by omega) (by omega) (by omega)] at c
        rw [if_neg (by omega)] at hq
        exact tb_open_e hk hz a b2 c1 c2 c3 hq
      · rw [I_le (by omega) (by omega) (by omega) (by omega)] at c
        rw [if_pos (by omega)] at hq
        rw [a2, a6, I_ntn (by omega), p1.1]
        refine ⟨I_in (by omega) (by omega) (by omega), by omega, I_in (by omega) (by omega) (by omega), t1.1.1, fun M6 q6 => ?_⟩
        have r6 : mr M6 t 1 = t + 2 := by rw [q6, r_ra (by omega), a3]
        have r7 : mr M6 (t + 2) k = t + 5 + 4 * σ k := by rw [q6, r_ra (by omega), p1.2]
        rw [r6, r7, a8]
        refine ⟨by omega, a7, I_in (by omega) (by omega) (by omega), by omega, I_in (by omega) (by omega) (by omega), t1.2.1, fun M7 q7 => ?_⟩
        have hf : fr M M7 t (t + 3) := by
          have f1 : fr M M6 t (t + 3) := by rw [q6]; exact fr_r (by omega) (by omega)
          have f2 : fr M6 M7 t (t + 3) := by rw [q7]; exact fr_r (by omega) (by omega)
          exact f1.then f2
        have kk : ∀ x, mkd M7 x = mkd M x := fun x => by rw [q7, kd_r, q6, kd_r]
        have ll : ∀ x, mln M7 x = mln M x := fun x => by rw [q7, ln_r, q6, ln_r]
        have rr : ∀ x i, mr M7 x i = mr (msr (msr M (t + 1) (k + 1) (t + 3 + 4 * σ k)) (t + 2) (k + 1) (t + 5 + 4 * σ k)) x i := fun x i => by rw [q7, q6]
        rw [I_add, show ((k + 1 : Nat) : Int) + -1 = (k : Int) by omega]
        refine ih M7 (by omega) ⟨by rw [kk, a1], ?_, ?_, ?_, by rw [kk, a5], by rw [ll, a6], by rw [kk, a7], by rw [ll, a8], a9, a10.mv hf (by omega)⟩ (by rw [q7, i_r, q6, i_r, b2]) (fun i hi => ?_) (fun i hi => ?_) (g.mv hf (by omega)) (fun M' g1 g2 g3 g4 g5 => hq M' g1 g2 g3 g4 (hf.then g5))
        · rw [rr, r_ra (by omega), r_ra (by omega), a2]
        · rw [rr, r_ra (by omega), r_ra (by omega), a3]
        · rw [rr, r_ra (by omega), r_ra (by omega), a4]
        · rw [rr, rr, r_ra (show ¬ t + 1 = t + 2 by omega)]
          by_cases q : i = k + 1
          · subst q; rw [r_rs, r_rs]
            have : shU k z (k + 1) = k := by unfold shU; rw [if_pos (by omega)]; omega
            simp [this]
          · rw [r_rk q, r_rk q, r_ra (show ¬ t + 2 = t + 1 by omega)]
            have : shU k z i = shU (k + 1) z i := by unfold shU; split <;> split <;> omega
            simp only [this]; exact c1 i hi
        · have := c2.1 i hi
          exact ⟨(c3 i hi).1.mv hf (by omega), (c3 i hi).2.mv hf (by omega)⟩
theorem tb_open {b cap : Nat} {u : List Nat} (h : tbX M t n cn ct es) (g : tX M b cap u) (hb : b + 2 ≤ t ∨ t + 4 * n + 5 ≤ b)
    (h0 : 0 ≤ fdT es u 0 → Q (.inl none) M)
    (hq : fdT es u 0 < 0 → es.length < n → u.length ≤ cn → ∀ M', tbX M' t n cn ct (insT es u []) → fr M M' t (t + 4 * n + 5) → Q (.inl none) M')
    (ht : fdT es u 0 < 0 → (es.length = n ∨ cn < u.length) → mTh E 91 M Q) : mC E 38 [.ref t, .ref b] M Q := by
  have hl := h.len
  obtain ⟨⟨a1, a2, a3, a4, a5, a6, a7, a8, a9, a10⟩, b2, b3, σ, f, c1, c2, c3, c4⟩ := id h
  have fb := fdT_r es u 0
  refine w38_0 ⟨a1, tb_find h g ⟨fun c => ⟨a1, fun d => ?_, fun _ => ⟨by rw [a2]; omega, by rw [a2]; exact a5, fun d => ht ?_ ?_, fun d => ⟨by rw [a3]; omega, by rw [a3]; exact a7, fun _ => ?_, fun d => ht ?_ ?_⟩⟩⟩, fun c => h0 ?_⟩⟩
  · rw [b2, I_lt (by omega) (by omega) (by omega) (by omega)] at d; omega
  · rw [I_lt (by omega) (by omega) (by omega) (by omega)] at c; exact c
  · rw [a2, a6, b2, I_nI, I_le (by omega) (by omega) (by omega) (by omega)] at d; omega
  · rw [I_lt (by omega) (by omega) (by omega) (by omega)] at c
    rw [a2, a6, b2, I_nI, I_le (by omega) (by omega) (by omega) (by omega)] at d
    have hz : es.length < n := by omega
    have sz := c2.1 _ hz
    rw [a2, a3, a6, a8, b2, I_ntn (by omega), (c1 _ hz).1, (c1 _ hz).2]
    have tz := c3 _ hz
    refine ⟨I_in (by omega) (by omega) (by omega), by omega, I_in (by omega) (by omega) (by omega), by omega, tz.1.1, t_become tz.1 g (by unfold apart; omega) (fun hu M1 t1 f1 => ?_) (fun hu => ht c (Or.inr hu))⟩
    have tz2 := tz.2.mv f1 (by omega)
    refine ⟨tz2.1, fun M2 q2 => ⟨by rw [(f1.2.2 t (by omega)).1, a1], ?_⟩⟩
    have f2 : fr M1 M2 (t + 5 + 4 * σ es.length) (t + 5 + 4 * σ es.length + 1) := by rw [q2]; exact fr_i (by omega) (by omega)
    have f12 : fr M M2 (t + 3) (t + 4 * n + 3) := f1.trans f2 (by omega) (by omega) (by omega) (by omega)
    rw [(f12.2.2 t (by omega)).2.2.1, b2]
    have sh0 : ∀ i, shU es.length es.length i = i := fun i => by unfold shU; rw [if_neg (by omega)]
    refine tb_open_l (cn := cn) (ct := ct) (f := fun i => if i = es.length then (u, []) else f i) hz rfl c2 (fun i hi => ?_) hb es.length M2 (Nat.le_refl _) (h.1.mv (f12.2.2 _ (by omega)) (f12.2.2 _ (by omega)) (f12.2.2 _ (by omega)) f12 (by omega)) (by rw [(f12.2.2 t (by omega)).2.2.1, b2]) (fun i hi => ?_) (fun i hi => ?_) (g.mv f12 (by omega)) (fun M' g1 g2 g3 g4 g5 => ?_)
    · simp only [if_neg (show ¬ i = es.length by omega)]; exact c4 i hi
    · simp only [sh0]
      rw [(f12.2.2 (t + 1) (by omega)).2.2.2.1, (f12.2.2 (t + 2) (by omega)).2.2.2.1]; exact c1 i hi
    · have si := c2.1 i hi
      by_cases q : i = es.length
      · subst q; simp only [if_pos]
        refine ⟨t1.mv f2 (by omega), ?_⟩
        obtain ⟨e1, e2, e3, e4, e5, e6, e7, e8, e9⟩ := tz2
        rw [q2]
        exact ⟨e1, e2, e3, e4, i_is, Nat.zero_le _, e7, fun k hk => absurd hk (Nat.not_lt_zero k), fun c hc => absurd hc List.not_mem_nil⟩
      · simp only [if_neg q]
        have : σ i ≠ σ es.length := fun e => q (c2.2 i _ hi hz e)
        exact ⟨((c3 i hi).1.mv f1 (by omega)).mv f2 (by omega), ((c3 i hi).2.mv f1 (by omega)).mv f2 (by omega)⟩
    · have hs := slT_le es u es.length
      have le : (insT es u []).length = es.length + 1 := by unfold insT; simp; omega
      refine hq c hz hu M' ⟨g1, by rw [le]; exact g2, by rw [le]; omega, _, _, g3, c2.perm (fun i hi => ?_) (fun i j hi hj e => ?_), fun i hi => g4 (shE (slT es u es.length) es.length i) ?_, fun i hi => ?_⟩ (f12.trans g5 (by omega) (by omega) (by omega) (by omega))
      · unfold shE shU; split
        · omega
        · split <;> omega
      · revert e; unfold shE shU; split <;> split <;> (try split) <;> (try split) <;> omega
      · unfold shE shU; split
        · omega
        · split <;> omega
      · rw [le] at hi
        unfold insT
        rw [getD_ins hs]
        unfold shE shU
        by_cases q1 : i = slT es u es.length
        · rw [if_pos q1]; simp only [if_pos]; rw [if_neg (by omega), if_pos q1]
        · rw [if_neg q1]
          by_cases q2 : i < slT es u es.length
          · rw [if_neg (show ¬ (slT es u es.length < i ∧ i ≤ es.length) by omega), if_pos q2]; simp only [if_neg (show ¬ i = es.length by omega)]; exact c4 i (by omega)
          · rw [if_pos (show (slT es u es.length < i ∧ i ≤ es.length) by omega), if_neg q2, if_neg q1]; simp only [if_neg (show ¬ i - 1 = es.length by omega)]; exact c4 (i - 1) (by omega)
  · rw [I_lt (by omega) (by omega) (by omega) (by omega)] at c; exact c
  · rw [a3, a8, b2, I_nI, I_lt (by omega) (by omega) (by omega) (by omega)] at d; omega
  · rw [I_lt (by omega) (by omega) (by omega) (by omega)] at c; omega
end TAB
