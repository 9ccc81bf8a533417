/-! SHEETS. A sheet lies at a, its cells at a + 1: room for n rows of five numbers -/
def shX (M : mM) (a n : Nat) (rs : List (List Nat)) : Prop := mkd M a = 104 ∧ mr M a 0 = a + 1 ∧ mkd M (a + 1) = 1 ∧ mln M (a + 1) = n * 5 ∧ mi M a 1 = I rs.length ∧ rs.length ≤ n ∧ n ≤ 240 ∧ (∀ i, i < rs.length → ∀ c, c < 5 → mi M (a + 1) (i * 5 + c) = I ((rs.getD i []).getD c 0)) ∧ ∀ r ∈ rs, ∀ x ∈ r, x < 100000
/-- the number in row k, column c; 0 where there is none -/
def shL (rs : List (List Nat)) (k : Int) (c : Nat) : Nat := if 0 ≤ k then (rs.getD k.toNat []).getD c 0 else 0
theorem shL_out {rs : List (List Nat)} {k : Int} {c : Nat} (h : k < 0 ∨ rs.length ≤ k) : shL rs k c = 0 := by
  unfold shL; split
  · rw [List.getD_eq_getElem?_getD (l := rs), List.getElem?_eq_none (by omega)]; simp
  · rfl
theorem shL_lt {rs : List (List Nat)} (h : ∀ r ∈ rs, ∀ x ∈ r, x < 100000) (k : Int) (c : Nat) : shL rs k c < 100000 := by
  unfold shL; split
  · refine getD_lt (fun x hx => ?_) (by omega) c
    rw [List.getD_eq_getElem?_getD] at hx
    cases q : rs[k.toNat]? with
    | none => rw [q] at hx; simp at hx
    | some r => rw [q] at hx; exact h r (List.mem_of_getElem? q) x hx
  · omega
theorem shX.mv {M M' : mM} {a n : Nat} {rs : List (List Nat)} {lo hi : Nat} (h : shX M a n rs) (f : fr M M' lo hi) (hd : a + 2 ≤ lo ∨ hi ≤ a) : shX M' a n rs := by
  obtain ⟨c1, c2, c3, c4, c5⟩ := f.2.2 a (by omega)
  obtain ⟨d1, d2, d3, d4, d5⟩ := f.2.2 (a + 1) (by omega)
  obtain ⟨h1, h2, h3, h4, h5, h6, h7, h8, h9⟩ := h
  exact ⟨by rw [c1, h1], by rw [c4, h2], by rw [d1, h3], by rw [d2, h4], by rw [c3, h5], h6, h7, fun i hi c hc => by rw [d3, h8 i hi c hc], h9⟩
section SHE
variable {E : mE} {M : mM} {Q : mQ} {a n : Nat} {rs : List (List Nat)}
theorem shX.len (h : shX M a n rs) : rs.length ≤ n ∧ n ≤ 240 := ⟨h.2.2.2.2.2.1, h.2.2.2.2.2.2.1⟩
theorem sh_size (h : shX M a n rs) (hq : Q (.inl (some (.int (I rs.length)))) M) : mC E 42 [.ref a] M Q := by
  refine w42_0 ⟨h.1, ?_⟩
  rw [h.2.2.2.2.1]; exact hq
theorem sh_clear (h : shX M a n rs) (hq : ∀ M', shX M' a n [] → fr M M' a (a + 2) → Q (.inl none) M') : mC E 43 [.ref a] M Q := by
  obtain ⟨e1, e2, e3, e4, e5, e6, e7, e8, e9⟩ := h
  refine w43_0 ⟨e1, fun M1 q1 => ?_⟩
  subst q1
  exact hq _ ⟨e1, e2, e3, e4, i_is, Nat.zero_le _, e7, fun k hk => absurd hk (Nat.not_lt_zero k), fun c hc => absurd hc List.not_mem_nil⟩ (fr_i (by omega) (by omega))
theorem sh_at {k : Int} {c : Nat} (h : shX M a n rs) (hc : c < 5) (h1 : -2147483648 ≤ k) (h2 : k < 2147483648) (hq : Q (.inl (some (.int (I (shL rs k c : Nat))))) M) : mC E 44 [.ref a, .int (I k), .int (I c)] M Q := by
  have hl := h.len
  obtain ⟨e1, e2, e3, e4, e5, e6, e7, e8, e9⟩ := id h
  have no : (k < 0 ∨ rs.length ≤ k) → mX E 44 1 [some (.ref a), some (.int (I k)), some (.int (I c)), none] [] M Q := by
    intro hk
    rw [shL_out hk] at hq
    exact w44_1 (w44_2 ⟨fun _ => hq, fun q => absurd rfl q⟩)
  refine w44_0 ⟨fun q => no ?_, fun q => ⟨e1, fun r => no ?_, fun r => ⟨fun u => ?_, fun _ => ⟨fun u => ?_, fun _ => w44_2 ⟨fun u => absurd u (by decide), fun _ => ⟨e1, by rw [e2]; omega, by rw [e2]; exact e3, ?_⟩⟩⟩⟩⟩⟩
  · rw [I_lt h1 h2 (by omega) (by omega)] at q; omega
  · rw [e5, I_le (by omega) (by omega) h1 h2] at r; omega
  · rw [I_lt (by omega) (by omega) (by omega) (by omega)] at u; omega
  · rw [I_le (by omega) (by omega) (by omega) (by omega)] at u; omega
  · rw [I_lt h1 h2 (by omega) (by omega)] at q
    rw [e5, I_le (by omega) (by omega) h1 h2] at r
    obtain ⟨x, rfl⟩ := Int.eq_ofNat_of_zero_le (show 0 ≤ k by omega)
    rw [e2, e4, I_mul, I_add, show (x : Int) * 5 + (c : Int) = ((x * 5 + c : Nat) : Int) by omega, I_ntn (by omega), e8 x (by omega) c hc]
    refine ⟨I_in (by omega) (by omega) (by omega), ?_⟩
    unfold shL at hq; rw [if_pos (by omega)] at hq; exact hq
theorem sh_set {k : Int} {c v : Nat} (h : shX M a n rs) (hc : c < 5) (hv : v < 100000) (hr : ∀ r ∈ rs, r.length = 5) (h1 : 0 ≤ k) (h2 : k < rs.length) (hq : ∀ M', shX M' a n (rs.set k.toNat ((rs.getD k.toNat []).set c v)) → fr M M' a (a + 2) → Q (.inl none) M') : mC E 45 [.ref a, .int (I k), .int (I c), .int (I v)] M Q := by
  have hl := h.len
  obtain ⟨e1, e2, e3, e4, e5, e6, e7, e8, e9⟩ := id h
  obtain ⟨x, rfl⟩ := Int.eq_ofNat_of_zero_le h1
  refine w45_0 ⟨fun q => ?_, fun q => ⟨e1, fun r => ?_, fun r => ⟨fun u => ?_, fun _ => ⟨fun u => ?_, fun _ => ⟨by rw [e2]; omega, by rw [e2]; exact e3, ?_⟩⟩⟩⟩⟩
  · rw [I_lt (by omega) (by omega) (by omega) (by omega)] at q; omega
  · rw [e5, I_le (by omega) (by omega) (by omega) (by omega)] at r; omega
  · rw [I_lt (by omega) (by omega) (by omega) (by omega)] at u; omega
  · rw [I_le (by omega) (by omega) (by omega) (by omega)] at u; omega
  · rw [e2, e4, I_mul, I_add, show (x : Int) * 5 + (c : Int) = ((x * 5 + c : Nat) : Int) by omega, I_ntn (by omega)]
    refine ⟨I_in (by omega) (by omega) (by omega), fun M1 q1 => ?_⟩
    have f1 : fr M M1 a (a + 2) := by rw [q1]; exact fr_i (by omega) (by omega)
    have hx : (rs.getD x []) ∈ rs := by
      rw [List.getD_eq_getElem?_getD, List.getElem?_eq_getElem (show x < rs.length by omega)]; exact List.getElem_mem _
    have hl5 := hr _ hx
    refine hq M1 ⟨by rw [q1]; exact e1, by rw [q1]; exact e2, by rw [q1]; exact e3, by rw [q1]; exact e4, by rw [q1, i_ia (by omega), e5, List.length_set], by rw [List.length_set]; exact e6, e7, fun i hi d hd => ?_, fun r hr' y hy => ?_⟩ f1
    · rw [List.length_set] at hi
      simp only [show ((x : Int).toNat) = x by omega] at *
      rw [q1, List.getD_eq_getElem?_getD (l := rs.set _ _), List.getElem?_set]
      by_cases q : x = i
      · subst q
        simp only [if_pos, hi]
        rw [Option.getD_some, List.getD_eq_getElem?_getD (l := List.set _ _ _), List.getElem?_set]
        by_cases q2 : c = d
        · subst q2; rw [i_is, if_pos rfl, if_pos (by omega)]; rfl
        · rw [i_ik (by omega), if_neg q2, e8 x hi d hd, ← List.getD_eq_getElem?_getD]
      · rw [if_neg q, i_ik (by omega), e8 i hi d hd, ← List.getD_eq_getElem?_getD]
    · rcases List.mem_or_eq_of_mem_set hr' with q | q
      · exact e9 r q y hy
      · rw [q] at hy
        rcases List.mem_or_eq_of_mem_set hy with q2 | q2
        · exact e9 _ hx y q2
        · omega
theorem sh_add {v0 v1 v2 v3 v4 : Nat} (h : shX M a n rs) (hn : rs.length < n) (h0 : v0 < 100000) (h1 : v1 < 100000) (h2 : v2 < 100000) (h3 : v3 < 100000) (h4 : v4 < 100000) (hq : ∀ M', shX M' a n (rs ++ [[v0, v1, v2, v3, v4]]) → fr M M' a (a + 2) → Q (.inl none) M') : mC E 46 [.ref a, .int (I v0), .int (I v1), .int (I v2), .int (I v3), .int (I v4)] M Q := by
  have hl := h.len
  obtain ⟨e1, e2, e3, e4, e5, e6, e7, e8, e9⟩ := id h
  refine w46_0 ⟨e1, fun q => ?_, fun _ => ⟨by rw [e2]; omega, by rw [e2]; exact e3, fun q => ?_, fun q => ?_⟩⟩
  · rw [e5, I_mul, I_lt (by omega) (by omega) (by omega) (by omega)] at q; omega
  · have b : ∀ c : Nat, c < 5 → I ((rs.length : Nat) : Int) * I 5 + I (c : Int) = I ((rs.length * 5 + c : Nat) : Int) := fun c hc => by rw [I_mul, I_add]; congr 1
    have b0 := b 0 (by omega)
    have b1 := b 1 (by omega)
    have b2 := b 2 (by omega)
    have b3 := b 3 (by omega)
    have b4 := b 4 (by omega)
    simp only [Int.ofNat_eq_natCast, Int.natCast_zero, Int.cast_ofNat_Int, show ((1 : Nat) : Int) = 1 from rfl, show ((2 : Nat) : Int) = 2 from rfl, show ((3 : Nat) : Int) = 3 from rfl, show ((4 : Nat) : Int) = 4 from rfl] at b0 b1 b2 b3 b4
    rw [e2, e4, e5, b0, b1, b2, b3, b4, I_ntn (by omega), I_ntn (by omega), I_ntn (by omega), I_ntn (by omega), I_ntn (by omega)]
    refine ⟨I_in (by omega) (by omega) (by omega), fun M3 q3 => ⟨I_in (by omega) (by omega) (by omega), fun M4 q4 => ⟨I_in (by omega) (by omega) (by omega), fun M5 q5 => ⟨I_in (by omega) (by omega) (by omega), fun M6 q6 => ⟨I_in (by omega) (by omega) (by omega), fun M7 q7 M8 q8 => ?_⟩⟩⟩⟩⟩
    have c1 : ∀ j, mi M8 (a + 1) j = if j = rs.length * 5 + 4 then I v4 else if j = rs.length * 5 + 3 then I v3 else if j = rs.length * 5 + 2 then I v2 else if j = rs.length * 5 + 1 then I v1 else if j = rs.length * 5 + 0 then I v0 else mi M (a + 1) j := by
      intro j
      rw [q8, i_ia (by omega), q7, q6, q5, q4, q3]
      simp only [i_i, true_and]
    have c2 : mi M7 a 1 = I rs.length := by rw [q7, i_ia (by omega), q6, i_ia (by omega), q5, i_ia (by omega), q4, i_ia (by omega), q3, i_ia (by omega), e5]
    have f8 : fr M M8 a (a + 2) := by
      have f3 : fr M M3 a (a + 2) := by rw [q3]; exact fr_i (by omega) (by omega)
      have f4 : fr M3 M4 a (a + 2) := by rw [q4]; exact fr_i (by omega) (by omega)
      have f5 : fr M4 M5 a (a + 2) := by rw [q5]; exact fr_i (by omega) (by omega)
      have f6 : fr M5 M6 a (a + 2) := by rw [q6]; exact fr_i (by omega) (by omega)
      have f7 : fr M6 M7 a (a + 2) := by rw [q7]; exact fr_i (by omega) (by omega)
      have f8 : fr M7 M8 a (a + 2) := by rw [q8]; exact fr_i (by omega) (by omega)
      exact ((((f3.then f4).then f5).then f6).then f7).then f8
    have kk : ∀ x, mkd M8 x = mkd M x := fun x => by rw [q8, kd_i, q7, kd_i, q6, kd_i, q5, kd_i, q4, kd_i, q3, kd_i]
    have ll : ∀ x, mln M8 x = mln M x := fun x => by rw [q8, ln_i, q7, ln_i, q6, ln_i, q5, ln_i, q4, ln_i, q3, ln_i]
    have rr : ∀ x j, mr M8 x j = mr M x j := fun x j => by rw [q8, r_i, q7, r_i, q6, r_i, q5, r_i, q4, r_i, q3, r_i]
    refine hq M8 ⟨by rw [kk, e1], by rw [rr, e2], by rw [kk, e3], by rw [ll, e4], by rw [q8, i_is, c2, I_add]; simp, by simp; omega, e7, fun i hi c hc => ?_, fun r hr y hy => ?_⟩ f8
    · rw [c1]
      simp only [List.length_append, List.length_cons, List.length_nil] at hi
      by_cases q : i = rs.length
      · subst q
        rw [List.getD_eq_getElem?_getD (l := rs ++ _), List.getElem?_append_right (Nat.le_refl _), Nat.sub_self]
        rcases (show c = 0 ∨ c = 1 ∨ c = 2 ∨ c = 3 ∨ c = 4 by omega) with r | r | r | r | r <;> subst r <;> simp
      · rw [if_neg (by omega), if_neg (by omega), if_neg (by omega), if_neg (by omega), if_neg (by omega), e8 i (by omega) c hc, List.getD_eq_getElem?_getD (l := _ ++ _), List.getElem?_append_left (by omega), ← List.getD_eq_getElem?_getD]
    · rcases List.mem_append.mp hr with q | q
      · exact e9 r q y hy
      · rw [List.mem_singleton.mp q] at hy
        simp only [List.mem_cons, List.not_mem_nil, or_false] at hy
        omega
  · rw [e2, e4, e5, I_nI, I_mul, I_add, I_le (by omega) (by omega) (by omega) (by omega)] at q; omega
/-- the constructor -/
theorem sh_init {w : Nat} (hk : mkd M a = 104) (ha : a + 1 = msz M) (hc : w ≤ 240) (hr : m_room E M (w * 5))
    (hq : ∀ M', shX M' a w [] → msz M' = msz M + 1 → mns M' = mns M + w * 5 → (∀ x, x < a → ceq M M' x) → Q (.inl none) M') : mC E 41 [.ref a, .int (I w)] M Q := by
  refine w41_0 (c_max (by omega) (by omega) (by omega) (by omega) ?_)
  rw [show max (w : Int) 0 = w by omega]
  have e0 : I (w : Int) * I 5 = I ((w * 5 : Nat) : Int) := by rw [I_mul]; congr 1
  show _ ∧ _ ∧ _ ∧ _
  rw [e0]
  refine ⟨?_, by rw [I_ntn (by omega)]; omega, by rw [I_ntn (by omega)]; exact hr, fun M1 q1 => ⟨?_, by omega, fun M2 q2 M3 q3 => ?_⟩⟩
  · rw [I_z, I_lt (by omega) (by omega) (by omega) (by omega)]; omega
  · rw [q1, kd_n, if_neg (by omega)]; exact hk
  · rw [I_ntn (by omega)] at q1
    have k1 : ∀ x, mkd M3 x = if x = msz M then 1 else mkd M x := fun x => by rw [q3, kd_i, q2, kd_r, q1, kd_n]
    have l1 : ∀ x, mln M3 x = if x = msz M then w * 5 else mln M x := fun x => by rw [q3, ln_i, q2, ln_r, q1, ln_n]
    refine hq M3 ⟨?_, ?_, ?_, ?_, ?_, Nat.zero_le _, hc, fun k hk => absurd hk (Nat.not_lt_zero k), fun c hc => absurd hc List.not_mem_nil⟩ (by rw [q3, sz_i, q2, sz_r, q1, sz_n]) (by rw [q3, ns_i, q2, ns_r, q1, ns_n]) (fun x hx => ⟨?_, ?_, fun k => ?_, fun k => ?_, fun k => ?_⟩)
    · rw [k1, if_neg (by omega)]; exact hk
    · rw [q3, r_i, q2, r_rs, ha]
    · rw [k1, if_pos ha]
    · rw [l1, if_pos ha]
    · rw [q3, i_is]; rfl
    · rw [k1, if_neg (by omega)]
    · rw [l1, if_neg (by omega)]
    · rw [q3, i_ia (by omega), q2, i_r, q1, i_n, if_neg (by omega)]
    · rw [q3, r_i, q2, r_ra (by omega), q1, r_n, if_neg (by omega)]
    · rw [q3, j_i, q2, j_r, q1, j_n, if_neg (by omega)]
end SHE
