/-! TEXTS. A text lies at a, its characters at a + 1: room for cap, the characters s -/
def tX (M : mM) (a cap : Nat) (s : List Nat) : Prop := mkd M a = 101 ∧ mr M a 0 = a + 1 ∧ mkd M (a + 1) = 2 ∧ mln M (a + 1) = cap ∧ mi M a 1 = I s.length ∧ s.length ≤ cap ∧ cap ≤ 1000 ∧ (∀ k, k < s.length → mi M (a + 1) k = I (s.getD k 0)) ∧ ∀ c ∈ s, c < 65536
theorem getD_lt {s : List Nat} {u : Nat} (h : ∀ c ∈ s, c < u) (hu : 0 < u) (k : Nat) : s.getD k 0 < u := by
  rw [List.getD_eq_getElem?_getD]
  cases q : s[k]? with
  | none => simpa using hu
  | some x => exact h x (List.mem_of_getElem? q)
theorem tX.mv {M M' : mM} {a cap : Nat} {s : List Nat} {lo hi : Nat} (h : tX M a cap s) (f : fr M M' lo hi) (hd : a + 2 ≤ lo ∨ hi ≤ a) : tX M' a cap s := by
  obtain ⟨c1, c2, c3, c4, c5⟩ := f.2.2 a (by omega)
  obtain ⟨d1, d2, d3, d4, d5⟩ := f.2.2 (a + 1) (by omega)
  obtain ⟨h1, h2, h3, h4, h5, h6, h7, h8, h9⟩ := h
  exact ⟨by rw [c1, h1], by rw [c4, h2], by rw [d1, h3], by rw [d2, h4], by rw [c3, h5], h6, h7, fun k hk => by rw [d3, h8 k hk], h9⟩
section TXT
variable {E : mE} {M : mM} {Q : mQ} {a cap n : Nat} {s : List Nat}
theorem t_size (h : tX M a cap s) (hq : Q (.inl (some (.int (I s.length)))) M) : mC E 14 [.ref a] M Q := by
  refine w14_0 ⟨h.1, ?_⟩
  rw [h.2.2.2.2.1]; exact hq
theorem t_at {k : Int} (h : tX M a cap s) (h1 : -2147483648 ≤ k) (h2 : k < 2147483648) (hq : Q (.inl (some (.int (I (if 0 ≤ k then s.getD k.toNat 0 else 0 : Nat))))) M) : mC E 15 [.ref a, .int (I k)] M Q := by
  obtain ⟨e1, e2, e3, e4, e5, e6, e7, e8, e9⟩ := h
  refine w15_0 ⟨fun c => ?_, fun c => ⟨e1, fun d => ?_, fun d => ⟨by rw [e2]; omega, by rw [e2]; exact e3, fun e => ?_, fun e => ?_⟩⟩⟩
  · rw [I_lt h1 h2 (by omega) (by omega)] at c
    rw [if_neg (by omega)] at hq; exact hq
  · rw [I_lt h1 h2 (by omega) (by omega)] at c
    rw [e5, I_le (by omega) (by omega) h1 h2] at d
    rw [if_pos (by omega), List.getD_eq_getElem?_getD, List.getElem?_eq_none (by omega)] at hq; exact hq
  · rw [I_lt h1 h2 (by omega) (by omega)] at c
    rw [e5, I_le (by omega) (by omega) h1 h2] at d
    rw [e2, e4, I_nI, I_le (by omega) (by omega) h1 h2] at e
    omega
  · rw [I_lt h1 h2 (by omega) (by omega)] at c
    rw [e5, I_le (by omega) (by omega) h1 h2] at d
    rw [if_pos (by omega)] at hq
    rw [e2, e4, I_nt (by omega) h2, e8 _ (by omega)]
    have := getD_lt e9 (by omega) k.toNat
    exact ⟨I_in (by omega) (by omega) h2, I_nar (by omega) (by omega), hq⟩
theorem t_clear (h : tX M a cap s) (hq : ∀ M', tX M' a cap [] → fr M M' a (a + 2) → Q (.inl none) M') : mC E 16 [.ref a] M Q := by
  obtain ⟨e1, e2, e3, e4, e5, e6, e7, e8, e9⟩ := h
  refine w16_0 ⟨e1, fun M1 q1 => ?_⟩
  subst q1
  exact hq _ ⟨e1, e2, e3, e4, i_is, Nat.zero_le _, e7, fun k hk => absurd hk (Nat.not_lt_zero k), fun c hc => absurd hc List.not_mem_nil⟩ (fr_i (by omega) (by omega))
/-- a character behind the last -/
theorem tX.push {c : Nat} (h : tX M a cap s) (hc : c < 65536) (hl : s.length < cap) : tX (msi (msi M (a + 1) s.length (I c)) a 1 (I (s.length + 1 : Nat))) a cap (s ++ [c]) ∧ fr M (msi (msi M (a + 1) s.length (I c)) a 1 (I (s.length + 1 : Nat))) a (a + 2) := by
  obtain ⟨e1, e2, e3, e4, e5, e6, e7, e8, e9⟩ := h
  refine ⟨⟨e1, e2, e3, e4, by rw [i_is]; simp, by simp; omega, e7, fun k hk => ?_, fun x hx => ?_⟩, (fr_i (by omega) (by omega)).then (fr_i (by omega) (by omega))⟩
  · rw [i_ia (by omega)]
    simp only [List.length_append, List.length_cons, List.length_nil] at hk
    by_cases q : k = s.length
    · subst q; rw [i_is]; simp
    · rw [i_ik q, e8 k (by omega), List.getD_eq_getElem?_getD, List.getD_eq_getElem?_getD, List.getElem?_append_left (by omega)]
  · rcases List.mem_append.mp hx with q | q
    · exact e9 x q
    · rw [List.mem_singleton.mp q]; exact hc
theorem t_add {c : Nat} (h : tX M a cap s) (hc : c < 65536) (hq : s.length < cap → ∀ M', tX M' a cap (s ++ [c]) → fr M M' a (a + 2) → Q (.inl none) M') (ht : s.length = cap → mTh E 91 M Q) : mC E 17 [.ref a, .int (I c)] M Q := by
  have h0 := h
  obtain ⟨e1, e2, e3, e4, e5, e6, e7, e8, e9⟩ := h
  refine w17_0 ⟨e1, fun q => ?_, fun _ => ⟨by rw [e2]; omega, by rw [e2]; exact e3, fun q => ?_, fun q => ht ?_⟩⟩
  · rw [e5, I_lt (by omega) (by omega) (by omega) (by omega)] at q; omega
  · rw [e2, e5, e4, I_nI, I_lt (by omega) (by omega) (by omega) (by omega)] at q
    rw [e2, e4, e5]
    refine ⟨I_in (by omega) (by omega) (by omega), fun M1 q1 M2 q2 => ?_⟩
    have hp := h0.push hc (by omega)
    rw [I_ntn (by omega), I_cN (by omega) (by omega)] at q1
    have e : M2 = msi (msi M (a + 1) s.length (I c)) a 1 (I (s.length + 1 : Nat)) := by
      rw [q2, q1, i_ia (by omega), e5, I_add]; rfl
    rw [e]
    exact hq (by omega) _ hp.1 hp.2
  · rw [e2, e5, e4, I_nI, I_lt (by omega) (by omega) (by omega) (by omega)] at q; omega
end TXT
