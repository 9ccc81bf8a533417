/-! THE TOKENS OF A COMMAND are its items -/
theorem wKd_2 {s : List Nat} {p aw rd : Nat} {ws : Bool} (h : ¬ aw = 3) : wKd s p aw rd ws = wKd s p 2 0 ws := by unfold wKd; rw [if_neg h, if_neg (show ¬ 2 = 3 by decide)]
theorem wKd_3 {s : List Nat} {p rd : Nat} {ws : Bool} : wKd s p 3 rd ws = (rd, p, ws) := by unfold wKd; rw [if_pos rfl]
/-- the word x is the item it, its pieces from k on -/
def wdI (s : List Nat) (is ps : List (List Nat)) (x : tkn) (K k it : Nat) : Prop := ∃ j0 j1 e : Nat, x.2.2 = (e : Int) ∧ e ≤ s.length ∧ x.2.1 < s.length ∧ it < is.length ∧ is.getD it [] = [K, j0, j1, x.2.1, nE s x.2.1] ∧ j0 ≤ j1 ∧ j1 ≤ ps.length ∧ pL s 240 false k (ps.take j0) = .inl (e, ps.take j1)
abbrev tkD (T : List tkn) (t : Nat) : tkn := T.getD t (0, 0, 0)
/-- n tokens from t on are the items from it to it2 -/
def itI (s : List Nat) (T : List tkn) (is ps : List (List Nat)) : Nat → Nat → Nat → Bool → Nat → Nat → Prop
  | 0, _, rd, _, it, it2 => rd = 0 ∧ it = it2
  | n + 1, t, rd, ws, it, it2 =>
    (rd = 0 ∧ (tkD T t).1 = 9 ∧ wdI s is ps (tkD T t) (wKd s (tkD T t).2.1 2 0 ws).1 (wKd s (tkD T t).2.1 2 0 ws).2.1 it ∧ itI s T is ps n (t + 1) 0 (wKd s (tkD T t).2.1 2 0 ws).2.2 (it + 1) it2) ∨
    (rd = 0 ∧ ((tkD T t).1 = 6 ∨ (tkD T t).1 = 7 ∨ (tkD T t).1 = 8) ∧ itI s T is ps n (t + 1) ((tkD T t).1 - 4) ws it it2) ∨
    (¬ rd = 0 ∧ (tkD T t).1 = 9 ∧ wdI s is ps (tkD T t) rd (tkD T t).2.1 it ∧ itI s T is ps n (t + 1) 0 ws (it + 1) it2)
section ENC
variable {s : List Nat} {T : List tkn} {cs is ps : List (List Nat)}
theorem enc_nil {aw jn rd c it : Nat} {ws : Bool} {t : Nat} (ht : T.length ≤ t) (h : enc s cs is ps (T.drop t) aw jn rd ws c it) : (aw = 0 ∨ aw = 2) ∧ c = cs.length ∧ it = is.length ∧ (aw = 2 → (cs.getD (c - 1) []).getD 2 0 = it) := by
  rw [List.drop_eq_nil_of_le ht] at h
  unfold enc at h; exact h
theorem enc_blk (n : Nat) : ∀ (t aw jn rd : Nat) (ws : Bool) (c it : Nat), n = T.length - t → t ≤ T.length → (aw = 2 ∨ (aw = 3 ∧ 2 ≤ rd)) → enc s cs is ps (T.drop t) aw jn rd ws c it → ∃ b it2 rd2 ws2, t ≤ b ∧ b ≤ T.length ∧ (∀ i, t ≤ i → i < b → 6 ≤ (tkD T i).1) ∧ (b < T.length → (tkD T b).1 < 6) ∧ itI s T is ps (b - t) t (if aw = 3 then rd else 0) ws it it2 ∧ (cs.getD (c - 1) []).getD 2 0 = it2 ∧ enc s cs is ps (T.drop b) 2 jn rd2 ws2 c it2 := by
  induction n with
  | zero =>
    intro t aw jn rd ws c it hn ht ha h
    have e := enc_nil (by omega) h
    have a2 : aw = 2 := by omega
    subst a2
    refine ⟨t, it, rd, ws, Nat.le_refl _, ht, fun i h1 h2 => by omega, fun z => by omega, ?_, e.2.2.2 rfl, h⟩
    rw [Nat.sub_self, if_neg (by decide)]
    exact ⟨rfl, rfl⟩
  | succ n ih =>
    intro t aw jn rd ws c it hn ht ha h
    have h0 := h
    rw [drop_getL (d := (0, 0, 0)) (by omega)] at h
    unfold enc at h
    have na : ¬ aw ≤ 1 := by omega
    rcases h with h | h | h | h | h
    · omega
    · obtain ⟨h1, a2, h3, -⟩ := h
      subst a2
      refine ⟨t, it, rd, ws, Nat.le_refl _, ht, fun i h1 h2 => by omega, fun z => by show (T.getD t (0, 0, 0)).1 < 6; omega, ?_, h3, h0⟩
      rw [Nat.sub_self, if_neg (by decide)]
      exact ⟨rfl, rfl⟩
    · obtain ⟨h1, a2, h3, -⟩ := h
      subst a2
      refine ⟨t, it, rd, ws, Nat.le_refl _, ht, fun i h1 h2 => by omega, fun z => by show (T.getD t (0, 0, 0)).1 < 6; omega, ?_, h3, h0⟩
      rw [Nat.sub_self, if_neg (by decide)]
      exact ⟨rfl, rfl⟩
    · obtain ⟨h1, h2, -, h4⟩ := h
      rw [if_neg na, if_neg na] at h4
      obtain ⟨b, it2, rd2, ws2, g1, g2, g3, g4, g5, g6, g7⟩ := ih (t + 1) 3 jn _ _ c it (by omega) (by omega) (Or.inr ⟨rfl, by omega⟩) h4
      refine ⟨b, it2, rd2, ws2, by omega, g2, fun i i1 i2 => ?_, g4, ?_, g6, g7⟩
      · by_cases z : i = t
        · subst z; show 6 ≤ (T.getD i (0, 0, 0)).1; omega
        · exact g3 i (by omega) i2
      · rw [if_neg h2, show b - t = (b - (t + 1)) + 1 by omega]
        unfold itI
        rw [if_pos rfl] at g5
        exact Or.inr (Or.inl ⟨rfl, h1, g5⟩)
    · obtain ⟨h1, -, h3, h4⟩ := h
      rw [if_neg na] at h3 h4
      rw [if_neg na] at h4
      obtain ⟨b, it2, rd2, ws2, g1, g2, g3, g4, g5, g6, g7⟩ := ih (t + 1) 2 jn _ _ c (it + 1) (by omega) (by omega) (Or.inl rfl) h4
      refine ⟨b, it2, rd2, ws2, by omega, g2, fun i i1 i2 => ?_, g4, ?_, g6, g7⟩
      · by_cases z : i = t
        · subst z; show 6 ≤ (T.getD i (0, 0, 0)).1; omega
        · exact g3 i (by omega) i2
      · rw [show b - t = (b - (t + 1)) + 1 by omega]
        unfold itI
        rw [if_neg (by decide)] at g5
        by_cases a3 : aw = 3
        · rw [if_pos a3]
          subst a3
          rw [wKd_3] at h3 g5
          exact Or.inr (Or.inr ⟨by omega, h1, h3, g5⟩)
        · rw [if_neg a3]
          rw [wKd_2 a3] at h3 g5
          exact Or.inl ⟨rfl, h1, h3, g5⟩
/-- a command from its first token on -/
theorem enc_cmd {t aw jn rd : Nat} {ws : Bool} {c it : Nat} (ht : t < T.length) (ha : aw ≤ 1) (h5 : ¬ (tkD T t).1 = 5) (h : enc s cs is ps (T.drop t) aw jn rd ws c it) : c < cs.length ∧ (cs.getD c []).getD 0 0 = jn ∧ (cs.getD c []).getD 1 0 = it ∧ ∃ b rd2 ws2, t < b ∧ b ≤ T.length ∧ (∀ i, t ≤ i → i < b → 6 ≤ (tkD T i).1) ∧ (b < T.length → (tkD T b).1 < 6) ∧ itI s T is ps (b - t) t 0 false it ((cs.getD c []).getD 2 0) ∧ enc s cs is ps (T.drop b) 2 jn rd2 ws2 (c + 1) ((cs.getD c []).getD 2 0) := by
  rw [drop_getL (d := (0, 0, 0)) (by omega)] at h
  unfold enc at h
  rcases h with h | h | h | h | h
  · exact absurd h.1 h5
  · omega
  · omega
  · obtain ⟨h1, h2, hc, h4⟩ := h
    obtain ⟨c1, c2, c3⟩ := hc ha
    rw [if_pos ha, if_pos ha] at h4
    refine ⟨c1, c2, c3, ?_⟩
    obtain ⟨b, it2, rd2, ws2, g1, g2, g3, g4, g5, g6, g7⟩ := enc_blk _ (t + 1) 3 jn _ _ (c + 1) it rfl (by omega) (Or.inr ⟨rfl, by omega⟩) h4
    rw [Nat.add_sub_cancel] at g6
    subst g6
    refine ⟨b, rd2, ws2, by omega, g2, fun i i1 i2 => ?_, g4, ?_, g7⟩
    · by_cases z : i = t
      · subst z; show 6 ≤ (T.getD i (0, 0, 0)).1; omega
      · exact g3 i (by omega) i2
    · rw [show b - t = (b - (t + 1)) + 1 by omega]
      unfold itI
      rw [if_pos rfl] at g5
      exact Or.inr (Or.inl ⟨rfl, h1, g5⟩)
  · obtain ⟨h1, hc, h3, h4⟩ := h
    obtain ⟨c1, c2, c3⟩ := hc ha
    rw [if_pos ha] at h3 h4
    rw [if_pos ha] at h4
    refine ⟨c1, c2, c3, ?_⟩
    obtain ⟨b, it2, rd2, ws2, g1, g2, g3, g4, g5, g6, g7⟩ := enc_blk _ (t + 1) 2 jn _ _ (c + 1) (it + 1) rfl (by omega) (Or.inl rfl) h4
    rw [Nat.add_sub_cancel] at g6
    subst g6
    refine ⟨b, rd2, ws2, by omega, g2, fun i i1 i2 => ?_, g4, ?_, g7⟩
    · by_cases z : i = t
      · subst z; show 6 ≤ (T.getD i (0, 0, 0)).1; omega
      · exact g3 i (by omega) i2
    · rw [show b - t = (b - (t + 1)) + 1 by omega]
      unfold itI
      rw [if_neg (by decide)] at g5
      rw [wKd_2 (by omega)] at h3 g5
      exact Or.inl ⟨rfl, h1, h3, g5⟩
/-- what stands behind a command -/
theorem enc_sep {b jn rd : Nat} {ws : Bool} {c it : Nat} (hb : b < T.length) (h6 : (tkD T b).1 < 6) (h : enc s cs is ps (T.drop b) 2 jn rd ws c it) : (((tkD T b).1 = 4 ∨ (tkD T b).1 = 5) ∧ enc s cs is ps (T.drop (b + 1)) 0 0 rd ws c it) ∨ (((tkD T b).1 = 1 ∨ (tkD T b).1 = 2 ∨ (tkD T b).1 = 3) ∧ enc s cs is ps (T.drop (b + 1)) 1 (tkD T b).1 rd ws c it) := by
  rw [drop_getL (d := (0, 0, 0)) (by omega)] at h
  unfold enc at h
  have d : tkD T b = T.getD b (0, 0, 0) := rfl
  rcases h with h | h | h | h | h
  · omega
  · exact Or.inl ⟨h.1, h.2.2.2⟩
  · exact Or.inr ⟨h.1, h.2.2.2⟩
  · rw [d] at h6; omega
  · rw [d] at h6; omega
/-- newlines are passed over -/
theorem enc_nl (n : Nat) : ∀ (t q aw jn rd : Nat) (ws : Bool) (c it : Nat), n = q - t → t ≤ q → q ≤ T.length → (∀ i, t ≤ i → i < q → (tkD T i).1 = 5) → aw ≤ 1 → enc s cs is ps (T.drop t) aw jn rd ws c it → enc s cs is ps (T.drop q) aw jn rd ws c it := by
  induction n with
  | zero =>
    intro t q aw jn rd ws c it hn h1 h2 h3 ha h
    rw [show q = t by omega]; exact h
  | succ n ih =>
    intro t q aw jn rd ws c it hn h1 h2 h3 ha h
    refine ih (t + 1) q aw jn rd ws c it (by omega) (by omega) h2 (fun i i1 i2 => h3 i (by omega) i2) ha ?_
    have k5 := h3 t (by omega) (by omega)
    rw [drop_getL (d := (0, 0, 0)) (by omega)] at h
    unfold enc at h
    have d : tkD T t = T.getD t (0, 0, 0) := rfl
    rw [d] at k5
    rcases h with h | h | h | h | h
    · exact h.2.2
    · omega
    · omega
    · omega
    · omega
end ENC
