/-! BOTH READ THE SAME: the class's commands are the reference's tokens -/
theorem pL_ac {s a : List Nat} {A : List (List Nat)} : ∀ (n : Nat) (q : Bool) (p : Nat) (b : List (List Nat)), pL s n q p (A ++ b) = (match pL s n q p b with
    | .inl (e, R) => .inl (e, A ++ R)
    | .inr x => .inr x)
  | 0, q, p, b => by
    unfold pL
    split <;> rfl
  | n + 1, q, p, b => by
    unfold pL
    by_cases h : p < s.length
    · rw [if_pos h, if_pos h]
      cases g : pS s q p with
      | inl x =>
        obtain ⟨r, p', q'⟩ := x
        show pL s n q' p' (A ++ b ++ [r]) = _
        rw [List.append_assoc, pL_ac (a := a) n q' p' (b ++ [r])]
      | inr x => cases x <;> rfl
    · rw [if_neg h, if_neg h]
      split <;> rfl
theorem pL_fu {s : List Nat} : ∀ (n n' : Nat) (q : Bool) (p : Nat) (ps : List (List Nat)), s.length - p ≤ n → s.length - p ≤ n' → pL s n q p ps = pL s n' q p ps
  | 0, n', q, p, ps, h, _ => by rw [pL_ou (by omega), pL_ou (by omega)]
  | n + 1, 0, q, p, ps, _, h => by rw [pL_ou (by omega), pL_ou (by omega)]
  | n + 1, n' + 1, q, p, ps, h1, h2 => by
    unfold pL
    by_cases h : p < s.length
    · rw [if_pos h, if_pos h]
      cases g : pS s q p with
      | inl x =>
        obtain ⟨r, p', q'⟩ := x
        have := (pS_r h g).1
        exact pL_fu n n' q' p' _ (by omega) (by omega)
      | inr x => cases x <;> rfl
    · rw [if_neg h, if_neg h]
theorem nmE_in {s : List Nat} {f : Nat} : ∀ (n e j : Nat), e ≤ j → j < nmE s f n e → isL (s.getD j 0) = true ∨ isD (s.getD j 0) = true
  | 0, e, j, h1, h2 => by unfold nmE at h2; omega
  | n + 1, e, j, h1, h2 => by
    unfold nmE at h2
    split at h2
    · next q =>
      by_cases z : j = e
      · subst z
        rcases q.2 with y | y
        · exact Or.inl y
        · exact Or.inr y.1
      · exact nmE_in n (e + 1) j (by omega) h2
    · omega
/-- an assignment's name and = are plain -/
theorem pL_asg {s : List Nat} {p : Nat} (ha : s.getD (nE s p) 0 = 61) (hl : nE s p < s.length) (z : Nat) : ∀ (j n : Nat) (acc : List (List Nat)), nE s p - j = z → p ≤ j → j ≤ nE s p → s.length - j ≤ n → ∃ n' X, s.length - (nE s p + 1) ≤ n' ∧ pL s n false j acc = pL s n' false (nE s p + 1) (acc ++ X) := by
  have one : ∀ (j n : Nat) (acc : List (List Nat)), j < s.length → s.length - j ≤ n → (isL (s.getD j 0) = true ∨ isD (s.getD j 0) = true ∨ s.getD j 0 = 61) → ∃ n', s.length - (j + 1) ≤ n' ∧ pL s n false j acc = pL s n' false (j + 1) (acc ++ [[0, j, j + 1, 0, 0]]) := by
    intro j n acc hj hn hc
    have c : ¬ s.getD j 0 = 34 ∧ ¬ s.getD j 0 = 92 ∧ ¬ s.getD j 0 = 36 ∧ ¬ s.getD j 0 = 39 ∧ ¬ (s.getD j 0 = 32 ∨ s.getD j 0 = 10 ∨ s.getD j 0 = 124 ∨ s.getD j 0 = 38 ∨ s.getD j 0 = 59 ∨ s.getD j 0 = 60 ∨ s.getD j 0 = 62 ∨ s.getD j 0 = 40 ∨ s.getD j 0 = 41) := by
      rcases hc with y | y | y
      · have := isL_iff.mp y; omega
      · have := isD_iff.mp y; omega
      · omega
    exact pL_in hj hn (by unfold pS; rw [if_neg c.1, if_neg c.2.1, if_neg c.2.2.1, if_neg (by decide), if_neg c.2.2.2.1, if_neg c.2.2.2.2])
  induction z with
  | zero =>
    intro j n acc h1 h2 h3 h4
    have e : j = nE s p := by omega
    rw [e] at h4 ⊢
    obtain ⟨n', a, b⟩ := one (nE s p) n acc hl h4 (Or.inr (Or.inr ha))
    exact ⟨n', _, a, b⟩
  | succ z ih =>
    intro j n acc h1 h2 h3 h4
    have c := nmE_in (s := s) (f := p) s.length p j h2 (show j < nmE s p s.length p by unfold nE at h1; omega)
    obtain ⟨n', a, b⟩ := one j n acc (by omega) h4 (by rcases c with y | y; exact Or.inl y; exact Or.inr (Or.inl y))
    obtain ⟨n2, X, a2, b2⟩ := ih (j + 1) n' _ (by omega) (by omega) (by omega) a
    exact ⟨n2, _, a2, by rw [b, b2, List.append_assoc]⟩
/-- a word's end does not depend on where its pieces begin -/
theorem pL_wKd {s : List Nat} {p aw rd : Nat} {ws : Bool} {acc : List (List Nat)} (hp : p < s.length) (hl : s.length ≤ 240) (hz : okSc s) : (∀ e ps, pL s 240 false (wKd s p aw rd ws).2.1 acc = .inl (e, ps) → ∃ R, pL s 240 false p [] = .inl (e, R)) ∧ (∀ b, pL s 240 false (wKd s p aw rd ws).2.1 acc = .inr b → pL s 240 false p [] = .inr b) := by
  have same : ∀ (k n : Nat), s.length - k ≤ n → pL s 240 false p [] = pL s n false k [] ∨ (∃ X, pL s 240 false p [] = pL s n false k X) → (∀ e ps, pL s 240 false k acc = .inl (e, ps) → ∃ R, pL s 240 false p [] = .inl (e, R)) ∧ (∀ b, pL s 240 false k acc = .inr b → pL s 240 false p [] = .inr b) := by
    intro k n hn h
    have h' : ∃ X, pL s 240 false p [] = pL s n false k X := by
      rcases h with h | h
      · exact ⟨[], h⟩
      · exact h
    obtain ⟨X, h⟩ := h'
    have fu := pL_fu n 240 false k X hn (by omega)
    have a1 := pL_ac (s := s) (a := []) (A := X) 240 false k []
    have a2 := pL_ac (s := s) (a := []) (A := acc) 240 false k []
    rw [List.append_nil] at a1 a2
    rw [h, fu, a1, a2]
    cases pL s 240 false k [] with
    | inl x =>
      obtain ⟨e, R⟩ := x
      exact ⟨fun e2 ps g => (by cases g; exact ⟨_, rfl⟩), fun b g => (by cases g)⟩
    | inr b => exact ⟨fun e2 ps g => (by cases g), fun b2 g => (by cases g; rfl)⟩
  unfold wKd
  by_cases a3 : aw = 3
  · rw [if_pos a3]; exact same p 240 (by omega) (Or.inl rfl)
  · rw [if_neg a3]
    by_cases as : ws = false ∧ p < nE s p ∧ s.getD (nE s p) 0 = 61
    · rw [if_pos as]
      have nl : nE s p < s.length := by
        by_cases y : nE s p < s.length
        · exact y
        · have : s.getD (nE s p) 0 = 0 := mdT.o (by omega)
          omega
      obtain ⟨n', X, hn, e⟩ := pL_asg as.2.2 nl (nE s p - p) p 240 [] rfl (Nat.le_refl _) (by omega) (by omega)
      exact same (nE s p + 1) n' hn (Or.inr ⟨_, e⟩)
    · rw [if_neg as]; exact same p 240 (by omega) (Or.inl rfl)
/-- the rest of the tokens are the rest of the commands: c commands have begun, it items are read -/
def enc (s : List Nat) (cs is ps : List (List Nat)) : List tkn → Nat → Nat → Nat → Bool → Nat → Nat → Prop
  | [], aw, _, _, _, c, it => (aw = 0 ∨ aw = 2) ∧ c = cs.length ∧ it = is.length ∧ (aw = 2 → (cs.getD (c - 1) []).getD 2 0 = it)
  | x :: T, aw, jn, rd, ws, c, it =>
    (x.1 = 5 ∧ aw ≤ 1 ∧ enc s cs is ps T aw jn rd ws c it) ∨
    ((x.1 = 4 ∨ x.1 = 5) ∧ aw = 2 ∧ (cs.getD (c - 1) []).getD 2 0 = it ∧ enc s cs is ps T 0 0 rd ws c it) ∨
    ((x.1 = 1 ∨ x.1 = 2 ∨ x.1 = 3) ∧ aw = 2 ∧ (cs.getD (c - 1) []).getD 2 0 = it ∧ enc s cs is ps T 1 x.1 rd ws c it) ∨
    ((x.1 = 6 ∨ x.1 = 7 ∨ x.1 = 8) ∧ ¬ aw = 3 ∧ (aw ≤ 1 → c < cs.length ∧ (cs.getD c []).getD 0 0 = jn ∧ (cs.getD c []).getD 1 0 = it) ∧ enc s cs is ps T 3 jn (x.1 - 4) (if aw ≤ 1 then false else ws) (if aw ≤ 1 then c + 1 else c) it) ∨
    (x.1 = 9 ∧ (aw ≤ 1 → c < cs.length ∧ (cs.getD c []).getD 0 0 = jn ∧ (cs.getD c []).getD 1 0 = it) ∧
      (∃ j0 j1 e : Nat, x.2.2 = (e : Int) ∧ e ≤ s.length ∧ x.2.1 < s.length ∧ it < is.length ∧ is.getD it [] = [(wKd s x.2.1 aw rd (if aw ≤ 1 then false else ws)).1, j0, j1, x.2.1, nE s x.2.1] ∧ j0 ≤ j1 ∧ j1 ≤ ps.length ∧ pL s 240 false (wKd s x.2.1 aw rd (if aw ≤ 1 then false else ws)).2.1 (ps.take j0) = .inl (e, ps.take j1)) ∧
      enc s cs is ps T 2 jn rd (wKd s x.2.1 aw rd (if aw ≤ 1 then false else ws)).2.2 (if aw ≤ 1 then c + 1 else c) (it + 1))
abbrev gCs (g : yT) : List (List Nat) := g.2.2.2.2.1
abbrev gIs (g : yT) : List (List Nat) := g.2.2.2.2.2.1
abbrev gPz (g : yT) : List (List Nat) := g.2.2.2.2.2.2
/-- what the reading has written stays -/
def ext (g g2 : yT) : Prop := gIs g <+: gIs g2 ∧ gPz g <+: gPz g2 ∧ (gCs g).length ≤ (gCs g2).length ∧ (∀ i, i < (gCs g).length → ((gCs g2).getD i []).getD 0 0 = ((gCs g).getD i []).getD 0 0 ∧ ((gCs g2).getD i []).getD 1 0 = ((gCs g).getD i []).getD 1 0) ∧ (∀ i, i + 1 < (gCs g).length ∨ (g.1 ≤ 1 ∧ i < (gCs g).length) → ((gCs g2).getD i []).getD 2 0 = ((gCs g).getD i []).getD 2 0)
def ivG (g : yT) : Prop := g.1 ≤ 3 ∧ (g.1 = 2 → 0 < (gCs g).length ∧ ((gCs g).getD ((gCs g).length - 1) []).getD 2 0 = (gIs g).length) ∧ (g.1 = 3 → 0 < (gCs g).length) ∧ ∀ r ∈ gCs g, r.length = 5
theorem ext.rfl' (g : yT) : ext g g := ⟨List.prefix_refl _, List.prefix_refl _, Nat.le_refl _, fun _ _ => ⟨rfl, rfl⟩, fun _ _ => rfl⟩
theorem cutF_nil (s : List Nat) : ∀ (n p : Nat), (cutF s n p).1 = [] → (cutF s n p).2 = -1
  | 0, _, _ => rfl
  | n + 1, p, h => by
    unfold cutF at h ⊢
    by_cases q : (fT s s.length false p).1 = true
    · rw [if_pos q] at h ⊢
      by_cases q0 : opK s (fT s s.length false p).2 = 0
      · rw [if_pos q0] at h; cases h
      · rw [if_neg q0] at h ⊢
        by_cases q9 : opK s (fT s s.length false p).2 = 9
        · rw [if_pos q9] at h ⊢
          cases g : pL s 240 false (fT s s.length false p).2 [] with
          | inl x => rw [g] at h; cases h
          | inr b => rw [g] at h; cases h
        · rw [if_neg q9] at h; cases h
    · rw [if_neg q]
theorem pre_get {l L : List (List Nat)} {r : List Nat} (h : l ++ [r] <+: L) : L.getD l.length [] = r ∧ l.length < L.length := by
  obtain ⟨t, rfl⟩ := h
  refine ⟨?_, by simp⟩
  rw [List.append_assoc, List.getD_eq_getElem?_getD, List.getElem?_append_right (Nat.le_refl _), Nat.sub_self]; rfl
theorem pre_take {l L : List (List Nat)} (h : l <+: L) : L.take l.length = l ∧ l.length ≤ L.length := by
  obtain ⟨t, rfl⟩ := h
  exact ⟨by simp, by simp⟩
