/-! BOTH READ THE SAME: the class's commands are the reference's tokens -/
theorem pL_ac {s a : List Nat} {A : List (List Nat)} : ∀ (n : Nat) (q : Bool) (p : Nat) (b : List (List Nat)), pL s n q p (A ++ b) = (match pL s n q p b with
    | .inl (e, R) => .inl (e, A ++ R)
    | .inr x => .inr x)
  | 0, q, p, b => by
    unfold pL
    split <;> rfl
  | n + 1, q, p, b => by
    unfold pL
    by_cases h : p < s.length
    · rw [if_pos h, if_pos h]
      cases g : pS s q p with
      | inl x =>
        obtain ⟨r, p', q'⟩ := x
        show pL s n q' p' (A ++ b ++ [r]) = _
        rw [List.append_assoc, pL_ac (a := a) n q' p' (b ++ [r])]
      | inr x => cases x <;> rfl
    · rw [if_neg h, if_neg h]
      split <;> rfl
theorem pL_fu {s : List Nat} : ∀ (n n' : Nat) (q : Bool) (p : Nat) (ps : List (List Nat)), s.length - p ≤ n → s.length - p ≤ n' → pL s n q p ps = pL s n' q p ps
  | 0, n', q, p, ps, h, _ => by rw [pL_ou (by omega), pL_ou (by omega)]
  | n + 1, 0, q, p, ps, _, h => by rw [pL_ou (by omega), pL_ou (by omega)]
  | n + 1, n' + 1, q, p, ps, h1, h2 => by
    unfold pL
    by_cases h : p < s.length
    · rw [if_pos h, if_pos h]
      cases g : pS s q p with
      | inl x =>
        obtain ⟨r, p', q'⟩ := x
        have := (pS_r h g).1
        exact pL_fu n n' q' p' _ (by omega) (by omega)
      | inr x => cases x <;> rfl
    · rw [if_neg h, if_neg h]
theorem nmE_in {s : List Nat} {f : Nat} : ∀ (n e j : Nat), e ≤ j → j < nmE s f n e → isL (s.getD j 0) = true ∨ isD (s.getD j 0) = true
  | 0, e, j, h1, h2 => by unfold nmE at h2; omega
  | n + 1, e, j, h1, h2 => by
    unfold nmE at h2
    split at h2
    · next q =>
      by_cases z : j = e
      · subst z
        rcases q.2 with y | y
        · exact Or.inl y
        · exact Or.inr y.1
      · exact nmE_in n (e + 1) j (by omega) h2
    · omega
/-- an assignment's name and = are plain -/
theorem pL_asg {s : List Nat} {p : Nat} (ha : s.getD (nE s p) 0 = 61) (hl : nE s p < s.length) (z : Nat) : ∀ (j n : Nat) (acc : List (List Nat)), nE s p - j = z → p ≤ j → j ≤ nE s p → s.length - j ≤ n → ∃ n' X, s.length - (nE s p + 1) ≤ n' ∧ pL s n false j acc = pL s n' false (nE s p + 1) (acc ++ X) := by
  have one : ∀ (j n : Nat) (acc : List (List Nat)), j < s.length → s.length - j ≤ n → (isL (s.getD j 0) = true ∨ isD (s.getD j 0) = true ∨ s.getD j 0 = 61) → ∃ n', s.length - (j + 1) ≤ n' ∧ pL s n false j acc = pL s n' false (j + 1) (acc ++ [[0, j, j + 1, 0, 0]]) := by
    intro j n acc hj hn hc
    have c : ¬ s.getD j 0 = 34 ∧ ¬ s.getD j 0 = 92 ∧ ¬ s.getD j 0 = 36 ∧ ¬ s.getD j 0 = 39 ∧ ¬ (s.getD j 0 = 32 ∨ s.getD j 0 = 10 ∨ s.getD j 0 = 124 ∨ s.getD j 0 = 38 ∨ s.getD j 0 = 59 ∨ s.getD j 0 = 60 ∨ s.getD j 0 = 62 ∨ s.getD j 0 = 40 ∨ s.getD j 0 = 41) := by
      rcases hc with y | y | y
      · have := isL_iff.mp y; omega
      · have := isD_iff.mp y; omega
      · omega
    exact pL_in hj hn (by unfold pS; rw [if_neg c.1, if_neg c.2.1, if_neg c.2.2.1, if_neg (by decide), if_neg c.2.2.2.1, if_neg c.2.2.2.2])
  induction z with
  | zero =>
    intro j n acc h1 h2 h3 h4
    have e : j = nE s p := by omega
    rw [e] at h4 ⊢
    obtain ⟨n', a, b⟩ := one (nE s p) n acc hl h4 (Or.inr (Or.inr ha))
    exact ⟨n', _, a, b⟩
  | succ z ih =>
    intro j n acc h1 h2 h3 h4
    have c := nmE_in (s := s) (f := p) s.length p j h2 (show j < nmE s p s.length p by unfold nE at h1; omega)
    obtain ⟨n', a, b⟩ := one j n acc (by omega) h4 (by rcases c with y | y; exact Or.inl y; exact Or.inr (Or.inl y))
    obtain ⟨n2, X, a2, b2⟩ := ih (j + 1) n' _ (by omega) (by omega) (by omega) a
    exact ⟨n2, _, a2, by rw [b, b2, List.append_assoc]⟩
/-- a word's end does not depend on where its pieces begin -/
theorem pL_wKd {s : List Nat} {p aw rd : Nat} {ws : Bool} {acc : List (List Nat)} (hp : p < s.length) (hl : s.length ≤ 240) (hz : okSc s) : (∀ e ps, pL s 240 false (wKd s p aw rd ws).2.1 acc = .inl (e, ps) → ∃ R, pL s 240 false p [] = .inl (e, R)) ∧ (∀ b, pL s 240 false (wKd s p aw rd ws).2.1 acc = .inr b → pL s 240 false p [] = .inr b) := by
  have same : ∀ (k n : Nat), s.length - k ≤ n → pL s 240 false p [] = pL s n false k [] ∨ (∃ X, pL s 240 false p [] = pL s n false k X) → (∀ e ps, pL s 240 false k acc = .inl (e, ps) → ∃ R, pL s 240 false p [] = .inl (e, R)) ∧ (∀ b, pL s 240 false k acc = .inr b → pL s 240 false p [] = .inr b) := by
    intro k n hn h
    have h' : ∃ X, pL s 240 false p [] = pL s n false k X := by
      rcases h with h | h
      · exact ⟨[], h⟩
      · exact h
    obtain ⟨X, h⟩ := h'
    have fu := pL_fu n 240 false k X hn (by omega)
    have a1 := pL_ac (s := s) (a := []) (A := X) 240 false k []
    have a2 := pL_ac (s := s) (a := []) (A := acc) 240 false k []
    rw [List.append_nil] at a1 a2
    rw [h, fu, a1, a2]
    cases pL s 240 false k [] with
    | inl x =>
      obtain ⟨e, R⟩ := x
      exact ⟨fun e2 ps g => (by cases g; exact ⟨_, rfl⟩), fun b g => (by cases g)⟩
    | inr b => exact ⟨fun e2 ps g => (by cases g), fun b2 g => (by cases g; rfl)⟩
  unfold wKd
  by_cases a3 : aw = 3
  · rw [if_pos a3]; exact same p 240 (by omega) (Or.inl rfl)
  · rw [if_neg a3]
    by_cases as : ws = false ∧ p < nE s p ∧ s.getD (nE s p) 0 = 61
    · rw [if_pos as]
      have nl : nE s p < s.length := by
        by_cases y : nE s p < s.length
        · exact y
        · have : s.getD (nE s p) 0 = 0 := mdT.o (by omega)
          omega
      obtain ⟨n', X, hn, e⟩ := pL_asg as.2.2 nl (nE s p - p) p 240 [] rfl (Nat.le_refl _) (by omega) (by omega)
      exact same (nE s p + 1) n' hn (Or.inr ⟨_, e⟩)
    · rw [if_neg as]; exact same p 240 (by omega) (Or.inl rfl)
/-- the rest of the tokens are the rest of the commands: c commands have begun, it items are read -/
def enc (s : List Nat) (cs is ps : List (List Nat)) : List tkn → Nat → Nat → Nat → Bool → Nat → Nat → Prop
  | [], aw, _, _, _, c, it => (aw = 0 ∨ aw = 2) ∧ c = cs.length ∧ it = is.length ∧ (aw = 2 → (cs.getD (c - 1) []).getD 2 0 = it)
  | x :: T, aw, jn, rd, ws, c, it =>
    (x.1 = 5 ∧ aw ≤ 1 ∧ enc s cs is ps T aw jn rd ws c it) ∨
    ((x.1 = 4 ∨ x.1 = 5) ∧ aw = 2 ∧ (cs.getD (c - 1) []).getD 2 0 = it ∧ enc s cs is ps T 0 0 rd ws c it) ∨
    ((x.1 = 1 ∨ x.1 = 2 ∨ x.1 = 3) ∧ aw = 2 ∧ (cs.getD (c - 1) []).getD 2 0 = it ∧ enc s cs is ps T 1 x.1 rd ws c it) ∨
    ((x.1 = 6 ∨ x.1 = 7 ∨ x.1 = 8) ∧ ¬ aw = 3 ∧ (aw ≤ 1 → c < cs.length ∧ (cs.getD c []).getD 0 0 = jn ∧ (cs.getD c []).getD 1 0 = it) ∧ enc s cs is ps T 3 jn (x.1 - 4) (if aw ≤ 1 then false else ws) (if aw ≤ 1 then c + 1 else c) it) ∨
    (x.1 = 9 ∧ (aw ≤ 1 → c < cs.length ∧ (cs.getD c []).getD 0 0 = jn ∧ (cs.getD c []).getD 1 0 = it) ∧
      (∃ j0 j1 e : Nat, x.2.2 = (e : Int) ∧ e ≤ s.length ∧ x.2.1 < s.length ∧ it < is.length ∧ is.getD it [] = [(wKd s x.2.1 aw rd (if aw ≤ 1 then false else ws)).1, j0, j1, x.2.1, nE s x.2.1] ∧ j0 ≤ j1 ∧ j1 ≤ ps.length ∧ pL s 240 false (wKd s x.2.1 aw rd (if aw ≤ 1 then false else ws)).2.1 (ps.take j0) = .inl (e, ps.take j1)) ∧
      enc s cs is ps T 2 jn rd (wKd s x.2.1 aw rd (if aw ≤ 1 then false else ws)).2.2 (if aw ≤ 1 then c + 1 else c) (it + 1))
abbrev gCs (g : yT) : List (List Nat) := g.2.2.2.2.1
abbrev gIs (g : yT) : List (List Nat) := g.2.2.2.2.2.1
abbrev gPz (g : yT) : List (List Nat) := g.2.2.2.2.2.2
/-- what the reading has written stays -/
def ext (g g2 : yT) : Prop := gIs g <+: gIs g2 ∧ gPz g <+: gPz g2 ∧ (gCs g).length ≤ (gCs g2).length ∧ (g.1 ≤ 1 → g2.1 ≤ 1 ∨ (gCs g).length < (gCs g2).length) ∧ (∀ i, i < (gCs g).length → ((gCs g2).getD i []).getD 0 0 = ((gCs g).getD i []).getD 0 0 ∧ ((gCs g2).getD i []).getD 1 0 = ((gCs g).getD i []).getD 1 0) ∧ (∀ i, i + 1 < (gCs g).length ∨ (g.1 ≤ 1 ∧ i < (gCs g).length) → ((gCs g2).getD i []).getD 2 0 = ((gCs g).getD i []).getD 2 0)
def ivG (g : yT) : Prop := g.1 ≤ 3 ∧ (g.1 = 2 → 0 < (gCs g).length ∧ ((gCs g).getD ((gCs g).length - 1) []).getD 2 0 = (gIs g).length) ∧ (g.1 = 3 → 0 < (gCs g).length) ∧ ∀ r ∈ gCs g, r.length = 5
theorem ext.rfl' (g : yT) : ext g g := ⟨List.prefix_refl _, List.prefix_refl _, Nat.le_refl _, fun h => Or.inl h, fun _ _ => ⟨rfl, rfl⟩, fun _ _ => rfl⟩
theorem ext.tr {a b c : yT} (h : ext a b) (k : ext b c) : ext a c := by
  obtain ⟨h1, h2, h3, h4, h5, h6⟩ := h
  obtain ⟨k1, k2, k3, k4, k5, k6⟩ := k
  refine ⟨h1.trans k1, h2.trans k2, by omega, fun q => ?_, fun i hi => ⟨(k5 i (by omega)).1.trans (h5 i hi).1, (k5 i (by omega)).2.trans (h5 i hi).2⟩, fun i hi => ?_⟩
  · rcases h4 q with x | x
    · rcases k4 x with y | y
      · exact Or.inl y
      · exact Or.inr (by omega)
    · exact Or.inr (by omega)
  · refine (k6 i ?_).trans (h6 i hi)
    rcases hi with x | x
    · exact Or.inl (by omega)
    · rcases h4 x.1 with y | y
      · exact Or.inr ⟨y, by omega⟩
      · exact Or.inl (by omega)
theorem row_set {r : List Nat} {n i : Nat} (h : r.length = 5) : (r.set 2 n).getD i 0 = if i = 2 then n else r.getD i 0 := by
  rw [List.getD_eq_getElem?_getD, List.getElem?_set]
  by_cases q : i = 2
  · subst q; rw [if_pos rfl, if_pos rfl, if_pos (by omega)]; rfl
  · rw [if_neg (by omega), if_neg q, ← List.getD_eq_getElem?_getD]
theorem setE_get {cs : List (List Nat)} {n i : Nat} (h0 : 0 < cs.length) (h : ∀ r ∈ cs, r.length = 5) (j : Nat) : ((setE cs n).getD i []).getD j 0 = if i = cs.length - 1 ∧ j = 2 then n else (cs.getD i []).getD j 0 := by
  have ge : (setE cs n).getD i [] = if i = cs.length - 1 then (cs.getD (cs.length - 1) []).set 2 n else cs.getD i [] := by
    unfold setE
    rw [List.getD_eq_getElem?_getD, List.getElem?_set]
    by_cases q : i = cs.length - 1
    · rw [if_pos q.symm, if_pos q, if_pos (by omega)]; rfl
    · rw [if_neg (by omega), if_neg q, ← List.getD_eq_getElem?_getD]
  rw [ge]
  by_cases q : i = cs.length - 1
  · have m : cs.getD (cs.length - 1) [] ∈ cs := by
      rw [List.getD_eq_getElem?_getD, List.getElem?_eq_getElem (by omega)]
      exact List.getElem_mem _
    rw [if_pos q, row_set (h _ m)]
    by_cases z : j = 2
    · rw [if_pos z, if_pos ⟨q, z⟩]
    · rw [if_neg z, if_neg (by omega), q]
  · rw [if_neg q, if_neg (by omega)]
theorem setE_len {cs : List (List Nat)} {n : Nat} : (setE cs n).length = cs.length := by unfold setE; rw [List.length_set]
theorem setE_5 {cs : List (List Nat)} {n : Nat} (h0 : 0 < cs.length) (h : ∀ r ∈ cs, r.length = 5) : ∀ r ∈ setE cs n, r.length = 5 := by
  intro r hr
  unfold setE at hr
  rcases List.mem_or_eq_of_mem_set hr with x | x
  · exact h r x
  · rw [x, List.length_set]
    refine h _ ?_
    rw [List.getD_eq_getElem?_getD, List.getElem?_eq_getElem (by omega)]
    exact List.getElem_mem _
theorem opc_eq {aw jn : Nat} {ws : Bool} {cs is : List (List Nat)} : opc aw jn ws cs is = (if aw ≤ 1 then false else ws, if aw ≤ 1 then cs ++ [[jn, is.length, is.length, 0, 0]] else cs) := by
  unfold opc
  by_cases h : aw ≤ 1
  · rw [if_pos (by omega), if_pos h, if_pos h]
  · rw [if_neg (by omega), if_neg h, if_neg h]
theorem app_get {cs : List (List Nat)} {r : List Nat} {i : Nat} (h : i < cs.length) : (cs ++ [r]).getD i [] = cs.getD i [] := by
  rw [List.getD_eq_getElem?_getD, List.getElem?_append_left h, ← List.getD_eq_getElem?_getD]
theorem app_last {cs : List (List Nat)} {r : List Nat} : (cs ++ [r]).getD cs.length [] = r := by
  rw [List.getD_eq_getElem?_getD, List.getElem?_append_right (Nat.le_refl _), Nat.sub_self]; rfl
/-- a command opened -/
theorem ext_opc {aw jn rd : Nat} {ws : Bool} {cs is ps : List (List Nat)} {x y z : Nat} {u : Bool} (hx : ¬ x ≤ 1) : ext (aw, jn, rd, ws, cs, is, ps) (x, y, z, u, (opc aw jn ws cs is).2, is, ps) := by
  rw [opc_eq]
  by_cases h : aw ≤ 1
  · simp only [if_pos h]
    refine ⟨List.prefix_refl _, List.prefix_refl _, by simp [gCs], fun _ => Or.inr (by simp [gCs]), fun i hi => ?_, fun i hi => ?_⟩
    · dsimp only [gCs] at hi ⊢
      rw [app_get hi]; exact ⟨rfl, rfl⟩
    · dsimp only [gCs] at hi ⊢
      rw [app_get (by omega)]
  · simp only [if_neg h]
    exact ⟨List.prefix_refl _, List.prefix_refl _, Nat.le_refl _, fun q => absurd q h, fun i hi => ⟨rfl, rfl⟩, fun i hi => rfl⟩
theorem opc_len {aw jn : Nat} {ws : Bool} {cs is : List (List Nat)} (h : ∀ r ∈ cs, r.length = 5) (h0 : 2 ≤ aw → 0 < cs.length) : 0 < (opc aw jn ws cs is).2.length ∧ ∀ r ∈ (opc aw jn ws cs is).2, r.length = 5 := by
  rw [opc_eq]
  by_cases q : aw ≤ 1
  · simp only [if_pos q]
    refine ⟨by simp, fun r hr => ?_⟩
    rcases List.mem_append.mp hr with y | y
    · exact h r y
    · rw [List.mem_singleton] at y; rw [y]; rfl
  · simp only [if_neg q]
    exact ⟨h0 (by omega), h⟩
theorem opc_new {aw jn : Nat} {ws : Bool} {cs is : List (List Nat)} {g g2 : yT} (q : aw ≤ 1) (hg : gCs g = (opc aw jn ws cs is).2) (e : ext g g2) : cs.length < (gCs g2).length ∧ ((gCs g2).getD cs.length []).getD 0 0 = jn ∧ ((gCs g2).getD cs.length []).getD 1 0 = is.length := by
  have g' : gCs g = cs ++ [[jn, is.length, is.length, 0, 0]] := by rw [hg, opc_eq]; exact if_pos q
  obtain ⟨-, -, e3, -, e5, -⟩ := e
  rw [g'] at e3 e5
  have := e5 cs.length (by simp)
  rw [app_last] at this
  refine ⟨?_, this⟩
  rw [List.length_append] at e3
  exact e3
theorem cutF_nil (s : List Nat) : ∀ (n p : Nat), (cutF s n p).1 = [] → (cutF s n p).2 = -1
  | 0, _, _ => rfl
  | n + 1, p, h => by
    unfold cutF at h ⊢
    by_cases q : (fT s s.length false p).1 = true
    · rw [if_pos q] at h ⊢
      by_cases q0 : opK s (fT s s.length false p).2 = 0
      · rw [if_pos q0] at h; cases h
      · rw [if_neg q0] at h ⊢
        by_cases q9 : opK s (fT s s.length false p).2 = 9
        · rw [if_pos q9] at h ⊢
          cases g : pL s 240 false (fT s s.length false p).2 [] with
          | inl x => rw [g] at h; cases h
          | inr b => rw [g] at h; cases h
        · rw [if_neg q9] at h; cases h
    · rw [if_neg q]
theorem pre_get {l L : List (List Nat)} {r : List Nat} (h : l ++ [r] <+: L) : L.getD l.length [] = r ∧ l.length < L.length := by
  obtain ⟨t, rfl⟩ := h
  refine ⟨?_, by simp⟩
  rw [List.append_assoc, List.getD_eq_getElem?_getD, List.getElem?_append_right (Nat.le_refl _), Nat.sub_self]; rfl
theorem pre_take {l L : List (List Nat)} (h : l <+: L) : L.take l.length = l ∧ l.length ≤ L.length := by
  obtain ⟨t, rfl⟩ := h
  exact ⟨by simp, by simp⟩
/-- the token at q as both see it -/
def tkE (s : List Nat) (q : Nat) (g : yT) (e : Int) (g' : yT) : Prop := mayT (opK s q) g.1 ∧ nxT (opK s q) g.1 = g'.1 ∧ ivG g' ∧ ext g g' ∧ ¬ opK s q = 0 ∧ ∀ g2 T, ext g' g2 → enc s (gCs g2) (gIs g2) (gPz g2) T g'.1 g'.2.1 g'.2.2.1 g'.2.2.2.1 (gCs g').length (gIs g').length → enc s (gCs g2) (gIs g2) (gPz g2) ((opK s q, q, e) :: T) g.1 g.2.1 g.2.2.1 g.2.2.2.1 (gCs g).length (gIs g).length
theorem jnB_E {s : List Nat} {q k w aw jn rd : Nat} {ws : Bool} {cs is ps : List (List Nat)} (hi : ivG (aw, jn, rd, ws, cs, is, ps)) (hk : k = 0 ∧ (opK s q = 4 ∨ (opK s q = 5 ∧ 2 ≤ aw)) ∨ (0 < k ∧ k ≤ 3 ∧ opK s q = k)) (hw : w = opW (opK s q)) : (∀ q' g', jnB k w q aw rd ws cs is ps = .inl (q', g') → q' = q + opW (opK s q) ∧ ∀ e, tkE s q (aw, jn, rd, ws, cs, is, ps) e g') ∧ (∀ e, jnB k w q aw rd ws cs is ps = .inr e → ¬ mayT (opK s q) aw ∧ e = q) := by
  obtain ⟨i1, i2, i3, i4⟩ := hi
  unfold jnB
  by_cases a2 : aw = 2
  · rw [if_pos a2]
    refine ⟨fun q' g' h => ?_, fun e h => (by cases h)⟩
    cases h
    refine ⟨by rw [hw], fun e => ⟨Or.inr (Or.inr (Or.inr ⟨a2, by omega⟩)), ?_, ?_, ?_, by omega, fun g2 T he hT => ?_⟩⟩
    · show nxT (opK s q) aw = _
      unfold nxT
      rcases hk with ⟨x, y⟩ | ⟨x, y, z⟩
      · rw [if_neg (by omega), if_neg (by omega), if_pos (by omega)]; simp only; rw [if_pos x]
      · rw [if_neg (by omega), if_neg (by omega), if_neg (by omega), if_neg (by omega)]; simp only; rw [if_neg (by omega)]
    · have : (if k = 0 then 0 else 1) ≤ 1 := by split <;> omega
      exact ⟨by simp only; omega, fun z => by simp only at z; omega, fun z => by simp only at z; omega, i4⟩
    · exact ⟨List.prefix_refl _, List.prefix_refl _, Nat.le_refl _, fun z => by simp only at z; omega, fun _ _ => ⟨rfl, rfl⟩, fun _ _ => rfl⟩
    · have z6 := he.2.2.2.2.2 (cs.length - 1) (Or.inr ⟨by simp only; split <;> omega, by have := (i2 a2).1; dsimp only [gCs] at this ⊢; omega⟩)
      dsimp only [gCs] at z6
      have z7 : ((gCs g2).getD (cs.length - 1) []).getD 2 0 = is.length := by rw [z6]; exact (i2 a2).2
      dsimp only [gCs, gIs, gPz] at hT ⊢
      unfold enc
      rcases hk with ⟨x, y⟩ | ⟨x, y, z⟩
      · rw [if_pos x, x] at hT
        exact Or.inr (Or.inl ⟨by simp only; omega, a2, z7, hT⟩)
      · rw [if_neg (by omega)] at hT
        refine Or.inr (Or.inr (Or.inl ⟨by simp only; omega, a2, z7, ?_⟩))
        simp only; rw [z]; exact hT
  · rw [if_neg a2]
    refine ⟨fun q' g' h => (by cases h), fun e h => ?_⟩
    cases h
    exact ⟨fun z => by rcases z with z | z | z | z <;> omega, rfl⟩
theorem rdr_E {s : List Nat} {q k w aw jn rd : Nat} {ws : Bool} {cs is ps : List (List Nat)} (hi : ivG (aw, jn, rd, ws, cs, is, ps)) (hk : 2 ≤ k ∧ k ≤ 4 ∧ opK s q = k + 4) (hw : w = opW (opK s q)) : (∀ q' g', rdr k w q aw jn ws cs is ps = .inl (q', g') → q' = q + opW (opK s q) ∧ ∀ e, tkE s q (aw, jn, rd, ws, cs, is, ps) e g') ∧ (∀ e, rdr k w q aw jn ws cs is ps = .inr e → ¬ mayT (opK s q) aw ∧ e = q) := by
  obtain ⟨i1, i2, i3, i4⟩ := hi
  dsimp only [gCs, gIs] at i1 i2 i3 i4
  unfold rdr
  by_cases a3 : aw = 3
  · rw [if_pos a3]
    refine ⟨fun q' g' h => (by cases h), fun e h => ?_⟩
    cases h
    exact ⟨fun z => by rcases z with z | z | z | z <;> omega, rfl⟩
  · rw [if_neg a3]
    refine ⟨fun q' g' h => ?_, fun e h => (by cases h)⟩
    cases h
    have ol := opc_len (aw := aw) (jn := jn) (ws := ws) (is := is) i4 (fun z => by
      by_cases y : aw = 2
      · exact (i2 y).1
      · omega)
    refine ⟨by rw [hw], fun e => ⟨Or.inr (Or.inl ⟨by omega, a3⟩), ?_, ?_, ext_opc (by decide), by omega, fun g2 T he hT => ?_⟩⟩
    · show nxT (opK s q) aw = 3
      unfold nxT
      rw [if_neg (by omega), if_pos (by omega)]
    · exact ⟨show 3 ≤ 3 by decide, fun z => absurd (show 3 = 2 from z) (by decide), fun _ => ol.1, ol.2⟩
    · dsimp only [gCs, gIs, gPz] at hT ⊢
      unfold enc
      refine Or.inr (Or.inr (Or.inr (Or.inl ⟨by simp only; omega, a3, fun z => opc_new z rfl he, ?_⟩)))
      simp only
      rw [opc_eq] at hT
      simp only at hT
      rw [show opK s q - 4 = k by omega]
      by_cases y : aw ≤ 1
      · rw [if_pos y, if_pos y] at hT ⊢
        rw [List.length_append] at hT; exact hT
      · rw [if_neg y, if_neg y] at hT ⊢; exact hT

theorem rwd_E {s : List Nat} {q aw jn rd : Nat} {ws : Bool} {cs is ps : List (List Nat)} (hi : ivG (aw, jn, rd, ws, cs, is, ps)) (hq : q < s.length) (hl : s.length ≤ 240) (hz : okSc s) (hk : opK s q = 9) : (∀ q' g', rwd s q aw jn rd ws cs is ps = .inl (q', g') → (∃ R, pL s 240 false q [] = .inl (q', R)) ∧ tkE s q (aw, jn, rd, ws, cs, is, ps) q' g') ∧ (∀ e, rwd s q aw jn rd ws cs is ps = .inr e → pL s 240 false q [] = .inr e) := by
  obtain ⟨i1, i2, i3, i4⟩ := hi
  dsimp only [gCs, gIs] at i1 i2 i3 i4
  have ol := opc_len (aw := aw) (jn := jn) (ws := ws) (is := is) i4 (fun z => by
    by_cases y : aw = 2
    · exact (i2 y).1
    · exact i3 (by omega))
  have pw := pL_wKd (aw := aw) (rd := rd) (ws := (opc aw jn ws cs is).1) (acc := ps) hq hl hz
  unfold rwd
  cases gp : pL s 240 false (wKd s q aw rd (opc aw jn ws cs is).1).2.1 ps with
  | inr b => exact ⟨fun q' g' h => (by cases h), fun e h => (by cases h; exact pw.2 _ gp)⟩
  | inl x =>
    obtain ⟨p2, ps2⟩ := x
    refine ⟨fun q' g' h => ?_, fun e h => (by cases h)⟩
    cases h
    obtain ⟨R, hR⟩ := pw.1 _ _ gp
    have pr : ps <+: ps2 := by
      have a := pL_ac (s := s) (a := []) (A := ps) 240 false (wKd s q aw rd (opc aw jn ws cs is).1).2.1 []
      rw [List.append_nil, gp] at a
      cases g2 : pL s 240 false (wKd s q aw rd (opc aw jn ws cs is).1).2.1 [] with
      | inl y =>
        obtain ⟨e2, R2⟩ := y
        rw [g2] at a
        cases a
        exact List.prefix_append _ _
      | inr b => rw [g2] at a; cases a
    have pl := pL_r s 240 false q [] p2 R (by omega) hR
    have eo : ext (aw, jn, rd, ws, cs, is, ps) (2, jn, rd, (wKd s q aw rd (opc aw jn ws cs is).1).2.2, (opc aw jn ws cs is).2, is, ps) := ext_opc (by decide)
    have es : ext (2, jn, rd, (wKd s q aw rd (opc aw jn ws cs is).1).2.2, (opc aw jn ws cs is).2, is, ps) (2, jn, rd, (wKd s q aw rd (opc aw jn ws cs is).1).2.2, setE (opc aw jn ws cs is).2 (is.length + 1), is ++ [[(wKd s q aw rd (opc aw jn ws cs is).1).1, ps.length, ps2.length, q, nE s q]], ps2) := by
      refine ⟨List.prefix_append _ _, pr, by dsimp only [gCs]; rw [setE_len]; exact Nat.le_refl _, fun z => absurd (show 2 ≤ 1 from z) (by decide), fun i hi => ?_, fun i hi => ?_⟩
      · dsimp only [gCs]
        rw [setE_get ol.1 ol.2, setE_get ol.1 ol.2, if_neg (by omega), if_neg (by omega)]
        exact ⟨rfl, rfl⟩
      · dsimp only [gCs] at hi ⊢
        rw [setE_get ol.1 ol.2, if_neg (by omega)]
    refine ⟨⟨R, hR⟩, Or.inl hk, by unfold nxT; rw [if_pos hk], ⟨show 2 ≤ 3 by decide, fun _ => ⟨by dsimp only [gCs]; rw [setE_len]; exact ol.1, ?_⟩, fun z => absurd (show 2 = 3 from z) (by decide), setE_5 ol.1 ol.2⟩, eo.tr es, by omega, fun g2 T he hT => ?_⟩
    · dsimp only [gCs, gIs]
      rw [setE_get ol.1 ol.2, setE_len, if_pos ⟨rfl, rfl⟩, List.length_append]; rfl
    · have e2 := es.tr he
      dsimp only [gCs, gIs, gPz] at hT ⊢
      unfold enc
      have ho : (opc aw jn ws cs is).1 = (if aw ≤ 1 then false else ws) := by rw [opc_eq]
      have pg := pre_get he.1
      have pz := pre_take he.2.1
      have pz0 := pre_take (pr.trans he.2.1)
      refine Or.inr (Or.inr (Or.inr (Or.inr ⟨hk, fun z => opc_new z rfl e2, ⟨ps.length, ps2.length, p2, rfl, pl.2.1, hq, pg.2, by rw [← ho]; exact pg.1, pr.length_le, pz.2, ?_⟩, ?_⟩)))
      · rw [← ho]
        show pL s 240 false (wKd s q aw rd (opc aw jn ws cs is).1).2.1 (List.take ps.length (gPz g2)) = _
        rw [pz0.1, gp]
        show _ = Sum.inl (p2, List.take ps2.length (gPz g2))
        rw [pz.1]
      · rw [← ho]
        rw [setE_len, List.length_append] at hT
        have : (opc aw jn ws cs is).2.length = if aw ≤ 1 then cs.length + 1 else cs.length := by
          rw [opc_eq]
          by_cases y : aw ≤ 1
          · simp only [if_pos y]; rw [List.length_append]; rfl
          · simp only [if_neg y]
        rw [this] at hT
        exact hT
theorem tok_E {s : List Nat} {q : Nat} {g : yT} (hi : ivG g) (hq : q < s.length) (hl : s.length ≤ 240) (hz : okSc s) : (∀ q' g', tok s q g = .inl (q', g') → ¬ opK s q = 0 ∧ (opK s q = 9 → (∃ R, pL s 240 false q [] = .inl (q', R)) ∧ tkE s q g q' g') ∧ (¬ opK s q = 9 → q' = q + opW (opK s q) ∧ ∀ e, tkE s q g e g')) ∧ (∀ e, tok s q g = .inr e → (¬ mayT (opK s q) g.1 ∧ e = q) ∨ (opK s q = 9 ∧ pL s 240 false q [] = .inr e)) := by
  obtain ⟨aw, jn, rd, ws, cs, is, ps⟩ := g
  have fin : ∀ {x : (Nat × yT) ⊕ Nat}, ¬ opK s q = 9 → ((∀ q' g', x = .inl (q', g') → q' = q + opW (opK s q) ∧ ∀ e, tkE s q (aw, jn, rd, ws, cs, is, ps) e g') ∧ (∀ e, x = .inr e → ¬ mayT (opK s q) aw ∧ e = q)) → (∀ q' g', x = .inl (q', g') → ¬ opK s q = 0 ∧ (opK s q = 9 → (∃ R, pL s 240 false q [] = .inl (q', R)) ∧ tkE s q (aw, jn, rd, ws, cs, is, ps) q' g') ∧ (¬ opK s q = 9 → q' = q + opW (opK s q) ∧ ∀ e, tkE s q (aw, jn, rd, ws, cs, is, ps) e g')) ∧ (∀ e, x = .inr e → (¬ mayT (opK s q) aw ∧ e = q) ∨ (opK s q = 9 ∧ pL s 240 false q [] = .inr e)) := by
    intro x h9 h
    exact ⟨fun q' g' h1 => ⟨((h.1 q' g' h1).2 0).2.2.2.2.1, fun z => absurd z h9, fun _ => h.1 q' g' h1⟩, fun e h1 => Or.inl (h.2 e h1)⟩
  have bad : ∀ {x : (Nat × yT) ⊕ Nat}, opK s q = 0 → x = .inr q → ((∀ q' g', x = .inl (q', g') → q' = q + opW (opK s q) ∧ ∀ e, tkE s q (aw, jn, rd, ws, cs, is, ps) e g') ∧ (∀ e, x = .inr e → ¬ mayT (opK s q) aw ∧ e = q)) := by
    intro x h0 h
    rw [h]
    exact ⟨fun q' g' z => (by cases z), fun e z => (by cases z; exact ⟨fun z => by rcases z with z | z | z | z <;> omega, rfl⟩)⟩
  have aw3 : aw ≤ 3 := hi.1
  unfold tok
  simp only
  by_cases c10 : s.getD q 0 = 10
  · have k : opK s q = 5 := by unfold opK; rw [c10]; rfl
    rw [if_pos c10]
    by_cases a : aw = 0 ∨ aw = 1
    · rw [if_pos a]
      refine fin (by omega) ⟨fun q' g' h => ?_, fun e h => (by cases h)⟩
      cases h
      refine ⟨by rw [k]; rfl, fun e => ⟨Or.inr (Or.inr (Or.inl ⟨k, by simp only; omega⟩)), ?_, hi, ext.rfl' _, by omega, fun g2 T he hT => ?_⟩⟩
      · simp only; unfold nxT
        rw [if_neg (by omega), if_neg (by omega), if_neg (by omega), if_pos k]
      · unfold enc
        exact Or.inl ⟨k, by simp only; omega, hT⟩
    · rw [if_neg a]
      exact fin (by omega) (jnB_E hi (Or.inl ⟨rfl, Or.inr ⟨k, by omega⟩⟩) (by rw [k]; rfl))
  rw [if_neg c10]
  by_cases c59 : s.getD q 0 = 59
  · have k : opK s q = 4 := by unfold opK; rw [c59]; rfl
    rw [if_pos c59]
    exact fin (by omega) (jnB_E hi (Or.inl ⟨rfl, Or.inl k⟩) (by rw [k]; rfl))
  rw [if_neg c59]
  by_cases c124 : s.getD q 0 = 124
  · rw [if_pos c124]
    by_cases d : s.getD q 0 = s.getD (q + 1) 0
    · rw [if_pos d]
      have k : opK s q = 2 := by unfold opK; rw [← d, c124]; rfl
      exact fin (by omega) (jnB_E hi (Or.inr ⟨by decide, by decide, k⟩) (by rw [k]; rfl))
    · rw [if_neg d]
      have k : opK s q = 3 := by unfold opK opS; rw [if_neg (by omega), if_pos c124, if_neg (by omega)]
      exact fin (by omega) (jnB_E hi (Or.inr ⟨by decide, by decide, k⟩) (by rw [k]; rfl))
  rw [if_neg c124]
  by_cases c38 : s.getD q 0 = 38
  · rw [if_pos c38]
    by_cases d : s.getD q 0 = s.getD (q + 1) 0
    · rw [if_pos d]
      have k : opK s q = 1 := by unfold opK; rw [← d, c38]; rfl
      exact fin (by omega) (jnB_E hi (Or.inr ⟨by decide, by decide, k⟩) (by rw [k]; rfl))
    · rw [if_neg d]
      have k : opK s q = 0 := by unfold opK opS; rw [if_pos c38, if_neg (by omega)]
      exact fin (by omega) (bad k rfl)
  rw [if_neg c38]
  by_cases c60 : s.getD q 0 = 60
  · rw [if_pos c60]
    have k : opK s q = 6 := by unfold opK; rw [c60]; rfl
    exact fin (by omega) (rdr_E hi ⟨by decide, by decide, k⟩ (by rw [k]; rfl))
  rw [if_neg c60]
  by_cases c62 : s.getD q 0 = 62
  · rw [if_pos c62]
    by_cases d : s.getD q 0 = s.getD (q + 1) 0
    · rw [if_pos d]
      have k : opK s q = 8 := by unfold opK; rw [← d, c62]; rfl
      exact fin (by omega) (rdr_E hi ⟨by decide, by decide, k⟩ (by rw [k]; rfl))
    · rw [if_neg d]
      have k : opK s q = 7 := by unfold opK opS; rw [if_neg (by omega), if_neg (by omega), if_pos c62, if_neg (by omega)]
      exact fin (by omega) (rdr_E hi ⟨by decide, by decide, k⟩ (by rw [k]; rfl))
  rw [if_neg c62]
  by_cases c40 : s.getD q 0 = 40 ∨ s.getD q 0 = 41
  · rw [if_pos c40]
    have k : opK s q = 0 := by unfold opK opS; rw [if_neg c38, if_neg c124, if_neg c62, if_neg c59, if_neg c10, if_neg c60, if_pos c40]
    exact fin (by omega) (bad k rfl)
  rw [if_neg c40]
  have k : opK s q = 9 := by unfold opK opS; rw [if_neg c38, if_neg c124, if_neg c62, if_neg c59, if_neg c10, if_neg c60, if_neg c40]
  have r := rwd_E hi hq hl hz k
  exact ⟨fun q' g' h => ⟨by omega, fun _ => r.1 q' g' h, fun z => absurd k z⟩, fun e h => Or.inr ⟨k, r.2 e h⟩⟩
theorem opK_9 {s : List Nat} {q : Nat} (h : ¬ s.getD q 0 = 32) (k : opK s q = 9) : ¬ (s.getD q 0 = 32 ∨ s.getD q 0 = 10 ∨ s.getD q 0 = 124 ∨ s.getD q 0 = 38 ∨ s.getD q 0 = 59 ∨ s.getD q 0 = 60 ∨ s.getD q 0 = 62 ∨ s.getD q 0 = 40 ∨ s.getD q 0 = 41) := by
  unfold opK opS at k
  repeat' (split at k)
  all_goals omega
/-- the class reads what the reference cuts -/
theorem yR_enc {s : List Nat} (hl : s.length ≤ 240) (hz : okSc s) : ∀ (n p : Nat) (g : yT), s.length - p ≤ n → ivG g →
    (∀ p2 g2, yR s n p g = .inl (p2, g2) → malF s.length (cutF s n p).2 (cutF s n p).1 g.1 = -1 ∧ enc s (gCs g2) (gIs g2) (gPz g2) (cutF s n p).1 g.1 g.2.1 g.2.2.1 g.2.2.2.1 (gCs g).length (gIs g).length ∧ ext g g2) ∧
    (∀ e, yR s n p g = .inr e → malF s.length (cutF s n p).2 (cutF s n p).1 g.1 = (e : Int)) := by
  have fin : ∀ (p : Nat) (g : yT), ivG g → (∀ p2 g2, yF s p g = .inl (p2, g2) → malF s.length (-1) [] g.1 = -1 ∧ enc s (gCs g2) (gIs g2) (gPz g2) [] g.1 g.2.1 g.2.2.1 g.2.2.2.1 (gCs g).length (gIs g).length ∧ ext g g2) ∧ (∀ e, yF s p g = .inr e → malF s.length (-1) [] g.1 = (e : Int)) := by
    intro p g hi
    unfold yF malF
    by_cases a : g.1 = 1 ∨ g.1 = 3
    · rw [if_pos a, if_pos a]
      exact ⟨fun p2 g2 h => (by cases h), fun e h => (by cases h; rfl)⟩
    · rw [if_neg a, if_neg a]
      refine ⟨fun p2 g2 h => ?_, fun e h => (by cases h)⟩
      cases h
      refine ⟨rfl, ?_, ext.rfl' _⟩
      unfold enc
      exact ⟨by have := hi.1; omega, rfl, rfl, fun z => (hi.2.1 z).2⟩
  intro n
  induction n with
  | zero => exact fun p g _ hi => fin p g hi
  | succ n ih =>
    intro p g hn hi
    unfold yR cutF
    by_cases f : (fT s s.length false p).1 = true
    · rw [if_pos f, if_pos f]
      have pl : p ≤ s.length := by
        by_cases y : p ≤ s.length
        · exact y
        · rw [fT_ou (by omega)] at f; cases f
      have fr := fT_r s s.length false p pl
      have lt := fr.2.2 f
      have ge := fr.1
      have c32 := fT_32 s _ _ _ f
      generalize (fT s s.length false p).2 = q at *
      have tk := tok_E (q := q) hi lt hl hz
      -- what follows a good token
      have go : ∀ (q' : Nat) (g' : yT) (e : Int), q < q' → tkE s q g e g' → (∀ p2 g2, yR s n q' g' = .inl (p2, g2) → malF s.length (cutF s n q').2 ((opK s q, q, e) :: (cutF s n q').1) g.1 = -1 ∧ enc s (gCs g2) (gIs g2) (gPz g2) ((opK s q, q, e) :: (cutF s n q').1) g.1 g.2.1 g.2.2.1 g.2.2.2.1 (gCs g).length (gIs g).length ∧ ext g g2) ∧ (∀ b, yR s n q' g' = .inr b → malF s.length (cutF s n q').2 ((opK s q, q, e) :: (cutF s n q').1) g.1 = (b : Int)) := by
        intro q' g' e hq' t
        obtain ⟨t1, t2, t3, t4, t5, t6⟩ := t
        have := ih q' g' (by omega) t3
        have hm : malF s.length (cutF s n q').2 ((opK s q, q, e) :: (cutF s n q').1) g.1 = malF s.length (cutF s n q').2 (cutF s n q').1 g'.1 := by
          conv => lhs; unfold malF
          simp only
          rw [if_pos t1, t2, if_neg]
          intro z
          have := cutF_nil s n q' z.1
          omega
        rw [hm]
        refine ⟨fun p2 g2 h => ?_, this.2⟩
        obtain ⟨a1, a2, a3⟩ := this.1 p2 g2 h
        exact ⟨a1, t6 g2 _ a3 a2, t4.tr a3⟩
      cases gt : tok s q g with
      | inl x =>
        obtain ⟨q', g'⟩ := x
        obtain ⟨n0, t9, t1⟩ := tk.1 q' g' gt
        rw [if_neg n0]
        by_cases k9 : opK s q = 9
        · obtain ⟨⟨R, hR⟩, te⟩ := t9 k9
          have := pL_pr lt (opK_9 c32 k9) hR
          rw [if_pos k9, hR]
          simp only
          rw [← k9]
          exact go q' g' q' this te
        · obtain ⟨e1, te⟩ := t1 k9
          rw [if_neg k9]
          simp only
          subst e1
          exact go _ g' _ (by unfold opW; split <;> omega) (te _)
      | inr b =>
        refine ⟨fun p2 g2 h => (by cases h), fun e h => ?_⟩
        cases h
        rcases tk.2 b gt with ⟨x, y⟩ | ⟨x, y⟩
        · subst y
          by_cases k0 : opK s b = 0
          · rw [if_pos k0]
            rw [k0] at x
            unfold malF
            rw [if_neg x]
          · rw [if_neg k0]
            by_cases k9 : opK s b = 9
            · exact absurd (Or.inl k9) x
            · rw [if_neg k9]
              unfold malF
              simp only
              rw [if_neg x]
        · rw [if_neg (by omega), if_pos x, y]
          dsimp only
          unfold malF
          rw [if_pos (Or.inl rfl), if_pos ⟨rfl, by omega⟩]
    · rw [if_neg f, if_neg f]
      exact fin _ g hi
