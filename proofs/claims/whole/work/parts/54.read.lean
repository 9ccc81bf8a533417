/-! TOKENS, as the class reads them -/
abbrev yT : Type := Nat × Nat × Nat × Bool × List (List Nat) × List (List Nat) × List (List Nat)
/-- a command is opened where one may begin -/
def opc (aw jn : Nat) (ws : Bool) (cs is : List (List Nat)) : Bool × List (List Nat) := if aw = 0 ∨ aw = 1 then (false, cs ++ [[jn, is.length, is.length, 0, 0]]) else (ws, cs)
def setE (cs : List (List Nat)) (n : Nat) : List (List Nat) := cs.set (cs.length - 1) ((cs.getD (cs.length - 1) []).set 2 n)
/-- a word's kind, where its pieces begin, whether a word has been seen -/
def wKd (s : List Nat) (p aw rd : Nat) (ws : Bool) : Nat × Nat × Bool := if aw = 3 then (rd, p, ws) else if ws = false ∧ p < nE s p ∧ s.getD (nE s p) 0 = 61 then (1, nE s p + 1, ws) else (0, p, true)
def rwd (s : List Nat) (p aw jn rd : Nat) (ws : Bool) (cs is ps : List (List Nat)) : (Nat × yT) ⊕ Nat :=
  match pL s 240 false (wKd s p aw rd (opc aw jn ws cs is).1).2.1 ps with
  | .inr e => .inr e
  | .inl (p2, ps2) => .inl (p2, 2, jn, rd, (wKd s p aw rd (opc aw jn ws cs is).1).2.2, setE (opc aw jn ws cs is).2 (is.length + 1), is ++ [[(wKd s p aw rd (opc aw jn ws cs is).1).1, ps.length, ps2.length, p, nE s p]], ps2)
def jnB (k w p aw rd : Nat) (ws : Bool) (cs is ps : List (List Nat)) : (Nat × yT) ⊕ Nat := if aw = 2 then .inl (p + w, if k = 0 then 0 else 1, k, rd, ws, cs, is, ps) else .inr p
def rdr (k w p aw jn : Nat) (ws : Bool) (cs is ps : List (List Nat)) : (Nat × yT) ⊕ Nat := if aw = 3 then .inr p else .inl (p + w, 3, jn, k, (opc aw jn ws cs is).1, (opc aw jn ws cs is).2, is, ps)
def tok (s : List Nat) (p : Nat) (g : yT) : (Nat × yT) ⊕ Nat :=
  if s.getD p 0 = 10 then (if g.1 = 0 ∨ g.1 = 1 then .inl (p + 1, g) else jnB 0 1 p g.1 g.2.2.1 g.2.2.2.1 g.2.2.2.2.1 g.2.2.2.2.2.1 g.2.2.2.2.2.2)
  else if s.getD p 0 = 59 then jnB 0 1 p g.1 g.2.2.1 g.2.2.2.1 g.2.2.2.2.1 g.2.2.2.2.2.1 g.2.2.2.2.2.2
  else if s.getD p 0 = 124 then (if s.getD p 0 = s.getD (p + 1) 0 then jnB 2 2 p g.1 g.2.2.1 g.2.2.2.1 g.2.2.2.2.1 g.2.2.2.2.2.1 g.2.2.2.2.2.2 else jnB 3 1 p g.1 g.2.2.1 g.2.2.2.1 g.2.2.2.2.1 g.2.2.2.2.2.1 g.2.2.2.2.2.2)
  else if s.getD p 0 = 38 then (if s.getD p 0 = s.getD (p + 1) 0 then jnB 1 2 p g.1 g.2.2.1 g.2.2.2.1 g.2.2.2.2.1 g.2.2.2.2.2.1 g.2.2.2.2.2.2 else .inr p)
  else if s.getD p 0 = 60 then rdr 2 1 p g.1 g.2.1 g.2.2.2.1 g.2.2.2.2.1 g.2.2.2.2.2.1 g.2.2.2.2.2.2
  else if s.getD p 0 = 62 then (if s.getD p 0 = s.getD (p + 1) 0 then rdr 4 2 p g.1 g.2.1 g.2.2.2.1 g.2.2.2.2.1 g.2.2.2.2.2.1 g.2.2.2.2.2.2 else rdr 3 1 p g.1 g.2.1 g.2.2.2.1 g.2.2.2.2.1 g.2.2.2.2.2.1 g.2.2.2.2.2.2)
  else if s.getD p 0 = 40 ∨ s.getD p 0 = 41 then .inr p
  else rwd s p g.1 g.2.1 g.2.2.1 g.2.2.2.1 g.2.2.2.2.1 g.2.2.2.2.2.1 g.2.2.2.2.2.2
def yF (s : List Nat) (p : Nat) (g : yT) : (Nat × yT) ⊕ Nat := if g.1 = 1 ∨ g.1 = 3 then .inr s.length else .inl (p, g)
def yR (s : List Nat) : Nat → Nat → yT → (Nat × yT) ⊕ Nat
  | 0, p, g => yF s p g
  | n + 1, p, g => if (fT s s.length false p).1 = true then (match tok s (fT s s.length false p).2 g with
      | .inl (p2, g2) => yR s n p2 g2
      | .inr e => .inr e) else yF s (fT s s.length false p).2 g
/-- what holds of the sheets while they are read -/
def yI (s : List Nat) (p : Nat) (g : yT) : Prop := p ≤ s.length ∧ g.2.2.2.2.1.length ≤ p ∧ g.2.2.2.2.2.1.length ≤ p ∧ g.2.2.2.2.2.2.length ≤ p ∧ (∀ r ∈ g.2.2.2.2.1, r.length = 5) ∧ (g.1 = 2 ∨ g.1 = 3 → 0 < g.2.2.2.2.1.length) ∧ g.1 ≤ 3 ∧ g.2.1 ≤ 3 ∧ (g.1 = 3 → g.2.2.1 ≤ 4)
theorem pL_r (s : List Nat) : ∀ n q p ps p' ps', p ≤ s.length → pL s n q p ps = .inl (p', ps') → p ≤ p' ∧ p' ≤ s.length ∧ ps'.length + p ≤ ps.length + p'
  | 0, q, p, ps, p', ps', hp, h => by
    unfold pL at h; split at h
    · cases h
    · cases h; omega
  | n + 1, q, p, ps, p', ps', hp, h => by
    unfold pL at h; split at h
    · next hl =>
      cases g : pS s q p with
      | inl x =>
        obtain ⟨r, p1, q1⟩ := x
        rw [g] at h
        have := pS_r hl g
        have := pL_r s n q1 p1 (ps ++ [r]) p' ps' this.2.1 h
        rw [List.length_append] at this; simp at this; omega
      | inr x =>
        rw [g] at h
        cases x with
        | none => cases h; omega
        | some e => cases h
    · split at h
      · cases h
      · cases h; omega
theorem pL_pr {s : List Nat} {n p p' : Nat} {ps ps' : List (List Nat)} (hp : p < s.length) (hw : ¬ (s.getD p 0 = 32 ∨ s.getD p 0 = 10 ∨ s.getD p 0 = 124 ∨ s.getD p 0 = 38 ∨ s.getD p 0 = 59 ∨ s.getD p 0 = 60 ∨ s.getD p 0 = 62 ∨ s.getD p 0 = 40 ∨ s.getD p 0 = 41)) (h : pL s (n + 1) false p ps = .inl (p', ps')) : p < p' := by
  unfold pL at h; rw [if_pos hp] at h
  cases g : pS s false p with
  | inl x =>
    obtain ⟨r, p1, q1⟩ := x
    rw [g] at h
    have k1 := pS_r hp g
    have := pL_r s n q1 p1 (ps ++ [r]) p' ps' k1.2.1 h
    omega
  | inr x =>
    exfalso
    rw [g] at h
    cases x with
    | none =>
      unfold pS at g
      split at g
      · cases g
      · split at g
        · unfold esS at g; split at g <;> cases g
        · split at g
          · split at g
            · unfold brS at g; split at g
              · cases g
              · split at g
                · split at g
                  · split at g <;> cases g
                  · cases g
                · split at g <;> cases g
            · cases g
          · split at g
            · cases g
            · split at g
              · unfold sqS at g; split at g <;> cases g
              · first
                | (cases g; done)
                | (split at g
                   · next q => exact hw q
                   · cases g)
    | some e => cases h
theorem mem_setE {cs : List (List Nat)} {n : Nat} (h : ∀ r ∈ cs, r.length = 5) : ∀ r ∈ setE cs n, r.length = 5 := by
  intro r hr
  unfold setE at hr
  rcases List.mem_or_eq_of_mem_set hr with q | q
  · exact h r q
  · rw [q, List.length_set]
    by_cases hc : cs.length = 0
    · exfalso
      rw [List.length_eq_zero_iff.mp hc] at hr; simp at hr
    · refine h _ ?_
      rw [List.getD_eq_getElem?_getD, List.getElem?_eq_getElem (show cs.length - 1 < cs.length by omega)]; exact List.getElem_mem _
theorem opc_r {aw jn : Nat} {ws : Bool} {cs is : List (List Nat)} (h5 : ∀ r ∈ cs, r.length = 5) (hc : aw = 2 ∨ aw = 3 → 0 < cs.length) (ha : aw ≤ 3) : (∀ r ∈ (opc aw jn ws cs is).2, r.length = 5) ∧ 0 < (opc aw jn ws cs is).2.length ∧ (opc aw jn ws cs is).2.length ≤ cs.length + 1 ∧ cs.length ≤ (opc aw jn ws cs is).2.length := by
  unfold opc; split
  · refine ⟨fun r hr => ?_, by simp, by simp, by simp⟩
    rcases List.mem_append.mp hr with q | q
    · exact h5 r q
    · rw [List.mem_singleton.mp q]; rfl
  · next q => exact ⟨h5, hc (by omega), by simp, by simp⟩
theorem tok_r {s : List Nat} {p p' : Nat} {g g' : yT} (hp : p < s.length) (h32 : ¬ s.getD p 0 = 32) (h : yI s p g) (e : tok s p g = .inl (p', g')) : yI s p' g' ∧ p < p' := by
  obtain ⟨aw, jn, rd, ws, cs, is, ps⟩ := g
  obtain ⟨y1, y2, y3, y4, y5, y6, y7, y8, y9⟩ := h
  simp only at y1 y2 y3 y4 y5 y6 y7 y8 y9
  have jb : ∀ k w, k ≤ 3 → 1 ≤ w → p + w ≤ s.length → jnB k w p aw rd ws cs is ps = .inl (p', g') → yI s p' g' ∧ p < p' := by
    intro k w hk hw hl q
    unfold jnB at q; split at q
    · next qa =>
      cases q
      refine ⟨⟨hl, by simp only; omega, by simp only; omega, by simp only; omega, y5, fun _ => y6 (Or.inl qa), ?_, hk, fun z => ?_⟩, by omega⟩
      · simp only; split <;> omega
      · exfalso; simp only at z; split at z <;> omega
    · cases q
  have rr : ∀ k w, k ≤ 4 → 1 ≤ w → p + w ≤ s.length → rdr k w p aw jn ws cs is ps = .inl (p', g') → yI s p' g' ∧ p < p' := by
    intro k w hk hw hl q
    unfold rdr at q; split at q
    · cases q
    · cases q
      have := opc_r (jn := jn) (ws := ws) (is := is) y5 y6 y7
      exact ⟨⟨hl, by simp only; omega, by simp only; omega, by simp only; omega, this.1, fun _ => this.2.1, by simp, y8, fun _ => hk⟩, by omega⟩
  unfold tok at e
  simp only at e
  split at e
  · split at e
    · cases e; exact ⟨⟨by omega, by simp only; omega, by simp only; omega, by simp only; omega, y5, y6, y7, y8, y9⟩, by omega⟩
    · exact jb 0 1 (by omega) (by omega) (by omega) e
  · split at e
    · exact jb 0 1 (by omega) (by omega) (by omega) e
    · split at e
      · split at e
        · next q => exact jb 2 2 (by omega) (by omega) (by have := getD_pos (s := s) (k := p + 1) (by omega); omega) e
        · exact jb 3 1 (by omega) (by omega) (by omega) e
      · split at e
        · split at e
          · next q => exact jb 1 2 (by omega) (by omega) (by have := getD_pos (s := s) (k := p + 1) (by omega); omega) e
          · cases e
        · split at e
          · exact rr 2 1 (by omega) (by omega) (by omega) e
          · split at e
            · split at e
              · next q => exact rr 4 2 (by omega) (by omega) (by have := getD_pos (s := s) (k := p + 1) (by omega); omega) e
              · exact rr 3 1 (by omega) (by omega) (by omega) e
            · split at e
              · cases e
              · unfold rwd at e
                have oc := opc_r (jn := jn) (ws := ws) (is := is) y5 y6 y7
                have b1 := nE_ge s p
                have b2 := nE_le (s := s) (f := p) (by omega)
                generalize hz : wKd s p aw rd (opc aw jn ws cs is).1 = z at e
                have hz1 : p ≤ z.2.1 ∧ z.2.1 ≤ s.length ∧ z.1 ≤ 4 ∧ (z.2.1 = p ∨ p < z.2.1) := by
                  rw [← hz]; unfold wKd; split
                  · next q3 => exact ⟨Nat.le_refl _, by simp only; omega, y9 q3, Or.inl rfl⟩
                  · split
                    · next q =>
                      have := getD_pos (s := s) (k := nE s p) (by omega)
                      exact ⟨by simp only; omega, by simp only; omega, by simp, Or.inr (by simp only; omega)⟩
                    · exact ⟨Nat.le_refl _, by simp only; omega, by simp, Or.inl rfl⟩
                cases g : pL s 240 false z.2.1 ps with
                | inr x => rw [g] at e; cases e
                | inl x =>
                  obtain ⟨p2, ps2⟩ := x
                  rw [g] at e
                  have pr := pL_r s 240 false z.2.1 ps p2 ps2 hz1.2.1 g
                  have lt : p < p2 := by
                    rcases hz1.2.2.2 with q | q
                    · rw [q] at g
                      exact pL_pr hp (by omega) g
                    · omega
                  cases e
                  refine ⟨⟨pr.2.1, ?_, ?_, ?_, mem_setE oc.1, fun _ => ?_, by simp, y8, fun z => absurd z (by simp)⟩, lt⟩
                  · simp only [setE, List.length_set]; omega
                  · simp only [List.length_append, List.length_cons, List.length_nil]; omega
                  · simp only; omega
                  · simp only [setE, List.length_set]; exact oc.2.1
section READ
variable {E : mE} {M : mM} {Q : mQ} {b : Nat} {s : List Nat} {pl p aw jn rd : Nat} {ws : Bool} {cs is ps : List (List Nat)}
/-- the syntax as a tuple -/
def syT (b : Nat) (M : mM) (s : List Nat) (pl p : Nat) (g : yT) : Prop := sy b M s pl p g.1 g.2.1 g.2.2.1 g.2.2.2.1 g.2.2.2.2.1 g.2.2.2.2.2.1 g.2.2.2.2.2.2
theorem y_open (h : sy b M s pl p aw jn rd ws cs is ps) (hc : cs.length < 240) (hi : is.length < 1000) (hj : jn ≤ 3) (ha : aw ≤ 3) (hq : ∀ M', sy b M' s pl p aw jn rd (opc aw jn ws cs is).1 (opc aw jn ws cs is).2 is ps → fr M M' (b + 3) (b + 10) → Q (.inl none) M') : mC E 58 [.ref (b + 3)] M Q := by
  obtain ⟨c1, c2, c3, c4, c5, c6, c7, c8, c9, c10, c11⟩ := h.cell
  have go : (aw = 0 ∨ aw = 1) → mX E 58 1 [some (.ref (b + 3))] [] M Q := by
    intro g
    unfold opc at hq
    rw [if_pos g] at hq
    have h2 := h.2.2.2.2.1
    refine w58_1 ⟨c1, by rw [c2]; omega, by rw [c3]; omega, by rw [c3]; exact h2.1, by rw [c2]; exact h.2.2.2.1.1, ?_⟩
    rw [c2, c3, c9, h2.2.2.2.2.1]
    refine sh_add (v3 := 0) (v4 := 0) h.2.2.2.1 hc (by omega) (by omega) (by omega) (by omega) (by omega) (fun M1 t1 f1 => ?_)
    have g1 := h.sc t1 f1
    refine ⟨g1.1.cell.1, fun M2 q2 => ?_⟩
    have g2 := g1.1.seti q2 (ws' := false) rfl rfl rfl rfl rfl rfl
    exact hq M2 g2.1 (g1.2.then g2.2)
  refine w58_0 ⟨c1, fun r => go ?_, fun r => ⟨fun u => ?_, fun u => go ?_⟩⟩
  · rw [c8, I_eq (by omega) (by omega) (by omega) (by omega)] at r; omega
  · rw [c8, I_eq (by omega) (by omega) (by omega) (by omega)] at r u
    unfold opc at hq
    rw [if_neg (by omega)] at hq
    exact hq M h (fr.refl _ _ _)
  · rw [c8, I_eq (by omega) (by omega) (by omega) (by omega)] at u; omega
theorem y_join {k w : Nat} (h : sy b M s pl p aw jn rd ws cs is ps) (hk : k ≤ 3) (ha : aw ≤ 3) (hq : ∀ p' g', jnB k w p aw rd ws cs is ps = .inl (p', g') → ∀ M', syT b M' s pl p' g' → fr M M' (b + 3) (b + 10) → Q (.inl none) M') (hb : ∀ e, jnB k w p aw rd ws cs is ps = .inr e → BT E b M s e Q) : mC E 56 [.ref (b + 3), .int (I k), .int (I w)] M Q := by
  obtain ⟨c1, c2, c3, c4, c5, c6, c7, c8, c9, c10, c11⟩ := h.cell
  unfold jnB at hq hb
  refine w56_0 ⟨c1, fun r => w56_1 ⟨c1, fun M1 q1 M2 q2 => ?_⟩, fun r => ?_⟩
  · rw [c8, I_eq (by omega) (by omega) (by omega) (by omega)] at r
    rw [if_pos (by omega)] at hq
    have g1 := h.seti q1 (jn' := k) rfl rfl rfl rfl rfl rfl
    have g2 := g1.1.at' q2 (p' := p + w) (by rw [g1.1.cell.2.2.2.2.2.2.1, I_add]; rfl)
    refine ⟨fun u M3 q3 => ?_, fun u M3 q3 => ?_⟩
    · rw [I_eq (by omega) (by omega) (by omega) (by omega)] at u
      rw [if_neg (by omega)] at hq
      have g3 := g2.1.seti q3 (aw' := 1) rfl rfl rfl rfl rfl rfl
      exact hq _ _ rfl M3 g3.1 ((g1.2.then g2.2).then g3.2)
    · rw [I_eq (by omega) (by omega) (by omega) (by omega)] at u
      rw [if_pos (by omega)] at hq
      have g3 := g2.1.seti q3 (aw' := 0) rfl rfl rfl rfl rfl rfl
      exact hq _ _ rfl M3 g3.1 ((g1.2.then g2.2).then g3.2)
  · rw [c8, I_eq (by omega) (by omega) (by omega) (by omega)] at r
    rw [if_neg (by omega)] at hb
    rw [c7]
    exact y_refuse h (hb _ rfl)
theorem y_redirect {k w : Nat} (h : sy b M s pl p aw jn rd ws cs is ps) (hc : cs.length < 240) (hi : is.length < 1000) (hj : jn ≤ 3) (ha : aw ≤ 3) (hq : ∀ p' g', rdr k w p aw jn ws cs is ps = .inl (p', g') → ∀ M', syT b M' s pl p' g' → fr M M' (b + 3) (b + 10) → Q (.inl none) M') (hb : ∀ e, rdr k w p aw jn ws cs is ps = .inr e → BT E b M s e Q) : mC E 57 [.ref (b + 3), .int (I k), .int (I w)] M Q := by
  obtain ⟨c1, c2, c3, c4, c5, c6, c7, c8, c9, c10, c11⟩ := h.cell
  unfold rdr at hq hb
  refine w57_0 ⟨c1, fun r => w57_1 ⟨c1, y_open h hc hi hj ha (fun M1 k1 f1 => ⟨k1.cell.1, fun M2 q2 M3 q3 M4 q4 => ?_⟩)⟩, fun r => ?_⟩
  · rw [c8, I_eq (by omega) (by omega) (by omega) (by omega)] at r
    rw [if_neg (by omega)] at hq
    have g1 := k1.seti q2 (rd' := k) rfl rfl rfl rfl rfl rfl
    have g2 := g1.1.at' q3 (p' := p + w) (by rw [g1.1.cell.2.2.2.2.2.2.1, I_add]; rfl)
    have g3 := g2.1.seti q4 (aw' := 3) rfl rfl rfl rfl rfl rfl
    exact hq _ _ rfl M4 g3.1 (((f1.then g1.2).then g2.2).then g3.2)
  · rw [c8, I_eq (by omega) (by omega) (by omega) (by omega)] at r
    rw [if_pos (by omega)] at hb
    rw [c7]
    exact y_refuse h (hb _ rfl)
theorem y_word3 {k p1 ne : Nat} (h : sy b M s pl p1 aw jn rd ws cs is ps) (hk : k ≤ 4) (hp1 : p1 ≤ s.length) (hp : p ≤ 1000) (hne : ne ≤ 1000) (hi : is.length < 240) (hps : ps.length ≤ p1) (hc : 0 < cs.length) (h5 : ∀ r ∈ cs, r.length = 5)
    (hq : ∀ p2 ps2, pL s 240 false p1 ps = .inl (p2, ps2) → ∀ M', sy b M' s pl p2 2 jn rd ws (setE cs (is.length + 1)) (is ++ [[k, ps.length, ps2.length, p, ne]]) ps2 → fr M M' (b + 3) (b + 10) → Q (.inl none) M') (hb : ∀ e, pL s 240 false p1 ps = .inr e → BT E b M s e Q) :
    mX E 59 3 [some (.ref (b + 3)), some (.int (I p)), some (.int (I ne)), some (.int (I k)), none] [] M Q := by
  have hl := h.2.1.len
  obtain ⟨d1, d2, d3, d4, d5, -⟩ := h.cell
  have s8 := h.2.2.2.2.2
  refine w59_3 ⟨d1, by rw [d4]; omega, by rw [d4]; exact s8.1, y_pieces h hp1 hps (fun p2 ps2 u M3 k3 f3 => ?_) hb⟩
  have pr := pL_r s 240 false p1 ps p2 ps2 hp1 u
  have hq' := hq p2 ps2 u
  clear hq hb u
  obtain ⟨e1, e2, e3, e4, e5, -⟩ := k3.cell
  have t8 := k3.2.2.2.2.2
  have t6 := k3.2.2.2.2.1
  refine ⟨e1, by rw [e3]; omega, by rw [e4]; omega, by rw [e4]; exact t8.1, by rw [e3]; exact t6.1, ?_⟩
  rw [e3, e4, d4, s8.2.2.2.2.1, t8.2.2.2.2.1]
  refine sh_add t6 (by omega) (by omega) (by omega) (by omega) (by omega) (by omega) (fun M4 t4 f4 => ?_)
  have k4 := k3.si t4 f4
  obtain ⟨z1, z2, z3, -⟩ := k4.1.cell
  have t4' := k4.1.2.2.2.1
  have t6' := k4.1.2.2.2.2.1
  refine ⟨z1, by rw [z2]; omega, by rw [z2]; exact t4'.1, by rw [z3]; omega, by rw [z3]; exact t6'.1, ?_⟩
  have ln := t4'.len
  rw [z2, z3, t4'.2.2.2.2.1, t6'.2.2.2.2.1, List.length_append, show I (cs.length : Int) - I 1 = I ((cs.length - 1 : Nat) : Int) by rw [I_sub]; congr 1; omega]
  refine sh_set (c := 2) t4' (by omega) (by simp; omega) h5 (by omega) (by omega) (fun M5 t5 f5 => ?_)
  have k5 := k4.1.sc t5 f5
  refine ⟨k5.1.cell.1, fun M6 q6 => ?_⟩
  have k6 := k5.1.seti q6 (aw' := 2) rfl rfl rfl rfl rfl rfl
  exact hq' M6 k6.1 (((f3.then k4.2).then k5.2).then k6.2)
theorem y_word (h : sy b M s pl p aw jn rd ws cs is ps) (hp : p < s.length) (hy : yI s p (aw, jn, rd, ws, cs, is, ps)) (hq : ∀ p' g', rwd s p aw jn rd ws cs is ps = .inl (p', g') → ∀ M', syT b M' s pl p' g' → fr M M' (b + 3) (b + 10) → Q (.inl none) M') (hb : ∀ e, rwd s p aw jn rd ws cs is ps = .inr e → BT E b M s e Q) : mC E 59 [.ref (b + 3)] M Q := by
  have hl := h.2.1.len
  obtain ⟨y1, y2, y3, y4, y5, y6, y7, y8, y9⟩ := hy
  simp only at y1 y2 y3 y4 y5 y6 y7 y8 y9
  have oc := opc_r (jn := jn) (ws := ws) (is := is) y5 y6 y7
  have b1 := nE_ge s p
  have b2 := nE_le (s := s) (f := p) (by omega)
  refine w59_0 ⟨h.cell.1, y_open h (by omega) (by omega) y8 y7 (fun M1 k1 f1 => ?_)⟩
  obtain ⟨c1, c2, c3, c4, c5, c6, c7, c8, c9, c10, c11⟩ := k1.cell
  unfold rwd at hq hb
  generalize hcs : (opc aw jn ws cs is).2 = cs1 at *
  generalize hws : (opc aw jn ws cs is).1 = ws1 at *
  have three : ∀ (k p1 : Nat) (ws2 : Bool) (M2 : mM), wKd s p aw rd ws1 = (k, p1, ws2) → k ≤ 4 → p ≤ p1 → p1 ≤ s.length → sy b M2 s pl p1 aw jn rd ws2 cs1 is ps → fr M M2 (b + 3) (b + 10) → mX E 59 3 [some (.ref (b + 3)), some (.int (I p)), some (.int (I (nE s p))), some (.int (I k)), none] [] M2 Q := by
    intro k p1 ws2 M2 hw hk hp1 hp2 k2 f2
    rw [hw] at hq hb
    refine y_word3 k2 hk hp2 (by omega) (by omega) (by omega) (by omega) oc.2.1 oc.1 (fun p2 ps2 u M3 k3 f3 => ?_) (fun e u => ?_)
    · simp only [u] at hq
      exact hq _ _ rfl M3 k3 (f2.then f3)
    · simp only [u] at hb
      exact (hb e rfl).st f2
  have word : ∀ M2, M2 = M1 → ¬ aw = 3 → ¬ (ws1 = false ∧ p < nE s p ∧ s.getD (nE s p) 0 = 61) → mX E 59 2 [some (.ref (b + 3)), some (.int (I p)), some (.int (I (nE s p))), some (.int (I 0)), none] [] M2 Q := by
    intro M2 e2 g1 g2
    subst e2
    refine w59_2 ⟨c1, fun M3 q3 => ?_⟩
    have k3 := k1.seti q3 (ws' := true) rfl rfl rfl rfl rfl rfl
    exact three 0 p true M3 (by unfold wKd; rw [if_neg g1, if_neg g2]) (by omega) (by omega) (by omega) k3.1 (f1.then k3.2)
  refine ⟨c1, ?_⟩
  rw [c7]
  refine y_nameEnd k1 (by omega) ⟨c1, fun r => ⟨fun u => word M1 rfl ?_ ?_, fun u => ⟨fun w => word M1 rfl ?_ ?_, fun w => ⟨by rw [c5]; omega, by rw [c5]; exact k1.2.1.1, ?_⟩⟩⟩, fun r => ?_⟩
  · rw [c8, I_eq (by omega) (by omega) (by omega) (by omega)] at r; omega
  · rw [c11, bI_0] at u; exact fun g => u g.1
  · rw [c8, I_eq (by omega) (by omega) (by omega) (by omega)] at r; omega
  · rw [I_le (by omega) (by omega) (by omega) (by omega)] at w; omega
  · rw [c8, I_eq (by omega) (by omega) (by omega) (by omega)] at r
    rw [c11, bI_0] at u
    rw [I_le (by omega) (by omega) (by omega) (by omega)] at w
    rw [c5]
    have hc := k1.2.1.ch (nE s p)
    refine ch_at k1.2.1 (by omega) ⟨fun z => word M1 rfl (by omega) ?_, fun z => ⟨c1, fun M2 q2 => ?_⟩⟩
    · rw [I_eq (by omega) (by omega) (by omega) (by omega)] at z; omega
    · rw [I_eq (by omega) (by omega) (by omega) (by omega)] at z
      have z' : s.getD (nE s p) 0 = 61 := by omega
      have k2 := k1.at' q2 (p' := nE s p + 1) (by rw [I_add]; rfl)
      have := getD_pos (s := s) (k := nE s p) (by omega)
      exact three 1 (nE s p + 1) ws1 M2 (by unfold wKd; rw [if_neg (by omega), if_pos ⟨u, by omega, z'⟩]) (by omega) (by omega) (by omega) k2.1 (f1.then k2.2)
  · rw [c8, I_eq (by omega) (by omega) (by omega) (by omega)] at r
    rw [c10]
    exact three rd p ws1 M1 (by unfold wKd; rw [if_pos (by omega)]) (y9 (by omega)) (by omega) (by omega) k1 f1
theorem lks54 {c : Nat} (h : ¬ c = 10 ∧ ¬ c = 38 ∧ ¬ c = 40 ∧ ¬ c = 41 ∧ ¬ c = 59 ∧ ¬ c = 60 ∧ ¬ c = 62 ∧ ¬ c = 124) : m_lks [(10, 76), (38, 117), (40, 172), (41, 172), (59, 83), (60, 138), (62, 147), (124, 92)] [3, 10, 18, 18, 4, 12, 13, 5] 19 (c : Int) = 19 := by
  simp only [m_lks]
  rw [if_neg (by omega), if_neg (by omega), if_neg (by omega), if_neg (by omega), if_neg (by omega), if_neg (by omega), if_neg (by omega), if_neg (by omega)]
theorem y_token {g : yT} (h : syT b M s pl p g) (hp : p < s.length) (hy : yI s p g) (hq : ∀ p' g', tok s p g = .inl (p', g') → ∀ M', syT b M' s pl p' g' → fr M M' (b + 3) (b + 10) → Q (.inl none) M') (hb : ∀ e, tok s p g = .inr e → BT E b M s e Q) : mC E 54 [.ref (b + 3)] M Q := by
  obtain ⟨aw, jn, rd, ws, cs, is, ps⟩ := g
  have hl := h.2.1.len
  have y := hy
  obtain ⟨y1, y2, y3, y4, y5, y6, y7, y8, y9⟩ := y
  simp only at y1 y2 y3 y4 y5 y6 y7 y8 y9
  change sy b M s pl p aw jn rd ws cs is ps at h
  obtain ⟨c1, c2, c3, c4, c5, c6, c7, c8, c9, c10, c11⟩ := h.cell
  have t1 := h.2.1.1
  have hc := h.2.1.ch p
  have hc1 := h.2.1.ch (p + 1)
  have e1 : I (p : Int) + I 1 = I ((p + 1 : Nat) : Int) := by rw [I_add]; rfl
  unfold tok at hq hb
  simp only at hq hb
  have main : ∀ z : Nat, (z = 0 ∨ z = 1) → (z = 1 ↔ s.getD p 0 = s.getD (p + 1) 0) → mX E 54 2 [some (.ref (b + 3)), some (.int (I (s.getD p 0 : Nat))), none] [.int (I z)] M Q := by
    intro z hz gz
    refine w54_2 ?_
    rw [I_toInt (by omega) (by omega)]
    by_cases q1 : s.getD p 0 = 10
    · rw [if_pos q1] at hq hb
      rw [q1]
      refine w54_3 ⟨c1, w55_0 ⟨c1, fun r M2 q2 => ?_, fun r => ⟨fun u => ?_, fun u M2 q2 => ?_⟩⟩⟩
      · rw [c8, I_eq (by omega) (by omega) (by omega) (by omega)] at r
        rw [if_pos (by omega)] at hq
        have k2 := h.at' q2 (p' := p + 1) (by rw [c7, e1])
        exact hq _ _ rfl M2 k2.1 k2.2
      · rw [c8, I_eq (by omega) (by omega) (by omega) (by omega)] at r u
        rw [if_neg (by omega)] at hq hb
        exact y_join (k := 0) (w := 1) h (by omega) y7 hq hb
      · rw [c8, I_eq (by omega) (by omega) (by omega) (by omega)] at u
        rw [if_pos (by omega)] at hq
        have k2 := h.at' q2 (p' := p + 1) (by rw [c7, e1])
        exact hq _ _ rfl M2 k2.1 k2.2
    rw [if_neg q1] at hq hb
    by_cases q2 : s.getD p 0 = 59
    · rw [if_pos q2] at hq hb
      rw [q2]
      exact w54_4 ⟨c1, y_join (k := 0) (w := 1) h (by omega) y7 hq hb⟩
    rw [if_neg q2] at hq hb
    by_cases q3 : s.getD p 0 = 124
    · rw [if_pos q3] at hq hb
      rw [q3] at gz hq hb ⊢
      refine w54_5 ⟨fun r => w54_7 ⟨fun _ => w54_9 ⟨c1, ?_⟩, fun u => absurd r u⟩, fun r => w54_7 ⟨fun u => absurd u r, fun _ => w54_9 ⟨c1, ?_⟩⟩⟩
      · rw [I_eq (by omega) (by omega) (by omega) (by omega)] at r
        rw [if_neg (fun u => by have := gz.mpr u; omega)] at hq hb
        exact y_join (k := 3) (w := 1) h (by omega) y7 hq hb
      · rw [I_eq (by omega) (by omega) (by omega) (by omega)] at r
        rw [if_pos (gz.mp (by omega))] at hq hb
        exact y_join (k := 2) (w := 2) h (by omega) y7 hq hb
    rw [if_neg q3] at hq hb
    by_cases q4 : s.getD p 0 = 38
    · rw [if_pos q4] at hq hb
      rw [q4] at gz hq hb ⊢
      refine w54_10 ⟨fun r => w54_11 ⟨c1, ?_⟩, fun r => ⟨c1, ?_⟩⟩
      · rw [I_eq (by omega) (by omega) (by omega) (by omega)] at r
        rw [if_pos (gz.mp (by omega))] at hq hb
        exact y_join (k := 1) (w := 2) h (by omega) y7 hq hb
      · rw [I_eq (by omega) (by omega) (by omega) (by omega)] at r
        rw [if_neg (fun u => by have := gz.mpr u; omega)] at hq hb
        rw [c7]
        exact y_refuse h (hb _ rfl)
    rw [if_neg q4] at hq hb
    by_cases q5 : s.getD p 0 = 60
    · rw [if_pos q5] at hq hb
      rw [q5]
      exact w54_12 ⟨c1, y_redirect (k := 2) (w := 1) h (by omega) (by omega) y8 y7 hq hb⟩
    rw [if_neg q5] at hq hb
    by_cases q6 : s.getD p 0 = 62
    · rw [if_pos q6] at hq hb
      rw [q6] at gz hq hb ⊢
      refine w54_13 ⟨fun r => w54_15 ⟨fun _ => w54_17 ⟨c1, ?_⟩, fun u => absurd r u⟩, fun r => w54_15 ⟨fun u => absurd u r, fun _ => w54_17 ⟨c1, ?_⟩⟩⟩
      · rw [I_eq (by omega) (by omega) (by omega) (by omega)] at r
        rw [if_neg (fun u => by have := gz.mpr u; omega)] at hq hb
        exact y_redirect (k := 3) (w := 1) h (by omega) (by omega) y8 y7 hq hb
      · rw [I_eq (by omega) (by omega) (by omega) (by omega)] at r
        rw [if_pos (gz.mp (by omega))] at hq hb
        exact y_redirect (k := 4) (w := 2) h (by omega) (by omega) y8 y7 hq hb
    rw [if_neg q6] at hq hb
    by_cases q7 : s.getD p 0 = 40 ∨ s.getD p 0 = 41
    · rw [if_pos q7] at hq hb
      have : mX E 54 18 [some (.ref (b + 3)), some (.int (I (s.getD p 0 : Nat))), some (.int (I z))] [] M Q := by
        refine w54_18 ⟨c1, ?_⟩
        rw [c7]
        exact y_refuse h (hb _ rfl)
      rcases q7 with q | q
      · rw [q] at this ⊢; exact this
      · rw [q] at this ⊢; exact this
    rw [if_neg q7] at hq hb
    rw [lks54 (by omega)]
    exact w54_19 ⟨c1, y_word h hp hy hq hb⟩
  refine w54_0 ⟨c1, by rw [c5]; omega, by rw [c5]; exact t1, ?_⟩
  rw [c5, c7]
  refine ch_at h.2.1 (by omega) ⟨c1, by rw [c5]; omega, by rw [c5]; exact t1, ?_⟩
  rw [c5, c7, e1]
  refine ch_at h.2.1 (by omega) ⟨fun r => main 0 (by omega) ⟨by omega, fun u => ?_⟩, fun r => main 1 (by omega) ⟨fun _ => ?_, fun _ => rfl⟩⟩
  · rw [I_eq (by omega) (by omega) (by omega) (by omega)] at r; omega
  · rw [I_eq (by omega) (by omega) (by omega) (by omega)] at r; omega
theorem fT_32 (s : List Nat) : ∀ n cm e, (fT s n cm e).1 = true → ¬ s.getD (fT s n cm e).2 0 = 32
  | 0, cm, e, h => by unfold fT at h; exact absurd h Bool.false_ne_true
  | n + 1, cm, e, h => by
    unfold fT at h ⊢; split
    · next q1 =>
      rw [if_pos q1] at h
      split
      · next q2 => rw [if_pos q2] at h; exact fT_32 s n _ _ h
      · next q2 =>
        rw [if_neg q2] at h
        split
        · next q3 => rw [if_pos q3] at h; exact fT_32 s n _ _ h
        · next q3 => exact q3
    · next q1 => rw [if_neg q1] at h; exact absurd h Bool.false_ne_true
theorem y_read_l (n : Nat) : ∀ (st p : Nat) (g : yT) (M : mM), st + n = 240 → syT b M s pl p g → yI s p g → (∀ p' g', yR s n p g = .inl (p', g') → ∀ M', syT b M' s pl p' g' → fr M M' (b + 3) (b + 10) → Q (.inl none) M') → (∀ e, yR s n p g = .inr e → BT E b M s e Q) →
    mX E 51 1 [some (.ref (b + 3)), some (.int (I st))] [] M Q := by
  have last : ∀ (st p : Nat) (g : yT) (M : mM), syT b M s pl p g → g.1 ≤ 3 → (∀ p' g', yF s p g = .inl (p', g') → ∀ M', syT b M' s pl p' g' → fr M M' (b + 3) (b + 10) → Q (.inl none) M') → (∀ e, yF s p g = .inr e → BT E b M s e Q) → mX E 51 2 [some (.ref (b + 3)), some (.int (I st))] [] M Q := by
    intro st p g M h h3 hq hb
    obtain ⟨c1, c2, c3, c4, c5, c6, c7, c8, c9, c10, c11⟩ := sy.cell h
    unfold yF at hq hb
    have go : (g.1 = 1 ∨ g.1 = 3) → mX E 51 3 [some (.ref (b + 3)), some (.int (I st))] [] M Q := by
      intro k
      rw [if_pos k] at hb
      refine w51_3 ⟨c1, by rw [c5]; omega, by rw [c5]; exact h.2.1.1, ?_⟩
      rw [c5, h.2.1.2.2.2.2.1]
      exact y_refuse h (hb _ rfl)
    refine w51_2 ⟨c1, fun r => go ?_, fun r => ⟨fun u => ?_, fun u => go ?_⟩⟩
    · rw [c8, I_eq (by omega) (by omega) (by omega) (by omega)] at r; omega
    · rw [c8, I_eq (by omega) (by omega) (by omega) (by omega)] at r u
      rw [if_neg (by omega)] at hq
      exact hq _ _ rfl M h (fr.refl _ _ _)
    · rw [c8, I_eq (by omega) (by omega) (by omega) (by omega)] at u; omega
  induction n with
  | zero =>
    intro st p g M hst h hy hq hb
    refine w51_1 ⟨fun _ => last st p g M h hy.2.2.2.2.2.2.1 hq hb, fun r => ?_⟩
    rw [I_le (by omega) (by omega) (by omega) (by omega)] at r; omega
  | succ n ih =>
    intro st p g M hst h hy hq hb
    obtain ⟨c1, c2, c3, c4, c5, c6, c7, c8, c9, c10, c11⟩ := sy.cell h
    unfold yR at hq hb
    have fr1 := fT_r s s.length false p hy.1
    refine w51_1 ⟨fun r => ?_, fun _ => ⟨c1, y_find h hy.1 (fun M1 k1 f1 => ⟨fun r => ?_, fun r => ⟨k1.cell.1, ?_⟩⟩)⟩⟩
    · rw [I_le (by omega) (by omega) (by omega) (by omega)] at r; omega
    · rw [bI_0] at r
      rw [if_neg (by rw [r]; decide)] at hq hb
      exact last st _ g M1 k1 hy.2.2.2.2.2.2.1 (fun p' g' u M' k2 f2 => hq p' g' u M' k2 (f1.then f2)) (fun e u => (hb e u).st f1)
    · have rt : (fT s s.length false p).1 = true := by
        rw [bI_0] at r
        cases z : (fT s s.length false p).1 with | true => rfl | false => exact absurd z r
      rw [if_pos rt] at hq hb
      have hp2 := fr1.2.2 rt
      have hy2 : yI s (fT s s.length false p).2 g := ⟨by omega, by have := hy.2.1; omega, by have := hy.2.2.1; omega, by have := hy.2.2.2.1; omega, hy.2.2.2.2⟩
      refine y_token (g := g) k1 hp2 hy2 (fun p' g' u M2 k2 f2 => ?_) (fun e u => ?_)
      · rw [u] at hq hb
        have tr := tok_r hp2 (fT_32 s _ _ _ rt) hy2 u
        show mX E 51 1 [some (.ref (b + 3)), some (.int (I st + I 1))] [] M2 Q
        rw [I_add]
        exact ih (st + 1) p' g' M2 (by omega) k2 tr.1 (fun p3 g3 u3 M' k3 f3 => hq p3 g3 u3 M' k3 ((f1.then f2).then f3)) (fun e u3 => (hb e u3).st (f1.then f2))
      · rw [u] at hb
        exact (hb e rfl).st f1
/-- read: from an empty sheet -/
def y0 : yT := (0, 0, 0, false, [], [], [])
theorem y_read (h : sy b M s pl p aw jn rd ws cs is ps) (hq : ∀ p' g', yR s 240 0 (0, 0, rd, ws, [], [], []) = .inl (p', g') → ∀ M', syT b M' s pl p' g' → fr M M' (b + 3) (b + 10) → Q (.inl none) M') (hb : ∀ e, yR s 240 0 (0, 0, rd, ws, [], [], []) = .inr e → BT E b M s e Q) : mC E 51 [.ref (b + 3)] M Q := by
  obtain ⟨c1, c2, c3, c4, c5, c6, c7, c8, c9, c10, c11⟩ := h.cell
  have clr : ∀ {M : mM} {a : Nat} {rs : List (List Nat)} {M' : mM}, shX M a 240 rs → M' = msi M a 1 (I 0) → shX M' a 240 [] ∧ fr M M' a (a + 2) := by
    intro M a rs M' h q
    obtain ⟨e1, e2, e3, e4, e5, e6, e7, e8, e9⟩ := h
    rw [q]
    exact ⟨⟨e1, e2, e3, e4, i_is, Nat.zero_le _, e7, fun k hk => absurd hk (Nat.not_lt_zero k), fun c hc => absurd hc List.not_mem_nil⟩, fr_i (by omega) (by omega)⟩
  refine w51_0 ⟨c1, by rw [c2]; omega, by rw [c2]; exact h.2.2.2.1.1, fun M1 q1 => ⟨by rw [c3]; omega, by rw [c3]; exact h.2.2.2.2.1.1, fun M2 q2 => ⟨by rw [c4]; omega, by rw [c4]; exact h.2.2.2.2.2.1, fun M3 q3 M4 q4 M5 q5 M6 q6 => ?_⟩⟩⟩
  rw [c2] at q1
  rw [c3] at q2
  rw [c4] at q3
  have k1' := clr h.2.2.2.1 q1
  have k1 := h.sc k1'.1 k1'.2
  have k2' := clr k1.1.2.2.2.2.1 q2
  have k2 := k1.1.si k2'.1 k2'.2
  have k3' := clr k2.1.2.2.2.2.2 q3
  have k3 := k2.1.sp k3'.1 k3'.2
  have k4 := k3.1.at' q4 (p' := 0) rfl
  have k5 := k4.1.seti q5 (aw' := 0) rfl rfl rfl rfl rfl rfl
  have k6 := k5.1.seti q6 (jn' := 0) rfl rfl rfl rfl rfl rfl
  have ff := ((((k1.2.then k2.2).then k3.2).then k4.2).then k5.2).then k6.2
  refine y_read_l 240 0 0 (0, 0, rd, ws, [], [], []) M6 rfl k6.1 ⟨Nat.zero_le _, Nat.le_refl _, Nat.le_refl _, Nat.le_refl _, fun r hr => absurd hr List.not_mem_nil, fun q => ?_, by simp, by simp, fun z => absurd z (by simp)⟩ (fun p' g' u M' k f => hq p' g' u M' k (ff.then f)) (fun e u => (hb e u).st ff)
  simp only at q; omega
end READ
