/-! THE REFERENCE: where a piece of a word ends -/
/-- pieces in double quotes, from k on to behind the closing one -/
def DQ (s : List Nat) : Nat → List (List Nat) → Nat → Prop
  | _, [], _ => False
  | k, r :: PL, e => k < s.length ∧ ((s.getD k 0 = 34 ∧ r = [2, k + 1, k + 1, 0, 0] ∧ PL = [] ∧ e = k + 1) ∨ (¬ s.getD k 0 = 34 ∧ ∃ p', pS s true k = .inl (r, p', true) ∧ DQ s p' PL e))
/-- the pieces of one step of a word -/
def GP (s : List Nat) (k : Nat) (PL : List (List Nat)) (e : Nat) : Prop := k < s.length ∧ ((s.getD k 0 = 34 ∧ ∃ PL', PL = [2, k + 1, k + 1, 0, 0] :: PL' ∧ DQ s (k + 1) PL' e) ∨ (¬ s.getD k 0 = 34 ∧ ∃ r, PL = [r] ∧ pS s false k = .inl (r, e, false)))
theorem pL_in {s : List Nat} {n : Nat} {q : Bool} {p : Nat} {ps : List (List Nat)} (hp : p < s.length) (hn : s.length - p ≤ n) {r : List Nat} {p' : Nat} {q' : Bool} (h : pS s q p = .inl (r, p', q')) : ∃ n', s.length - p' ≤ n' ∧ pL s n q p ps = pL s n' q' p' (ps ++ [r]) := by
  obtain ⟨k, rfl⟩ : ∃ k, n = k + 1 := ⟨n - 1, by omega⟩
  have := pS_r hp h
  refine ⟨k, by omega, ?_⟩
  rw [pL, if_pos hp, h]
theorem pL_er {s : List Nat} {n : Nat} {q : Bool} {p : Nat} {ps : List (List Nat)} (hp : p < s.length) (hn : s.length - p ≤ n) {e : Nat} (h : pS s q p = .inr (some e)) : pL s n q p ps = .inr e := by
  obtain ⟨k, rfl⟩ : ∃ k, n = k + 1 := ⟨n - 1, by omega⟩
  rw [pL, if_pos hp, h]
theorem pL_en {s : List Nat} {n p : Nat} {ps : List (List Nat)} (hp : p < s.length) (hn : s.length - p ≤ n) (h : pS s false p = .inr none) : pL s n false p ps = .inl (p, ps) := by
  obtain ⟨k, rfl⟩ : ∃ k, n = k + 1 := ⟨n - 1, by omega⟩
  rw [pL, if_pos hp, h]
theorem pL_ou {s : List Nat} {n : Nat} {q : Bool} {p : Nat} {ps : List (List Nat)} (hp : s.length ≤ p) : pL s n q p ps = if q = true then .inr s.length else .inl (p, ps) := by
  cases n with
  | zero => rfl
  | succ n => rw [pL, if_neg (by omega)]
/-- at a dollar or a backslash a step is a piece or a bad place -/
theorem pS_36 {s : List Nat} {q : Bool} {p : Nat} (h : s.getD p 0 = 36) : ¬ pS s q p = .inr none := by
  unfold pS brS
  rw [if_neg (by omega), if_neg (by omega), if_pos h]
  intro z
  split at z
  · split at z
    · cases z
    · split at z
      · split at z
        · split at z <;> cases z
        · cases z
      · split at z <;> cases z
  · cases z
theorem pS_92 {s : List Nat} {q : Bool} {p : Nat} (h : s.getD p 0 = 92) : ¬ pS s q p = .inr none := by
  unfold pS esS
  rw [if_neg (by omega), if_pos h]
  intro z
  split at z <;> cases z
theorem pS_q {s : List Nat} {q q' : Bool} {p p' : Nat} {r : List Nat} (h : pS s q p = .inl (r, p', q')) (h34 : ¬ s.getD p 0 = 34) : q' = q := by
  unfold pS at h
  rw [if_neg h34] at h
  split at h
  · unfold esS at h; split at h
    · cases h
    · cases h; rfl
  · split at h
    · split at h
      · unfold brS at h
        split at h
        · cases h
        · split at h
          · split at h
            · split at h
              · cases h; rfl
              · cases h
            · cases h
          · split at h
            · cases h; rfl
            · cases h
      · simp only [doS] at h
        split at h
        · cases h; rfl
        · split at h <;> (cases h; rfl)
    · split at h
      · cases h; rfl
      · split at h
        · unfold sqS at h; split at h
          · cases h; rfl
          · cases h
        · split at h
          · cases h
          · cases h; rfl
section MLEX
variable {E : mE} {M : mM} {Q : mQ} {m : Nat} {s : List Nat}
/-- within double quotes -/
theorem m_dq {v1 v2 : Int32} (n : Nat) : ∀ (q0 : Nat) (ps : List (List Nat)) (M : mM), mS M m → mdT M m s → q0 ≤ s.length → s.length - q0 ≤ n → (∀ p' n' PL, q0 < p' → p' ≤ s.length → s.length - p' ≤ n' → DQ s q0 PL p' → pL s n true q0 ps = pL s n' false p' (ps ++ PL) → ∀ M', fm m [108] M M' → Q (.inl (some (.int (I p')))) M') → (∀ e, pL s n true q0 ps = .inr e → ∀ M', fm m [108] M M' → mi M' m 8 = I e → Q (.inl (some (.int (I (-1))))) M') →
    mX E 130 8 [some (.ref m), some (.int v1), some (.int v2), some (.int (I q0))] [] M Q := by
  have twelve : ∀ (n q0 : Nat) (ps : List (List Nat)) (M : mM), mS M m → mdT M m s → q0 ≤ s.length → s.length - q0 ≤ n → (q0 < s.length → s.getD q0 0 = 34) → (∀ p' n' PL, q0 < p' → p' ≤ s.length → s.length - p' ≤ n' → DQ s q0 PL p' → pL s n true q0 ps = pL s n' false p' (ps ++ PL) → ∀ M', fm m [108] M M' → Q (.inl (some (.int (I p')))) M') → (∀ e, pL s n true q0 ps = .inr e → ∀ M', fm m [108] M M' → mi M' m 8 = I e → Q (.inl (some (.int (I (-1))))) M') → mX E 130 12 [some (.ref m), some (.int v1), some (.int v2), some (.int (I q0))] [] M Q := by
    intro n q0 ps M h t hl hn h34 hq hb
    have tl := t.2.1
    refine w130_12 ⟨fun _ => ⟨h.k0, fun M2 q2 => ?_⟩, fun c => absurd (by rw [I_le (by omega) (by omega) (by omega) (by omega)]; omega) c⟩
    have f2 : fm m [108] M M2 := fm_o q2 (by decide)
    have e2 : mi M2 m 2 = I s.length := (t.mv f2 (by decide) (by decide)).1
    refine ⟨fun c => ?_, fun c => ?_⟩
    · rw [e2, I_le (by omega) (by omega) (by omega) (by omega)] at c
      refine hb s.length ?_ M2 f2 (by rw [q2, i_is, t.1])
      rw [pL_ou (by omega), if_pos rfl]
    · rw [e2, I_le (by omega) (by omega) (by omega) (by omega)] at c
      have hlt : q0 < s.length := by omega
      have ps1 : pS s true q0 = .inl ([2, q0 + 1, q0 + 1, 0, 0], q0 + 1, false) := by unfold pS; rw [if_pos (h34 hlt)]; rfl
      obtain ⟨n', hn', en⟩ := pL_in (ps := ps) hlt hn ps1
      rw [I_add]
      exact hq (q0 + 1) n' [[2, q0 + 1, q0 + 1, 0, 0]] (by omega) (by omega) hn' ⟨hlt, Or.inl ⟨h34 hlt, rfl, rfl, rfl⟩⟩ en M2 f2
  induction n with
  | zero =>
    intro q0 ps M h t hl hn hq hb
    have tl := t.2.1
    refine w130_8 ⟨fun c => ?_, fun c => ⟨h.k0, fun u => twelve 0 q0 ps M h t hl hn (fun z => by omega) hq hb, fun u => ?_⟩⟩
    · rw [I_lt (by omega) (by omega) (by omega) (by omega)] at c; omega
    · rw [t.1, I_le (by omega) (by omega) (by omega) (by omega)] at u; omega
  | succ n ih =>
    intro q0 ps M h t hl hn hq hb
    have tl := t.2.1
    have hc := t.ch q0
    refine w130_8 ⟨fun c => ?_, fun c => ⟨h.k0, fun u => ?_, fun u => m_ch h t (by omega) ⟨fun w => ?_, fun w => ⟨h.k0, m_ch h t (by omega) ⟨fun v => ⟨h.k0, m_ch h t (by omega) ⟨fun y => ?_, fun y => ⟨h.k0, ?_⟩⟩⟩, fun v => ⟨h.k0, ?_⟩⟩⟩⟩⟩⟩
    · rw [I_lt (by omega) (by omega) (by omega) (by omega)] at c; omega
    · rw [t.1, I_le (by omega) (by omega) (by omega) (by omega)] at u
      exact twelve (n + 1) q0 ps M h t hl hn (fun z => by omega) hq hb
    · rw [I_eq (by omega) (by omega) (by omega) (by omega)] at w
      exact twelve (n + 1) q0 ps M h t hl hn (fun z => by omega) hq hb
    · rw [t.1, I_le (by omega) (by omega) (by omega) (by omega)] at u
      rw [I_eq (by omega) (by omega) (by omega) (by omega)] at w v y
      have hlt : q0 < s.length := by omega
      have ps1 : pS s true q0 = .inl ([1, q0, q0 + 1, 0, 0], q0 + 1, true) := by
        unfold pS; rw [if_neg (by omega), if_neg (by omega), if_neg (by omega), if_pos rfl]
      have en : pL s (n + 1) true q0 ps = pL s n true (q0 + 1) (ps ++ [[1, q0, q0 + 1, 0, 0]]) := by rw [pL, if_pos hlt, ps1]
      rw [I_add]
      exact ih (q0 + 1) _ M h t (by omega) (by omega) (fun p' n' PL g1 g2 g3 gd g4 => hq p' n' ([1, q0, q0 + 1, 0, 0] :: PL) (by omega) g2 g3 ⟨hlt, Or.inr ⟨by omega, _, ps1, gd⟩⟩ (by rw [en, g4, List.append_assoc]; rfl)) (fun e g => hb e (en.trans g))
    · rw [t.1, I_le (by omega) (by omega) (by omega) (by omega)] at u
      rw [I_eq (by omega) (by omega) (by omega) (by omega)] at w v y
      have hlt : q0 < s.length := by omega
      refine m_stroke (q := true) h t hlt (by omega) (fun r p' q' g M' f => ?_) (fun e g M' f f2 => ?_)
      · have pr := pS_r hlt g
        have qq := pS_q g (by omega)
        rw [qq] at g
        have en : pL s (n + 1) true q0 ps = pL s n true p' (ps ++ [r]) := by rw [pL, if_pos hlt, g]
        exact ih p' _ M' (h.mv f.1) (t.mv f (by decide) (by decide)) pr.2.1 (by omega) (fun p2 n' PL g1 g2 g3 gd g4 M2 f2 => hq p2 n' (r :: PL) (by omega) g2 g3 ⟨hlt, Or.inr ⟨by omega, _, g, gd⟩⟩ (by rw [en, g4, List.append_assoc]; rfl) M2 (f.trans f2)) (fun e g M2 f2 => hb e (en.trans g) M2 (f.trans f2))
      · refine w130_8 ⟨fun _ => w130_12 ⟨fun z => absurd z (by decide), fun _ => hb e (pL_er hlt hn g) M' f f2⟩, fun z => absurd (by decide) z⟩
    · rw [t.1, I_le (by omega) (by omega) (by omega) (by omega)] at u
      rw [I_eq (by omega) (by omega) (by omega) (by omega)] at w v
      have hlt : q0 < s.length := by omega
      refine m_dollar (q := true) h t hlt (by omega) (fun r p' q' g => ?_) (fun e g M' f f2 => ?_)
      · have pr := pS_r hlt g
        have qq := pS_q g (by omega)
        rw [qq] at g
        have en : pL s (n + 1) true q0 ps = pL s n true p' (ps ++ [r]) := by rw [pL, if_pos hlt, g]
        exact ih p' _ M h t pr.2.1 (by omega) (fun p2 n' PL g1 g2 g3 gd g4 => hq p2 n' (r :: PL) (by omega) g2 g3 ⟨hlt, Or.inr ⟨by omega, _, g, gd⟩⟩ (by rw [en, g4, List.append_assoc]; rfl)) (fun e g => hb e (en.trans g))
      · refine w130_8 ⟨fun _ => w130_12 ⟨fun z => absurd z (by decide), fun _ => hb e (pL_er hlt hn g) M' f f2⟩, fun z => absurd (by decide) z⟩
theorem findS_out {u : List Nat} {c f : Nat} (h : u.length ≤ f) : findS u c f = u.length := by unfold findS; rw [if_neg (by omega)]
theorem m_sq {p : Nat} {v2 : Int32} (h : mS M m) (t : mdT M m s) (n : Nat) : ∀ (k : Nat), s.length - k ≤ n → k ≤ s.length → mX E 130 4 [some (.ref m), some (.int (I p)), some (.int v2), some (.int (I (findS s 39 k)))] [] M Q → mX E 130 3 [some (.ref m), some (.int (I p)), some (.int v2), some (.int (I k))] [] M Q := by
  have tl := t.2.1
  induction n with
  | zero =>
    intro k hn hk hq
    rw [findS_out (by omega)] at hq
    refine w130_3 ⟨h.k0, fun u => by rw [show k = s.length by omega]; exact hq, fun u => ?_⟩
    rw [t.1, I_le (by omega) (by omega) (by omega) (by omega)] at u; omega
  | succ n ih =>
    intro k hn hk hq
    have hc := t.ch k
    refine w130_3 ⟨h.k0, fun u => ?_, fun u => m_ch h t (by omega) ⟨fun w => ?_, fun w => ?_⟩⟩
    · rw [t.1, I_le (by omega) (by omega) (by omega) (by omega)] at u
      rw [findS_out (by omega)] at hq
      rw [show k = s.length by omega]; exact hq
    · rw [t.1, I_le (by omega) (by omega) (by omega) (by omega)] at u
      rw [I_eq (by omega) (by omega) (by omega) (by omega)] at w
      rw [findS_st (by omega), if_pos (by omega)] at hq; exact hq
    · rw [t.1, I_le (by omega) (by omega) (by omega) (by omega)] at u
      rw [I_eq (by omega) (by omega) (by omega) (by omega)] at w
      rw [findS_st (by omega), if_neg (by omega)] at hq
      rw [I_add]; exact ih (k + 1) (by omega) (by omega) hq
/-- a piece of a word, not within quotes -/
theorem m_piece {p n : Nat} {ps : List (List Nat)} (h : mS M m) (t : mdT M m s) (hp : p < s.length) (hw : ¬ (s.getD p 0 = 32 ∨ s.getD p 0 = 10 ∨ s.getD p 0 = 124 ∨ s.getD p 0 = 38 ∨ s.getD p 0 = 59 ∨ s.getD p 0 = 60 ∨ s.getD p 0 = 62 ∨ s.getD p 0 = 40 ∨ s.getD p 0 = 41)) (hn : s.length - p ≤ n)
    (hq : ∀ p' n' PL, p < p' → p' ≤ s.length → s.length - p' ≤ n' → GP s p PL p' → pL s n false p ps = pL s n' false p' (ps ++ PL) → ∀ M', fm m [108] M M' → Q (.inl (some (.int (I p')))) M') (hb : ∀ e, pL s n false p ps = .inr e → ∀ M', fm m [108] M M' → mi M' m 8 = I e → Q (.inl (some (.int (I (-1))))) M') : mC E 130 [.ref m, .int (I p)] M Q := by
  have tl := t.2.1
  have hc := t.ch p
  have e1 : I (p : Int) + I 1 = I ((p + 1 : Nat) : Int) := by rw [I_add]; rfl
  refine w130_0 ⟨h.k0, m_ch h t (by omega) ⟨fun c1 => ⟨fun c2 => ⟨fun c3 => ⟨fun c4 => ?_, fun c4 => ?_⟩, fun c3 => ?_⟩, fun c2 => ⟨h.k0, ?_⟩⟩, fun c1 => ⟨h.k0, ?_⟩⟩⟩
  · -- a double quote
    rw [I_eq (by omega) (by omega) (by omega) (by omega)] at c1 c2 c3 c4
    rw [e1]
    have ps1 : pS s false p = .inl ([2, p + 1, p + 1, 0, 0], p + 1, true) := by unfold pS; rw [if_pos (by omega)]; rfl
    obtain ⟨n', hn', en⟩ := pL_in (ps := ps) hp hn ps1
    exact m_dq n' (p + 1) _ M h t (by omega) hn' (fun p' n2 PL g1 g2 g3 gd g4 => hq p' n2 ([2, p + 1, p + 1, 0, 0] :: PL) (by omega) g2 g3 ⟨hp, Or.inl ⟨by omega, PL, rfl, gd⟩⟩ (by rw [en, g4, List.append_assoc]; rfl)) (fun e g => hb e (en.trans g))
  · rw [I_eq (by omega) (by omega) (by omega) (by omega)] at c1 c2 c3 c4
    rw [e1]
    have ps1 : pS s false p = .inl ([0, p, p + 1, 0, 0], p + 1, false) := by
      unfold pS; rw [if_neg (by omega), if_neg (by omega), if_neg (by omega), if_neg (by decide), if_neg (by omega), if_neg hw]
    obtain ⟨n', hn', en⟩ := pL_in (ps := ps) hp hn ps1
    exact hq _ _ _ (by omega) (by omega) hn' ⟨hp, Or.inr ⟨by omega, _, rfl, ps1⟩⟩ en M (fm.refl _ _ _)
  · rw [I_eq (by omega) (by omega) (by omega) (by omega)] at c1 c2 c3
    rw [e1]
    have fl := findS_le s 39 (p + 1)
    have fg := findS_ge s 39 (p + 1) (by omega)
    refine m_sq h t s.length (p + 1) (by omega) (by omega) (w130_4 ⟨h.k0, fun M1 q1 => ?_⟩)
    have f1 : fm m [108] M M1 := fm_o q1 (by decide)
    have e2 : mi M1 m 2 = I s.length := (t.mv f1 (by decide) (by decide)).1
    refine ⟨fun u => ?_, fun u => ?_⟩
    · rw [e2, I_le (by omega) (by omega) (by omega) (by omega)] at u
      have ps1 : pS s false p = .inr (some s.length) := by
        unfold pS sqS; rw [if_neg (by omega), if_neg (by omega), if_neg (by omega), if_neg (by decide), if_pos (by omega), if_neg (by omega)]
      refine hb _ (pL_er hp hn ps1) M1 f1 ?_
      rw [q1, i_is, show findS s 39 (p + 1) = s.length by omega]
    · rw [e2, I_le (by omega) (by omega) (by omega) (by omega)] at u
      have ps1 : pS s false p = .inl ([2, p + 1, findS s 39 (p + 1), 0, 0], findS s 39 (p + 1) + 1, false) := by
        unfold pS sqS; rw [if_neg (by omega), if_neg (by omega), if_neg (by omega), if_neg (by decide), if_pos (by omega), if_pos (by omega)]
      obtain ⟨n', hn', en⟩ := pL_in (ps := ps) hp hn ps1
      rw [I_add]
      exact hq (findS s 39 (p + 1) + 1) n' _ (by omega) (by omega) hn' ⟨hp, Or.inr ⟨by omega, _, rfl, ps1⟩⟩ en M1 f1
  · rw [I_eq (by omega) (by omega) (by omega) (by omega)] at c1 c2
    refine m_stroke (q := false) h t hp (by omega) (fun r p' q' g M' f => ?_) (fun e g M' f f2 => hb e (pL_er hp hn g) M' f f2)
    have pr := pS_r hp g
    rw [pS_q g (by omega)] at g
    obtain ⟨n', hn', en⟩ := pL_in (ps := ps) hp hn g
    exact hq _ _ _ pr.1 pr.2.1 hn' ⟨hp, Or.inr ⟨by omega, _, rfl, g⟩⟩ en M' f
  · rw [I_eq (by omega) (by omega) (by omega) (by omega)] at c1
    refine m_dollar (q := false) h t hp (by omega) (fun r p' q' g => ?_) (fun e g M' f f2 => hb e (pL_er hp hn g) M' f f2)
    have pr := pS_r hp g
    rw [pS_q g (by omega)] at g
    obtain ⟨n', hn', en⟩ := pL_in (ps := ps) hp hn g
    exact hq _ _ _ pr.1 pr.2.1 hn' ⟨hp, Or.inr ⟨by omega, _, rfl, g⟩⟩ en M (fm.refl _ _ _)
end MLEX
