/-! THE REFERENCE: tokens -/
abbrev tkn : Type := Nat × Nat × Int
def opS (c d : Nat) : Nat := if c = 38 then (if d = 38 then 1 else 0) else if c = 124 then (if d = 124 then 2 else 3) else if c = 62 then (if d = 62 then 8 else 7) else if c = 59 then 4 else if c = 10 then 5 else if c = 60 then 6 else if c = 40 ∨ c = 41 then 0 else 9
def opK (s : List Nat) (q : Nat) : Nat := opS (s.getD q 0) (s.getD (q + 1) 0)
def opW (k : Nat) : Nat := if k = 1 ∨ k = 2 ∨ k = 8 then 2 else 1
/-- the tokens from p on, and where the last one is wrong, or -1 -/
def cutF (s : List Nat) : Nat → Nat → List tkn × Int
  | 0, _ => ([], -1)
  | n + 1, p =>
    if (fT s s.length false p).1 = true then
      if opK s (fT s s.length false p).2 = 0 then ([(0, (fT s s.length false p).2, ((fT s s.length false p).2 : Int))], ((fT s s.length false p).2 : Int))
      else if opK s (fT s s.length false p).2 = 9 then (match pL s 240 false (fT s s.length false p).2 [] with
        | .inl (e, _) => ((9, (fT s s.length false p).2, (e : Int)) :: (cutF s n e).1, (cutF s n e).2)
        | .inr b => ([(9, (fT s s.length false p).2, -1)], (b : Int)))
      else ((opK s (fT s s.length false p).2, (fT s s.length false p).2, (((fT s s.length false p).2 + opW (opK s (fT s s.length false p).2) : Nat) : Int)) :: (cutF s n ((fT s s.length false p).2 + opW (opK s (fT s s.length false p).2))).1, (cutF s n ((fT s s.length false p).2 + opW (opK s (fT s s.length false p).2))).2)
    else ([], -1)
def tkX (M : mM) (m : Nat) (T : List tkn) : Prop := mi M m 4 = I T.length ∧ T.length ≤ 241 ∧ ∀ t, t < T.length → mi M (m + 2) t = I (T.getD t (0, 0, 0)).1 ∧ mi M (m + 3) t = I (T.getD t (0, 0, 0)).2.1 ∧ mi M (m + 4) t = I (T.getD t (0, 0, 0)).2.2 ∧ (T.getD t (0, 0, 0)).1 ≤ 9 ∧ (T.getD t (0, 0, 0)).2.1 ≤ 240 ∧ -2 < (T.getD t (0, 0, 0)).2.2 ∧ (T.getD t (0, 0, 0)).2.2 ≤ 242
theorem pS_e {s : List Nat} {q : Bool} {p e : Nat} (hp : p < s.length) (h : pS s q p = .inr (some e)) : e ≤ s.length + 4 := by
  have a1 := nE_bd s (p + 2)
  have a2 := tE_bd s (nE s (p + 2) + 2)
  unfold pS at h
  split at h
  · cases h
  · split at h
    · unfold esS at h
      split at h
      · cases h; omega
      · cases h
    · split at h
      · split at h
        · unfold brS at h
          repeat' (split at h)
          all_goals (first | (cases h; omega) | cases h)
        · cases h
      · split at h
        · cases h
        · split at h
          · unfold sqS at h
            split at h
            · cases h
            · cases h; omega
          · split at h <;> cases h
theorem pL_e {s : List Nat} : ∀ (n : Nat) (q : Bool) (p : Nat) (ps : List (List Nat)) (e : Nat), p ≤ s.length → pL s n q p ps = .inr e → e ≤ s.length + 4
  | 0, q, p, ps, e, _, h => by
    unfold pL at h
    split at h
    · cases h; omega
    · cases h
  | n + 1, q, p, ps, e, hp, h => by
    unfold pL at h
    split at h
    · next hl =>
      cases g : pS s q p with
      | inl x =>
        obtain ⟨r, p', q'⟩ := x
        rw [g] at h
        exact pL_e n q' p' _ e (pS_r hl g).2.1 h
      | inr x =>
        rw [g] at h
        cases x with
        | none => cases h
        | some b => cases h; exact pS_e hl g
    · split at h
      · cases h; omega
      · cases h
section MCUT
variable {E : mE} {M M' : mM} {Q : mQ} {m : Nat} {s : List Nat} {T : List tkn} {S : List Nat}
theorem tkX.mv (h : tkX M m T) (f : fm m S M M') (h1 : S.contains 2 = false) (h2 : S.contains 104 = false) : tkX M' m T :=
  ⟨by rw [f.fld h2]; exact h.1, h.2.1, fun t ht => by rw [f.2.2 2 t (by omega) h1, f.2.2 3 t (by omega) h1, f.2.2 4 t (by omega) h1]; exact h.2.2 t ht⟩
theorem opS_r (c d : Nat) : opS c d ≤ 9 := by
  unfold opS
  repeat' split
  all_goals omega
theorem m_operator {p : Nat} (h : mS M m) (t : mdT M m s) (hp : p ≤ 1000) (hq : Q (.inl (some (.int (I (opK s p))))) M) : mC E 132 [.ref m, .int (I p)] M Q := by
  have c1 := t.ch p
  have c2 := t.ch (p + 1)
  unfold opK opS at hq
  refine w132_0 ⟨h.k0, m_ch h t (by omega) ⟨h.k0, ?_⟩⟩
  rw [I_add]
  refine m_ch (p := p + 1) h t (by omega) ⟨fun a1 => ⟨fun a2 => ⟨fun a3 => ⟨fun a4 => ⟨fun a5 => ⟨fun a6 => ⟨fun a7 => ?_, fun a7 => ⟨fun a8 => ?_, fun a8 => ?_⟩⟩, fun a6 => ?_⟩, fun a5 => ?_⟩, fun a4 => ?_⟩, fun a3 => ⟨fun b => ?_, fun b => ?_⟩⟩, fun a2 => ⟨fun b => ?_, fun b => ?_⟩⟩, fun a1 => ⟨fun b => ?_, fun b => ?_⟩⟩
  · rw [I_eq (by omega) (by omega) (by omega) (by omega)] at a1 a2 a3 a4 a5 a6 a7
    rw [if_neg (by omega), if_neg (by omega), if_neg (by omega), if_neg (by omega), if_neg (by omega), if_neg (by omega), if_pos (by omega)] at hq; exact hq
  · rw [I_eq (by omega) (by omega) (by omega) (by omega)] at a1 a2 a3 a4 a5 a6 a7 a8
    rw [if_neg (by omega), if_neg (by omega), if_neg (by omega), if_neg (by omega), if_neg (by omega), if_neg (by omega), if_neg (by omega)] at hq; exact hq
  · rw [I_eq (by omega) (by omega) (by omega) (by omega)] at a1 a2 a3 a4 a5 a6 a7 a8
    rw [if_neg (by omega), if_neg (by omega), if_neg (by omega), if_neg (by omega), if_neg (by omega), if_neg (by omega), if_pos (by omega)] at hq; exact hq
  · rw [I_eq (by omega) (by omega) (by omega) (by omega)] at a1 a2 a3 a4 a5 a6
    rw [if_neg (by omega), if_neg (by omega), if_neg (by omega), if_neg (by omega), if_neg (by omega), if_pos (by omega)] at hq; exact hq
  · rw [I_eq (by omega) (by omega) (by omega) (by omega)] at a1 a2 a3 a4 a5
    rw [if_neg (by omega), if_neg (by omega), if_neg (by omega), if_neg (by omega), if_pos (by omega)] at hq; exact hq
  · rw [I_eq (by omega) (by omega) (by omega) (by omega)] at a1 a2 a3 a4
    rw [if_neg (by omega), if_neg (by omega), if_neg (by omega), if_pos (by omega)] at hq; exact hq
  · rw [I_eq (by omega) (by omega) (by omega) (by omega)] at a1 a2 a3 b
    rw [if_neg (by omega), if_neg (by omega), if_pos (by omega), if_neg (by omega)] at hq; exact hq
  · rw [I_eq (by omega) (by omega) (by omega) (by omega)] at a1 a2 a3 b
    rw [if_neg (by omega), if_neg (by omega), if_pos (by omega), if_pos (by omega)] at hq; exact hq
  · rw [I_eq (by omega) (by omega) (by omega) (by omega)] at a1 a2 b
    rw [if_neg (by omega), if_pos (by omega), if_neg (by omega)] at hq; exact hq
  · rw [I_eq (by omega) (by omega) (by omega) (by omega)] at a1 a2 b
    rw [if_neg (by omega), if_pos (by omega), if_pos (by omega)] at hq; exact hq
  · rw [I_eq (by omega) (by omega) (by omega) (by omega)] at a1 b
    rw [if_pos (by omega), if_neg (by omega)] at hq; exact hq
  · rw [I_eq (by omega) (by omega) (by omega) (by omega)] at a1 b
    rw [if_pos (by omega), if_pos (by omega)] at hq; exact hq
/-- a word's end -/
theorem m_word (z : Nat) {v1 v3 : Int32} : ∀ (p n : Nat) (acc : List (List Nat)) (M : mM), s.length - p ≤ z → p ≤ s.length → s.length - p ≤ n → mS M m → mdT M m s → (∀ e ps, pL s n false p acc = .inl (e, ps) → ∀ M', fm m [108] M M' → mX E 131 10 [some (.ref m), some (.int v1), some (.int (I e)), some (.int v3)] [] M' Q) → (∀ b, pL s n false p acc = .inr b → ∀ M', fm m [108] M M' → mi M' m 8 = I b → mX E 131 10 [some (.ref m), some (.int v1), some (.int (I (-1))), some (.int v3)] [] M' Q) →
    mX E 131 9 [some (.ref m), some (.int v1), some (.int (I p)), some (.int v3)] [] M Q := by
  induction z with
  | zero =>
    intro p n acc M hz hp hn h t hq hb
    have tl := t.2.1
    have ou := pL_ou (n := n) (q := false) (ps := acc) (show s.length ≤ p by omega)
    rw [if_neg (by decide)] at ou
    refine w131_9 ⟨fun c => ?_, fun _ => ⟨h.k0, m_ch h t (by omega) (m_ends (by have := t.ch p; omega) (fun _ => ⟨fun _ => hq p acc ou M (fm.refl _ _ _), fun w => absurd w (by decide)⟩) (fun w => absurd (Or.inl (mdT.o (by omega))) w))⟩⟩
    rw [I_lt (by omega) (by omega) (by omega) (by omega)] at c; omega
  | succ z ih =>
    intro p n acc M hz hp hn h t hq hb
    have tl := t.2.1
    have hc := t.ch p
    refine w131_9 ⟨fun c => ?_, fun _ => ⟨h.k0, m_ch h t (by omega) (m_ends (by omega) (fun w2 => ⟨fun _ => ?_, fun w => absurd w (by decide)⟩) (fun w2 => ⟨fun w => absurd rfl w, fun _ => ⟨h.k0, ?_⟩⟩))⟩⟩
    · rw [I_lt (by omega) (by omega) (by omega) (by omega)] at c; omega
    · by_cases z0 : s.length ≤ p
      · have ou := pL_ou (n := n) (q := false) (ps := acc) z0
        rw [if_neg (by decide)] at ou
        exact hq p acc ou M (fm.refl _ _ _)
      · have nz := t.z (show p < s.length by omega)
        have ps1 : pS s false p = .inr none := by
          unfold pS; rw [if_neg (by omega), if_neg (by omega), if_neg (by omega), if_neg (by decide), if_neg (by omega), if_pos (by omega)]
        exact hq p acc (pL_en (by omega) hn ps1) M (fm.refl _ _ _)
    · have hl : p < s.length := by
        by_cases y : p < s.length
        · exact y
        · exact absurd (Or.inl (mdT.o (by omega))) w2
      refine m_piece (ps := acc) (n := n) h t hl (by omega) hn (fun p' n' PL g1 g2 g3 gp g4 M1 f1 => ?_) (fun b g4 M1 f1 q8 => ?_)
      · exact ih p' n' (acc ++ PL) M1 (by omega) g2 g3 (h.mv f1.1) (t.mv f1 (by decide) (by decide)) (fun e ps g M' f => hq e ps (g4.trans g) M' (f1.trans f)) (fun b g M' f q => hb b (g4.trans g) M' (f1.trans f) q)
      · exact w131_9 ⟨fun _ => hb b g4 M1 f1 q8, fun z => absurd (by decide) z⟩
theorem fT_fu (s : List Nat) : ∀ (n n' : Nat) (cm : Bool) (e : Nat), s.length - e ≤ n → s.length - e ≤ n' → fT s n cm e = fT s n' cm e
  | 0, 0, _, _, _, _ => rfl
  | 0, n' + 1, cm, e, h, _ => by
    unfold fT; rw [if_neg (by omega)]
  | n + 1, 0, cm, e, _, h => by
    unfold fT; rw [if_neg (by omega)]
  | n + 1, n' + 1, cm, e, h1, h2 => by
    unfold fT
    by_cases q : e < s.length
    · rw [if_pos q, if_pos q, fT_fu s n n' true (e + 1) (by omega) (by omega), fT_fu s n n' false (e + 1) (by omega) (by omega)]
    · rw [if_neg q, if_neg q]
theorem fT_st {cm : Bool} {e : Nat} (h : e < s.length) : fT s s.length cm e = if s.getD e 0 = 35 ∨ (cm = true ∧ ¬ s.getD e 0 = 10) then fT s s.length true (e + 1) else if s.getD e 0 = 32 then fT s s.length false (e + 1) else (true, e) := by
  obtain ⟨n, hn⟩ : ∃ n, s.length = n + 1 := ⟨s.length - 1, by omega⟩
  have a := fT_fu s n s.length true (e + 1) (by omega) (by omega)
  have b := fT_fu s n s.length false (e + 1) (by omega) (by omega)
  rw [← a, ← b]
  conv => lhs; rw [hn]
  rw [fT, if_pos h]
theorem fT_ou {cm : Bool} {e : Nat} (h : s.length ≤ e) : fT s s.length cm e = (false, e) := by
  cases hl : s.length with
  | zero => rfl
  | succ n => rw [fT, if_neg (by omega)]
theorem cutF_cg {n p p' : Nat} (h : fT s s.length false p = fT s s.length false p') : cutF s n p = cutF s n p' := by
  cases n with
  | zero => rfl
  | succ n => unfold cutF; rw [h]
/-- one more token -/
theorem tkX.push {M1 M2 M3 M4 : mM} {k p : Nat} {e : Int} (h : tkX M m T) (hl : T.length ≤ 240) (hk : k ≤ 9) (hp : p ≤ 240) (he : -2 < e) (he2 : e ≤ 242) (q1 : M1 = msi M (m + 3) T.length (I p)) (q2 : M2 = msi M1 (m + 2) T.length (I k)) {M2' : mM} (f : fm m [108] M2 M2') (q3 : M3 = msi M2' (m + 4) T.length (I e)) (q4 : M4 = msi M3 m 4 (I ((T.length + 1 : Nat) : Int))) : tkX M4 m (T ++ [(k, p, e)]) ∧ fm m [2, 104, 108] M M4 := by
  have f1 : fm m [2, 104, 108] M M1 := fm_i (a := 3) q1 (by omega) rfl
  have f2 : fm m [2, 104, 108] M1 M2 := fm_i (a := 2) q2 (by omega) rfl
  have f3 : fm m [2, 104, 108] M2' M3 := fm_i (a := 4) q3 (by omega) rfl
  have f4 : fm m [2, 104, 108] M3 M4 := fm_o q4 (by decide)
  refine ⟨⟨by rw [q4, i_is, List.length_append]; rfl, by rw [List.length_append]; simp; omega, fun t ht => ?_⟩, (((f1.trans f2).trans (f.w (by decide))).trans f3).trans f4⟩
  rw [List.length_append] at ht
  simp only [List.length_cons, List.length_nil] at ht
  have A : mi M4 (m + 2) t = if t = T.length then I k else mi M (m + 2) t := by
    rw [q4, i_ia (by omega), q3, i_ia (by omega), f.2.2 2 t (by omega) rfl, q2, i_i]
    by_cases z : t = T.length
    · rw [if_pos ⟨rfl, z⟩, if_pos z]
    · rw [if_neg (fun y => z y.2), if_neg z, q1, i_ia (by omega)]
  have B : mi M4 (m + 3) t = if t = T.length then I p else mi M (m + 3) t := by
    rw [q4, i_ia (by omega), q3, i_ia (by omega), f.2.2 3 t (by omega) rfl, q2, i_ia (by omega), q1, i_i]
    by_cases z : t = T.length
    · rw [if_pos ⟨rfl, z⟩, if_pos z]
    · rw [if_neg (fun y => z y.2), if_neg z]
  have C : mi M4 (m + 4) t = if t = T.length then I e else mi M (m + 4) t := by
    rw [q4, i_ia (by omega), q3, i_i]
    by_cases z : t = T.length
    · rw [if_pos ⟨rfl, z⟩, if_pos z]
    · rw [if_neg (fun y => z y.2), if_neg z, f.2.2 4 t (by omega) rfl, q2, i_ia (by omega), q1, i_ia (by omega)]
  rw [A, B, C]
  by_cases z : t = T.length
  · subst z
    have e0 : (T ++ [(k, p, e)]).getD T.length (0, 0, 0) = (k, p, e) := by rw [List.getD_eq_getElem?_getD, List.getElem?_append_right (Nat.le_refl _), Nat.sub_self]; rfl
    rw [if_pos rfl, if_pos rfl, if_pos rfl, e0]
    exact ⟨rfl, rfl, rfl, hk, hp, he, he2⟩
  · have e0 : (T ++ [(k, p, e)]).getD t (0, 0, 0) = T.getD t (0, 0, 0) := by rw [List.getD_eq_getElem?_getD, List.getElem?_append_left (by omega), ← List.getD_eq_getElem?_getD]
    rw [if_neg z, if_neg z, if_neg z, e0]
    exact h.2.2 t (by omega)
/-- a comment is passed over -/
theorem m_cmt {v1 v3 : Int32} (h : mS M m) (t : mdT M m s) (z : Nat) : ∀ (p : Nat), s.length - p ≤ z → p ≤ s.length → (∀ p', p ≤ p' → p' ≤ s.length → fT s s.length true p = fT s s.length false p' → ∀ d, mX E 131 1 [some (.ref m), some (.int v1), some (.int (I p')), d] [] M Q) →
    mX E 131 3 [some (.ref m), some (.int v1), some (.int (I p)), some (.int v3)] [] M Q := by
  have tl := t.2.1
  induction z with
  | zero =>
    intro p hz hp hq
    refine w131_3 ⟨h.k0, fun _ => hq p (Nat.le_refl _) hp (by rw [fT_ou (by omega), fT_ou (by omega)]) _, fun c => ?_⟩
    rw [t.1, I_le (by omega) (by omega) (by omega) (by omega)] at c; omega
  | succ z ih =>
    intro p hz hp hq
    have hc := t.ch p
    refine w131_3 ⟨h.k0, fun c => ?_, fun c => m_ch h t (by omega) ⟨fun w => ?_, fun w => ?_⟩⟩
    · rw [t.1, I_le (by omega) (by omega) (by omega) (by omega)] at c
      exact hq p (Nat.le_refl _) hp (by rw [fT_ou (by omega), fT_ou (by omega)]) _
    · rw [t.1, I_le (by omega) (by omega) (by omega) (by omega)] at c
      rw [I_eq (by omega) (by omega) (by omega) (by omega)] at w
      refine hq p (Nat.le_refl _) hp ?_ _
      have n1 : ¬ (s.getD p 0 = 35 ∨ (true = true ∧ ¬ s.getD p 0 = 10)) := fun y => by
        rcases y with y | y
        · omega
        · exact y.2 (by omega)
      have n2 : ¬ (s.getD p 0 = 35 ∨ (false = true ∧ ¬ s.getD p 0 = 10)) := fun y => by
        rcases y with y | y
        · omega
        · exact absurd y.1 (by decide)
      rw [fT_st (show p < s.length by omega), fT_st (cm := false) (show p < s.length by omega), if_neg n1, if_neg n2]
    · rw [t.1, I_le (by omega) (by omega) (by omega) (by omega)] at c
      rw [I_eq (by omega) (by omega) (by omega) (by omega)] at w
      rw [I_add]
      refine ih (p + 1) (by omega) (by omega) (fun p' g1 g2 g3 d => hq p' (by omega) g2 ?_ d)
      rw [fT_st (by omega), if_pos (Or.inr ⟨rfl, by omega⟩)]; exact g3
theorem m_cut_main (z : Nat) : ∀ (p n : Nat) (T : List tkn) (M : mM) (d : Option Value), s.length - p ≤ z → p ≤ s.length → s.length - p ≤ n → T.length ≤ p → mS M m → mdT M m s → tkX M m T → (∀ M', tkX M' m (T ++ (cutF s n p).1) → mi M' m 8 = I (cutF s n p).2 → fm m [2, 104, 108] M M' → Q (.inl none) M') →
    mX E 131 1 [some (.ref m), some (.int (I (-1))), some (.int (I p)), d] [] M Q := by
  have done : ∀ (p n : Nat) (T : List tkn) (M : mM) (d : Option Value), s.length ≤ p → p ≤ s.length → mS M m → mdT M m s → tkX M m T → (∀ M', tkX M' m (T ++ (cutF s n p).1) → mi M' m 8 = I (cutF s n p).2 → fm m [2, 104, 108] M M' → Q (.inl none) M') → mX E 131 1 [some (.ref m), some (.int (I (-1))), some (.int (I p)), d] [] M Q := by
    intro p n T M d h1 h2 h t k hq
    have tl := t.2.1
    have e : cutF s n p = ([], -1) := by
      cases n with
      | zero => rfl
      | succ n => unfold cutF; rw [fT_ou h1]; exact if_neg (show ¬ false = true by decide)
    rw [e, List.append_nil] at hq
    refine w131_1 ⟨h.k0, fun _ M2 q2 => ?_, fun c => ?_⟩
    · have f2 : fm m [108] M M2 := fm_o q2 (by decide)
      exact hq M2 (k.mv f2 (by decide) (by decide)) (by rw [q2, i_is]) (f2.w (by decide))
    · rw [t.1, I_le (by omega) (by omega) (by omega) (by omega)] at c; omega
  -- a wrong token was the last
  have over : ∀ (b : Nat) (p : Int) (T : List tkn) (M : mM) (d : Option Value), b ≤ 1000 → -2 < p → p ≤ 240 → mS M m → mdT M m s → tkX M m T → (∀ M', tkX M' m T → mi M' m 8 = I b → fm m [2, 104, 108] M M' → Q (.inl none) M') → mX E 131 1 [some (.ref m), some (.int (I b)), some (.int (I p)), d] [] M Q := by
    intro b p T M d hb hp1 hp2 h t k hq
    have fin : ∀ M2, M2 = msi M m 8 (I b) → Q (.inl none) M2 := by
      intro M2 q2
      have f2 : fm m [108] M M2 := fm_o q2 (by decide)
      exact hq M2 (k.mv f2 (by decide) (by decide)) (by rw [q2, i_is]) (f2.w (by decide))
    refine w131_1 ⟨h.k0, fun _ M2 q2 => fin M2 q2, fun _ => ⟨fun _ M2 q2 => fin M2 q2, fun c => ?_⟩⟩
    rw [I_le (by omega) (by omega) (by omega) (by omega)] at c; omega
  induction z with
  | zero =>
    intro p n T M d hz hp hn hT h t k hq
    exact done p n T M d (by omega) hp h t k hq
  | succ z ih =>
    intro p n T M d hz hp hn hT h t k hq
    have tl := t.2.1
    by_cases ple : s.length ≤ p
    · exact done p n T M d ple hp h t k hq
    · have hl : p < s.length := by omega
      have hc := t.ch p
      refine w131_1 ⟨h.k0, fun c => ?_, fun c => ⟨fun c2 => absurd c2 (by decide), fun _ => m_ch h t (by omega) ⟨fun w => ⟨fun u => ⟨h.k0, h.n6, by rw [h.f6]; exact h.k3, by rw [h.f6, h.l3, k.1]; exact I_in (by omega) (by omega) (by omega), fun M1 q1 => ⟨h.n5, ?_⟩⟩, fun u => ?_⟩, fun w => ?_⟩⟩⟩
      · rw [t.1, I_le (by omega) (by omega) (by omega) (by omega)] at c; omega
      · -- a token
        rw [I_eq (by omega) (by omega) (by omega) (by omega)] at w u
        rw [h.f6, k.1, I_ntn (by omega)] at q1
        have f1 : fm m [2, 104, 108] M M1 := fm_i (a := 3) q1 (by omega) rfl
        have h1 := h.mv f1.1
        have t1 := t.mv f1 (by decide) (by decide)
        have kq1 : mi M1 m 4 = I T.length := by rw [q1, i_ia (by omega)]; exact k.1
        have ft : fT s s.length false p = (true, p) := by
          rw [fT_st hl, if_neg (show ¬ (s.getD p 0 = 35 ∨ (false = true ∧ ¬ s.getD p 0 = 10)) from fun y => by rcases y with y | y; omega; exact absurd y.1 (by decide)), if_neg (by omega)]
        obtain ⟨n', rfl⟩ : ∃ n', n = n' + 1 := ⟨n - 1, by omega⟩
        have cf : cutF s (n' + 1) p = if opK s p = 0 then ([(0, p, (p : Int))], (p : Int)) else if opK s p = 9 then (match pL s 240 false p [] with
            | .inl (e, _) => ((9, p, (e : Int)) :: (cutF s n' e).1, (cutF s n' e).2)
            | .inr b => ([(9, p, -1)], (b : Int))) else ((opK s p, p, ((p + opW (opK s p) : Nat) : Int)) :: (cutF s n' (p + opW (opK s p))).1, (cutF s n' (p + opW (opK s p))).2) := by
          conv => lhs; unfold cutF
          rw [ft]; rfl
        rw [cf] at hq
        have or9 : opK s p ≤ 9 := opS_r (s.getD p 0) (s.getD (p + 1) 0)
        refine m_operator h1 t1 (by omega) ⟨by rw [h.f5, (f1.1).1]; exact h.k2, by rw [h.f5, kq1, (f1.1).2.1, h.l2]; exact I_in (by omega) (by omega) (by omega), fun M2 q2 => ?_⟩
        rw [h.f5, kq1, I_ntn (by omega)] at q2
        have f2 : fm m [2, 104, 108] M1 M2 := fm_i (a := 2) q2 (by omega) rfl
        have h2 := h1.mv f2.1
        have t2 := t1.mv f2 (by decide) (by decide)
        have kq2 : mi M2 m 4 = I T.length := by rw [q2, i_ia (by omega)]; exact kq1
        have kk : mi M2 (mr M1 m 5) (nt (mi M2 m 4)) = I (opK s p) := by rw [h1.f5, kq2, I_ntn (by omega), q2, i_is]
        -- what is behind the token
        have thirteen : ∀ (v1 : Int32) (e : Int) (M2' : mM) (d : Option Value), fm m [108] M2 M2' → -2 < e → e ≤ 242 → (∀ M4 d, tkX M4 m (T ++ [(opK s p, p, e)]) → fm m [2, 104, 108] M M4 → mX E 131 1 [some (.ref m), some (.int v1), some (.int (I e)), d] [] M4 Q) → mX E 131 13 [some (.ref m), some (.int v1), some (.int (I e)), some (.int (I (s.getD p 0)))] [] M2' Q := by
          intro v1 e M2' d f2' he1 he2 go
          have h2' := h2.mv f2'.1
          have kq3 : mi M2' m 4 = I T.length := by rw [f2'.fld (by decide)]; exact kq2
          refine w131_13 ⟨h2'.k0, h2'.n7, by rw [h2'.f7]; exact h2'.k4, by rw [h2'.f7, h2'.l4, kq3]; exact I_in (by omega) (by omega) (by omega), fun M3 q3 M4 q4 => ?_⟩
          rw [h2'.f7, kq3, I_ntn (by omega)] at q3
          rw [q3, i_ia (by omega), ← q3, kq3, I_add] at q4
          obtain ⟨k4, f4⟩ := k.push (by omega) or9 (by omega) he1 he2 q1 q2 f2' q3 q4
          exact go M4 _ k4 f4
        refine ⟨h1.k0, h1.n5, by rw [h1.f5]; exact h1.k2, by rw [h1.f5, h1.l2, kq2]; exact I_in (by omega) (by omega) (by omega), ?_⟩
        rw [kk]
        refine ⟨fun a0 => ⟨fun a9 => ?_, fun a9 => ?_⟩, fun a0 => ?_⟩
        · -- a word
          rw [I_eq (by omega) (by omega) (by omega) (by omega)] at a0 a9
          have k9 : opK s p = 9 := by omega
          rw [if_neg (by omega), if_pos k9] at hq
          refine m_word s.length p 240 [] M2 (by omega) (by omega) (by omega) h2 t2 (fun e ps g M' f => ?_) (fun b g M' f q8 => ?_)
          · have pr := pL_r s 240 false p [] e ps (by omega) g
            have pg := pL_pr (s := s) (n := 239) hl (by
              intro y
              have : ¬ opK s p = 9 := by
                unfold opK opS
                rcases y with y | y | y | y | y | y | y | y | y <;> rw [y]
                · omega
                all_goals (simp; try (split <;> omega))
              exact this k9) g
            rw [g] at hq
            refine w131_10 ⟨fun _ => w131_12 (thirteen (I (-1)) (e : Int) M' none f (by omega) (by omega) (fun M4 d k4 f4 => ?_)), fun c => ?_⟩
            · refine ih e n' _ M4 d (by omega) (by omega) (by omega) (by rw [List.length_append]; simp; omega) (h.mv f4.1) (t.mv f4 (by decide) (by decide)) k4 (fun M' g1 g2 g3 => hq M' ?_ g2 (f4.trans g3))
              rw [k9, List.append_assoc] at g1; exact g1
            · rw [I_le (by omega) (by omega) (by omega) (by omega)] at c; omega
          · rw [g] at hq
            have bb := pL_e 240 false p [] b (by omega) g
            refine w131_10 ⟨fun c => absurd c (by decide), fun _ => ⟨(h2.mv f.1).k0, ?_⟩⟩
            rw [q8]
            refine w131_12 (thirteen (I b) (-1) M' none f (by omega) (by omega) (fun M4 d k4 f4 => ?_))
            refine over b (-1) _ M4 d (by omega) (by omega) (by omega) (h.mv f4.1) (t.mv f4 (by decide) (by decide)) k4 (fun M' g1 g2 g3 => hq M' ?_ g2 (f4.trans g3))
            rw [k9] at g1; exact g1
        · rw [I_eq (by omega) (by omega) (by omega) (by omega)] at a0 a9
          rw [if_neg (by omega), if_neg (by omega)] at hq
          have opw : ∀ w : Nat, w = opW (opK s p) → mX E 131 13 [some (.ref m), some (.int (I (-1))), some (.int (I p + I w)), some (.int (I (s.getD p 0)))] [] M2 Q := by
            intro w hw
            have w12 : 1 ≤ w ∧ w ≤ 2 := by rw [hw]; unfold opW; split <;> omega
            have wl : p + w ≤ s.length := by
              by_cases y : w = 2
              · have k2 : opK s p = 1 ∨ opK s p = 2 ∨ opK s p = 8 := by
                  unfold opW at hw
                  split at hw
                  · assumption
                  · omega
                by_cases x : p + 1 < s.length
                · omega
                · have nz : s.getD (p + 1) 0 = 0 := mdT.o (by omega)
                  have : ¬ (opK s p = 1 ∨ opK s p = 2 ∨ opK s p = 8) := by
                    unfold opK opS
                    rw [nz]
                    repeat' split
                    all_goals omega
                  exact absurd k2 this
              · omega
            rw [I_add, show (p : Int) + (w : Int) = ((p + w : Nat) : Int) by omega]
            refine thirteen (I (-1)) ((p + w : Nat) : Int) M2 none (fm.refl _ _ _) (by omega) (by omega) (fun M4 d k4 f4 => ?_)
            refine ih (p + w) n' _ M4 d (by omega) wl (by omega) (by rw [List.length_append]; simp; omega) (h.mv f4.1) (t.mv f4 (by decide) (by decide)) k4 (fun M' g1 g2 g3 => hq M' ?_ (by rw [← hw]; exact g2) (f4.trans g3))
            rw [List.append_assoc] at g1
            rw [← hw]; exact g1
          refine ⟨fun b1 => w131_6 (w131_8 (opw 2 ?_)), fun b1 => ⟨fun b2 => w131_6 (w131_8 (opw 2 ?_)), fun b2 => ⟨fun b8 => w131_8 (opw 1 ?_), fun b8 => w131_6 (w131_8 (opw 2 ?_))⟩⟩⟩
          all_goals unfold opW
          · rw [I_eq (by omega) (by omega) (by omega) (by omega)] at b1; rw [if_pos (by omega)]
          · rw [I_eq (by omega) (by omega) (by omega) (by omega)] at b2; rw [if_pos (by omega)]
          · rw [I_eq (by omega) (by omega) (by omega) (by omega)] at b1 b2 b8; rw [if_neg (by omega)]
          · rw [I_eq (by omega) (by omega) (by omega) (by omega)] at b8; rw [if_pos (by omega)]
        · rw [I_eq (by omega) (by omega) (by omega) (by omega)] at a0
          have k0 : opK s p = 0 := by omega
          rw [if_pos k0] at hq
          refine thirteen (I p) (p : Int) M2 none (fm.refl _ _ _) (by omega) (by omega) (fun M4 d k4 f4 => ?_)
          refine over p (p : Int) _ M4 d (by omega) (by omega) (by omega) (h.mv f4.1) (t.mv f4 (by decide) (by decide)) k4 (fun M' g1 g2 g3 => hq M' ?_ g2 (f4.trans g3))
          rw [k0] at g1; exact g1
      · -- a comment
        rw [I_eq (by omega) (by omega) (by omega) (by omega)] at u
        have fs : fT s s.length false p = fT s s.length true (p + 1) := by rw [fT_st hl, if_pos (Or.inl (by omega))]
        refine w131_3 ⟨h.k0, fun c => ?_, fun c => m_ch h t (by omega) ⟨fun y => ?_, fun y => ?_⟩⟩
        · rw [t.1, I_le (by omega) (by omega) (by omega) (by omega)] at c; omega
        · rw [I_eq (by omega) (by omega) (by omega) (by omega)] at y; omega
        · rw [I_add]
          refine m_cmt h t s.length (p + 1) (by omega) (by omega) (fun p' g1 g2 g3 d => ?_)
          have cg := cutF_cg (n := n) (fs.trans g3)
          rw [cg] at hq
          exact ih p' n T M d (by omega) g2 (by omega) (by omega) h t k hq
      · rw [I_eq (by omega) (by omega) (by omega) (by omega)] at w
        have fs : fT s s.length false p = fT s s.length false (p + 1) := by
          rw [fT_st hl, if_neg (show ¬ (s.getD p 0 = 35 ∨ (false = true ∧ ¬ s.getD p 0 = 10)) from fun y => by rcases y with y | y; omega; exact absurd y.1 (by decide)), if_pos (by omega)]
        rw [cutF_cg (n := n) fs] at hq
        rw [I_add]
        exact ih (p + 1) n T M _ (by omega) (by omega) (by omega) (by omega) h t k hq
theorem m_cut (h : mS M m) (t : mdT M m s) (hq : ∀ M', tkX M' m (cutF s 240 0).1 → mi M' m 8 = I (cutF s 240 0).2 → fm m [2, 104, 108] M M' → Q (.inl none) M') : mC E 131 [.ref m] M Q := by
  have tl := t.2.1
  refine w131_0 ⟨h.k0, fun M1 q1 M2 q2 => ?_⟩
  have f1 : fm m [2, 104, 108] M M1 := fm_o q1 (by decide)
  have f2 : fm m [2, 104, 108] M1 M2 := fm_o q2 (by decide)
  have f := f1.trans f2
  refine m_cut_main s.length 0 240 [] M2 none (by omega) (by omega) (by omega) (by simp) (h.mv f.1) (t.mv f (by decide) (by decide)) ⟨by rw [q2, i_ik (by omega), q1, i_is]; rfl, by simp, fun t ht => absurd ht (Nat.not_lt_zero t)⟩ (fun M' g1 g2 g3 => hq M' g1 g2 (f.trans g3))
end MCUT
