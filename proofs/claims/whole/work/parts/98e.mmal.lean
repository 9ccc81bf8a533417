/-! THE REFERENCE: what is malformed -/
abbrev mayT (k st : Nat) : Prop := k = 9 ∨ ((k = 6 ∨ k = 7 ∨ k = 8) ∧ ¬ st = 3) ∨ (k = 5 ∧ ¬ st = 3) ∨ (st = 2 ∧ 0 < k)
def nxT (k st : Nat) : Nat := if k = 9 then 2 else if k = 6 ∨ k = 7 ∨ k = 8 then 3 else if k = 4 ∨ (k = 5 ∧ st = 2) then 0 else if k = 5 then st else 1
def malF (size : Nat) (bad : Int) : List tkn → Nat → Int
  | [], st => if st = 1 ∨ st = 3 then (size : Int) else -1
  | x :: T, st => if mayT x.1 st then (if T = [] ∧ 0 ≤ bad then bad else malF size bad T (nxT x.1 st)) else (x.2.1 : Int)
section MMAL
variable {E : mE} {M M' : mM} {Q : mQ} {m : Nat} {s : List Nat} {T : List tkn} {bad : Int}
theorem m_mal_l (h : mS M m) (t : mdT M m s) (k : tkX M m T) (h8 : mi M m 8 = I bad) (hb1 : -2 < bad) (hb2 : bad ≤ 1000) (n : Nat) : ∀ (i st : Nat) (d3 d4 d5 d6 : Option Value), n = T.length - i → i ≤ T.length → st ≤ 3 → Q (.inl (some (.int (I (malF s.length bad (T.drop i) st))))) M →
    mX E 133 1 [some (.ref m), some (.int (I st)), some (.int (I i)), d3, d4, d5, d6] [] M Q := by
  have tl := t.2.1
  have kl := k.2.1
  induction n with
  | zero =>
    intro i st d3 d4 d5 d6 hn hi hs hq
    rw [List.drop_eq_nil_of_le (by omega)] at hq
    unfold malF at hq
    refine w133_1 ⟨h.k0, fun _ => ⟨fun c => ?_, fun c => ⟨fun c2 => ?_, fun c2 => ?_⟩⟩, fun c => ?_⟩
    · rw [I_eq (by omega) (by omega) (by omega) (by omega)] at c
      rw [if_pos (by omega)] at hq
      rw [t.1]; exact hq
    · rw [I_eq (by omega) (by omega) (by omega) (by omega)] at c c2
      rw [if_neg (by omega)] at hq; exact hq
    · rw [I_eq (by omega) (by omega) (by omega) (by omega)] at c2
      rw [if_pos (by omega)] at hq
      rw [t.1]; exact hq
    · rw [k.1, I_le (by omega) (by omega) (by omega) (by omega)] at c; omega
  | succ n ih =>
    intro i st d3 d4 d5 d6 hn hi hs hq
    obtain ⟨k1, k2, k3, k4, k5, -, -⟩ := k.2.2 i (by omega)
    rw [drop_getL (d := (0, 0, 0)) (by omega)] at hq
    unfold malF at hq
    generalize hK : (T.getD i (0, 0, 0)).1 = K at *
    generalize hP : (T.getD i (0, 0, 0)).2.1 = P at *
    have dr : T.drop (i + 1) = [] ↔ i + 1 = T.length := by rw [List.drop_eq_nil_iff]; omega
    have li : vp_in (I i) (mln M (m + 2)) := by rw [h.l2]; exact I_in (by omega) (by omega) (by omega)
    -- the next state
    have fourteen : ∀ (red ov : Bool) (v5 : Int32) (d6 : Option Value), (red = true ↔ K = 6 ∨ K = 7 ∨ K = 8) → (ov = true ↔ K = 4 ∨ (K = 5 ∧ st = 2)) → Q (.inl (some (.int (I (malF s.length bad (T.drop (i + 1)) (nxT K st)))))) M → mX E 133 14 [some (.ref m), some (.int (I st)), some (.int (I i)), some (.int (I K)), some (.int (I (bI red))), some (.int v5), d6] [.int (I (bI ov))] M Q := by
      intro red ov v5 d6 hr ho hq
      unfold nxT at hq
      refine w133_14 ⟨fun a => ⟨fun b => ⟨fun c => ⟨fun d => ?_, fun d => ?_⟩, fun c => ?_⟩, fun b => ?_⟩, fun a => ?_⟩
      · rw [I_eq (by omega) (by omega) (by omega) (by omega)] at a d
        rw [bI_0] at b c
        have r0 : ¬ (K = 6 ∨ K = 7 ∨ K = 8) := fun z => by rw [hr.mpr z] at b; exact absurd b (by decide)
        have o0 : ¬ (K = 4 ∨ (K = 5 ∧ st = 2)) := fun z => by rw [ho.mpr z] at c; exact absurd c (by decide)
        rw [if_neg (by omega), if_neg r0, if_neg o0, if_neg (by omega)] at hq
        rw [I_add]; exact ih (i + 1) 1 _ _ _ _ (by omega) (by omega) (by omega) hq
      · rw [I_eq (by omega) (by omega) (by omega) (by omega)] at a d
        rw [bI_0] at b c
        have r0 : ¬ (K = 6 ∨ K = 7 ∨ K = 8) := fun z => by rw [hr.mpr z] at b; exact absurd b (by decide)
        have o0 : ¬ (K = 4 ∨ (K = 5 ∧ st = 2)) := fun z => by rw [ho.mpr z] at c; exact absurd c (by decide)
        rw [if_neg (by omega), if_neg r0, if_neg o0, if_pos (by omega)] at hq
        rw [I_add]; exact ih (i + 1) st _ _ _ _ (by omega) (by omega) (by omega) hq
      · rw [I_eq (by omega) (by omega) (by omega) (by omega)] at a
        rw [bI_0] at b
        rw [bI_0, Bool.not_eq_false] at c
        have r0 : ¬ (K = 6 ∨ K = 7 ∨ K = 8) := fun z => by rw [hr.mpr z] at b; exact absurd b (by decide)
        rw [if_neg (by omega), if_neg r0, if_pos (ho.mp c)] at hq
        rw [I_add]; exact ih (i + 1) 0 _ _ _ _ (by omega) (by omega) (by omega) hq
      · rw [I_eq (by omega) (by omega) (by omega) (by omega)] at a
        rw [bI_0, Bool.not_eq_false] at b
        rw [if_neg (by omega), if_pos (hr.mp b)] at hq
        rw [I_add]; exact ih (i + 1) 3 _ _ _ _ (by omega) (by omega) (by omega) hq
      · rw [I_eq (by omega) (by omega) (by omega) (by omega)] at a
        rw [if_pos (by omega)] at hq
        rw [I_add]; exact ih (i + 1) 2 _ _ _ _ (by omega) (by omega) (by omega) hq
    have eleven : ∀ (red : Bool) (v5 : Int32) (d6 : Option Value), (red = true ↔ K = 6 ∨ K = 7 ∨ K = 8) → Q (.inl (some (.int (I (malF s.length bad (T.drop (i + 1)) (nxT K st)))))) M → mX E 133 11 [some (.ref m), some (.int (I st)), some (.int (I i)), some (.int (I K)), some (.int (I (bI red))), some (.int v5), d6] [] M Q := by
      intro red v5 d6 hr hq
      refine w133_11 ⟨fun a => w133_12 (fourteen red true v5 d6 hr ⟨fun _ => ?_, fun _ => rfl⟩ hq), fun a => ⟨fun b => w133_13 (fourteen red false v5 d6 hr ⟨fun z => absurd z (by decide), fun z => ?_⟩ hq), fun b => ⟨fun c => w133_13 (fourteen red false v5 d6 hr ⟨fun z => absurd z (by decide), fun z => ?_⟩ hq), fun c => w133_12 (fourteen red true v5 d6 hr ⟨fun _ => ?_, fun _ => rfl⟩ hq)⟩⟩⟩
      · rw [I_eq (by omega) (by omega) (by omega) (by omega)] at a; omega
      · rw [I_eq (by omega) (by omega) (by omega) (by omega)] at a b; omega
      · rw [I_eq (by omega) (by omega) (by omega) (by omega)] at a b c; omega
      · rw [I_eq (by omega) (by omega) (by omega) (by omega)] at b c; omega
    have yes : ∀ (red : Bool) (d5 d6 : Option Value), (red = true ↔ K = 6 ∨ K = 7 ∨ K = 8) → mayT K st → mX E 133 7 [some (.ref m), some (.int (I st)), some (.int (I i)), some (.int (I K)), some (.int (I (bI red))), d5, d6] [] M Q := by
      intro red d5 d6 hr hm
      rw [if_pos hm] at hq
      refine w133_7 (w133_9 ⟨fun _ => ⟨h.k0, fun a => eleven red _ d6 hr ?_, fun a => ⟨fun b => eleven red _ d6 hr ?_, fun b => ?_⟩⟩, fun z => absurd z (by decide)⟩)
      · rw [k.1, I_sub, I_eq (by omega) (by omega) (by omega) (by omega)] at a
        rw [if_neg (fun z => by have := dr.mp z.1; omega)] at hq; exact hq
      · rw [h8, I_lt (by omega) (by omega) (by omega) (by omega)] at b
        rw [if_neg (fun z => by omega)] at hq; exact hq
      · rw [k.1, I_sub, I_eq (by omega) (by omega) (by omega) (by omega)] at a
        rw [h8, I_lt (by omega) (by omega) (by omega) (by omega)] at b
        rw [if_pos ⟨dr.mpr (by omega), by omega⟩] at hq
        rw [h8]; exact hq
    have no : ∀ (red : Bool) (d5 d6 : Option Value), ¬ mayT K st → mX E 133 8 [some (.ref m), some (.int (I st)), some (.int (I i)), some (.int (I K)), some (.int (I (bI red))), d5, d6] [] M Q := by
      intro red d5 d6 hm
      rw [if_neg hm] at hq
      refine w133_8 (w133_9 ⟨fun z => absurd rfl z, fun _ => ⟨h.k0, h.n6, by rw [h.f6]; exact h.k3, by rw [h.f6, h.l3]; exact I_in (by omega) (by omega) (by omega), ?_⟩⟩)
      rw [h.f6, I_ntn (by omega), k2]; exact hq
    have four : ∀ (red : Bool) (d4 d5 d6 : Option Value), (red = true ↔ K = 6 ∨ K = 7 ∨ K = 8) → mX E 133 4 [some (.ref m), some (.int (I st)), some (.int (I i)), some (.int (I K)), d4, d5, d6] [.int (I (bI red))] M Q := by
      intro red d4 d5 d6 hr
      have six : ¬ K = 9 → ¬ ((K = 6 ∨ K = 7 ∨ K = 8) ∧ ¬ st = 3) → ¬ (K = 5 ∧ ¬ st = 3) → mX E 133 6 [some (.ref m), some (.int (I st)), some (.int (I i)), some (.int (I K)), some (.int (I (bI red))), d5, d6] [] M Q := by
        intro a1 a2 a3
        refine w133_6 ⟨fun b => no red d5 d6 (fun z => ?_), fun b => ⟨fun c => no red d5 d6 (fun z => ?_), fun c => yes red d5 d6 hr ?_⟩⟩
        · rw [I_eq (by omega) (by omega) (by omega) (by omega)] at b
          rcases z with z | z | z | z
          · exact a1 z
          · exact a2 z
          · exact a3 z
          · omega
        · rw [I_le (by omega) (by omega) (by omega) (by omega)] at c
          rcases z with z | z | z | z
          · exact a1 z
          · exact a2 z
          · exact a3 z
          · omega
        · rw [I_eq (by omega) (by omega) (by omega) (by omega)] at b
          rw [I_le (by omega) (by omega) (by omega) (by omega)] at c
          exact Or.inr (Or.inr (Or.inr ⟨by omega, by omega⟩))
      have five : ¬ K = 9 → ¬ ((K = 6 ∨ K = 7 ∨ K = 8) ∧ ¬ st = 3) → mX E 133 5 [some (.ref m), some (.int (I st)), some (.int (I i)), some (.int (I K)), some (.int (I (bI red))), d5, d6] [] M Q := by
        intro a1 a2
        refine w133_5 ⟨fun b => six a1 a2 (fun z => ?_), fun b => ⟨fun c => yes red d5 d6 hr (Or.inr (Or.inr (Or.inl ?_))), fun c => six a1 a2 (fun z => ?_)⟩⟩
        · rw [I_eq (by omega) (by omega) (by omega) (by omega)] at b; omega
        · rw [I_eq (by omega) (by omega) (by omega) (by omega)] at b c; omega
        · rw [I_eq (by omega) (by omega) (by omega) (by omega)] at c; omega
      refine w133_4 ⟨fun a => yes red d5 d6 hr (Or.inl ?_), fun a => ⟨fun b => five ?_ (fun z => ?_), fun b => ⟨fun c => yes red d5 d6 hr (Or.inr (Or.inl ⟨?_, ?_⟩)), fun c => five ?_ (fun z => ?_)⟩⟩⟩
      · rw [I_eq (by omega) (by omega) (by omega) (by omega)] at a; omega
      · rw [I_eq (by omega) (by omega) (by omega) (by omega)] at a; omega
      · rw [bI_0] at b
        rw [hr.mpr z.1] at b; exact absurd b (by decide)
      · rw [bI_0, Bool.not_eq_false] at b; exact hr.mp b
      · rw [I_eq (by omega) (by omega) (by omega) (by omega)] at c; omega
      · rw [I_eq (by omega) (by omega) (by omega) (by omega)] at a; omega
      · rw [I_eq (by omega) (by omega) (by omega) (by omega)] at c; omega
    refine w133_1 ⟨h.k0, fun c => ?_, fun c => ⟨h.n5, by rw [h.f5]; exact h.k2, by rw [h.f5]; exact li, ?_⟩⟩
    · rw [k.1, I_le (by omega) (by omega) (by omega) (by omega)] at c; omega
    · rw [h.f5, I_ntn (by omega), k1]
      refine ⟨fun a => w133_2 (four true _ _ _ ⟨fun _ => ?_, fun _ => rfl⟩), fun a => ⟨fun b => w133_2 (four true _ _ _ ⟨fun _ => ?_, fun _ => rfl⟩), fun b => ⟨fun c => four false _ _ _ ⟨fun z => absurd z (by decide), fun z => ?_⟩, fun c => w133_2 (four true _ _ _ ⟨fun _ => ?_, fun _ => rfl⟩)⟩⟩⟩
      · rw [I_eq (by omega) (by omega) (by omega) (by omega)] at a; omega
      · rw [I_eq (by omega) (by omega) (by omega) (by omega)] at b; omega
      · rw [I_eq (by omega) (by omega) (by omega) (by omega)] at a b c; omega
      · rw [I_eq (by omega) (by omega) (by omega) (by omega)] at c; omega
theorem cutF_b (s : List Nat) : ∀ (n p : Nat), p ≤ s.length → -2 < (cutF s n p).2 ∧ (cutF s n p).2 ≤ s.length + 4
  | 0, p, _ => by unfold cutF; omega
  | n + 1, p, hp => by
    have fr := fT_r s s.length false p hp
    unfold cutF
    by_cases q : (fT s s.length false p).1 = true
    · rw [if_pos q]
      have lt := fr.2.2 q
      generalize (fT s s.length false p).2 = x at *
      by_cases q0 : opK s x = 0
      · rw [if_pos q0]; constructor
        · show -2 < (x : Int); omega
        · show (x : Int) ≤ _; omega
      · rw [if_neg q0]
        by_cases q9 : opK s x = 9
        · rw [if_pos q9]
          cases g : pL s 240 false x [] with
          | inl y =>
            obtain ⟨e, ps⟩ := y
            exact cutF_b s n e (pL_r s 240 false x [] e ps (by omega) g).2.1
          | inr b =>
            have := pL_e 240 false x [] b (by omega) g
            constructor
            · show -2 < (b : Int); omega
            · show (b : Int) ≤ _; omega
        · rw [if_neg q9]
          by_cases w : x + opW (opK s x) ≤ s.length
          · exact cutF_b s n _ w
          · -- the script ends here
            have : cutF s n (x + opW (opK s x)) = ([], -1) := by
              cases n with
              | zero => rfl
              | succ n => unfold cutF; rw [fT_ou (by omega)]; exact if_neg (show ¬ false = true by decide)
            rw [this]; constructor
            · show (-2 : Int) < -1; omega
            · show (-1 : Int) ≤ _; omega
    · rw [if_neg q]; constructor
      · show (-2 : Int) < -1; omega
      · show (-1 : Int) ≤ _; omega
/-- the place of what is wrong, or -1 -/
theorem m_malformed (h : mS M m) (t : mdT M m s) (hq : ∀ M', tkX M' m (cutF s 240 0).1 → fm m [2, 104, 108] M M' → Q (.inl (some (.int (I (malF s.length (cutF s 240 0).2 (cutF s 240 0).1 0))))) M') : mC E 133 [.ref m] M Q := by
  have tl := t.2.1
  have cb := cutF_b s 240 0 (by omega)
  refine w133_0 ⟨h.k0, m_cut h t (fun M1 k1 q8 f1 => ?_)⟩
  exact m_mal_l (h.mv f1.1) (t.mv f1 (by decide) (by decide)) k1 q8 (by omega) (by omega) _ 0 0 none none none none rfl (by omega) (by omega) (hq M1 k1 f1)
end MMAL
