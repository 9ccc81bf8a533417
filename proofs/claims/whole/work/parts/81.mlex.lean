/-! THE REFERENCE: characters, names, pieces -/
def mdT (M : mM) (m : Nat) (s : List Nat) : Prop := mi M m 2 = I s.length ∧ s.length ≤ 240 ∧ (∀ k, k < s.length → mi M (m + 1) k = I (s.getD k 0)) ∧ okSc s
theorem mdT.mv {m : Nat} {S : List Nat} {M M' : mM} {s : List Nat} (h : mdT M m s) (f : fm m S M M') (h1 : S.contains 1 = false) (h2 : S.contains 102 = false) : mdT M' m s :=
  ⟨by rw [f.fld h2]; exact h.1, h.2.1, fun k hk => by rw [f.2.2 1 k (by omega) h1]; exact h.2.2.1 k hk, h.2.2.2⟩
section MLEX
variable {E : mE} {M : mM} {Q : mQ} {m : Nat} {s : List Nat}
theorem mdT.ch (h : mdT M m s) (k : Nat) : s.getD k 0 < 128 := h.2.2.2.ok1.get k
theorem mdT.z (h : mdT M m s) {k : Nat} (hk : k < s.length) : 0 < s.getD k 0 := by
  rw [List.getD_eq_getElem?_getD, List.getElem?_eq_getElem hk]
  exact (h.2.2.2 _ (List.getElem_mem hk)).1
theorem mdT.o {k : Nat} (hk : s.length ≤ k) : s.getD k 0 = 0 := by rw [List.getD_eq_getElem?_getD, List.getElem?_eq_none hk]; rfl
theorem m_ch {p : Nat} (h : mS M m) (t : mdT M m s) (hp : p < 100000) (hq : Q (.inl (some (.int (I (s.getD p 0 : Nat))))) M) : mC E 122 [.ref m, .int (I p)] M Q := by
  obtain ⟨t1, t2, t3, t4⟩ := id t
  refine w122_0 ⟨h.k0, fun c => ?_, fun c => ⟨h.n3, by rw [h.f3]; exact h.k1, ?_⟩⟩
  · rw [t1, I_le (by omega) (by omega) (by omega) (by omega)] at c
    rw [mdT.o (by omega)] at hq; exact hq
  · rw [t1, I_le (by omega) (by omega) (by omega) (by omega)] at c
    rw [h.f3, h.l1, I_ntn (by omega), t3 p (by omega)]
    exact ⟨I_in (by omega) (by omega) (by omega), hq⟩
theorem m_letter {c : Nat} (hc : c < 65536) (hq : Q (.inl (some (.int (I (bI (isL c)))))) M) : mC E 123 [.int (I c)] M Q := by
  have y : ((97 ≤ c ∧ c ≤ 122) ∨ (65 ≤ c ∧ c ≤ 90) ∨ c = 95) → Q (.inl (some (.int (I 1)))) M := fun h => by rw [isL_iff.mpr h] at hq; exact hq
  have n : ¬ ((97 ≤ c ∧ c ≤ 122) ∨ (65 ≤ c ∧ c ≤ 90) ∨ c = 95) → Q (.inl (some (.int (I 0)))) M := fun h => by
    have e : isL c = false := by
      cases q : isL c with
      | false => rfl
      | true => exact absurd (isL_iff.mp q) h
    rw [e] at hq; exact hq
  have go : ¬ (97 ≤ c ∧ c ≤ 122) → mX E 123 1 [some (.int (I c))] [] M Q := by
    intro h
    refine w123_1 ⟨fun c1 => ⟨fun c2 => n ?_, fun c2 => y ?_⟩, fun c1 => ⟨fun c2 => y ?_, fun c2 => ⟨fun c3 => n ?_, fun c3 => y ?_⟩⟩⟩
    · rw [I_lt (by omega) (by omega) (by omega) (by omega)] at c1; rw [I_eq (by omega) (by omega) (by omega) (by omega)] at c2; omega
    · rw [I_eq (by omega) (by omega) (by omega) (by omega)] at c2; omega
    · rw [I_lt (by omega) (by omega) (by omega) (by omega)] at c1; rw [I_le (by omega) (by omega) (by omega) (by omega)] at c2; omega
    · rw [I_lt (by omega) (by omega) (by omega) (by omega)] at c1; rw [I_le (by omega) (by omega) (by omega) (by omega)] at c2; rw [I_eq (by omega) (by omega) (by omega) (by omega)] at c3; omega
    · rw [I_eq (by omega) (by omega) (by omega) (by omega)] at c3; omega
  refine w123_0 ⟨fun c1 => go ?_, fun c1 => ⟨fun c2 => y ?_, fun c2 => go ?_⟩⟩
  · rw [I_lt (by omega) (by omega) (by omega) (by omega)] at c1; omega
  · rw [I_lt (by omega) (by omega) (by omega) (by omega)] at c1; rw [I_le (by omega) (by omega) (by omega) (by omega)] at c2; omega
  · rw [I_le (by omega) (by omega) (by omega) (by omega)] at c2; omega
theorem isD_f {c : Nat} (h : ¬ (48 ≤ c ∧ c ≤ 57)) : isD c = false := by
  cases q : isD c with
  | false => rfl
  | true => exact absurd (isD_iff.mp q) h
theorem m_digit {c : Nat} (hc : c < 65536) (hq : Q (.inl (some (.int (I (bI (isD c)))))) M) : mC E 124 [.int (I c)] M Q := by
  refine w124_0 ⟨fun c1 => ?_, fun c1 => ⟨fun c2 => ?_, fun c2 => ?_⟩⟩
  · rw [I_lt (by omega) (by omega) (by omega) (by omega)] at c1; rw [isD_f (by omega)] at hq; exact hq
  · rw [I_lt (by omega) (by omega) (by omega) (by omega)] at c2; rw [isD_f (by omega)] at hq; exact hq
  · rw [I_lt (by omega) (by omega) (by omega) (by omega)] at c1 c2; rw [isD_iff.mpr (by omega)] at hq; exact hq
theorem m_ends {c : Nat} (hc : c < 65536) (h1 : (c = 0 ∨ c = 32 ∨ c = 10 ∨ c = 124 ∨ c = 38 ∨ c = 59 ∨ c = 60 ∨ c = 62 ∨ c = 40 ∨ c = 41) → Q (.inl (some (.int (I 1)))) M) (h0 : ¬ (c = 0 ∨ c = 32 ∨ c = 10 ∨ c = 124 ∨ c = 38 ∨ c = 59 ∨ c = 60 ∨ c = 62 ∨ c = 40 ∨ c = 41) → Q (.inl (some (.int (I 0)))) M) : mC E 125 [.int (I c)] M Q := by
  refine w125_0 ⟨fun r => h1 ?_, fun r0 => ⟨fun r => h1 ?_, fun r1 => ⟨fun r => h1 ?_, fun r2 => ⟨fun r => h1 ?_, fun r3 => ⟨fun r => h1 ?_, fun r4 => ⟨fun r => h1 ?_, fun r5 => ⟨fun r => h1 ?_, fun r6 => ⟨fun r => h1 ?_, fun r7 => ⟨fun r => h1 ?_, fun r8 => ⟨fun r => h0 ?_, fun r => h1 ?_⟩⟩⟩⟩⟩⟩⟩⟩⟩⟩
  all_goals first
    | (rw [I_eq (by omega) (by omega) (by omega) (by omega)] at r; omega)
    | (rw [I_eq (by omega) (by omega) (by omega) (by omega)] at r r0 r1 r2 r3 r4 r5 r6 r7 r8; omega)
theorem m_inT {c : Nat} (hc : c < 65536) (h1 : ¬ (c = 0 ∨ c = 125 ∨ c = 10 ∨ c = 39 ∨ c = 34 ∨ c = 92 ∨ c = 36) → Q (.inl (some (.int (I 1)))) M) (h0 : (c = 0 ∨ c = 125 ∨ c = 10 ∨ c = 39 ∨ c = 34 ∨ c = 92 ∨ c = 36) → Q (.inl (some (.int (I 0)))) M) : mC E 127 [.int (I c)] M Q := by
  refine w127_0 ⟨fun r => h0 ?_, fun r0 => ⟨fun r => h0 ?_, fun r1 => ⟨fun r => h0 ?_, fun r2 => ⟨fun r => h0 ?_, fun r3 => ⟨fun r => h0 ?_, fun r4 => ⟨fun r => h0 ?_, fun r5 => ⟨fun r => h0 ?_, fun r6 => h1 ?_⟩⟩⟩⟩⟩⟩⟩
  all_goals first
    | (rw [I_eq (by omega) (by omega) (by omega) (by omega)] at r; omega)
    | (rw [I_eq (by omega) (by omega) (by omega) (by omega)] at r0 r1 r2 r3 r4 r5 r6; omega)
theorem m_nameEnd_l (h : mS M m) (t : mdT M m s) {f : Nat} (n : Nat) : ∀ (e : Nat), f ≤ e → e ≤ 1000 → s.length - e ≤ n → Q (.inl (some (.int (I (nmE s f n e))))) M →
    mX E 126 1 [some (.ref m), some (.int (I f)), some (.int (I e))] [] M Q := by
  have stop : ∀ e, f ≤ e → e ≤ 1000 → ¬ (isL (s.getD e 0) = true ∨ (isD (s.getD e 0) = true ∧ f < e)) → Q (.inl (some (.int (I e)))) M → mX E 126 1 [some (.ref m), some (.int (I f)), some (.int (I e))] [] M Q := by
    intro e h1 h2 g hq
    have hc := t.ch e
    refine w126_1 ⟨h.k0, m_ch h t (by omega) (m_letter (by omega) ⟨fun u => ?_, fun u => ⟨fun w => hq, fun w => ⟨h.k0, m_ch h t (by omega) (m_digit (by omega) ⟨fun v => hq, fun v => ?_⟩)⟩⟩⟩)⟩
    · exfalso; apply g; left
      cases z : isL (s.getD e 0) with | true => rfl | false => exact absurd ((bI_0 _).mpr z) u
    · exfalso; apply g; right
      rw [I_le (by omega) (by omega) (by omega) (by omega)] at w
      refine ⟨?_, by omega⟩
      cases z : isD (s.getD e 0) with | true => rfl | false => exact absurd ((bI_0 _).mpr z) v
  have out : ∀ e, s.length ≤ e → ¬ (isL (s.getD e 0) = true ∨ (isD (s.getD e 0) = true ∧ f < e)) := by
    intro e he
    rw [mdT.o he]
    intro z
    rcases z with z | z
    · exact absurd z (by decide)
    · exact absurd z.1 (by decide)
  induction n with
  | zero =>
    intro e hf he hm hq
    exact stop e hf he (out e (by omega)) hq
  | succ n ih =>
    intro e hf he hm hq
    unfold nmE at hq
    by_cases g : e < s.length ∧ (isL (s.getD e 0) = true ∨ (isD (s.getD e 0) = true ∧ f < e))
    · rw [if_pos g] at hq
      have hl := t.2.1
      have hc := t.ch e
      have next := ih (e + 1) (by omega) (by omega) (by omega) hq
      refine w126_1 ⟨h.k0, m_ch h t (by omega) (m_letter (by omega) ⟨fun u => ?_, fun u => ⟨fun w => ?_, fun w => ⟨h.k0, m_ch h t (by omega) (m_digit (by omega) ⟨fun v => ?_, fun v => ?_⟩)⟩⟩⟩)⟩
      · rw [I_add]; exact next
      · rw [bI_0] at u
        rw [I_le (by omega) (by omega) (by omega) (by omega)] at w
        exfalso
        rcases g.2 with z | z
        · rw [u] at z; exact absurd z (by decide)
        · omega
      · rw [bI_0] at u v
        exfalso
        rcases g.2 with z | z
        · rw [u] at z; exact absurd z (by decide)
        · rw [v] at z; exact absurd z.1 (by decide)
      · rw [I_add]; exact next
    · rw [if_neg g] at hq
      refine stop e hf he (fun z => ?_) hq
      by_cases l : e < s.length
      · exact g ⟨l, z⟩
      · exact out e (by omega) z
theorem m_nameEnd {f : Nat} (h : mS M m) (t : mdT M m s) (hf : f ≤ 1000) (hq : Q (.inl (some (.int (I (nE s f))))) M) : mC E 126 [.ref m, .int (I f)] M Q :=
  w126_0 (m_nameEnd_l h t s.length f (Nat.le_refl _) hf (by omega) hq)
/-- where a step ends -/
theorem m_dollar9 (h : mS M m) (t : mdT M m s) {v1 v2 v4 : Int32} (n : Nat) : ∀ (e : Nat), e ≤ 1000 → s.length - e ≤ n → mX E 128 11 [some (.ref m), some (.int v1), some (.int v2), some (.int (I (txE s n e))), some (.int v4)] [] M Q →
    mX E 128 9 [some (.ref m), some (.int v1), some (.int v2), some (.int (I e)), some (.int v4)] [] M Q := by
  induction n with
  | zero =>
    intro e he hm hq
    refine w128_9 ⟨h.k0, m_ch h t (by omega) ?_⟩
    rw [mdT.o (by omega)]
    exact m_inT (c := 0) (by omega) (fun z => absurd (Or.inl rfl) z) (fun _ => ⟨fun _ => hq, fun u => absurd rfl u⟩)
  | succ n ih =>
    intro e he hm hq
    have hc := t.ch e
    have hl := t.2.1
    unfold txE at hq
    refine w128_9 ⟨h.k0, m_ch h t (by omega) (m_inT (by omega) (fun z => ⟨fun u => absurd u (by decide), fun _ => ?_⟩) (fun z => ⟨fun _ => ?_, fun u => absurd rfl u⟩))⟩
    · have le : e < s.length := by
        by_cases q : e < s.length
        · exact q
        · exact absurd (Or.inl (mdT.o (by omega))) z
      rw [if_pos (by omega)] at hq
      rw [I_add]; exact ih (e + 1) (by omega) (by omega) hq
    · rw [if_neg (fun w => by
        have := t.z w.1
        omega)] at hq
      exact hq
theorem m_dollar {p : Nat} {q : Bool} (h : mS M m) (t : mdT M m s) (hp : p < s.length) (hc36 : s.getD p 0 = 36) (hq : ∀ r p' q', pS s q p = .inl (r, p', q') → Q (.inl (some (.int (I p')))) M) (hb : ∀ e, pS s q p = .inr (some e) → ∀ M', fm m [108] M M' → mi M' m 8 = I e → Q (.inl (some (.int (I (-1))))) M') : mC E 128 [.ref m, .int (I p)] M Q := by
  have hl := t.2.1
  have e1 : I (p : Int) + I 1 = I ((p + 1 : Nat) : Int) := by rw [I_add]; rfl
  have e2 : I (p : Int) + I 2 = I ((p + 2 : Nat) : Int) := by rw [I_add]; rfl
  have hc := t.ch (p + 1)
  have b1 := nE_ge s (p + 2)
  have b2 := nE_bd s (p + 2)
  have b3 := tE_ge s (nE s (p + 2) + 2)
  have b4 := tE_bd s (nE s (p + 2) + 2)
  unfold pS at hq hb
  rw [if_neg (by omega), if_neg (by omega), if_pos hc36] at hq hb
  have el : ∀ {v2 v4 : Int32} (e : Nat), e ≤ 1000 → (v4 = I 0 → ∀ M', fm m [108] M M' → mi M' m 8 = I e → Q (.inl (some (.int (I (-1))))) M') → (¬ v4 = I 0 → s.getD e 0 = 125 → Q (.inl (some (.int (I (e + 1 : Nat))))) M) → (¬ v4 = I 0 → ¬ s.getD e 0 = 125 → ∀ M', fm m [108] M M' → mi M' m 8 = I e → Q (.inl (some (.int (I (-1))))) M') → mX E 128 11 [some (.ref m), some (.int (I p)), some (.int v2), some (.int (I e)), some (.int v4)] [] M Q := by
    intro v2 v4 e he k1 k2 k3
    have hce := t.ch e
    refine w128_11 ⟨fun u => ⟨h.k0, fun M2 q2 => k1 u M2 (fm_o q2 (by decide)) (by rw [q2, i_is])⟩, fun u => ⟨h.k0, m_ch h t (by omega) ⟨fun w => ?_, fun w => ⟨h.k0, fun M7 q7 => k3 u ?_ M7 (fm_o q7 (by decide)) (by rw [q7, i_is])⟩⟩⟩⟩
    · rw [I_eq (by omega) (by omega) (by omega) (by omega)] at w
      rw [I_add]; exact k2 u (by omega)
    · rw [I_eq (by omega) (by omega) (by omega) (by omega)] at w; omega
  refine w128_0 ⟨h.k0, ?_⟩
  rw [e1]
  refine m_ch h t (by omega) (m_letter (by omega) ⟨fun u => ⟨fun w => ⟨h.k0, ?_⟩, fun w => ?_⟩, fun u => ⟨h.k0, ?_⟩⟩)
  · rw [I_eq (by omega) (by omega) (by omega) (by omega)] at w
    rw [if_pos (by omega)] at hq hb
    rw [e2]
    unfold brS at hq hb
    refine m_nameEnd h t (by omega) ⟨fun g => w128_8 ⟨fun _ => ?_, fun z => absurd rfl z⟩, fun g => w128_8 ⟨fun z => absurd z (by decide), fun _ => ⟨h.k0, ?_⟩⟩⟩
    · rw [I_le (by omega) (by omega) (by omega) (by omega)] at g
      rw [if_pos (by omega)] at hb
      refine el _ (by omega) (fun _ M' f1 f2 => hb _ rfl M' f1 ?_) (fun z => absurd rfl z) (fun z => absurd rfl z)
      rw [f2, show nE s (p + 2) = p + 2 by omega]
    · rw [I_le (by omega) (by omega) (by omega) (by omega)] at g
      rw [if_neg (by omega)] at hq hb
      have hce := t.ch (nE s (p + 2))
      refine m_ch h t (by omega) ⟨fun z => ?_, fun z => ⟨h.k0, ?_⟩⟩
      · rw [I_eq (by omega) (by omega) (by omega) (by omega)] at z
        rw [if_neg (by omega)] at hq hb
        refine el _ (by omega) (fun y => absurd y (by decide)) (fun _ y => ?_) (fun _ y M' f1 f2 => ?_)
        · rw [if_pos y] at hq; exact hq _ _ _ rfl
        · rw [if_neg y] at hb; exact hb _ rfl M' f1 f2
      · rw [I_eq (by omega) (by omega) (by omega) (by omega)] at z
        rw [if_pos (by omega)] at hq hb
        have ee : I (nE s (p + 2) : Int) + I 1 = I ((nE s (p + 2) + 1 : Nat) : Int) := by rw [I_add]; rfl
        rw [ee]
        have hcf := t.ch (nE s (p + 2) + 1)
        refine m_ch h t (by omega) ⟨fun y => ?_, fun y => ?_⟩
        · rw [I_eq (by omega) (by omega) (by omega) (by omega)] at y
          rw [if_neg (by omega)] at hb
          exact el _ (by omega) (fun _ M' f1 f2 => hb _ rfl M' f1 f2) (fun x => absurd rfl x) (fun x => absurd rfl x)
        · rw [I_eq (by omega) (by omega) (by omega) (by omega)] at y
          rw [if_pos (by omega)] at hq hb
          rw [I_add]
          refine m_dollar9 h t s.length (nE s (p + 2) + 2) (by omega) (by omega) (el _ (by show tE s _ ≤ 1000; omega) (fun x => absurd x (by decide)) (fun _ x => ?_) (fun _ x M' f1 f2 => ?_))
          · have x' : s.getD (tE s (nE s (p + 2) + 2)) 0 = 125 := x
            rw [if_pos x'] at hq; exact hq _ _ _ rfl
          · have x' : ¬ s.getD (tE s (nE s (p + 2) + 2)) 0 = 125 := x
            rw [if_neg x'] at hb; exact hb _ rfl M' f1 f2
  · rw [I_eq (by omega) (by omega) (by omega) (by omega)] at w
    rw [bI_0] at u
    rw [if_neg (by omega)] at hq
    have d1 : ((49 ≤ s.getD (p + 1) 0 ∧ s.getD (p + 1) 0 ≤ 57) ∨ s.getD (p + 1) 0 = 35 ∨ s.getD (p + 1) 0 = 63) → Q (.inl (some (.int (I (p : Int) + I 2)))) M := by
      intro g
      unfold doS at hq
      rw [if_neg (by rw [u]; decide), if_pos g] at hq
      rw [e2]; exact hq _ _ _ rfl
    have d2 : ¬ (49 ≤ s.getD (p + 1) 0 ∧ s.getD (p + 1) 0 ≤ 57) → mX E 128 2 [some (.ref m), some (.int (I p)), some (.int (I (s.getD (p + 1) 0 : Nat))), none, none] [] M Q := by
      intro g
      refine w128_2 ⟨fun z => d1 ?_, fun z => ⟨fun y => ?_, fun y => d1 ?_⟩⟩
      · rw [I_eq (by omega) (by omega) (by omega) (by omega)] at z; omega
      · rw [I_eq (by omega) (by omega) (by omega) (by omega)] at z y
        unfold doS at hq
        rw [if_neg (by rw [u]; decide), if_neg (by omega)] at hq
        rw [e1]; exact hq _ _ _ rfl
      · rw [I_eq (by omega) (by omega) (by omega) (by omega)] at y; omega
    refine ⟨fun z => d2 ?_, fun z => ⟨fun y => d1 ?_, fun y => d2 ?_⟩⟩
    · rw [I_lt (by omega) (by omega) (by omega) (by omega)] at z; omega
    · rw [I_lt (by omega) (by omega) (by omega) (by omega)] at z; rw [I_le (by omega) (by omega) (by omega) (by omega)] at y; omega
    · rw [I_le (by omega) (by omega) (by omega) (by omega)] at y; omega
  · rw [bI_0] at u
    have g : isL (s.getD (p + 1) 0) = true := by cases z : isL (s.getD (p + 1) 0) with | true => rfl | false => exact absurd z u
    have n123 : ¬ s.getD (p + 1) 0 = 123 := fun z => by rw [z] at g; exact absurd g (by decide)
    rw [if_neg n123] at hq
    unfold doS at hq
    rw [if_pos g] at hq
    exact m_nameEnd h t (by omega) (hq _ _ _ rfl)
theorem m_stroke {p : Nat} {q : Bool} (h : mS M m) (t : mdT M m s) (hp : p < s.length) (hc92 : s.getD p 0 = 92) (hq : ∀ r p' q', pS s q p = .inl (r, p', q') → ∀ M', fm m [108] M M' → Q (.inl (some (.int (I p')))) M') (hb : ∀ e, pS s q p = .inr (some e) → ∀ M', fm m [108] M M' → mi M' m 8 = I e → Q (.inl (some (.int (I (-1))))) M') : mC E 129 [.ref m, .int (I p)] M Q := by
  have hl := t.2.1
  have e1 : I (p : Int) + I 1 = I ((p + 1 : Nat) : Int) := by rw [I_add]; rfl
  have e2 : I (p : Int) + I 2 = I ((p + 2 : Nat) : Int) := by rw [I_add]; rfl
  have hc := t.ch (p + 1)
  unfold pS esS at hq hb
  rw [if_neg (by omega), if_pos hc92] at hq hb
  refine w129_0 ⟨h.k0, fun M1 q1 => ?_⟩
  rw [e1] at q1 ⊢
  have f1 : fm m [108] M M1 := fm_o q1 (by decide)
  have g1 : mi M1 m 8 = I ((p + 1 : Nat) : Int) := by rw [q1, i_is]
  have h1 := h.mv f1.1
  have t1 := t.mv f1 (by decide) (by decide)
  refine m_ch h1 t1 (by omega) ⟨fun z => ?_, fun z => ⟨h1.k0, m_ch h1 t1 (by omega) ⟨fun y => ?_, fun y => ?_⟩⟩⟩
  · rw [I_eq (by omega) (by omega) (by omega) (by omega)] at z
    rw [if_pos (by omega)] at hb
    exact hb _ rfl M1 f1 g1
  · rw [I_eq (by omega) (by omega) (by omega) (by omega)] at z y
    rw [if_neg (by omega)] at hq
    rw [e2]; exact hq _ _ _ rfl M1 f1
  · rw [I_eq (by omega) (by omega) (by omega) (by omega)] at y
    rw [if_pos (by omega)] at hb
    exact hb _ rfl M1 f1 g1
end MLEX
