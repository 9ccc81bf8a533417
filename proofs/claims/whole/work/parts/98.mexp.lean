/-! THE REFERENCE: a field is finished; characters and numbers given -/
/-- a sign of a pattern before j -/
def hasP (sp : List Nat) (j : Nat) : Prop := ∃ k, k < j ∧ (sp.getD k 0 = 42 ∨ sp.getD k 0 = 63)
section MEXP
variable {E : mE} {M M' : mM} {Q : mQ} {m : Nat} {F : List (List Nat)} {sp w : List Nat} {fl : eL} {pa : Bool} {o : Option fS} {g : fS} {S : List Nat}
theorem m_fin10 {v1 v3 : Int32} {fd : Nat} (hfd : fd < 1000) (h : mS M m) (e : fdX M m F) (k : mkX M m sp) (h31 : mi M m 31 = I (bI pa)) (h25 : mi M m 25 = I 0)
    (hq : ∀ M', exO M' m pa ((if 0 < fd then some F else if F.length < 16 then some (F ++ [sp.map unm]) else none).map fun F => (F, [], false)) → fm m sE M M' → Q (.inl none) M') : mX E 153 10 [some (.ref m), some (.int v1), some (.int (I fd)), some (.int v3)] [] M Q := by
  have last : ∀ (M1 M2 M3 : mM) (F' : List (List Nat)), fdX M1 m F' → mi M1 m 31 = I (bI pa) → mi M1 m 25 = I 0 → M2 = msi M1 m 27 (I 0) → M3 = msi M2 m 30 (I 0) → exA M3 m pa (F', [], false) := by
    intro M1 M2 M3 F' e1 a b q2 q3
    have f2 : fm m [127, 130] M1 M2 := fm_o q2 (by decide)
    have f3 : fm m [127, 130] M2 M3 := fm_o q3 (by decide)
    have f := f2.trans f3
    refine ⟨e1.mv f (by decide) (by decide), ⟨?_, by simp, fun k hk => absurd hk (Nat.not_lt_zero k), fun c hc => absurd hc List.not_mem_nil⟩, ?_, ?_, ?_⟩
    · rw [q3, i_ik (by omega), q2, i_is]; rfl
    · rw [q3, i_is]; rfl
    · rw [f.fld (by decide)]; exact a
    · rw [f.fld (by decide)]; exact b
  refine w153_10 ⟨fun c => ⟨h.k0, fun M2 q2 M3 q3 => ?_⟩, fun c => ⟨h.k0, m_pushField h e k (fun l M1 e1 f1 => ?_) (fun l M1 e1 f1 => ?_)⟩⟩
  · rw [I_eq (by omega) (by omega) (by omega) (by omega)] at c
    rw [if_pos (by omega)] at hq
    have f2 : fm m sE M M2 := fm_o q2 (by decide)
    have f3 : fm m sE M2 M3 := fm_o q3 (by decide)
    exact hq M3 (last M M2 M3 F e h31 h25 q2 q3) (f2.trans f3)
  · rw [I_eq (by omega) (by omega) (by omega) (by omega)] at c
    rw [if_neg (by omega), if_pos l] at hq
    refine ⟨(h.mv f1.1).k0, fun M2 q2 M3 q3 => ?_⟩
    have f2 : fm m sE M1 M2 := fm_o q2 (by decide)
    have f3 : fm m sE M2 M3 := fm_o q3 (by decide)
    exact hq M3 (last M1 M2 M3 _ e1 (by rw [f1.fld (by decide)]; exact h31) (by rw [f1.fld (by decide)]; exact h25) q2 q3) ((f1.w (by decide)).trans (f2.trans f3))
  · rw [I_eq (by omega) (by omega) (by omega) (by omega)] at c
    rw [if_neg (by omega), if_neg (by omega)] at hq
    refine ⟨(h.mv f1.1).k0, fun M2 q2 M3 q3 => ?_⟩
    have f2 : fm m sE M1 M2 := fm_o q2 (by decide)
    have f3 : fm m sE M2 M3 := fm_o q3 (by decide)
    refine hq M3 ⟨?_, ?_, 0, by omega, ?_⟩ ((f1.w (by decide)).trans (f2.trans f3))
    · rw [q3, i_ik (by omega), q2, i_ik (by omega)]; exact e1
    · rw [q3, i_ik (by omega), q2, i_ik (by omega), f1.fld (by decide)]; exact h31
    · rw [q3, i_ik (by omega), q2, i_is]; rfl
theorem m_fin8 (hok : okN fl) (hpat : isPat sp = true) (n : Nat) : ∀ (i fd : Nat) (F : List (List Nat)) (M : mM), n = fl.length - i → i ≤ fl.length → fd ≤ i → mS M m → fdX M m F → mkX M m sp → mi M m 31 = I (bI pa) → mi M m 25 = I 0 → flX M m 1 fl → (∀ M', exO M' m pa (((glL sp (fl.drop i) F (decide (0 < fd))).bind fun x => if x.2 = true then some x.1 else if x.1.length < 16 then some (x.1 ++ [sp.map unm]) else none).map fun F => (F, [], false)) → fm m sE M M' → Q (.inl none) M') →
    mX E 153 8 [some (.ref m), some (.int (I 1)), some (.int (I fd)), some (.int (I i))] [] M Q := by
  have n1 : nt (I 1) = 1 := by decide
  induction n with
  | zero =>
    intro i fd F M hn hi hfd h e k h31 h25 v hq
    have vl := v.2.1
    rw [List.drop_eq_nil_of_le (by omega)] at hq
    refine w153_8 ⟨h.k0, h.n17, by rw [h.f17]; exact h.k13, by rw [h.f17, h.l13]; exact I_in (by omega) (by omega) (by omega), fun _ => m_fin10 (by omega) h e k h31 h25 (fun M' g1 g2 => hq M' ?_ g2), fun c => ?_⟩
    · show exO M' m pa ((if decide (0 < fd) = true then some F else if F.length < 16 then some (F ++ [sp.map unm]) else none).map _)
      by_cases q : 0 < fd
      · rw [if_pos q] at g1; rw [if_pos (decide_eq_true q)]; exact g1
      · rw [if_neg q] at g1; rw [if_neg (by rw [decide_eq_false q]; decide)]; exact g1
    · rw [h.f17, n1, v.1, I_le (by omega) (by omega) (by omega) (by omega)] at c; omega
  | succ n ih =>
    intro i fd F M hn hi hfd h e k h31 h25 v hq
    have vl := v.2.1
    have r := (v.2.2 i (by omega)).1
    have dr : glL sp (fl.drop i) F (decide (0 < fd)) = if mt sp (fl.getD i ([], [])).1 = true then (if F.length < 16 then glL sp (fl.drop (i + 1)) (F ++ [(fl.getD i ([], [])).1]) true else none) else glL sp (fl.drop (i + 1)) F (decide (0 < fd)) := by
      rw [drop_getL (d := ([], [])) (by omega)]; rfl
    rw [dr] at hq
    have om : ok1 (fl.getD i ([], [])).1 := by
      have : fl.getD i ([], []) ∈ fl := by rw [List.getD_eq_getElem?_getD, List.getElem?_eq_getElem (by omega)]; exact List.getElem_mem _
      exact hok _ this
    refine w153_8 ⟨h.k0, h.n17, by rw [h.f17]; exact h.k13, by rw [h.f17, h.l13]; exact I_in (by omega) (by omega) (by omega), fun c => ?_, fun c => ⟨fun z => absurd z (by decide), fun _ => ⟨fun z => absurd h25 z, fun _ => m_matches h k r (by omega) ⟨fun z => ?_, fun z => ⟨h.k0, m_pushName h e r (by omega) om (fun l M1 e1 f1 => ?_) (fun l M1 e1 f1 => ?_)⟩⟩⟩⟩⟩
    · rw [h.f17, n1, v.1, I_le (by omega) (by omega) (by omega) (by omega)] at c; omega
    · rw [bI_0] at z
      rw [if_neg (by rw [z]; decide)] at hq
      rw [I_add]
      exact ih (i + 1) fd F M (by omega) (by omega) (by omega) h e k h31 h25 v hq
    · rw [bI_0, Bool.not_eq_false] at z
      rw [if_pos z, if_pos l] at hq
      show mX E 153 8 _ [] M1 Q
      rw [I_add, I_add]
      refine ih (i + 1) (fd + 1) _ M1 (by omega) (by omega) (by omega) (h.mv f1.1) e1 (k.mv f1 (by decide) (by decide)) (by rw [f1.fld (by decide)]; exact h31) (by rw [f1.fld (by decide)]; exact h25) (v.mv f1 (by decide)) (fun M' g1 g2 => hq M' ?_ ((f1.w (by decide)).trans g2))
      rw [decide_eq_true (show 0 < fd + 1 by omega)] at g1; exact g1
    · rw [bI_0, Bool.not_eq_false] at z
      rw [if_pos z, if_neg (by omega)] at hq
      show mX E 153 8 _ [] M1 Q
      have h1 := h.mv f1.1
      have ten : ∀ v3, mX E 153 10 [some (.ref m), some (.int (I 1)), some (.int (I fd + I 1)), some (.int v3)] [] M1 Q := by
        intro v3
        rw [I_add]
        refine w153_10 ⟨fun c => ⟨h1.k0, fun M2 q2 M3 q3 => ?_⟩, fun c => ?_⟩
        · have f2 : fm m sE M1 M2 := fm_o q2 (by decide)
          have f3 : fm m sE M2 M3 := fm_o q3 (by decide)
          refine hq M3 ⟨?_, ?_, 0, by omega, ?_⟩ ((f1.w (by decide)).trans (f2.trans f3))
          · rw [q3, i_ik (by omega), q2, i_ik (by omega)]; exact e1
          · rw [q3, i_ik (by omega), q2, i_ik (by omega), f1.fld (by decide)]; exact h31
          · rw [q3, i_ik (by omega), q2, i_is]; rfl
        · rw [I_eq (by omega) (by omega) (by omega) (by omega)] at c; omega
      refine w153_8 ⟨h1.k0, h1.n17, by rw [h1.f17]; exact h1.k13, by rw [h1.f17, h1.l13]; exact I_in (by omega) (by omega) (by omega), fun _ => ten _, fun _ => ⟨fun z => absurd z (by decide), fun _ => ⟨fun _ => ten _, fun z => ?_⟩⟩⟩
      rw [e1] at z; exact absurd z (by decide)
theorem m_fin3 (h : mS M m) (k : mkX M m sp) (hq : ∀ v1, v1 = I (bI (isPat sp)) → mX E 153 8 [some (.ref m), some (.int v1), some (.int (I 0)), some (.int (I 0))] [] M Q) (n : Nat) : ∀ (j : Nat) (b : Bool), n = sp.length - j → j ≤ sp.length → (b = true ↔ hasP sp j) →
    mX E 153 3 [some (.ref m), some (.int (I (bI b))), some (.int (I j)), none] [] M Q := by
  have k2 := k.2.1
  induction n with
  | zero =>
    intro j b hn hj hb
    refine w153_3 ⟨h.k0, fun _ => hq _ ?_, fun c => ?_⟩
    · congr 2
      rw [Bool.eq_iff_iff, hb, isPat_iff, show j = sp.length by omega]; rfl
    · rw [k.1, I_le (by omega) (by omega) (by omega) (by omega)] at c; omega
  | succ n ih =>
    intro j b hn hj hb
    have kj := k.2.2.1 j (by omega)
    have cj := k.c j
    have ul := unm_lt cj
    have yes : (b = true ∨ sp.getD j 0 = 42 ∨ sp.getD j 0 = 63) → mX E 153 3 [some (.ref m), some (.int (I 1)), some (.int (I j + I 1)), none] [] M Q := by
      intro q
      rw [I_add]
      refine ih (j + 1) true (by omega) (by omega) ⟨fun _ => ?_, fun _ => rfl⟩
      rcases q with q | q
      · obtain ⟨x, x1, x2⟩ := hb.mp q
        exact ⟨x, by omega, x2⟩
      · exact ⟨j, by omega, q⟩
    have no : b = false → ¬ (sp.getD j 0 = 42 ∨ sp.getD j 0 = 63) → mX E 153 3 [some (.ref m), some (.int (I 0)), some (.int (I j + I 1)), none] [] M Q := by
      intro q1 q2
      rw [I_add]
      refine ih (j + 1) false (by omega) (by omega) ⟨fun z => absurd z (by decide), fun ⟨x, x1, x2⟩ => ?_⟩
      by_cases y : x = j
      · subst y; exact absurd x2 q2
      · rw [← q1]; exact hb.mpr ⟨x, by omega, x2⟩
    refine w153_3 ⟨h.k0, fun c => ?_, fun c => ⟨fun z => yes (Or.inl ?_), fun z => ⟨h.n29, by rw [h.f29]; exact h.k22, by rw [h.f29, h.l22]; exact I_in (by omega) (by omega) (by omega), fun y => no ?_ ?_, fun y => ⟨h.n28, by rw [h.f28]; exact h.k21, by rw [h.f28, h.l21]; exact I_in (by omega) (by omega) (by omega), fun x => yes (Or.inr (Or.inl ?_)), fun x => ⟨fun w => no ?_ ?_, fun w => yes (Or.inr (Or.inr ?_))⟩⟩⟩⟩⟩
    · rw [k.1, I_le (by omega) (by omega) (by omega) (by omega)] at c; omega
    · rw [bI_0, Bool.not_eq_false] at z; exact z
    · exact (bI_0 _).mp z
    · rw [h.f29, I_ntn (by omega), kj.2, bI_0, ← Bool.not_eq_true, blt_t] at y; omega
    · rw [h.f29, I_ntn (by omega), kj.2, bI_0, Bool.not_eq_false, blt_t] at y
      rw [h.f28, I_ntn (by omega), kj.1, I_eq (by omega) (by omega) (by omega) (by omega), unm_id y] at x; omega
    · exact (bI_0 _).mp z
    · rw [h.f29, I_ntn (by omega), kj.2, bI_0, Bool.not_eq_false, blt_t] at y
      rw [h.f28, I_ntn (by omega), kj.1, I_eq (by omega) (by omega) (by omega) (by omega), unm_id y] at x w; omega
    · rw [h.f29, I_ntn (by omega), kj.2, bI_0, Bool.not_eq_false, blt_t] at y
      rw [h.f28, I_ntn (by omega), kj.1, I_eq (by omega) (by omega) (by omega) (by omega), unm_id y] at w; omega
/-- a field is finished -/
theorem m_finish (h : mS M m) (hok : okN fl) (v : flX M m 1 fl) (e : exO M m pa o) (hq : ∀ M', exO M' m pa (o.bind (gFi fl)) → fm m sE M M' → Q (.inl none) M') : mC E 153 [.ref m] M Q := by
  cases o with
  | none =>
    have e25 := e.1
    refine w153_0 ⟨h.k0, fun _ => hq M e (fm.refl _ _ _), fun z => ?_⟩
    rw [e25] at z; exact absurd z (by decide)
  | some g =>
    obtain ⟨a1, a2, a3, a4, a5⟩ := id e
    have hq2 : ∀ M', exO M' m pa (gFi fl g) → fm m sE M M' → Q (.inl none) M' := hq
    unfold gFi at hq2
    have k2 := a2.2.1
    have go : ¬ (g.2.1 = [] ∧ g.2.2 = false) → mX E 153 3 [some (.ref m), some (.int (I 0)), some (.int (I 0)), none] [] M Q := by
      intro q
      rw [if_neg q] at hq2
      refine m_fin3 h a2 (fun v1 hv => ?_) _ 0 false rfl (by omega) ⟨fun z => absurd z (by decide), fun ⟨x, x1, _⟩ => absurd x1 (Nat.not_lt_zero x)⟩
      subst hv
      unfold addF at hq2
      by_cases p : isPat g.2.1 = true
      · rw [if_pos p] at hq2
        rw [p]
        exact m_fin8 hok p _ 0 0 g.1 M rfl (by omega) (by omega) h a1 a2 a4 a5 v hq2
      · rw [if_neg p] at hq2
        rw [Bool.not_eq_true] at p
        rw [p]
        have ten : mX E 153 10 [some (.ref m), some (.int (I 0)), some (.int (I 0)), some (.int (I 0))] [] M Q := m_fin10 (fd := 0) (by omega) h a1 a2 a4 a5 (fun M' g1 g2 => hq2 M' g1 g2)
        exact w153_8 ⟨h.k0, h.n17, by rw [h.f17]; exact h.k13, by rw [h.f17, h.l13]; exact I_in (by omega) (by omega) (by omega), fun _ => ten, fun _ => ⟨fun _ => ten, fun z => absurd rfl z⟩⟩
    refine w153_0 ⟨h.k0, fun z => absurd a5 z, fun _ => ⟨fun z => go (fun y => ?_), fun z => ⟨fun y => go (fun x => ?_), fun y => ?_⟩⟩⟩
    · rw [a2.1, y.1] at z; exact z rfl
    · rw [a3, bI_0] at y; exact y x.2
    · rw [a3, bI_0] at y
      rw [a2.1, I_eq (by omega) (by omega) (by omega) (by omega)] at z
      have nil : g.2.1 = [] := List.eq_nil_of_length_eq_zero (by omega)
      rw [if_pos ⟨nil, y⟩] at hq2
      exact hq2 M e (fm.refl _ _ _)
/-- a character is given -/
theorem m_given {c : Nat} {qu : Bool} (h : mS M m) (hok : okN fl) (v : flX M m 1 fl) (e : exO M m pa o) (hc : c < 128) (hq : ∀ M', exO M' m pa (o.bind (gCh fl pa qu c)) → fm m sE M M' → Q (.inl none) M') : mC E 147 [.ref m, .int (I c), .int (I (bI qu))] M Q := by
  have e31 : mi M m 31 = I (bI pa) := by
    cases o with
    | none => exact e.2.1
    | some g => exact e.2.2.2.1
  have bd : ∀ (f : fS → Option fS), (∀ g, gCh fl pa qu c g = f g) → o.bind (gCh fl pa qu c) = o.bind f := by
    intro f hf
    cases o with
    | none => rfl
    | some g => exact hf g
  have two : ¬ (pa = true ∧ qu = false ∧ (c = 32 ∨ c = 10)) → mX E 147 2 [some (.ref m), some (.int (I c)), some (.int (I (bI qu)))] [] M Q := by
    intro q
    rw [bd (gAd (if qu = true then c + 128 else c)) (fun g => by unfold gCh; rw [if_neg q])] at hq
    refine w147_2 ⟨fun z => w147_4 ⟨h.k0, m_addMade (pl := false) h e hc (fun M' g1 g2 => hq M' ?_ g2)⟩, fun z => w147_4 ⟨h.k0, m_addMade (pl := true) h e hc (fun M' g1 g2 => hq M' ?_ g2)⟩⟩
    · rw [bI_0, Bool.not_eq_false] at z
      rw [z, if_pos rfl]; exact g1
    · rw [bI_0] at z
      rw [z]; exact g1
  have one : (pa = true ∧ qu = false ∧ (c = 32 ∨ c = 10)) → mX E 147 1 [some (.ref m), some (.int (I c)), some (.int (I (bI qu)))] [] M Q := by
    intro q
    rw [bd (gFi fl) (fun g => by unfold gCh; rw [if_pos q])] at hq
    exact w147_1 ⟨h.k0, m_finish h hok v e hq⟩
  refine w147_0 ⟨h.k0, fun z => two (fun y => ?_), fun z => ⟨fun y => two (fun x => ?_), fun y => ⟨fun x => one ?_, fun x => ⟨fun w => two (fun u => ?_), fun w => one ?_⟩⟩⟩⟩
  · rw [e31, y.1] at z; exact absurd z (by decide)
  · rw [x.2.1] at y; exact absurd rfl y
  · rw [e31, bI_0, Bool.not_eq_false] at z
    rw [bI_0] at y
    rw [I_eq (by omega) (by omega) (by omega) (by omega)] at x
    exact ⟨z, y, Or.inl (by omega)⟩
  · rw [I_eq (by omega) (by omega) (by omega) (by omega)] at x w; omega
  · rw [e31, bI_0, Bool.not_eq_false] at z
    rw [bI_0] at y
    rw [I_eq (by omega) (by omega) (by omega) (by omega)] at w
    exact ⟨z, y, Or.inr (by omega)⟩
theorem gChs_ap {qu : Bool} : ∀ (a b : List Nat) (g : fS), gChs fl pa qu (a ++ b) g = (gChs fl pa qu a g).bind (gChs fl pa qu b)
  | [], b, g => rfl
  | c :: a, b, g => by
    show (gCh fl pa qu c g).bind (gChs fl pa qu (a ++ b)) = ((gCh fl pa qu c g).bind (gChs fl pa qu a)).bind _
    cases gCh fl pa qu c g with
    | none => rfl
    | some x => exact gChs_ap a b x
theorem gChs_1 {qu : Bool} {c : Nat} : gChs fl pa qu [c] = gCh fl pa qu c := by
  funext g
  show (gCh fl pa qu c g).bind some = _
  cases gCh fl pa qu c g <;> rfl
theorem bind_ap {qu : Bool} {a b : List Nat} : o.bind (gChs fl pa qu (a ++ b)) = (o.bind (gChs fl pa qu a)).bind (gChs fl pa qu b) := by
  cases o with
  | none => rfl
  | some g => exact gChs_ap a b g
theorem bind_nil {qu : Bool} : o.bind (gChs fl pa qu []) = o := by cases o <;> rfl
theorem bind_c {qu : Bool} {c : Nat} {a : List Nat} : o.bind (gChs fl pa qu (c :: a)) = (o.bind (gCh fl pa qu c)).bind (gChs fl pa qu a) := by
  cases o <;> rfl
/-- a number is given -/
theorem m_giveNum {n : Nat} {qu : Bool} (h : mS M m) (hok : okN fl) (v : flX M m 1 fl) (e : exO M m pa o) (hn : n ≤ 999) (hq : ∀ M', exO M' m pa (o.bind (gChs fl pa qu (numS n))) → fm m sE M M' → Q (.inl none) M') : mC E 148 [.ref m, .int (I n), .int (I (bI qu))] M Q := by
  unfold numS at hq
  rw [bind_ap] at hq
  have two : ∀ (M1 : mM) (o1 : Option fS), fm m sE M M1 → exO M1 m pa o1 → (∀ M', exO M' m pa (o1.bind (gChs fl pa qu [48 + n % 10])) → fm m sE M1 M' → Q (.inl none) M') → mX E 148 2 [some (.ref m), some (.int (I n)), some (.int (I (bI qu)))] [] M1 Q := by
    intro M1 o1 f1 e1 hq1
    have em : (I 48 : Int32) + (I (n : Int) - I (n : Int) / I 10 * I 10) = I ((48 + n % 10 : Nat) : Int) := by
      rw [I_div (by omega) (by omega) (by omega) (by omega), I_mul, I_sub, I_add]; congr 1; omega
    rw [gChs_1] at hq1
    refine w148_2 ⟨(h.mv f1.1).k0, ?_⟩
    rw [em]
    exact m_given (h.mv f1.1) hok (v.mv f1 (by decide)) e1 (by omega) hq1
  have one : ∀ (M1 : mM) (o1 : Option fS), fm m sE M M1 → exO M1 m pa o1 → (∀ M', exO M' m pa (o1.bind (gChs fl pa qu ((if 10 ≤ n then [48 + n / 10 % 10] else []) ++ [48 + n % 10]))) → fm m sE M1 M' → Q (.inl none) M') → mX E 148 1 [some (.ref m), some (.int (I n)), some (.int (I (bI qu)))] [] M1 Q := by
    intro M1 o1 f1 e1 hq1
    have em : (I 48 : Int32) + (I (n : Int) / I 10 - I (n : Int) / I 10 / I 10 * I 10) = I ((48 + n / 10 % 10 : Nat) : Int) := by
      rw [I_div (by omega) (by omega) (by omega) (by omega), I_div (by omega) (by omega) (by omega) (by omega), I_mul, I_sub, I_add]; congr 1; omega
    refine w148_1 ⟨fun c => two M1 o1 f1 e1 ?_, fun c => ⟨(h.mv f1.1).k0, ?_⟩⟩
    · rw [I_le (by omega) (by omega) (by omega) (by omega)] at c
      rw [if_neg (by omega)] at hq1; exact hq1
    · rw [I_le (by omega) (by omega) (by omega) (by omega)] at c
      rw [if_pos (by omega), bind_ap, gChs_1] at hq1
      rw [em]
      exact m_given (h.mv f1.1) hok (v.mv f1 (by decide)) e1 (by omega) (fun M2 e2 f2 => two M2 _ (f1.trans f2) e2 (fun M' g1 g2 => hq1 M' g1 (f2.trans g2)))
  have em : (I 48 : Int32) + I (n : Int) / I 100 = I ((48 + n / 100 % 10 : Nat) : Int) := by
    rw [I_div (by omega) (by omega) (by omega) (by omega), I_add]; congr 1; omega
  refine w148_0 ⟨fun c => one M o (fm.refl _ _ _) e ?_, fun c => ⟨h.k0, ?_⟩⟩
  · rw [I_le (by omega) (by omega) (by omega) (by omega)] at c
    rw [if_neg (by omega), bind_nil] at hq; exact hq
  · rw [I_le (by omega) (by omega) (by omega) (by omega)] at c
    rw [if_pos (by omega), gChs_1] at hq
    rw [em]
    exact m_given h hok v e (by omega) (fun M2 e2 f2 => one M2 _ f2 e2 (fun M' g1 g2 => hq M' g1 (f2.trans g2)))
end MEXP
