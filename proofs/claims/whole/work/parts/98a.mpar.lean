/-! THE REFERENCE: a parameter -/
section MPAR
variable {E : mE} {M M' : mM} {Q : mQ} {m : Nat} {s : List Nat} {fl vs : eL} {po : List (List Nat)} {stt : Nat} {pa : Bool} {o : Option fS} {S : List Nat}
theorem rng_st {u : List Nat} {k e : Nat} (h : k < e) : rng u k e = u.getD k 0 :: rng u (k + 1) e := by
  unfold rng
  rw [show e - k = (e - (k + 1)) + 1 by omega, List.range'_succ]; rfl
theorem m_par6 {v1 v2 v4 : Int32} {i : Nat} {qu : Bool} (hi : i < po.length) (hok : okN fl) (hpo : okL po) (n : Nat) : ∀ (k : Nat) (o : Option fS) (M : mM), n = (po.getD i []).length - k → k ≤ (po.getD i []).length → mS M m → flX M m 1 fl → poX M m 1 po → exO M m pa o → (∀ M', exO M' m pa (o.bind (gChs fl pa qu ((po.getD i []).drop k))) → fm m sE M M' → Q (.inl none) M') →
    mX E 149 6 [some (.ref m), some (.int v1), some (.int v2), some (.int (I (bI qu))), some (.int v4), some (.int (I i)), some (.int (I k)), none, none, none] [] M Q := by
  have n1 : nt (I 1) = 1 := by decide
  induction n with
  | zero =>
    intro k o M hn hk h v pp e hq
    have pl := pp.2.1
    have r := pp.2.2 i hi
    have rl := r.2.1
    have e1 : nt (I 9 + I (i : Int)) = 9 * 1 + i := by
      rw [I_add, show (9 : Int) + (i : Int) = ((9 * 1 + i : Nat) : Int) by omega, I_ntn (by omega)]
    rw [List.drop_eq_nil_of_le (by omega), bind_nil] at hq
    have fin := hq M e (fm.refl _ _ _)
    refine w149_6 ⟨h.k0, h.n14, by rw [h.f14]; exact h.k10, by rw [h.f14, h.l10]; exact I_in (by omega) (by omega) (by omega), fun _ => fin, fun c => ⟨h.n16, by rw [h.f16]; exact h.k12, by rw [h.f16, h.l12, I_add]; exact I_in (by omega) (by omega) (by omega), fun _ => fin, fun c2 => ?_⟩⟩
    rw [h.f16, e1, r.1, I_le (by omega) (by omega) (by omega) (by omega)] at c2; omega
  | succ n ih =>
    intro k o M hn hk h v pp e hq
    have pl := pp.2.1
    have r := pp.2.2 i hi
    have rl := r.2.1
    have e1 : nt (I 9 + I (i : Int)) = 9 * 1 + i := by
      rw [I_add, show (9 : Int) + (i : Int) = ((9 * 1 + i : Nat) : Int) by omega, I_ntn (by omega)]
    have e2 : nt (I 40 * (I 9 + I (i : Int)) + I (k : Int)) = 40 * (9 * 1 + i) + k := by
      rw [I_add, I_mul, I_add, show (40 : Int) * (9 + (i : Int)) + (k : Int) = ((40 * (9 * 1 + i) + k : Nat) : Int) by omega, I_ntn (by omega)]
    rw [drop_getD (by omega), bind_c] at hq
    have oc := (hpo _ (getL_mem hi)).get k
    refine w149_6 ⟨h.k0, h.n14, by rw [h.f14]; exact h.k10, by rw [h.f14, h.l10]; exact I_in (by omega) (by omega) (by omega), fun c => ?_, fun c => ⟨h.n16, by rw [h.f16]; exact h.k12, by rw [h.f16, h.l12, I_add]; exact I_in (by omega) (by omega) (by omega), fun c2 => ?_, fun c2 => ⟨h.n15, by rw [h.f15]; exact h.k11, by rw [h.f15, h.l11, I_add, I_mul, I_add]; exact I_in (by omega) (by omega) (by omega), ?_⟩⟩⟩
    · rw [h.f14, n1, pp.1, I_le (by omega) (by omega) (by omega) (by omega)] at c; omega
    · rw [h.f16, e1, r.1, I_le (by omega) (by omega) (by omega) (by omega)] at c2; omega
    · rw [h.f15, e2, r.2.2.1 k (by omega)]
      refine m_given h hok v e oc (fun M1 e1 f1 => ?_)
      show mX E 149 6 _ [] M1 Q
      rw [I_add]
      exact ih (k + 1) _ M1 (by omega) (by omega) (h.mv f1.1) (v.mv f1 (by decide)) (pp.mv f1 (by decide)) e1 (fun M' g1 g2 => hq M' g1 (f1.trans g2))
theorem m_par15 {v1 v4 v5 v6 v7 : Int32} {q : Nat} {qu : Bool} (hq1 : q ≤ s.length) (hok : okN fl) (h123 : v4 = I 123) (n : Nat) : ∀ (k : Nat) (o : Option fS) (M : mM), n = q - 1 - k → k ≤ 1000 → mS M m → mdT M m s → flX M m 1 fl → exO M m pa o → (∀ M', exO M' m pa (o.bind (gChs fl pa qu (rng s k (q - 1)))) → fm m sE M M' → Q (.inl none) M') →
    mX E 149 15 [some (.ref m), some (.int v1), some (.int (I q)), some (.int (I (bI qu))), some (.int v4), some (.int v5), some (.int v6), some (.int v7), some (.int (I 0)), some (.int (I k))] [] M Q := by
  induction n with
  | zero =>
    intro k o M hn hk h t v e hq
    have tl := t.2.1
    rw [rng_nil (by omega), bind_nil] at hq
    have fin := hq M e (fm.refl _ _ _)
    refine w149_15 ⟨fun _ => fin, fun _ => ⟨fun _ => fin, fun _ => ⟨fun _ => fin, fun c => ?_⟩⟩⟩
    rw [I_sub, I_le (by omega) (by omega) (by omega) (by omega)] at c; omega
  | succ n ih =>
    intro k o M hn hk h t v e hq
    have tl := t.2.1
    rw [rng_st (by omega), bind_c] at hq
    refine w149_15 ⟨fun z => absurd rfl z, fun _ => ⟨fun z => absurd h123 z, fun _ => ⟨fun c => ?_, fun c => ⟨h.k0, h.n3, by rw [h.f3]; exact h.k1, by rw [h.f3, h.l1]; exact I_in (by omega) (by omega) (by omega), ?_⟩⟩⟩⟩
    · rw [I_sub, I_le (by omega) (by omega) (by omega) (by omega)] at c; omega
    · rw [h.f3, I_ntn (by omega), t.2.2.1 k (by omega)]
      refine m_given h hok v e (t.ch k) (fun M1 e1 f1 => ?_)
      show mX E 149 15 _ [] M1 Q
      rw [I_add]
      exact ih (k + 1) _ M1 (by omega) (by omega) (h.mv f1.1) (t.mv f1 (by decide) (by decide)) (v.mv f1 (by decide)) e1 (fun M' g1 g2 => hq M' g1 (f1.trans g2))
theorem m_par13 {v1 v2 v4 v5 v6 : Int32} {i : Nat} {qu : Bool} (hi : i < vs.length) (hok : okN fl) (hv : okE vs) (n : Nat) : ∀ (k : Nat) (o : Option fS) (M : mM), n = (vs.getD i ([], [])).2.length - k → k ≤ (vs.getD i ([], [])).2.length → mS M m → flX M m 1 fl → vrX M m 1 vs → exO M m pa o → (∀ M', exO M' m pa (o.bind (gChs fl pa qu ((vs.getD i ([], [])).2.drop k))) → fm m sE M M' → mX E 149 15 [some (.ref m), some (.int v1), some (.int v2), some (.int (I (bI qu))), some (.int v4), some (.int v5), some (.int v6), some (.int (I i)), some (.int (I (vs.getD i ([], [])).2.length)), some (.int (v6 + I 2))] [] M' Q) →
    mX E 149 13 [some (.ref m), some (.int v1), some (.int v2), some (.int (I (bI qu))), some (.int v4), some (.int v5), some (.int v6), some (.int (I i)), some (.int (I (vs.getD i ([], [])).2.length)), some (.int (I k))] [] M Q := by
  have vm : vs.getD i ([], []) ∈ vs := by rw [List.getD_eq_getElem?_getD, List.getElem?_eq_getElem hi]; exact List.getElem_mem _
  induction n with
  | zero =>
    intro k o M hn hk h v vv e hq
    have vl := vv.2.1
    have rl := (vv.2.2 i hi).2.2.1
    rw [List.drop_eq_nil_of_le (by omega), bind_nil] at hq
    refine w149_13 ⟨fun _ => hq M e (fm.refl _ _ _), fun c => ?_⟩
    rw [I_le (by omega) (by omega) (by omega) (by omega)] at c; omega
  | succ n ih =>
    intro k o M hn hk h v vv e hq
    have vl := vv.2.1
    have r := (vv.2.2 i hi).2
    have rl := r.2.1
    have e2 : nt (I 40 * (I 8 + I (i : Int)) + I (k : Int)) = 40 * (8 * 1 + i) + k := by
      rw [I_add, I_mul, I_add, show (40 : Int) * (8 + (i : Int)) + (k : Int) = ((40 * (8 * 1 + i) + k : Nat) : Int) by omega, I_ntn (by omega)]
    rw [drop_getD (by omega), bind_c] at hq
    have oc := (hv _ vm).2.get k
    refine w149_13 ⟨fun c => ?_, fun c => ⟨h.k0, h.n12, by rw [h.f12]; exact h.k8, by rw [h.f12, h.l8, I_add, I_mul, I_add]; exact I_in (by omega) (by omega) (by omega), ?_⟩⟩
    · rw [I_le (by omega) (by omega) (by omega) (by omega)] at c; omega
    · rw [h.f12, e2, r.2.2.1 k (by omega)]
      refine m_given h hok v e oc (fun M1 e1 f1 => ?_)
      show mX E 149 13 _ [] M1 Q
      rw [I_add]
      exact ih (k + 1) _ M1 (by omega) (by omega) (h.mv f1.1) (v.mv f1 (by decide)) (vv.mv f1 (by decide)) e1 (fun M' g1 g2 => hq M' g1 (f1.trans g2))
/-- a named parameter: its value, or the text behind :- -/
theorem m_parN {p a q : Nat} {c : Nat} {qu : Bool} (h : mS M m) (t : mdT M m s) (vv : vrX M m 1 vs) (v : flX M m 1 fl) (hok : okN fl) (hv : okE vs) (e : exO M m pa o) (ha : a ≤ s.length) (hq1 : q ≤ s.length) (hc : c < 128)
    (hq : ∀ M', exO M' m pa (o.bind (gChs fl pa qu (if txL vs (fdT vs (seg s a (nE s a)) 0) = [] then (if c = 123 then rng s (nE s a + 2) (q - 1) else []) else txL vs (fdT vs (seg s a (nE s a)) 0)))) → fm m sE M M' → Q (.inl none) M') :
    mX E 149 10 [some (.ref m), some (.int (I p)), some (.int (I q)), some (.int (I (bI qu))), some (.int (I c)), none, none, none, none, none] [.int (I a)] M Q := by
  have tl := t.2.1
  have vl := vv.2.1
  have ne1 := nE_ge s a
  have ne2 := nE_le (s := s) (f := a) ha
  have fr := fdT_r vs (seg s a (nE s a)) 0
  have sg : a + (nE s a - a) = nE s a := by omega
  refine w149_10 ⟨h.k0, m_nameEnd h t (by omega) ⟨h.k0, ?_⟩⟩
  rw [I_sub, show ((nE s a : Nat) : Int) - (a : Int) = ((nE s a - a : Nat) : Int) by omega]
  refine m_findV h vv t (by omega) ?_
  rw [sg]
  have fif : ∀ (M1 : mM) (o1 : Option fS) (v5 v6 v7 : Int32), fm m sE M M1 → exO M1 m pa o1 → v6 = I (nE s a) → (∀ M', exO M' m pa (o1.bind (gChs fl pa qu (if c = 123 then rng s (nE s a + 2) (q - 1) else []))) → fm m sE M1 M' → Q (.inl none) M') → mX E 149 15 [some (.ref m), some (.int (I p)), some (.int (I q)), some (.int (I (bI qu))), some (.int (I c)), some (.int v5), some (.int v6), some (.int v7), some (.int (I 0)), some (.int (v6 + I 2))] [] M1 Q := by
    intro M1 o1 v5 v6 v7 f1 e1 h6 hq2
    subst h6
    by_cases z : c = 123
    · rw [if_pos z] at hq2
      rw [I_add]
      exact m_par15 hq1 hok (by rw [z]; rfl) _ (nE s a + 2) o1 M1 rfl (by omega) (h.mv f1.1) (t.mv f1 (by decide) (by decide)) (v.mv f1 (by decide)) e1 hq2
    · rw [if_neg z, bind_nil] at hq2
      refine w149_15 ⟨fun y => absurd rfl y, fun _ => ⟨fun _ => hq2 M1 e1 (fm.refl _ _ _), fun y => ?_⟩⟩
      rw [I_eq (by omega) (by omega) (by omega) (by omega)] at y; omega
  refine ⟨fun z => ⟨h.k0, h.n13, by rw [h.f13]; exact h.k9, ?_⟩, fun z => ?_⟩
  · rw [I_le (by omega) (by omega) (by omega) (by omega)] at z
    have et : txL vs (fdT vs (seg s a (nE s a)) 0) = (vs.getD (fdT vs (seg s a (nE s a)) 0).toNat ([], [])).2 := by unfold txL; rw [if_pos z]
    rw [et] at hq
    have hi : (fdT vs (seg s a (nE s a)) 0).toNat < vs.length := by omega
    rw [show fdT vs (seg s a (nE s a)) 0 = (((fdT vs (seg s a (nE s a)) 0).toNat : Nat) : Int) by omega]
    generalize (fdT vs (seg s a (nE s a)) 0).toNat = i at *
    have r := (vv.2.2 i hi).2
    have rl := r.2.1
    have e0 : nt (I 8 + I (i : Int)) = 8 * 1 + i := by
      rw [I_add, show (8 : Int) + (i : Int) = ((8 * 1 + i : Nat) : Int) by omega, I_ntn (by omega)]
    refine ⟨by rw [h.f13, h.l9, I_add]; exact I_in (by omega) (by omega) (by omega), ?_⟩
    rw [h.f13, e0, r.1]
    refine m_par13 hi hok hv _ 0 o M rfl (by omega) h v vv e (fun M1 e1 f1 => ?_)
    rw [List.drop_zero] at e1
    by_cases y : (vs.getD i ([], [])).2 = []
    · rw [if_pos y] at hq
      rw [y] at e1 ⊢
      rw [bind_nil] at e1
      exact fif M1 o _ _ _ f1 e1 rfl (fun M' g1 g2 => hq M' g1 (f1.trans g2))
    · rw [if_neg y] at hq
      refine w149_15 ⟨fun _ => hq M1 e1 f1, fun x => ?_⟩
      rw [I_eq (by omega) (by omega) (by omega) (by omega)] at x
      exact absurd (List.eq_nil_of_length_eq_zero (by omega)) y
  · rw [I_le (by omega) (by omega) (by omega) (by omega)] at z
    have et : txL vs (fdT vs (seg s a (nE s a)) 0) = [] := by unfold txL; rw [if_neg z]
    rw [et, if_pos rfl] at hq
    exact w149_13 ⟨fun _ => fif M o _ _ _ (fm.refl _ _ _) e rfl hq, fun c => absurd (by decide) c⟩
theorem pS_dol {q : Bool} {p : Nat} (h : s.getD p 0 = 36) : pS s q p = if s.getD (p + 1) 0 = 123 then brS s q p else .inl (doS s q p) := by
  unfold pS
  rw [if_neg (by omega), if_neg (by omega), if_pos h]
theorem pmV_nm {f e : Nat} (h : ¬ (49 ≤ s.getD f 0 ∧ s.getD f 0 ≤ 57)) (h1 : ¬ s.getD f 0 = 35) (h2 : ¬ s.getD f 0 = 63) : pmV s vs po stt f e = txL vs (fdT vs (seg s f e) 0) := by
  unfold pmV; rw [if_neg h, if_neg h1, if_neg h2]
theorem nE_first {a : Nat} (h : ¬ nE s a = a) : isL (s.getD a 0) = true := by
  unfold nE at h
  cases hl : s.length with
  | zero =>
    rw [hl] at h; exact absurd rfl h
  | succ n =>
    rw [hl] at h
    unfold nmE at h
    by_cases z : a < s.length ∧ (isL (s.getD a 0) = true ∨ (isD (s.getD a 0) = true ∧ a < a))
    · rcases z.2 with y | y
      · exact y
      · omega
    · rw [if_neg z] at h; exact absurd rfl h
theorem isL_no {c : Nat} (h : isL c = true) : ¬ (49 ≤ c ∧ c ≤ 57) ∧ ¬ c = 35 ∧ ¬ c = 63 ∧ ¬ (48 ≤ c ∧ c ≤ 57) ∧ ¬ c = 123 := by
  have := isL_iff.mp h
  omega
/-- a parameter, or a dollar alone -/
theorem m_param {p q : Nat} {qu q2 : Bool} {r : List Nat} (h : mS M m) (t : mdT M m s) (vv : vrX M m 1 vs) (pp : poX M m 1 po) (v : flX M m 1 fl) (hok : okN fl) (hv : okE vs) (hpo : okL po) (hst : mi M (m + 18) 1 = I stt) (hst2 : stt ≤ 255) (e : exO M m pa o) (hp : p < s.length) (h36 : s.getD p 0 = 36) (hr : pS s qu p = .inl (r, q, q2))
    (hq : ∀ M', exO M' m pa (o.bind (gChs fl pa qu (pcC s vs po stt r))) → fm m sE M M' → Q (.inl none) M') : mC E 149 [.ref m, .int (I p), .int (I q), .int (I (bI qu))] M Q := by
  have tl := t.2.1
  have pr := pS_r hp hr
  have pl := pp.2.1
  have hc := t.ch (p + 1)
  have n1 : nt (I 1) = 1 := by decide
  rw [pS_dol h36] at hr
  have kq : kP qu = 3 ∨ kP qu = 4 := by unfold kP; cases qu <;> simp
  -- what the pieces' kinds say
  have pc3 : ∀ f e2 a b, pcC s vs po stt [kP qu, f, e2, a, b] = if pmV s vs po stt f e2 = [] then rng s a b else pmV s vs po stt f e2 := by
    intro f e2 a b
    show (if kP qu = 3 ∨ kP qu = 4 then _ else _) = _
    rw [if_pos kq]; rfl
  have z00 : rng s 0 0 = [] := rng_nil (Nat.le_refl _)
  by_cases hb : s.getD (p + 1) 0 = 123
  · rw [if_pos hb] at hr
    -- braces
    have named : ∀ (x y : Nat), ¬ nE s (p + 2) = p + 2 → q = y + 1 → r = [kP qu, p + 2, nE s (p + 2), x, y] → (x = nE s (p + 2) + 2 ∨ (x = nE s (p + 2) ∧ y = nE s (p + 2))) → nE s (p + 2) ≤ y → mC E 149 [.ref m, .int (I p), .int (I q), .int (I (bI qu))] M Q := by
      intro x y hne hqy hrr hxy hyy
      have il := isL_no (nE_first hne)
      have ng := nE_ge s (p + 2)
      rw [hrr, pc3, pmV_nm il.1 il.2.1 il.2.2.1] at hq
      have p2 : p + 2 ≤ s.length := by
        by_cases z : p + 2 ≤ s.length
        · exact z
        · have : s.getD (p + 1) 0 = 0 := mdT.o (by omega)
          omega
      refine w149_0 ⟨h.k0, ?_⟩
      rw [I_add]
      refine m_ch (p := p + 1) h t (by omega) ⟨fun c1 => ⟨fun c2 => ⟨fun c3 => m_digit (by omega) ⟨fun z => ⟨fun w => ?_, fun w => ?_⟩, fun z => ?_⟩, fun c3 => ?_⟩, fun c2 => ?_⟩, fun c1 => ?_⟩
      · rw [I_eq (by omega) (by omega) (by omega) (by omega)] at w; omega
      · rw [I_add]
        refine m_parN (a := p + 2) h t vv v hok hv e p2 (by omega) hc (fun M' g1 g2 => hq M' ?_ g2)
        rw [if_pos hb] at g1
        rcases hxy with w | w
        · rw [w, show y = q - 1 by omega]; exact g1
        · rw [w.1, w.2, rng_nil (Nat.le_refl _)]
          rw [rng_nil (by omega)] at g1; exact g1
      · rw [bI_0, Bool.not_eq_false, isD_iff] at z; omega
      · rw [I_eq (by omega) (by omega) (by omega) (by omega)] at c3; omega
      · rw [I_eq (by omega) (by omega) (by omega) (by omega)] at c2; omega
      · rw [I_eq (by omega) (by omega) (by omega) (by omega)] at c1; omega
    unfold brS at hr
    by_cases a1 : nE s (p + 2) = p + 2
    · rw [if_pos a1] at hr; cases hr
    · rw [if_neg a1] at hr
      by_cases a2 : s.getD (nE s (p + 2)) 0 = 58
      · rw [if_pos a2] at hr
        by_cases a3 : s.getD (nE s (p + 2) + 1) 0 = 45
        · rw [if_pos a3] at hr
          by_cases a4 : s.getD (tE s (nE s (p + 2) + 2)) 0 = 125
          · rw [if_pos a4] at hr
            cases hr
            exact named _ _ a1 rfl rfl (Or.inl rfl) (by have := tE_ge s (nE s (p + 2) + 2); omega)
          · rw [if_neg a4] at hr; cases hr
        · rw [if_neg a3] at hr; cases hr
      · rw [if_neg a2] at hr
        by_cases a3 : s.getD (nE s (p + 2)) 0 = 125
        · rw [if_pos a3] at hr
          cases hr
          exact named _ _ a1 rfl rfl (Or.inr ⟨rfl, rfl⟩) (Nat.le_refl _)
        · rw [if_neg a3] at hr; cases hr
  · rw [if_neg hb] at hr
    unfold doS at hr
    by_cases a1 : isL (s.getD (p + 1) 0) = true
    · rw [if_pos a1] at hr
      cases hr
      have il := isL_no a1
      have p1 : p + 1 < s.length := by
        by_cases z : p + 1 < s.length
        · exact z
        · have : s.getD (p + 1) 0 = 0 := mdT.o (by omega)
          rw [this] at a1; exact absurd a1 (by decide)
      have n2 : p + 1 < nE s (p + 1) := by
        have ng := nE_ge s (p + 1)
        by_cases z : nE s (p + 1) = p + 1
        · unfold nE at z
          obtain ⟨k, hk⟩ : ∃ k, s.length = k + 1 := ⟨s.length - 1, by omega⟩
          rw [hk] at z
          unfold nmE at z
          rw [if_pos ⟨p1, Or.inl a1⟩] at z
          have := nmE_ge s (p + 1) k (p + 1 + 1)
          omega
        · omega
      rw [pc3, pmV_nm il.1 il.2.1 il.2.2.1, z00] at hq
      refine w149_0 ⟨h.k0, ?_⟩
      rw [I_add]
      refine m_ch (p := p + 1) h t (by omega) ⟨fun c1 => ⟨fun c2 => ⟨fun c3 => m_digit (by omega) ⟨fun z => ⟨fun w => ?_, fun w => ?_⟩, fun z => ?_⟩, fun c3 => ?_⟩, fun c2 => ?_⟩, fun c1 => ?_⟩
      · refine m_parN (a := p + 1) h t vv v hok hv e (by omega) (by omega) hc (fun M' g1 g2 => hq M' ?_ g2)
        rw [if_neg hb] at g1; exact g1
      · rw [I_eq (by omega) (by omega) (by omega) (by omega)] at w; omega
      · rw [bI_0, Bool.not_eq_false, isD_iff] at z; omega
      · rw [I_eq (by omega) (by omega) (by omega) (by omega)] at c3; omega
      · rw [I_eq (by omega) (by omega) (by omega) (by omega)] at c2; omega
      · rw [I_eq (by omega) (by omega) (by omega) (by omega)] at c1; omega
    · rw [if_neg a1] at hr
      by_cases a2 : (49 ≤ s.getD (p + 1) 0 ∧ s.getD (p + 1) 0 ≤ 57) ∨ s.getD (p + 1) 0 = 35 ∨ s.getD (p + 1) 0 = 63
      · rw [if_pos a2] at hr
        cases hr
        rw [pc3, z00] at hq
        have hq' : ∀ M', exO M' m pa (o.bind (gChs fl pa qu (pmV s vs po stt (p + 1) (p + 1 + 1)))) → fm m sE M M' → Q (.inl none) M' := by
          by_cases z : pmV s vs po stt (p + 1) (p + 1 + 1) = []
          · rw [if_pos z] at hq; rw [z]; exact hq
          · rw [if_neg z] at hq; exact hq
        unfold pmV at hq'
        refine w149_0 ⟨h.k0, ?_⟩
        rw [I_add]
        refine m_ch (p := p + 1) h t (by omega) ⟨fun c1 => ⟨fun c2 => ⟨fun c3 => m_digit (by omega) ⟨fun z => ⟨fun w => ?_, fun w => ?_⟩, fun z => ?_⟩, fun c3 => ⟨h.k0, h.n22, by rw [h.f22]; exact h.k18, by rw [h.f22, h.l18]; exact I_in (by omega) (by omega) (by omega), ?_⟩⟩, fun c2 => ⟨h.k0, h.n14, by rw [h.f14]; exact h.k10, by rw [h.f14, h.l10]; exact I_in (by omega) (by omega) (by omega), ?_⟩⟩, fun c1 => ?_⟩
        · rw [I_eq (by omega) (by omega) (by omega) (by omega)] at c2 c3
          rw [bI_0, ← Bool.not_eq_true, isD_iff] at z; omega
        · rw [I_eq (by omega) (by omega) (by omega) (by omega)] at w; omega
        · rw [I_eq (by omega) (by omega) (by omega) (by omega)] at c2 c3
          rw [bI_0, Bool.not_eq_false, isD_iff] at z
          have d9 : 49 ≤ s.getD (p + 1) 0 ∧ s.getD (p + 1) 0 ≤ 57 := by omega
          rw [if_pos d9] at hq'
          rw [I_sub, show ((s.getD (p + 1) 0 : Nat) : Int) - 49 = ((s.getD (p + 1) 0 - 49 : Nat) : Int) by omega]
          unfold atL at hq'
          rw [if_pos (by omega), show ((s.getD (p + 1) 0 : Int) - 49).toNat = s.getD (p + 1) 0 - 49 by omega] at hq'
          by_cases y : s.getD (p + 1) 0 - 49 < po.length
          · exact m_par6 y hok hpo _ 0 o M rfl (by omega) h v pp e (fun M' g1 g2 => hq' M' (by rw [List.drop_zero] at g1; exact g1) g2)
          · have nil : po.getD (s.getD (p + 1) 0 - 49) [] = [] := by rw [List.getD_eq_getElem?_getD, List.getElem?_eq_none (by omega)]; rfl
            rw [nil, bind_nil] at hq'
            refine w149_6 ⟨h.k0, h.n14, by rw [h.f14]; exact h.k10, by rw [h.f14, h.l10]; exact I_in (by omega) (by omega) (by omega), fun _ => hq' M e (fm.refl _ _ _), fun c => ?_⟩
            rw [h.f14, n1, pp.1, I_le (by omega) (by omega) (by omega) (by omega)] at c; omega
        · rw [I_eq (by omega) (by omega) (by omega) (by omega)] at c3
          rw [if_neg (by omega), if_neg (by omega), if_pos (by omega)] at hq'
          rw [h.f22, n1, hst]
          exact m_giveNum h hok v e (by omega) hq'
        · rw [I_eq (by omega) (by omega) (by omega) (by omega)] at c2
          rw [if_neg (by omega), if_pos (by omega)] at hq'
          rw [h.f14, n1, pp.1]
          exact m_giveNum h hok v e (by omega) hq'
        · rw [I_eq (by omega) (by omega) (by omega) (by omega)] at c1; omega
      · rw [if_neg a2] at hr
        cases hr
        have pc : pcC s vs po stt [if qu = true then 1 else 0, p, p + 1, 0, 0] = [36] := by
          have : rng s p (p + 1) = [36] := by rw [rng_st (by omega), rng_nil (by omega), h36]
          cases qu <;> exact this
        rw [pc, gChs_1] at hq
        have g36 : ∀ g, gCh fl pa qu 36 g = gAd (if qu = true then 36 + 128 else 36) g := fun g => by unfold gCh; rw [if_neg (by omega)]
        have bd : o.bind (gCh fl pa qu 36) = o.bind (gAd (if qu = true then 36 + 128 else 36)) := by
          cases o with
          | none => rfl
          | some g => exact g36 g
        rw [bd] at hq
        refine w149_0 ⟨h.k0, ?_⟩
        rw [I_add]
        refine m_ch (p := p + 1) h t (by omega) ⟨fun c1 => absurd rfl c1, fun c1 => ⟨fun z => w149_2 ⟨h.k0, m_addMade (c := 36) (pl := false) h e (by omega) (fun M' g1 g2 => hq M' ?_ g2)⟩, fun z => w149_2 ⟨h.k0, m_addMade (c := 36) (pl := true) h e (by omega) (fun M' g1 g2 => hq M' ?_ g2)⟩⟩⟩
        · rw [bI_0, Bool.not_eq_false] at z
          rw [z]; exact g1
        · rw [bI_0] at z
          rw [z]; exact g1
end MPAR
