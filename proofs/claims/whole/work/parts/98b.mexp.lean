/-! THE REFERENCE: quotes, a word expanded -/
/-- one piece; the reference marks an escaped character too -/
def gPc (fl : eL) (s : List Nat) (vs : eL) (po : List (List Nat)) (stt : Nat) (pa : Bool) (r : List Nat) (g : fS) : Option fS := gChs fl pa (pcQ r) (pcC s vs po stt r) (g.1, g.2.1, g.2.2 || (Nat.beq (r.getD 0 0) 2 || Nat.beq (r.getD 0 0) 1))
def gPs (fl : eL) (s : List Nat) (vs : eL) (po : List (List Nat)) (stt : Nat) (pa : Bool) : List (List Nat) → fS → Option fS
  | [], g => some g
  | r :: rs, g => (gPc fl s vs po stt pa r g).bind (gPs fl s vs po stt pa rs)
def mkO (o : Option fS) : Prop := ∀ g, o = some g → g.2.2 = true
abbrev sX : List Nat := [108, 60, 61, 125, 127, 130, 133]
theorem gChs_q {fl : eL} {pa : Bool} : ∀ (cs : List Nat) (g g' : fS), gChs fl pa true cs g = some g' → g'.2.2 = g.2.2
  | [], g, g', e => by unfold gChs at e; cases e; rfl
  | c :: cs, g, g', e => by
    unfold gChs gCh at e
    rw [if_neg (fun z => absurd z.2.1 (by decide))] at e
    unfold gAd at e
    by_cases q : g.2.1.length < 40
    · rw [if_pos q] at e
      have := gChs_q cs (g.1, g.2.1 ++ [if true = true then c + 128 else c], g.2.2) g' e
      exact this
    · rw [if_neg q] at e; cases e
theorem mkO.chs {fl : eL} {pa : Bool} {cs : List Nat} {o : Option fS} (h : mkO o) : mkO (o.bind (gChs fl pa true cs)) := by
  intro g' e
  cases o with
  | none => cases e
  | some g => rw [gChs_q cs g g' e]; exact h g rfl
section MEXP
variable {E : mE} {M M' : mM} {Q : mQ} {m : Nat} {s : List Nat} {fl vs : eL} {po : List (List Nat)} {stt : Nat} {pa : Bool} {o : Option fS} {S : List Nat}
theorem mkO.pc {r : List Nat} (h : mkO o) : o.bind (gPc fl s vs po stt pa r) = o.bind (gChs fl pa (pcQ r) (pcC s vs po stt r)) := by
  cases o with
  | none => rfl
  | some g =>
    show gChs fl pa (pcQ r) (pcC s vs po stt r) (g.1, g.2.1, g.2.2 || _) = gChs fl pa (pcQ r) (pcC s vs po stt r) g
    have := h g rfl
    rw [this, Bool.true_or]
    obtain ⟨a, b, c⟩ := g
    cases this; rfl
theorem bind_ps {r : List Nat} {rs : List (List Nat)} : o.bind (gPs fl s vs po stt pa (r :: rs)) = (o.bind (gPc fl s vs po stt pa r)).bind (gPs fl s vs po stt pa rs) := by cases o <;> rfl
theorem bind_ps0 : o.bind (gPs fl s vs po stt pa []) = o := by cases o <;> rfl
theorem gPs_ap {a b : List (List Nat)} : o.bind (gPs fl s vs po stt pa (a ++ b)) = (o.bind (gPs fl s vs po stt pa a)).bind (gPs fl s vs po stt pa b) := by
  induction a generalizing o with
  | nil => rw [bind_ps0]; rfl
  | cons r a ih => rw [List.cons_append, bind_ps, bind_ps, ih]
theorem pcC_l {k a b c d : Nat} (h : ¬ (k = 3 ∨ k = 4)) : pcC s vs po stt [k, a, b, c, d] = rng s a b := by
  unfold pcC; exact if_neg h
theorem pcQ_dol {qu q2 : Bool} {p q : Nat} {r : List Nat} (h36 : s.getD p 0 = 36) (hr : pS s qu p = .inl (r, q, q2)) : pcQ r = qu ∧ q2 = qu ∧ ¬ r.getD 0 0 = 2 ∧ (qu = false → ¬ r.getD 0 0 = 1) := by
  have k3 : ∀ a b c d, pcQ [kP qu, a, b, c, d] = qu ∧ ¬ [kP qu, a, b, c, d].getD 0 0 = 2 ∧ (qu = false → ¬ [kP qu, a, b, c, d].getD 0 0 = 1) := by
    intro a b c d
    cases qu with
    | false => exact ⟨rfl, by show ¬ (3 : Nat) = 2; decide, fun _ => by show ¬ (3 : Nat) = 1; decide⟩
    | true => exact ⟨rfl, by show ¬ (4 : Nat) = 2; decide, fun z => absurd z (by decide)⟩
  rw [pS_dol h36] at hr
  by_cases b : s.getD (p + 1) 0 = 123
  · rw [if_pos b] at hr
    unfold brS at hr
    by_cases a1 : nE s (p + 2) = p + 2
    · rw [if_pos a1] at hr; cases hr
    · rw [if_neg a1] at hr
      by_cases a2 : s.getD (nE s (p + 2)) 0 = 58
      · rw [if_pos a2] at hr
        by_cases a3 : s.getD (nE s (p + 2) + 1) 0 = 45
        · rw [if_pos a3] at hr
          by_cases a4 : s.getD (tE s (nE s (p + 2) + 2)) 0 = 125
          · rw [if_pos a4] at hr
            cases hr
            exact ⟨(k3 _ _ _ _).1, rfl, (k3 _ _ _ _).2⟩
          · rw [if_neg a4] at hr; cases hr
        · rw [if_neg a3] at hr; cases hr
      · rw [if_neg a2] at hr
        by_cases a3 : s.getD (nE s (p + 2)) 0 = 125
        · rw [if_pos a3] at hr
          cases hr
          exact ⟨(k3 _ _ _ _).1, rfl, (k3 _ _ _ _).2⟩
        · rw [if_neg a3] at hr; cases hr
  · rw [if_neg b] at hr
    unfold doS at hr
    by_cases a1 : isL (s.getD (p + 1) 0) = true
    · rw [if_pos a1] at hr
      cases hr
      exact ⟨(k3 _ _ _ _).1, rfl, (k3 _ _ _ _).2⟩
    · rw [if_neg a1] at hr
      by_cases a2 : (49 ≤ s.getD (p + 1) 0 ∧ s.getD (p + 1) 0 ≤ 57) ∨ s.getD (p + 1) 0 = 35 ∨ s.getD (p + 1) 0 = 63
      · rw [if_pos a2] at hr
        cases hr
        exact ⟨(k3 _ _ _ _).1, rfl, (k3 _ _ _ _).2⟩
      · rw [if_neg a2] at hr
        cases hr
        cases qu with
        | false => exact ⟨rfl, rfl, by show ¬ (0 : Nat) = 2; decide, fun _ => by show ¬ (0 : Nat) = 1; decide⟩
        | true => exact ⟨rfl, rfl, by show ¬ (1 : Nat) = 2; decide, fun z => absurd z (by decide)⟩
theorem DQ_lt {e : Nat} : ∀ (PL : List (List Nat)) (k : Nat), DQ s k PL e → k < e ∧ e ≤ s.length
  | [], _, h => h.elim
  | r :: PL, k, h => by
    rcases h with ⟨hl, ⟨_, _, _, h4⟩ | ⟨_, p', h2, h3⟩⟩
    · omega
    · have pr := pS_r hl h2
      have := DQ_lt PL p' h3
      omega
theorem m_quoted {c : Nat} (h : mS M m) (e : exO M m pa o) (hc : c < 128) (hq : ∀ M', exO M' m pa (o.bind (gCh fl pa true c)) → fm m sE M M' → Q (.inl none) M') : mC E 146 [.ref m, .int (I c), .int (I 0)] M Q := by
  have bd : o.bind (gCh fl pa true c) = o.bind (gAd (c + 128)) := by
    cases o with
    | none => rfl
    | some g =>
      show gCh fl pa true c g = gAd (c + 128) g
      unfold gCh; rw [if_neg (fun z => absurd z.2.1 (by decide))]; rfl
  rw [bd] at hq
  exact m_addMade (pl := false) h e hc hq
theorem m_dqs {p0 e : Nat} (hp0 : p0 < s.length) (h34 : s.getD p0 0 = 34) (hok : okN fl) (hv : okE vs) (hpo : okL po) (hst2 : stt ≤ 255) : ∀ (PL : List (List Nat)) (k : Nat) (o : Option fS) (M : mM) (d4 : Option Value), DQ s k PL e → mkO o → mS M m → mdT M m s → vrX M m 1 vs → poX M m 1 po → flX M m 1 fl → mi M (m + 18) 1 = I stt → exO M m pa o → (∀ M', exO M' m pa (o.bind (gPs fl s vs po stt pa PL)) → fm m sE M M' → Q (.inl none) M') →
    mX E 150 1 [some (.ref m), some (.int (I p0)), some (.int (I e)), some (.int (I k)), d4] [] M Q
  | [], _, _, _, _, hd, _, _, _, _, _, _, _, _, _ => hd.elim
  | r :: PL, k, o, M, d4, hd, mko, h, t, vv, pp, v, hst, ex, hq => by
    have tl := t.2.1
    have lt := DQ_lt _ _ hd
    have hck := t.ch k
    rw [bind_ps, mko.pc] at hq
    rcases hd with ⟨hl, ⟨h1, h2, h3, h4⟩ | ⟨h1, p', h2, h3⟩⟩
    · -- the closing quote
      subst h2 h3 h4
      have nil : pcC s vs po stt [2, k + 1, k + 1, 0, 0] = [] := by
        rw [pcC_l (by omega), rng_nil (Nat.le_refl _)]
      rw [nil, bind_nil, bind_ps0] at hq
      refine w150_1 ⟨fun _ => hq M ex (fm.refl _ _ _), fun c => ?_⟩
      rw [I_sub, I_le (by omega) (by omega) (by omega) (by omega)] at c; omega
    · have lt2 := DQ_lt _ _ h3
      have pr := pS_r hl h2
      have dead : ∀ z : ¬ mi M m 25 = I 0, Q (.inl none) M := by
        intro z
        cases o with
        | none => exact hq M ex (fm.refl _ _ _)
        | some g => exact absurd ex.2.2.2.2 z
      have onw : ∀ (M1 : mM) (o1 : Option fS) (d4 : Option Value), fm m sE M M1 → exO M1 m pa o1 → o1 = o.bind (gChs fl pa true (pcC s vs po stt r)) → pcQ r = true → mX E 150 1 [some (.ref m), some (.int (I p0)), some (.int (I e)), some (.int (I p')), d4] [] M1 Q := by
        intro M1 o1 d4 f1 e1 ho hqr
        rw [hqr, ← ho] at hq
        exact m_dqs hp0 h34 hok hv hpo hst2 PL p' o1 M1 d4 h3 (by rw [ho]; exact mko.chs) (h.mv f1.1) (t.mv f1 (by decide) (by decide)) (vv.mv f1 (by decide)) (pp.mv f1 (by decide)) (v.mv f1 (by decide)) (by rw [f1.2.2 18 1 (by omega) (by decide)]; exact hst) e1 (fun M' g1 g2 => hq M' g1 (f1.trans g2))
      have e34 : mi M (mr M m 3) (nt (I p0)) = I 34 := by rw [h.f3, I_ntn (by omega), t.2.2.1 p0 hp0, h34]; rfl
      have l0 : vp_in (I p0) (mln M (mr M m 3)) := by rw [h.f3, h.l1]; exact I_in (by omega) (by omega) (by omega)
      have four : ¬ s.getD k 0 = 36 → ¬ s.getD k 0 = 92 → mX E 150 4 [some (.ref m), some (.int (I p0)), some (.int (I e)), some (.int (I k)), d4] [] M Q := by
        intro n36 n92
        have ps1 : pS s true k = .inl ([1, k, k + 1, 0, 0], k + 1, true) := by
          unfold pS; rw [if_neg h1, if_neg n92, if_neg n36, if_pos rfl]
        rw [ps1] at h2
        cases h2
        have pc : pcC s vs po stt [1, k, k + 1, 0, 0] = [s.getD k 0] := by
          rw [pcC_l (by omega), rng_st (by omega), rng_nil (Nat.le_refl _)]
        refine w150_4 ⟨h.k0, m_ch h t (by omega) ⟨h.k0, m_quoted (fl := fl) h ex hck (fun M1 e1 f1 => ?_)⟩⟩
        show mX E 150 1 _ [] M1 Q
        rw [I_add]
        exact onw M1 _ _ f1 e1 (by rw [pc, gChs_1]) rfl
      have two : ¬ s.getD k 0 = 36 → mX E 150 2 [some (.ref m), some (.int (I p0)), some (.int (I e)), some (.int (I k)), d4] [] M Q := by
        intro n36
        refine w150_2 ⟨h.k0, h.n3, by rw [h.f3]; exact h.k1, l0, fun z => absurd e34 z, fun _ => m_ch h t (by omega) ⟨fun z => ?_, fun z => ⟨h.k0, ?_⟩⟩⟩
        · rw [I_eq (by omega) (by omega) (by omega) (by omega)] at z
          exact four n36 (by omega)
        · rw [I_eq (by omega) (by omega) (by omega) (by omega)] at z
          have h92 : s.getD k 0 = 92 := by omega
          have hc1 := t.ch (k + 1)
          have ps1 : pS s true k = esS s true k := by unfold pS; rw [if_neg h1, if_pos h92]
          rw [ps1] at h2
          unfold esS at h2
          by_cases bad : s.getD (k + 1) 0 = 0 ∨ s.getD (k + 1) 0 = 10
          · rw [if_pos bad] at h2; cases h2
          · rw [if_neg bad] at h2
            have three : ∀ (M1 : mM) (o1 : Option fS), fm m sE M M1 → exO M1 m pa o1 → (∀ M2, fm m sE M M2 → exO M2 m pa (o1.bind (gCh fl pa true (s.getD (k + 1) 0))) → ∀ d4, mX E 150 1 [some (.ref m), some (.int (I p0)), some (.int (I e)), some (.int (I ((k + 2 : Nat) : Int))), d4] [] M2 Q) → mX E 150 3 [some (.ref m), some (.int (I p0)), some (.int (I e)), some (.int (I k)), some (.int (I (s.getD (k + 1) 0)))] [] M1 Q := by
              intro M1 o1 f1 e1 nxt
              refine w150_3 ⟨(h.mv f1.1).k0, m_quoted (fl := fl) (h.mv f1.1) e1 hc1 (fun M2 e2 f2 => ?_)⟩
              show mX E 150 1 _ [] M2 Q
              rw [I_add]
              exact nxt M2 (f1.trans f2) e2 _
            rw [I_add]
            refine m_ch (p := k + 1) h t (by omega) ⟨fun y => ?_, fun y => ⟨fun x => ?_, fun x => ⟨fun w => ?_, fun w => ⟨h.k0, ?_⟩⟩⟩⟩
            all_goals rw [I_eq (by omega) (by omega) (by omega) (by omega)] at y
            · rw [if_neg (fun q => q.2.1 (by omega))] at h2
              cases h2
              have pc : pcC s vs po stt [1, k + 1, k + 2, 0, 0] = [s.getD (k + 1) 0] := by
                rw [pcC_l (by omega), rng_st (by omega), rng_nil (Nat.le_refl _)]
              exact three M o (fm.refl _ _ _) ex (fun M2 f2 e2 d4 => onw M2 _ _ f2 e2 (by rw [pc, gChs_1]) rfl)
            · rw [I_eq (by omega) (by omega) (by omega) (by omega)] at x
              rw [if_neg (fun q => q.2.2.1 (by omega))] at h2
              cases h2
              have pc : pcC s vs po stt [1, k + 1, k + 2, 0, 0] = [s.getD (k + 1) 0] := by
                rw [pcC_l (by omega), rng_st (by omega), rng_nil (Nat.le_refl _)]
              exact three M o (fm.refl _ _ _) ex (fun M2 f2 e2 d4 => onw M2 _ _ f2 e2 (by rw [pc, gChs_1]) rfl)
            · rw [I_eq (by omega) (by omega) (by omega) (by omega)] at w
              rw [if_neg (fun q => q.2.2.2 (by omega))] at h2
              cases h2
              have pc : pcC s vs po stt [1, k + 1, k + 2, 0, 0] = [s.getD (k + 1) 0] := by
                rw [pcC_l (by omega), rng_st (by omega), rng_nil (Nat.le_refl _)]
              exact three M o (fm.refl _ _ _) ex (fun M2 f2 e2 d4 => onw M2 _ _ f2 e2 (by rw [pc, gChs_1]) rfl)
            · rw [I_eq (by omega) (by omega) (by omega) (by omega)] at x w
              rw [if_pos ⟨rfl, by omega, by omega, by omega⟩] at h2
              cases h2
              have pc : pcC s vs po stt [1, k, k + 2, 0, 0] = [92, s.getD (k + 1) 0] := by
                rw [pcC_l (by omega), rng_st (by omega), rng_st (by omega), rng_nil (Nat.le_refl _), h92]
              refine m_quoted (fl := fl) (c := 92) h ex (by omega) (fun M1 e1 f1 => ?_)
              refine three M1 _ f1 e1 (fun M2 f2 e2 d4 => onw M2 _ _ f2 e2 ?_ rfl)
              rw [pc, bind_c, gChs_1]
      refine w150_1 ⟨fun c => ?_, fun c => ⟨h.k0, dead, fun _ => ⟨h.n3, by rw [h.f3]; exact h.k1, l0, fun z => absurd e34 z, fun _ => m_ch h t (by omega) ⟨fun z => two ?_, fun z => ⟨h.k0, ?_⟩⟩⟩⟩⟩
      · rw [I_sub, I_le (by omega) (by omega) (by omega) (by omega)] at c; omega
      · rw [I_eq (by omega) (by omega) (by omega) (by omega)] at z; omega
      · rw [I_eq (by omega) (by omega) (by omega) (by omega)] at z
        have h36 : s.getD k 0 = 36 := by omega
        refine m_dollar (q := true) h t hl h36 (fun r2 p2 q2 g2 => ⟨h.k0, ?_⟩) (fun e2 g2 => ?_)
        · rw [h2] at g2
          cases g2
          refine m_param (qu := true) h t vv pp v hok hv hpo hst hst2 ex hl h36 h2 (fun M1 e1 f1 => ?_)
          show mX E 150 1 _ [] M1 Q
          have hqr : pcQ r = true := (pcQ_dol h36 h2).1
          exact onw M1 _ _ f1 e1 rfl hqr
        · rw [h2] at g2; cases g2
/-- single quotes -/
theorem m_sqs {p0 e : Nat} (hp0 : p0 < s.length) (h39 : ¬ s.getD p0 0 = 34) (he : e ≤ s.length) (n : Nat) : ∀ (k : Nat) (o : Option fS) (M : mM) (d4 : Option Value), n = e - 1 - k → k ≤ 1000 → mS M m → mdT M m s → exO M m pa o → (∀ M', exO M' m pa (o.bind (gChs fl pa true (rng s k (e - 1)))) → fm m sE M M' → Q (.inl none) M') →
    mX E 150 1 [some (.ref m), some (.int (I p0)), some (.int (I e)), some (.int (I k)), d4] [] M Q := by
  induction n with
  | zero =>
    intro k o M d4 hn hk h t ex hq
    have tl := t.2.1
    rw [rng_nil (by omega), bind_nil] at hq
    refine w150_1 ⟨fun _ => hq M ex (fm.refl _ _ _), fun c => ?_⟩
    rw [I_sub, I_le (by omega) (by omega) (by omega) (by omega)] at c; omega
  | succ n ih =>
    intro k o M d4 hn hk h t ex hq
    have tl := t.2.1
    have hck := t.ch k
    have hc0 := t.ch p0
    rw [rng_st (by omega), bind_c] at hq
    have e34 : ¬ mi M (mr M m 3) (nt (I p0)) = I 34 := by rw [h.f3, I_ntn (by omega), t.2.2.1 p0 hp0, I_eq (by omega) (by omega) (by omega) (by omega)]; omega
    have l0 : vp_in (I p0) (mln M (mr M m 3)) := by rw [h.f3, h.l1]; exact I_in (by omega) (by omega) (by omega)
    refine w150_1 ⟨fun c => ?_, fun c => ⟨h.k0, fun z => ?_, fun _ => ⟨h.n3, by rw [h.f3]; exact h.k1, l0, fun _ => w150_2 ⟨h.k0, h.n3, by rw [h.f3]; exact h.k1, l0, fun _ => w150_4 ⟨h.k0, m_ch h t (by omega) ⟨h.k0, m_quoted (fl := fl) h ex hck (fun M1 e1 f1 => ?_)⟩⟩, fun z => absurd z e34⟩, fun z => absurd z e34⟩⟩⟩
    · rw [I_sub, I_le (by omega) (by omega) (by omega) (by omega)] at c; omega
    · cases o with
      | none => exact hq M ex (fm.refl _ _ _)
      | some g => exact absurd ex.2.2.2.2 z
    · show mX E 150 1 _ [] M1 Q
      rw [I_add]
      exact ih (k + 1) _ M1 _ (by omega) (by omega) (h.mv f1.1) (t.mv f1 (by decide) (by decide)) e1 (fun M' g1 g2 => hq M' g1 (f1.trans g2))
theorem pL_app : ∀ (n k : Nat) (q : Bool) (acc : List (List Nat)) (e : Nat) (ps2 : List (List Nat)), pL s n q k acc = .inl (e, ps2) → ∃ R, ps2 = acc ++ R
  | 0, k, q, acc, e, ps2, h => by
    unfold pL at h
    split at h
    · cases h
    · cases h; exact ⟨[], (List.append_nil _).symm⟩
  | n + 1, k, q, acc, e, ps2, h => by
    unfold pL at h
    split at h
    · split at h
      · next r p' q' _ =>
        obtain ⟨R, hR⟩ := pL_app n p' q' (acc ++ [r]) e ps2 h
        exact ⟨r :: R, by rw [hR, List.append_assoc]; rfl⟩
      · cases h; exact ⟨[], (List.append_nil _).symm⟩
      · cases h
    · split at h
      · cases h
      · cases h; exact ⟨[], (List.append_nil _).symm⟩
/-- setting the mark -/
theorem exO.mark {M1 : mM} (ex : exO M m pa o) (q1 : M1 = msi M m 30 (I 1)) : exO M1 m pa (o.map fun g => (g.1, g.2.1, true)) ∧ fm m sE M M1 := by
  have f1 : fm m [130] M M1 := fm_o q1 (by decide)
  refine ⟨?_, f1.w (by decide)⟩
  cases o with
  | none =>
    obtain ⟨a, b, w, c, d⟩ := ex
    exact ⟨by rw [f1.fld (by decide)]; exact a, by rw [f1.fld (by decide)]; exact b, w, c, by rw [f1.fld (by decide)]; exact d⟩
  | some g =>
    obtain ⟨a, b, c, d, e⟩ := ex
    exact ⟨a.mv f1 (by decide) (by decide), b.mv f1 (by decide) (by decide), by rw [q1, i_is]; rfl, by rw [f1.fld (by decide)]; exact d, by rw [f1.fld (by decide)]; exact e⟩
theorem mkO.mark : mkO (o.map fun g => ((g.1, g.2.1, true) : fS)) := by
  intro g e
  cases o with
  | none => cases e
  | some x => cases e; rfl
theorem m_expand_l {v1 : Int32} {e : Nat} (hok : okN fl) (hv : okE vs) (hpo : okL po) (hst2 : stt ≤ 255) (z : Nat) : ∀ (k n : Nat) (acc R : List (List Nat)) (o : Option fS) (M : mM) (d4 d5 : Option Value), e - k ≤ z → k ≤ s.length → s.length - k ≤ n → pL s n false k acc = .inl (e, acc ++ R) → mS M m → mdT M m s → vrX M m 1 vs → poX M m 1 po → flX M m 1 fl → mi M (m + 18) 1 = I stt → exO M m pa o → (∀ M', exO M' m pa (o.bind (gPs fl s vs po stt pa R)) → fm m sX M M' → Q (.inl none) M') →
    mX E 151 1 [some (.ref m), some (.int v1), some (.int (I e)), some (.int (I k)), d4, d5] [] M Q := by
  induction z with
  | zero =>
    intro k n acc R o M d4 d5 hz hk hn hp h t vv pp v hst ex hq
    have tl := t.2.1
    have pr := pL_r s n false k acc e _ hk hp
    rw [List.length_append] at pr
    have r0 : R = [] := List.eq_nil_of_length_eq_zero (by omega)
    rw [r0, bind_ps0] at hq
    refine w151_1 ⟨fun _ => hq M ex (fm.refl _ _ _), fun c => ?_⟩
    rw [I_le (by omega) (by omega) (by omega) (by omega)] at c; omega
  | succ z ih =>
    intro k n acc R o M d4 d5 hz hk hn hp h t vv pp v hst ex hq
    have tl := t.2.1
    have pr := pL_r s n false k acc e _ hk hp
    rw [List.length_append] at pr
    have hck := t.ch k
    by_cases ek : e ≤ k
    · have r0 : R = [] := List.eq_nil_of_length_eq_zero (by omega)
      rw [r0, bind_ps0] at hq
      refine w151_1 ⟨fun _ => hq M ex (fm.refl _ _ _), fun c => ?_⟩
      rw [I_le (by omega) (by omega) (by omega) (by omega)] at c; omega
    · have hl : k < s.length := by omega
      have hw : ¬ (s.getD k 0 = 32 ∨ s.getD k 0 = 10 ∨ s.getD k 0 = 124 ∨ s.getD k 0 = 38 ∨ s.getD k 0 = 59 ∨ s.getD k 0 = 60 ∨ s.getD k 0 = 62 ∨ s.getD k 0 = 40 ∨ s.getD k 0 = 41) := by
        intro w
        have ps1 : pS s false k = .inr none := by
          unfold pS; rw [if_neg (by omega), if_neg (by omega), if_neg (by omega), if_neg (by decide), if_neg (by omega), if_pos w]
        rw [pL_en hl hn ps1] at hp
        have := (Prod.mk.inj (Sum.inl.inj hp)).1
        omega
      refine w151_1 ⟨fun c => ?_, fun c => ⟨h.k0, fun y => ?_, fun _ => m_piece (ps := acc) h t hl hw hn (fun p' n' PL g1 g2 g3 gp g4 M1 f1 => ?_) (fun e2 g4 => ?_)⟩⟩
      · rw [I_le (by omega) (by omega) (by omega) (by omega)] at c; omega
      · cases o with
        | none => exact hq M ex (fm.refl _ _ _)
        | some g => exact absurd ex.2.2.2.2 y
      · rw [g4] at hp
        obtain ⟨R', hR'⟩ := pL_app n' p' false (acc ++ PL) e _ hp
        have eR : R = PL ++ R' := by
          rw [List.append_assoc] at hR'
          exact List.append_cancel_left hR'
        rw [eR, gPs_ap] at hq
        rw [eR, ← List.append_assoc] at hp
        have h1 := h.mv f1.1
        have t1 := t.mv f1 (by decide) (by decide)
        have f1' : fm m sX M M1 := f1.w (by decide)
        have ex1 : exO M1 m pa o := ex.mv f1 (by decide) (by decide) (by decide) (by decide) (by decide) (by decide) (by decide)
        have vv1 := vv.mv f1 (by decide)
        have pp1 := pp.mv f1 (by decide)
        have v1' := v.mv f1 (by decide)
        have hst1 : mi M1 (m + 18) 1 = I stt := by rw [f1.2.2 18 1 (by omega) (by decide)]; exact hst
        have onw : ∀ (M2 : mM) (o2 : Option fS) (d4 d5 : Option Value), fm m sE M1 M2 → exO M2 m pa o2 → o2 = o.bind (gPs fl s vs po stt pa PL) → mX E 151 1 [some (.ref m), some (.int v1), some (.int (I e)), some (.int (I p')), d4, d5] [] M2 Q := by
          intro M2 o2 d4 d5 f2 e2 ho
          rw [← ho] at hq
          have f12 := f1'.trans (f2.w (S' := sX) (by decide))
          exact ih p' n' (acc ++ PL) R' o2 M2 d4 d5 (by omega) g2 g3 hp (h1.mv f2.1) (t1.mv f2 (by decide) (by decide)) (vv1.mv f2 (by decide)) (pp1.mv f2 (by decide)) (v1'.mv f2 (by decide)) (by rw [f2.2.2 18 1 (by omega) (by decide)]; exact hst1) e2 (fun M' j1 j2 => hq M' j1 (f12.trans j2))
        have lit : ∀ r : List Nat, pcQ r = pcQ r → o.bind (gPs fl s vs po stt pa [r]) = o.bind (gPc fl s vs po stt pa r) := by
          intro r _
          rw [bind_ps, bind_ps0]
        obtain ⟨-, ⟨k34, PL', ePL, dq⟩ | ⟨k34, r, ePL, ps1⟩⟩ := gp
        · -- double quotes
          subst ePL
          refine ⟨h1.k0, m_ch h1 t1 (by omega) ⟨fun y => ⟨fun x => ⟨fun w => ?_, fun w => ⟨fun u => ?_, fun u => w151_4 ⟨h1.k0, w150_0 ⟨h1.k0, fun M2 q2 => ?_⟩⟩⟩⟩, fun x => ?_⟩, fun y => ?_⟩⟩
          · rw [I_eq (by omega) (by omega) (by omega) (by omega)] at w; omega
          · rw [I_eq (by omega) (by omega) (by omega) (by omega)] at u; omega
          · obtain ⟨e2, f2⟩ := ex1.mark q2
            rw [I_add]
            refine m_dqs hl k34 hok hv hpo hst2 PL' (k + 1) _ M2 none dq mkO.mark (h1.mv f2.1) (t1.mv f2 (by decide) (by decide)) (vv1.mv f2 (by decide)) (pp1.mv f2 (by decide)) (v1'.mv f2 (by decide)) (by rw [f2.2.2 18 1 (by omega) (by decide)]; exact hst1) e2 (fun M3 e3 f3 => ?_)
            refine onw M3 _ _ _ (f2.trans f3) e3 ?_
            rw [bind_ps]
            congr 1
            cases o with
            | none => rfl
            | some g =>
              show _ = gChs fl pa _ (pcC s vs po stt [2, k + 1, k + 1, 0, 0]) _
              rw [pcC_l (by omega), rng_nil (Nat.le_refl _)]
              show some _ = some (g.1, g.2.1, g.2.2 || true)
              rw [Bool.or_true]
          · rw [I_eq (by omega) (by omega) (by omega) (by omega)] at x; omega
          · rw [I_eq (by omega) (by omega) (by omega) (by omega)] at y; omega
        · subst ePL
          have lt := lit r rfl
          refine ⟨h1.k0, m_ch h1 t1 (by omega) ⟨fun y => ⟨fun x => ⟨fun w => ?_, fun w => ⟨fun u => ⟨h1.k0, ?_⟩, fun u => ?_⟩⟩, fun x => ⟨h1.k0, fun M2 q2 => ?_⟩⟩, fun y => ⟨h1.k0, ?_⟩⟩⟩
          · -- single quotes
            rw [I_eq (by omega) (by omega) (by omega) (by omega)] at w
            have sq : pS s false k = sqS s false k := by
              unfold pS; rw [if_neg (by omega), if_neg (by omega), if_neg (by omega), if_neg (by decide), if_pos (by omega)]
            rw [sq] at ps1
            unfold sqS at ps1
            by_cases fd : findS s 39 (k + 1) < s.length
            · rw [if_pos fd] at ps1
              cases ps1
              refine w151_4 ⟨h1.k0, w150_0 ⟨h1.k0, fun M2 q2 => ?_⟩⟩
              obtain ⟨e2, f2⟩ := ex1.mark q2
              rw [I_add]
              refine m_sqs (fl := fl) hl k34 (by omega) _ (k + 1) _ M2 none rfl (by omega) (h1.mv f2.1) (t1.mv f2 (by decide) (by decide)) e2 (fun M3 e3 f3 => ?_)
              refine onw M3 _ _ _ (f2.trans f3) e3 ?_
              rw [lt]
              cases o with
              | none => rfl
              | some g =>
                show gChs fl pa true _ (g.1, g.2.1, true) = gChs fl pa _ (pcC s vs po stt [2, k + 1, findS s 39 (k + 1), 0, 0]) (g.1, g.2.1, g.2.2 || true)
                rw [pcC_l (by omega), Bool.or_true, show findS s 39 (k + 1) + 1 - 1 = findS s 39 (k + 1) by omega]; rfl
            · rw [if_neg fd] at ps1; cases ps1
          · -- a plain character
            rw [I_eq (by omega) (by omega) (by omega) (by omega)] at y x w u
            have pl : pS s false k = .inl ([0, k, k + 1, 0, 0], k + 1, false) := by
              unfold pS; rw [if_neg (by omega), if_neg (by omega), if_neg (by omega), if_neg (by decide), if_neg (by omega), if_neg hw]
            rw [pl] at ps1
            cases ps1
            refine m_addMade (pl := true) h1 ex1 hck (fun M2 e2 f2 => onw M2 _ _ _ f2 e2 ?_)
            rw [lt]
            cases o with
            | none => rfl
            | some g =>
              show gAd (s.getD k 0) g = gChs fl pa false (pcC s vs po stt [0, k, k + 1, 0, 0]) (g.1, g.2.1, g.2.2 || false)
              rw [pcC_l (by omega), Bool.or_false, rng_st (by omega), rng_nil (Nat.le_refl _), gChs_1]
              unfold gCh
              rw [if_neg (fun q => hw (by omega))]; rfl
          · rw [I_eq (by omega) (by omega) (by omega) (by omega)] at u; omega
          · -- an escaped character
            rw [I_eq (by omega) (by omega) (by omega) (by omega)] at x
            have h92 : s.getD k 0 = 92 := by omega
            have es : pS s false k = esS s false k := by unfold pS; rw [if_neg k34, if_pos h92]
            rw [es] at ps1
            unfold esS at ps1
            by_cases bad : s.getD (k + 1) 0 = 0 ∨ s.getD (k + 1) 0 = 10
            · rw [if_pos bad] at ps1; cases ps1
            · rw [if_neg bad, if_neg (fun q => absurd q.1 (by decide))] at ps1
              cases ps1
              obtain ⟨e2, f2⟩ := ex1.mark q2
              rw [I_add]
              have t2 := t1.mv f2 (by decide) (by decide)
              refine m_ch (p := k + 1) (h1.mv f2.1) t2 (by omega) ⟨(h1.mv f2.1).k0, m_quoted (fl := fl) (h1.mv f2.1) e2 (t.ch (k + 1)) (fun M3 e3 f3 => onw M3 _ _ _ (f2.trans f3) e3 ?_)⟩
              rw [lt]
              cases o with
              | none => rfl
              | some g =>
                show gCh fl pa true (s.getD (k + 1) 0) (g.1, g.2.1, true) = gChs fl pa true (pcC s vs po stt [1, k + 1, k + 2, 0, 0]) (g.1, g.2.1, g.2.2 || true)
                rw [pcC_l (by omega), Bool.or_true, rng_st (by omega), rng_nil (Nat.le_refl _), gChs_1]
          · -- a parameter
            rw [I_eq (by omega) (by omega) (by omega) (by omega)] at y
            have h36 : s.getD k 0 = 36 := by omega
            have pq := pcQ_dol h36 ps1
            refine m_param (qu := false) h1 t1 vv1 pp1 v1' hok hv hpo hst1 hst2 ex1 hl h36 ps1 (fun M2 e2 f2 => onw M2 _ _ _ f2 e2 ?_)
            rw [lt]
            cases o with
            | none => rfl
            | some g =>
              show gChs fl pa false (pcC s vs po stt r) g = gChs fl pa (pcQ r) (pcC s vs po stt r) (g.1, g.2.1, g.2.2 || _)
              have b2 : Nat.beq (r.getD 0 0) 2 = false := by rw [← Bool.not_eq_true, Nat.beq_eq]; exact pq.2.2.1
              have b1 : Nat.beq (r.getD 0 0) 1 = false := by rw [← Bool.not_eq_true, Nat.beq_eq]; exact pq.2.2.2 rfl
              rw [pq.1, b2, b1, Bool.or_false, Bool.or_false]
      · rw [g4] at hp; cases hp
end MEXP
