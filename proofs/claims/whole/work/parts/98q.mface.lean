/-! THE REFERENCE: its face -/
theorem chZ_lo {w : List Nat} {k : Int} (h : k < 0) : chZ w k = 0 := by unfold chZ; rw [if_neg (by omega)]
theorem chZ_hi {w : List Nat} {k : Int} (h : (w.length : Int) ≤ k) : chZ w k = 0 := by
  unfold chZ
  split
  · rw [List.getD_eq_getElem?_getD, List.getElem?_eq_none (by omega)]; rfl
  · rfl
theorem chZ_nil {k : Int} : chZ [] k = 0 := by
  unfold chZ
  split
  · rfl
  · rfl
theorem rd_tail {P : Int32 → Prop} {M M1 : mM} {m fA fB a b cap la lb i : Nat} {z : Int} {w : List Nat} {k : Int} (h0 : 0 < m) (hA : mr M m fA = m + a) (hB : mr M m fB = m + b) (kA : mkd M (m + a) = 2) (kB : mkd M (m + b) = 1) (lA : mln M (m + a) = la) (lB : mln M (m + b) = lb) (r : nmR M1 (m + a) (m + b) cap i w) (hz : z = cap) (hi : i < lb) (hla : cap * i + cap ≤ la) (hb1 : lb < 100000) (hb2 : la < 100000) (k1 : -2147483648 ≤ k) (k2 : k < 2147483648) (hc : cap ≤ 100) (hq : P (I (chZ w k : Nat))) :
    (I k < I 0 → P (I 0)) ∧ (¬ I k < I 0 → ¬ mr M m fB = 0 ∧ mkd M (mr M m fB) = 1 ∧ vp_in (I (i : Int)) (mln M (mr M m fB)) ∧ (mi M1 (mr M m fB) (nt (I (i : Int))) ≤ I k → P (I 0)) ∧ (¬ mi M1 (mr M m fB) (nt (I (i : Int))) ≤ I k → ¬ mr M m fA = 0 ∧ mkd M (mr M m fA) = 2 ∧ vp_in (I z * I (i : Int) + I k) (mln M (mr M m fA)) ∧ narrow .char (.int (mi M1 (mr M m fA) (nt (I z * I (i : Int) + I k)))) = .int (mi M1 (mr M m fA) (nt (I z * I (i : Int) + I k))) ∧ P (mi M1 (mr M m fA) (nt (I z * I (i : Int) + I k))))) := by
  obtain ⟨r1, r2, r3, r4⟩ := r
  refine ⟨fun c => ?_, fun c => ⟨by rw [hB]; omega, by rw [hB]; exact kB, by rw [hB, lB]; exact I_in (by omega) (by omega) (by omega), ?_⟩⟩
  · rw [I_lt (by omega) (by omega) (by omega) (by omega)] at c
    rw [chZ_lo c] at hq; exact hq
  · rw [I_lt (by omega) (by omega) (by omega) (by omega)] at c
    rw [hB, I_ntn (by omega), r1]
    refine ⟨fun c2 => ?_, fun c2 => ?_⟩
    · rw [I_le (by omega) (by omega) (by omega) (by omega)] at c2
      rw [chZ_hi c2] at hq; exact hq
    · rw [I_le (by omega) (by omega) (by omega) (by omega)] at c2
      obtain ⟨k', rfl⟩ : ∃ k' : Nat, k = (k' : Int) := ⟨k.toNat, by omega⟩
      have kl : k' < w.length := by omega
      have cc : w.getD k' 0 < 65536 := getD_lt r4 (by omega) k'
      have e : chZ w (k' : Int) = w.getD k' 0 := by unfold chZ; rw [if_pos (by omega), Int.toNat_natCast]
      rw [e] at hq
      rw [hA, lA, nt_l hz (by omega), r3 k' kl]
      exact ⟨by omega, kA, in_l hz (by omega) (by omega), I_nar (by omega) (by omega), hq⟩
section MFACE
variable {E : mE} {M M' : mM} {Q : mQ} {m : Nat} {s : List Nat} {vs fl : eL} {po : List (List Nat)} {st pl th : Nat} {o : List Nat}
theorem moI.mv {S : List Nat} {pl' th' : Nat} (h : moI M m s vs po fl st o pl th) (f : fm m S M M') (n : nM.all (fun x => !S.contains x) = true) (h1 : mi M' m 1 = I pl') (h0 : mi M' m 0 = I th') : moI M' m s vs po fl st o pl' th' := by
  obtain ⟨a1, a2, a3, a4, a5, a6, a7, a8, -, -⟩ := h
  obtain ⟨b1, b2, b3, b4, b5, b6, b7⟩ := mKp.mv ⟨a1, a2, a3, a4, a5, a6, a7⟩ f n
  exact ⟨b1, b2, b3, b4, b5, b6, b7, a8, h1, h0⟩
theorem moI.z {M1 : mM} (h : moI M m s vs po fl st o pl th) (q : M1 = msi M m 0 (I 0)) : moI M1 m s vs po fl st o pl 0 ∧ fo m M M1 := by
  have f : fm m [100] M M1 := fm_o q (by decide)
  exact ⟨h.mv f (by decide) (by rw [q, i_ik (by decide)]; exact h.2.2.2.2.2.2.2.2.1) (by rw [q, i_is]; rfl), f.fo⟩
theorem m_thrown (h : moI M m s vs po fl st o pl th) (hq : Q (.inl (some (.int (I th)))) M) : mC E 118 [.ref m] M Q := by
  refine w118_0 ⟨h.1.k0, ?_⟩
  rw [h.2.2.2.2.2.2.2.2.2]; exact hq
theorem m_wipe (h : moI M m s vs po fl st o pl th) (hq : ∀ M', moI M' m [] vs po fl st o pl 0 → fo m M M' → Q (.inl none) M') : mC E 121 [.ref m] M Q := by
  refine w121_0 ⟨h.1.k0, fun M1 q1 M2 q2 => ?_⟩
  have z := h.z q1
  obtain ⟨a1, a2, a3, a4, a5, a6, a7, a8, a9, a10⟩ := z.1
  have f : fm m [102] M1 M2 := fm_o q2 (by decide)
  exact hq M2 ⟨a1.mv f.1, ⟨by rw [q2, i_is]; rfl, by show 0 ≤ 240; omega, fun k hk => absurd hk (Nat.not_lt_zero k), fun c hc => absurd hc List.not_mem_nil⟩, a3.mv f (by decide), a4.mv f (by decide), a5.mv f (by decide), by rw [f.2.2 18 0 (by omega) (by decide)]; exact a6, a7.mv f (by decide), a8, by rw [f.fld (by decide)]; exact a9, by rw [f.fld (by decide)]; exact a10⟩ (z.2.trans f.fo)
theorem m_place (h : moI M m s vs po fl st o pl th) (hq : ∀ M', moI M' m s vs po fl st o pl 0 → fo m M M' → Q (.inl (some (.int (I pl)))) M') : mC E 190 [.ref m] M Q := by
  refine w190_0 ⟨h.1.k0, fun M1 q1 => ?_⟩
  have z := h.z q1
  rw [z.1.2.2.2.2.2.2.2.2.1]
  exact hq M1 z.1 z.2
theorem m_output {k : Int} (h : moI M m s vs po fl st o pl th) (h1 : -2147483648 ≤ k) (h2 : k < 2147483648) (hq : ∀ M', moI M' m s vs po fl st o pl 0 → fo m M M' → Q (.inl (some (.int (I (chZ o k : Nat))))) M') : mC E 191 [.ref m, .int (I k)] M Q := by
  have hs := h.1
  refine w191_0 ⟨hs.k0, fun M1 q1 => ?_⟩
  have z := h.z q1
  have hq1 := hq M1 z.1 z.2
  obtain ⟨o1, o2, o3, o4⟩ := z.1.2.2.2.2.2.2.1
  refine ⟨fun c => ?_, fun c => ⟨hs.n23, by rw [hs.f23]; exact hs.k19, by rw [hs.f23, hs.l19]; exact I_in (by omega) (by omega) (by omega), ?_⟩⟩
  · rw [I_lt (by omega) (by omega) (by omega) (by omega)] at c
    rw [chZ_lo c] at hq1; exact hq1
  · rw [I_lt (by omega) (by omega) (by omega) (by omega)] at c
    rw [hs.f23, show nt (I 0) = 0 by decide, o1]
    refine ⟨fun c2 => ?_, fun c2 => ?_⟩
    · rw [I_le (by omega) (by omega) (by omega) (by omega)] at c2
      rw [chZ_hi c2] at hq1; exact hq1
    · rw [I_le (by omega) (by omega) (by omega) (by omega)] at c2
      obtain ⟨k', rfl⟩ : ∃ k' : Nat, k = (k' : Int) := ⟨k.toNat, by omega⟩
      have cc : o.getD k' 0 < 65536 := getD_lt o4 (by omega) k'
      have e : chZ o (k' : Int) = o.getD k' 0 := by unfold chZ; rw [if_pos (by omega), Int.toNat_natCast]
      have e2 : mi M1 (m + 20) k' = I (o.getD k' 0) := by
        have := o3 k' (by omega)
        rw [Nat.mul_zero, Nat.zero_add] at this; exact this
      rw [e] at hq1
      rw [hs.f24, hs.l20, I_ntn (by omega), e2]
      exact ⟨by have := hs.p; omega, hs.k20, I_in (by omega) (by omega) (by omega), I_nar (by omega) (by omega), hq1⟩
theorem m_countM {w : Int} (h : moI M m s vs po fl st o pl th) (i1 : -2147483648 ≤ w) (i2 : w < 2147483648) (hq : ∀ M', moI M' m s vs po fl st o pl 0 → fo m M M' → Q (.inl (some (.int (I (cntZ w vs po fl st o))))) M') : mC E 192 [.ref m, .int (I w)] M Q := by
  have hs := h.1
  refine w192_0 ⟨hs.k0, fun M1 q1 => ?_⟩
  have z := h.z q1
  have hq1 := hq M1 z.1 z.2
  obtain ⟨-, -, a3, a4, a5, a6, a7, -, -, -⟩ := z.1
  have n0 : nt (I 0) = 0 := by decide
  unfold cntZ at hq1
  refine ⟨fun c0 => ⟨fun c1 => ⟨fun c2 => ⟨fun c3 => ⟨fun c4 => ?_, fun c4 => ?_⟩, fun c3 => ?_⟩, fun c2 => ?_⟩, fun c1 => ?_⟩, fun c0 => ?_⟩
  · rw [I_eq (by omega) (by omega) (by omega) (by omega)] at c0 c1 c2 c3 c4
    rw [if_neg c0, if_neg c1, if_neg c2, if_neg c3, if_neg c4] at hq1; exact hq1
  · rw [I_eq (by omega) (by omega) (by omega) (by omega)] at c0 c1 c2 c3 c4
    rw [if_neg c0, if_neg c1, if_neg c2, if_neg c3, if_pos c4] at hq1
    refine ⟨hs.n23, by rw [hs.f23]; exact hs.k19, by rw [hs.f23, hs.l19]; exact I_in (by omega) (by omega) (by omega), ?_⟩
    rw [hs.f23, n0, a7.1]; exact hq1
  · rw [I_eq (by omega) (by omega) (by omega) (by omega)] at c0 c1 c2 c3
    rw [if_neg c0, if_neg c1, if_neg c2, if_pos c3] at hq1
    refine ⟨hs.n22, by rw [hs.f22]; exact hs.k18, by rw [hs.f22, hs.l18]; exact I_in (by omega) (by omega) (by omega), ?_⟩
    rw [hs.f22, n0, a6]; exact hq1
  · rw [I_eq (by omega) (by omega) (by omega) (by omega)] at c0 c1 c2
    rw [if_neg c0, if_neg c1, if_pos c2] at hq1
    refine ⟨hs.n17, by rw [hs.f17]; exact hs.k13, by rw [hs.f17, hs.l13]; exact I_in (by omega) (by omega) (by omega), ?_⟩
    rw [hs.f17, n0, a5.1]; exact hq1
  · rw [I_eq (by omega) (by omega) (by omega) (by omega)] at c0 c1
    rw [if_neg c0, if_pos c1] at hq1
    refine ⟨hs.n14, by rw [hs.f14]; exact hs.k10, by rw [hs.f14, hs.l10]; exact I_in (by omega) (by omega) (by omega), ?_⟩
    rw [hs.f14, n0, a4.1]; exact hq1
  · rw [I_eq (by omega) (by omega) (by omega) (by omega)] at c0
    rw [if_pos c0] at hq1
    refine ⟨hs.n9, by rw [hs.f9]; exact hs.k5, by rw [hs.f9, hs.l5]; exact I_in (by omega) (by omega) (by omega), ?_⟩
    rw [hs.f9, n0, a3.1]; exact hq1
theorem m_value {i k : Int} (h : moI M m s vs po fl st o pl th) (i1 : -2147483648 ≤ i) (i2 : i < 2147483648) (h1 : -2147483648 ≤ k) (h2 : k < 2147483648) (hq : ∀ M', moI M' m s vs po fl st o pl 0 → fo m M M' → Q (.inl (some (.int (I (chZ (txL vs i) k : Nat))))) M') : mC E 193 [.ref m, .int (I i), .int (I k)] M Q := by
  have hs := h.1
  refine w193_0 ⟨hs.k0, fun M1 q1 => ?_⟩
  have z := h.z q1
  have hq1 := hq M1 z.1 z.2
  have a3 := z.1.2.2.1
  have al := a3.2.1
  refine ⟨fun c => ?_, fun c => ⟨hs.n9, by rw [hs.f9]; exact hs.k5, by rw [hs.f9, hs.l5]; exact I_in (by omega) (by omega) (by omega), ?_⟩⟩
  · rw [I_lt (by omega) (by omega) (by omega) (by omega)] at c
    rw [txL_out (Or.inl c), chZ_nil] at hq1; exact hq1
  · rw [I_lt (by omega) (by omega) (by omega) (by omega)] at c
    rw [hs.f9, show nt (I 0) = 0 by decide, a3.1]
    refine ⟨fun c2 => ?_, fun c2 => ?_⟩
    · rw [I_le (by omega) (by omega) (by omega) (by omega)] at c2
      rw [txL_out (Or.inr c2), chZ_nil] at hq1; exact hq1
    · rw [I_le (by omega) (by omega) (by omega) (by omega)] at c2
      obtain ⟨i', rfl⟩ : ∃ i' : Nat, i = (i' : Int) := ⟨i.toNat, by omega⟩
      have r := (a3.2.2 i' (by omega)).2
      rw [Nat.mul_zero, Nat.zero_add] at r
      have e : txL vs (i' : Int) = (vs.getD i' ([], [])).2 := by unfold txL; rw [if_pos (by omega), Int.toNat_natCast]
      rw [e] at hq1
      exact rd_tail (P := fun x => Q (.inl (some (.int x))) M1) (a := 8) (b := 9) hs.p hs.f12 hs.f13 hs.k8 hs.k9 hs.l8 hs.l9 r rfl (by omega) (by omega) (by omega) (by omega) h1 h2 (by omega) hq1
theorem m_content {i k : Int} (h : moI M m s vs po fl st o pl th) (i1 : -2147483648 ≤ i) (i2 : i < 2147483648) (h1 : -2147483648 ≤ k) (h2 : k < 2147483648) (hq : ∀ M', moI M' m s vs po fl st o pl 0 → fo m M M' → Q (.inl (some (.int (I (chZ (txL fl i) k : Nat))))) M') : mC E 195 [.ref m, .int (I i), .int (I k)] M Q := by
  have hs := h.1
  refine w195_0 ⟨hs.k0, fun M1 q1 => ?_⟩
  have z := h.z q1
  have hq1 := hq M1 z.1 z.2
  have a3 := z.1.2.2.2.2.1
  have al := a3.2.1
  refine ⟨fun c => ?_, fun c => ⟨hs.n17, by rw [hs.f17]; exact hs.k13, by rw [hs.f17, hs.l13]; exact I_in (by omega) (by omega) (by omega), ?_⟩⟩
  · rw [I_lt (by omega) (by omega) (by omega) (by omega)] at c
    rw [txL_out (Or.inl c), chZ_nil] at hq1; exact hq1
  · rw [I_lt (by omega) (by omega) (by omega) (by omega)] at c
    rw [hs.f17, show nt (I 0) = 0 by decide, a3.1]
    refine ⟨fun c2 => ?_, fun c2 => ?_⟩
    · rw [I_le (by omega) (by omega) (by omega) (by omega)] at c2
      rw [txL_out (Or.inr c2), chZ_nil] at hq1; exact hq1
    · rw [I_le (by omega) (by omega) (by omega) (by omega)] at c2
      obtain ⟨i', rfl⟩ : ∃ i' : Nat, i = (i' : Int) := ⟨i.toNat, by omega⟩
      have r := (a3.2.2 i' (by omega)).2
      rw [Nat.mul_zero, Nat.zero_add] at r
      have e : txL fl (i' : Int) = (fl.getD i' ([], [])).2 := by unfold txL; rw [if_pos (by omega), Int.toNat_natCast]
      rw [e] at hq1
      exact rd_tail (P := fun x => Q (.inl (some (.int x))) M1) (a := 16) (b := 17) hs.p hs.f20 hs.f21 hs.k16 hs.k17 hs.l16 hs.l17 r rfl (by omega) (by omega) (by omega) (by omega) h1 h2 (by omega) hq1
theorem m_name {f : Bool} {i k : Int} (h : moI M m s vs po fl st o pl th) (i1 : -2147483648 ≤ i) (i2 : i < 2147483648) (h1 : -2147483648 ≤ k) (h2 : k < 2147483648) (hq : ∀ M', moI M' m s vs po fl st o pl 0 → fo m M M' → Q (.inl (some (.int (I (chZ (nmL (if f = true then fl else vs) i) k : Nat))))) M') : mC E 196 [.ref m, .int (I (bI f)), .int (I i), .int (I k)] M Q := by
  have hs := h.1
  refine w196_0 ⟨hs.k0, fun M1 q1 => ?_⟩
  have z := h.z q1
  have hq1 := hq M1 z.1 z.2
  have a3 := z.1.2.2.1
  have al := a3.2.1
  have a5 := z.1.2.2.2.2.1
  have bl := a5.2.1
  refine ⟨fun c0 => ⟨fun c => ?_, fun c => ⟨hs.n9, by rw [hs.f9]; exact hs.k5, by rw [hs.f9, hs.l5]; exact I_in (by omega) (by omega) (by omega), ?_⟩⟩, fun c0 => ⟨fun c => ?_, fun c => ⟨hs.n17, by rw [hs.f17]; exact hs.k13, by rw [hs.f17, hs.l13]; exact I_in (by omega) (by omega) (by omega), ?_⟩⟩⟩
  · rw [bI_0] at c0
    rw [if_neg (by rw [c0]; decide)] at hq1
    rw [I_lt (by omega) (by omega) (by omega) (by omega)] at c
    rw [nmL_out (Or.inl c), chZ_nil] at hq1; exact hq1
  · rw [bI_0] at c0
    rw [if_neg (by rw [c0]; decide)] at hq1
    rw [I_lt (by omega) (by omega) (by omega) (by omega)] at c
    rw [hs.f9, show nt (I 0) = 0 by decide, a3.1]
    refine ⟨fun c2 => ?_, fun c2 => ?_⟩
    · rw [I_le (by omega) (by omega) (by omega) (by omega)] at c2
      rw [nmL_out (Or.inr c2), chZ_nil] at hq1; exact hq1
    · rw [I_le (by omega) (by omega) (by omega) (by omega)] at c2
      obtain ⟨i', rfl⟩ : ∃ i' : Nat, i = (i' : Int) := ⟨i.toNat, by omega⟩
      have r := (a3.2.2 i' (by omega)).1
      rw [Nat.mul_zero, Nat.zero_add] at r
      have e : nmL vs (i' : Int) = (vs.getD i' ([], [])).1 := by unfold nmL; rw [if_pos (by omega), Int.toNat_natCast]
      rw [e] at hq1
      exact rd_tail (P := fun x => Q (.inl (some (.int x))) M1) (a := 6) (b := 7) hs.p hs.f10 hs.f11 hs.k6 hs.k7 hs.l6 hs.l7 r rfl (by omega) (by omega) (by omega) (by omega) h1 h2 (by omega) hq1
  · rw [bI_0, Bool.not_eq_false] at c0
    rw [if_pos c0] at hq1
    rw [I_lt (by omega) (by omega) (by omega) (by omega)] at c
    rw [nmL_out (Or.inl c), chZ_nil] at hq1; exact hq1
  · rw [bI_0, Bool.not_eq_false] at c0
    rw [if_pos c0] at hq1
    rw [I_lt (by omega) (by omega) (by omega) (by omega)] at c
    rw [hs.f17, show nt (I 0) = 0 by decide, a5.1]
    refine ⟨fun c2 => ?_, fun c2 => ?_⟩
    · rw [I_le (by omega) (by omega) (by omega) (by omega)] at c2
      rw [nmL_out (Or.inr c2), chZ_nil] at hq1; exact hq1
    · rw [I_le (by omega) (by omega) (by omega) (by omega)] at c2
      obtain ⟨i', rfl⟩ : ∃ i' : Nat, i = (i' : Int) := ⟨i.toNat, by omega⟩
      have r := (a5.2.2 i' (by omega)).1
      rw [Nat.mul_zero, Nat.zero_add] at r
      have e : nmL fl (i' : Int) = (fl.getD i' ([], [])).1 := by unfold nmL; rw [if_pos (by omega), Int.toNat_natCast]
      rw [e] at hq1
      exact rd_tail (P := fun x => Q (.inl (some (.int x))) M1) (a := 14) (b := 15) hs.p hs.f18 hs.f19 hs.k14 hs.k15 hs.l14 hs.l15 r rfl (by omega) (by omega) (by omega) (by omega) h1 h2 (by omega) hq1
theorem m_position {i k : Int} (h : moI M m s vs po fl st o pl th) (i1 : -2147483648 ≤ i) (i2 : i < 2147483648) (h1 : -2147483648 ≤ k) (h2 : k < 2147483648) (hq : ∀ M', moI M' m s vs po fl st o pl 0 → fo m M M' → Q (.inl (some (.int (I (chZ (posZ po i) k : Nat))))) M') : mC E 194 [.ref m, .int (I i), .int (I k)] M Q := by
  have hs := h.1
  refine w194_0 ⟨hs.k0, fun M1 q1 => ?_⟩
  have z := h.z q1
  have hq1 := hq M1 z.1 z.2
  have a3 := z.1.2.2.2.1
  have al := a3.2.1
  unfold posZ at hq1
  refine ⟨fun c => ?_, fun c => ⟨hs.n14, by rw [hs.f14]; exact hs.k10, by rw [hs.f14, hs.l10]; exact I_in (by omega) (by omega) (by omega), ?_⟩⟩
  · rw [I_lt (by omega) (by omega) (by omega) (by omega)] at c
    rw [if_neg (by omega), chZ_nil] at hq1; exact hq1
  · rw [I_lt (by omega) (by omega) (by omega) (by omega)] at c
    rw [hs.f14, show nt (I 0) = 0 by decide, a3.1]
    rw [if_pos (by omega)] at hq1
    refine ⟨fun c2 => ?_, fun c2 => ?_⟩
    · rw [I_lt (by omega) (by omega) (by omega) (by omega)] at c2
      have e : atL po (i - 1) = [] := by
        unfold atL; rw [if_pos (by omega), List.getD_eq_getElem?_getD, List.getElem?_eq_none (by omega)]; rfl
      rw [e, chZ_nil] at hq1; exact hq1
    · rw [I_lt (by omega) (by omega) (by omega) (by omega)] at c2
      obtain ⟨i', hi⟩ : ∃ i' : Nat, i - 1 = (i' : Int) := ⟨(i - 1).toNat, by omega⟩
      have r := a3.2.2 i' (by omega)
      rw [Nat.mul_zero, Nat.zero_add] at r
      have e : atL po (i - 1) = po.getD i' [] := by unfold atL; rw [if_pos (by omega), hi, Int.toNat_natCast]
      rw [e] at hq1
      rw [I_sub, hi]
      exact rd_tail (P := fun x => Q (.inl (some (.int x))) M1) (a := 11) (b := 12) hs.p hs.f15 hs.f16 hs.k11 hs.k12 hs.l11 hs.l12 r rfl (by omega) (by omega) (by omega) (by omega) h1 h2 (by omega) hq1
/-- the characters are taken in -/
theorem m_type10 {v : Int64} {v3 v4 : Int32} (n : Nat) : ∀ (i : Nat) (s : List Nat) (M : mM) (d6 : Option Value), i + n = 8 → moI M m s vs po fl st o pl 0 → s.length + (nzL (tyR v n i)).length ≤ 240 → okSc (nzL (tyR v n i)) →
    (∀ M', moI M' m (s ++ nzL (tyR v n i)) vs po fl st o pl 0 → fo m M M' → Q (.inl (some (.int (I 1)))) M') →
    mX E 120 10 [some (.ref m), some (.long v), none, some (.int v3), some (.int v4), some (.int (I (56 - 8 * (i : Int)))), d6] [] M Q := by
  induction n with
  | zero =>
    intro i s M d6 hi h hl ho hq
    refine w120_10 ⟨fun _ => hq M (by simpa [tyR, nzL] using h) (fo.refl _ _), fun c => ?_⟩
    rw [I_lt (by omega) (by omega) (by omega) (by omega)] at c; omega
  | succ n ih =>
    intro i s M d6 hi h hl ho hq
    have tb := tyB_lt v i
    unfold tyR at hl hq ho
    rw [nzL_cons] at hl hq ho
    have ec : Int64.toInt32 (lushr v (I (56 - 8 * (i : Int)))) &&& I 255 = I (tyB v i : Int) := tyC_I v i
    have hs := h.1
    have ts := h.2.1
    have sl := ts.2.1
    refine w120_10 ⟨fun c => ?_, fun _ => ⟨fun c => ?_, fun c => ?_⟩⟩
    · rw [I_lt (by omega) (by omega) (by omega) (by omega)] at c; omega
    · rw [ec, I_eq (by omega) (by omega) (by omega) (by omega)] at c
      rw [if_pos (by omega)] at hl hq ho
      rw [sh_next]
      exact ih (i + 1) s M _ (by omega) h hl ho hq
    · rw [ec, I_eq (by omega) (by omega) (by omega) (by omega)] at c
      rw [if_neg (by omega)] at hl hq ho
      simp only [List.length_cons] at hl
      refine ⟨hs.k0, hs.n3, by rw [hs.f3]; exact hs.k1, by rw [hs.f3, hs.l1, ts.1]; exact I_in (by omega) (by omega) (by omega), fun M3 q3 M4 q4 => ?_⟩
      rw [hs.f3, ts.1, I_ntn (by omega), ec, I_i2c (by omega) (by omega), I_cN (by omega) (by omega)] at q3
      have e2 : mi M3 m 2 = I s.length := by rw [q3, i_ia (by omega)]; exact ts.1
      rw [e2, I_add] at q4
      have f3 : fm m [1] M M3 := fm_i (a := 1) q3 (by omega) rfl
      have f4 : fm m [102] M3 M4 := fm_o q4 (by decide)
      have fa : fm m [1, 102] M M4 := (f3.w (by decide)).trans (f4.w (by decide))
      have nb := ho (tyB v i) List.mem_cons_self
      obtain ⟨a1, a2, a3, a4, a5, a6, a7, a8, a9, a10⟩ := h
      have t4 : mdT M4 m (s ++ [tyB v i]) := by
        refine ⟨by rw [q4, i_is, List.length_append]; rfl, by rw [List.length_append]; simp only [List.length_cons, List.length_nil]; omega, fun k hk => ?_, fun x hx => ?_⟩
        · rw [List.length_append] at hk
          simp only [List.length_cons, List.length_nil] at hk
          rw [q4, i_ia (by omega), q3, i_i]
          by_cases z : k = s.length
          · rw [if_pos ⟨rfl, z⟩, z, List.getD_eq_getElem?_getD, List.getElem?_append_right (Nat.le_refl _), Nat.sub_self]; rfl
          · rw [if_neg (fun y => z y.2), a2.2.2.1 k (by omega), List.getD_eq_getElem?_getD (l := s ++ _), List.getElem?_append_left (by omega), ← List.getD_eq_getElem?_getD]
        · rcases List.mem_append.mp hx with y | y
          · exact a2.2.2.2 x y
          · rw [List.mem_singleton] at y; rw [y]; exact nb
      have h4 : moI M4 m (s ++ [tyB v i]) vs po fl st o pl 0 := ⟨a1.mv fa.1, t4, a3.mv fa (by decide), a4.mv fa (by decide), a5.mv fa (by decide), by rw [fa.2.2 18 0 (by omega) (by decide)]; exact a6, a7.mv fa (by decide), a8, by rw [fa.fld (by decide)]; exact a9, by rw [fa.fld (by decide)]; exact a10⟩
      rw [sh_next]
      refine ih (i + 1) _ M4 _ (by omega) h4 (by rw [List.length_append, List.length_singleton]; omega) (fun x hx => ho x (List.mem_cons_of_mem _ hx)) (fun M' a b => hq M' ?_ (fa.fo.trans b))
      rw [List.append_assoc] at a; exact a
theorem m_type1 {v : Int64} (h : moI M m s vs po fl st o pl 0) (hq : ∀ M', moI M' m (tyS s v).2 vs po fl st o pl 0 → fo m M M' → Q (.inl (some (.int (I (bI (tyS s v).1))))) M') (n : Nat) : ∀ (i c : Nat) (gd : Bool) (d6 : Option Value), i + n = 8 → c ≤ i → (tyR v 8 0).all okTyB = (gd && (tyR v n i).all okTyB) → (nzL (tyR v 8 0)).length = c + (nzL (tyR v n i)).length →
    mX E 120 1 [some (.ref m), some (.long v), none, some (.int (I c)), some (.int (I (bI gd))), some (.int (I (56 - 8 * (i : Int)))), d6] [] M Q := by
  have hs := h.1
  have sl := h.2.1.2.1
  induction n with
  | zero =>
    intro i c gd d6 hi hc ha hl
    have ha' : (tyR v 8 0).all okTyB = gd := by rw [ha]; exact Bool.and_true _
    have hl' : (nzL (tyR v 8 0)).length = c := hl
    unfold tyS at hq
    refine w120_1 ⟨fun _ => ⟨fun g0 => ?_, fun g0 => ⟨hs.k0, fun z => ?_, fun z => ?_⟩⟩, fun z => ?_⟩
    · rw [bI_0] at g0
      rw [if_neg (fun y => by rw [ha', g0] at y; exact absurd y.1 (by decide))] at hq
      exact hq M h (fo.refl _ _)
    · rw [bI_0, Bool.not_eq_false] at g0
      rw [h.2.1.1, I_add, I_le (by omega) (by omega) (by omega) (by omega)] at z
      have yes : (tyR v 8 0).all okTyB = true ∧ s.length + (nzL (tyR v 8 0)).length ≤ 240 := ⟨by rw [ha', g0], by omega⟩
      rw [if_pos yes] at hq
      exact m_type10 8 0 s M _ rfl h yes.2 (tyR_ok 8 0 yes.1) (fun M' a b => hq M' a b)
    · rw [h.2.1.1, I_add, I_le (by omega) (by omega) (by omega) (by omega)] at z
      rw [if_neg (fun y => by omega)] at hq
      exact hq M h (fo.refl _ _)
    · rw [I_lt (by omega) (by omega) (by omega) (by omega)] at z; omega
  | succ n ih =>
    intro i c gd d6 hi hc ha hl
    have tb := tyB_lt v i
    have ec : Int64.toInt32 (lushr v (I (56 - 8 * (i : Int)))) &&& I 255 = I (tyB v i : Int) := tyC_I v i
    have ha2 : (tyR v 8 0).all okTyB = (gd && (okTyB (tyB v i) && (tyR v n (i + 1)).all okTyB)) := ha
    have hl2 : (nzL (tyR v 8 0)).length = c + (nzL (tyB v i :: tyR v n (i + 1))).length := hl
    rw [nzL_cons] at hl2
    rw [← Bool.and_assoc] at ha2
    have four : ∀ g' : Bool, g' = (gd && okTyB (tyB v i)) → mX E 120 4 [some (.ref m), some (.long v), none, some (.int (I c)), some (.int (I (bI gd))), some (.int (I (56 - 8 * (i : Int)))), some (.int (I (tyB v i : Int)))] [.int (I (bI g'))] M Q := by
      intro g' hg
      rw [← hg] at ha2
      refine w120_4 ⟨fun z => ?_, fun z => ?_⟩
      · rw [I_eq (by omega) (by omega) (by omega) (by omega)] at z
        rw [if_neg (by omega), List.length_cons] at hl2
        rw [I_add, sh_next]
        exact ih (i + 1) (c + 1) g' _ (by omega) (by omega) ha2 (by omega)
      · rw [I_eq (by omega) (by omega) (by omega) (by omega)] at z
        rw [if_pos (by omega)] at hl2
        rw [sh_next]
        exact ih (i + 1) c g' _ (by omega) (by omega) ha2 hl2
    have yes : gd = true → okTy (tyB v i) → mX E 120 2 [some (.ref m), some (.long v), none, some (.int (I c)), some (.int (I (bI gd))), some (.int (I (56 - 8 * (i : Int)))), some (.int (I (tyB v i : Int)))] [] M Q := fun g1 g2 => w120_2 (four true (by rw [g1, okTyB_iff.mpr g2]; rfl))
    have no : gd = false ∨ ¬ okTy (tyB v i) → mX E 120 3 [some (.ref m), some (.long v), none, some (.int (I c)), some (.int (I (bI gd))), some (.int (I (56 - 8 * (i : Int)))), some (.int (I (tyB v i : Int)))] [] M Q := by
      intro g
      refine w120_3 (four false ?_)
      rcases g with g | g
      · rw [g]; rfl
      · cases z : okTyB (tyB v i) with
        | false => rw [Bool.and_false]
        | true => exact absurd (okTyB_iff.mp z) g
    refine w120_1 ⟨fun z => ?_, fun _ => ?_⟩
    · rw [I_lt (by omega) (by omega) (by omega) (by omega)] at z; omega
    · rw [ec]
      unfold okTy at yes no
      refine ⟨fun g0 => no (Or.inl ?_), fun g0 => ?_⟩
      · rw [bI_0] at g0; exact g0
      · rw [bI_0, Bool.not_eq_false] at g0
        refine ⟨fun z => yes g0 ?_, fun z0 => ⟨fun z => yes g0 ?_, fun z1 => ⟨fun z => no (Or.inr ?_), fun z2 => ⟨fun z => no (Or.inr ?_), fun z => yes g0 ?_⟩⟩⟩⟩
        · rw [I_eq (by omega) (by omega) (by omega) (by omega)] at z; omega
        · rw [I_eq (by omega) (by omega) (by omega) (by omega)] at z; omega
        · rw [I_eq (by omega) (by omega) (by omega) (by omega)] at z0 z1; rw [I_lt (by omega) (by omega) (by omega) (by omega)] at z; omega
        · rw [I_eq (by omega) (by omega) (by omega) (by omega)] at z0 z1; rw [I_lt (by omega) (by omega) (by omega) (by omega)] at z2 z; omega
        · rw [I_eq (by omega) (by omega) (by omega) (by omega)] at z0 z1; rw [I_lt (by omega) (by omega) (by omega) (by omega)] at z2 z; omega
theorem m_type {v : Int64} (h : moI M m s vs po fl st o pl th) (hq : ∀ M', moI M' m (tyS s v).2 vs po fl st o pl 0 → fo m M M' → Q (.inl (some (.int (I (bI (tyS s v).1))))) M') : mC E 120 [.ref m, .long v] M Q := by
  refine w120_0 ⟨h.1.k0, fun M1 q1 => ?_⟩
  have z := h.z q1
  exact m_type1 z.1 (fun M' a b => hq M' a (z.2.trans b)) 8 0 0 true none rfl (by omega) (by rw [Bool.true_and]) (by omega)
end MFACE
