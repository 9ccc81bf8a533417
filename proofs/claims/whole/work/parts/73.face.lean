/-! THE CLASS'S PUBLIC METHODS -/
def okSc (s : List Nat) : Prop := ∀ c ∈ s, 0 < c ∧ c < 128
/-- the class between two calls: script, variables, positions, files, status, output, place -/
def clI (b : Nat) (M : mM) (s : List Nat) (vs : eL) (po : List (List Nat)) (fl : eL) (st : Nat) (o : List Nat) (pl : Nat) : Prop := ∃ R : RT, RX b M R ∧ (R 0).2.2.1 = s ∧ (∃ (p aw jn rd : Nat) (ws : Bool), R 2 = vI [(pl : Int), (p : Int), (aw : Int), (jn : Int), (rd : Int), bI ws]) ∧ keptS R vs po fl st o ∧ okSc s ∧ okE vs ∧ okL po ∧ okN fl ∧ st ≤ 255
theorem okSc.ok1 {s : List Nat} (h : okSc s) : ok1 s := fun c hc => (h c hc).2
/-- a text's character, 0 where there is none -/
def chZ (s : List Nat) (k : Int) : Nat := if 0 ≤ k then s.getD k.toNat 0 else 0
section FACE
variable {E : mE} {M : mM} {Q : mQ} {b : Nat} {s : List Nat} {vs fl : eL} {po : List (List Nat)} {st pl : Nat} {o : List Nat}
theorem x_run (h : clI b M s vs po fl st o pl)
    (hq : ∀ rd ws p' g' G, yR s 240 0 (0, 0, rd, ws, [], [], []) = .inl (p', g') → cmds s g'.2.2.2.2.2.2 g'.2.2.2.2.2.1 g'.2.2.2.2.1 g'.2.2.2.2.1.length 0 ((vs, po, fl, st, []), (false, false, 0), []) = some G → ∀ M', clI b M' s G.1.1 G.1.2.1 G.1.2.2.1 G.1.2.2.2.1 G.1.2.2.2.2 pl → fr M M' b (b + 369) → Q (.inl (some (.int (I G.1.2.2.2.1)))) M')
    (ht : ∀ rd ws p' g', yR s 240 0 (0, 0, rd, ws, [], [], []) = .inl (p', g') → cmds s g'.2.2.2.2.2.2 g'.2.2.2.2.2.1 g'.2.2.2.2.1 g'.2.2.2.2.1.length 0 ((vs, po, fl, st, []), (false, false, 0), []) = none → ∀ M', clI b M' s vs po fl st o pl → fr M M' b (b + 369) → mTh E 91 M' Q)
    (hb : ∀ rd ws e, yR s 240 0 (0, 0, rd, ws, [], [], []) = .inr e → ∀ M', clI b M' s vs po fl st o e → fr M M' b (b + 369) → mTh E 90 M' Q) : mC E 5 [.ref b] M Q := by
  obtain ⟨R, h, h0, ⟨p, aw, jn, rd, ws, h2⟩, hk, hsc, hv, hp, hn, hst⟩ := h
  have y := h.toY h0 h2
  refine w5_0 ⟨h.k1, nz h.f1_1 h.1, by rw [h.f1_1]; exact h.k2, ?_⟩
  rw [h.f1_1]
  refine y_read y (fun p' g' e M1 k1 f1 => ?_) (fun e ee => ?_)
  · obtain ⟨aw', jn', rd', ws', cs, is, ps⟩ := g'
    have hyi0 : yI s 0 (0, 0, rd, ws, [], [], []) := ⟨Nat.zero_le _, Nat.le_refl _, Nat.le_refl _, Nat.le_refl _, fun r hr => absurd hr List.not_mem_nil, fun q => by simp only at q; omega, by simp, by simp, fun z => absurd z (by simp)⟩
    obtain ⟨fj, q, hyq⟩ := yR_j s 240 0 (0, 0, rd, ws, [], [], []) p' _ hyi0 ⟨fun _ => rfl, rfl⟩ e
    have k1' : sy b M1 s pl p' aw' jn' rd' ws' cs is ps := k1
    have h1 := h.setY k1' f1
    have a1 := upY_ag R pl p' aw' jn' rd' ws' cs is ps
    have pf : pip cs 0 = false := by
      unfold pip
      have z : (cs.getD 0 []).getD 0 0 = 0 := fj.2
      rw [z]; rfl
    refine ⟨h1.1.k1, nz h1.1.f1_3 h.1, nz h1.1.f1_2 h.1, by rw [h1.1.f1_3]; exact h1.1.k11, ?_⟩
    rw [h1.1.f1_3, h1.1.f1_2]
    refine n_begin h1.1 (fun M2 R2 h2' a2 e13 e14 e15 e12 e16 e11 f2 => ?_)
    obtain ⟨x0, x2, e11⟩ := e11
    have A2 : ∀ j, j < 11 → R2 j = upY R pl p' aw' jn' rd' ws' cs is ps j := a2.lo (by decide)
    have f12 := h1.2.then f2
    show mX E 5 1 _ [] M2 Q
    have cl2 : ∀ (M' : mM) (R' : RT), RX b M' R' → (∀ j, j < 11 → R' j = R2 j) → clI b M' s vs po fl st o pl := by
      intro M' R' g1 g2
      have g3 : ∀ j, j < 11 → R' j = upY R pl p' aw' jn' rd' ws' cs is ps j := fun j hj => (g2 j hj).trans (A2 j hj)
      refine ⟨R', g1, ?_, ⟨p', aw', jn', rd', ws', ?_⟩, ?_, hsc, hv, hp, hn, hst⟩
      · rw [g3 0 (by omega), a1 0 (by decide)]; exact h0
      · rw [g3 2 (by omega)]; rfl
      · unfold keptS
        rw [g3 6 (by omega), g3 7 (by omega), g3 8 (by omega), g3 9 (by omega), g3 10 (by omega), a1 6 (by decide), a1 7 (by decide), a1 8 (by decide), a1 9 (by decide), a1 10 (by decide)]; exact hk
    obtain ⟨k7, k8, k9, k6, k10⟩ := hk
    refine x_cmds (cs := cs) (is := is) (ps := ps) (s := s) hsc.ok1 cs.length 0 ((vs, po, fl, st, []), (false, false, 0), []) x0 x2 M2 R2 rfl (Nat.zero_le _) h2' (by rw [A2 0 (by omega), a1 0 (by decide)]; exact h0) (by rw [A2 3 (by omega)]; rfl) (by rw [A2 4 (by omega)]; rfl) (by rw [A2 5 (by omega)]; rfl) (by rw [e13, a1 7 (by decide)]; exact k7) (by rw [e14, a1 8 (by decide)]; exact k8) (by rw [e15, a1 9 (by decide)]; exact k9) (by rw [e12, a1 6 (by decide), k6]; rfl) e16 e11 (fun z => absurd (z.symm.trans pf) (by decide)) ⟨hv, hp, hn, hst⟩ (fun G eG M' R' j1 j2 j3 j4 j5 => ?_) (fun eG M' R' j1 j2 j3 => ?_)
    · refine hq rd ws p' _ G e eG M' ⟨R', j1, ?_, ⟨p', aw', jn', rd', ws', ?_⟩, j3, hsc, j4.1, j4.2.1, j4.2.2.1, j4.2.2.2⟩ (f12.then j5)
      · rw [j2 0 (by omega), A2 0 (by omega), a1 0 (by decide)]; exact h0
      · rw [j2 2 (by omega), A2 2 (by omega)]; rfl
    · exact ht rd ws p' _ e eG M' (cl2 M' R' j1 j2) (f12.then j3)
  · intro M' p' aw' jn' rd' ws' cs is ps k1 f1
    have h1 := h.setY k1 f1
    have a1 := upY_ag R e p' aw' jn' rd' ws' cs is ps
    refine hb rd ws e ee M' ⟨_, h1.1, ?_, ⟨p', aw', jn', rd', ws', rfl⟩, ?_, hsc, hv, hp, hn, hst⟩ h1.2
    · rw [a1 0 (by decide)]; exact h0
    · unfold keptS
      rw [a1 6 (by decide), a1 7 (by decide), a1 8 (by decide), a1 9 (by decide), a1 10 (by decide)]; exact hk
theorem clI.chg {R : RT} (h : RX b M R) (h0 : (R 0).2.2.1 = s) {p aw jn rd : Nat} {ws : Bool} (h2 : R 2 = vI [(pl : Int), (p : Int), (aw : Int), (jn : Int), (rd : Int), bI ws]) (hk : keptS R vs po fl st o) (hv : okE vs) (hp : okL po) (hn : okN fl) (hst : st ≤ 255) {M' : mM} {s' : List Nat} (t : tX M' (b + 1) 240 s') (f : fr M M' (b + 1) (b + 1 + 2)) (hs : okSc s') : clI b M' s' vs po fl st o pl ∧ fr M M' b (b + 369) := by
  have h1 := h.u0 t f
  refine ⟨⟨_, h1.1, rfl, ⟨p, aw, jn, rd, ws, ?_⟩, ?_, hs, hv, hp, hn, hst⟩, h1.2⟩
  · rw [up_n (by decide)]; exact h2
  · unfold keptS
    rw [up_n (by decide), up_n (by decide), up_n (by decide), up_n (by decide), up_n (by decide)]; exact hk
theorem x_wipe (h : clI b M s vs po fl st o pl) (hq : ∀ M', clI b M' [] vs po fl st o pl → fr M M' b (b + 369) → Q (.inl none) M') : mC E 4 [.ref b] M Q := by
  obtain ⟨R, h, h0, ⟨p, aw, jn, rd, ws, h2⟩, hk, hsc, hv, hp, hn, hst⟩ := h
  refine w4_0 ⟨h.k1, nz h.f1_0 h.1, by rw [h.f1_0]; exact h.c0.1, fun M1 q1 => ?_⟩
  rw [h.f1_0] at q1
  have k1 := h.c0.clr q1
  have z := clI.chg h h0 h2 hk hv hp hn hst k1.1 k1.2 (fun c hc => absurd hc List.not_mem_nil)
  exact hq M1 z.1 z.2
theorem x_place (h : clI b M s vs po fl st o pl) (hq : Q (.inl (some (.int (I pl)))) M) : mC E 6 [.ref b] M Q := by
  obtain ⟨R, h, h0, ⟨p, aw, jn, rd, ws, h2⟩, hk, hsc, hv, hp, hn, hst⟩ := h
  refine w6_0 ⟨h.k1, nz h.f1_1 h.1, by rw [h.f1_1]; exact h.k2, ?_⟩
  have z := h.i2_3
  rw [h2] at z
  rw [h.f1_1, z]; exact hq
theorem t_ch {a cap : Nat} {u : List Nat} {k : Int} (t : tX M a cap u) (h1 : -2147483648 ≤ k) (h2 : k < 2147483648) (hq : Q (.inl (some (.int (I (chZ u k : Nat))))) M) : mC E 15 [.ref a, .int (I k)] M (kI Q fun x M1 => narrow .char (.int x) = .int x ∧ Q (.inl (some (.int x))) M1) := by
  refine t_at t h1 h2 ?_
  have z : (if 0 ≤ k then u.getD k.toNat 0 else 0) < 65536 := by
    split
    · exact t.ch _
    · omega
  exact ⟨I_nar (by omega) (by omega), hq⟩
theorem x_output {k : Int} (h : clI b M s vs po fl st o pl) (h1 : -2147483648 ≤ k) (h2 : k < 2147483648) (hq : Q (.inl (some (.int (I (chZ o k : Nat))))) M) : mC E 7 [.ref b, .int (I k)] M Q := by
  obtain ⟨R, h, h0, -, hk, hsc, hv, hp, hn, hst⟩ := h
  have t := h.c10
  rw [hk.2.2.2.2] at t
  refine w7_0 ⟨h.k1, nz h.f1_2 h.1, by rw [h.f1_2]; exact h.k6, nz2 h.f1_2 h.f6_3 h.1, by rw [h.f1_2, h.f6_3]; exact t.1, ?_⟩
  rw [h.f1_2, h.f6_3]
  exact t_ch t h1 h2 hq
theorem x_value {i k : Int} (h : clI b M s vs po fl st o pl) (i1 : -2147483648 ≤ i) (i2 : i < 2147483648) (h1 : -2147483648 ≤ k) (h2 : k < 2147483648) (hq : Q (.inl (some (.int (I (chZ (txL vs i) k : Nat))))) M) : mC E 9 [.ref b, .int (I i), .int (I k)] M Q := by
  obtain ⟨R, h, h0, -, hk, hsc, hv, hp, hn, hst⟩ := h
  have t := h.g7 hk.1
  refine w9_0 ⟨h.k1, nz h.f1_2 h.1, by rw [h.f1_2]; exact h.k6, nz2 h.f1_2 h.f6_0 h.1, by rw [h.f1_2, h.f6_0]; exact t.1.1, ?_⟩
  rw [h.f1_2, h.f6_0]
  exact tb_textAt t i1 i2 (fun p cap' tp p1 p2 p3 _ => ⟨tp.1, t_ch tp h1 h2 hq⟩)
theorem x_content {i k : Int} (h : clI b M s vs po fl st o pl) (i1 : -2147483648 ≤ i) (i2 : i < 2147483648) (h1 : -2147483648 ≤ k) (h2 : k < 2147483648) (hq : Q (.inl (some (.int (I (chZ (txL fl i) k : Nat))))) M) : mC E 11 [.ref b, .int (I i), .int (I k)] M Q := by
  obtain ⟨R, h, h0, -, hk, hsc, hv, hp, hn, hst⟩ := h
  have t := h.g9 hk.2.2.1
  refine w11_0 ⟨h.k1, nz h.f1_2 h.1, by rw [h.f1_2]; exact h.k6, nz2 h.f1_2 h.f6_2 h.1, by rw [h.f1_2, h.f6_2]; exact t.1.1, ?_⟩
  rw [h.f1_2, h.f6_2]
  exact tb_textAt t i1 i2 (fun p cap' tp p1 p2 p3 _ => ⟨tp.1, t_ch tp h1 h2 hq⟩)
theorem x_name {f : Bool} {i k : Int} (h : clI b M s vs po fl st o pl) (i1 : -2147483648 ≤ i) (i2 : i < 2147483648) (h1 : -2147483648 ≤ k) (h2 : k < 2147483648) (hq : Q (.inl (some (.int (I (chZ (nmL (if f = true then fl else vs) i) k : Nat))))) M) : mC E 12 [.ref b, .int (I (bI f)), .int (I i), .int (I k)] M Q := by
  obtain ⟨R, h, h0, -, hk, hsc, hv, hp, hn, hst⟩ := h
  have t7 := h.g7 hk.1
  have t9 := h.g9 hk.2.2.1
  refine w12_0 ⟨fun c => ⟨h.k1, nz h.f1_2 h.1, by rw [h.f1_2]; exact h.k6, nz2 h.f1_2 h.f6_0 h.1, ?_⟩, fun c => ⟨h.k1, nz h.f1_2 h.1, by rw [h.f1_2]; exact h.k6, nz2 h.f1_2 h.f6_2 h.1, ?_⟩⟩
  · rw [bI_0] at c
    rw [if_neg (by rw [c]; decide)] at hq
    rw [h.f1_2, h.f6_0]
    exact w12_2 ⟨t7.1.1, tb_nameAt t7 i1 i2 (fun p cap' tp p1 p2 p3 => ⟨tp.1, t_ch tp h1 h2 hq⟩)⟩
  · rw [bI_0] at c
    rw [if_pos (by cases f with | true => rfl | false => exact absurd rfl c)] at hq
    rw [h.f1_2, h.f6_2]
    exact w12_2 ⟨t9.1.1, tb_nameAt t9 i1 i2 (fun p cap' tp p1 p2 p3 => ⟨tp.1, t_ch tp h1 h2 hq⟩)⟩
/-- position i, for any int i: i - 1 goes round -/
def posZ (po : List (List Nat)) (i : Int) : List Nat := if 1 ≤ i then atL po (i - 1) else []
theorem x_position {i k : Int} (h : clI b M s vs po fl st o pl) (i1 : -2147483648 ≤ i) (i2 : i < 2147483648) (h1 : -2147483648 ≤ k) (h2 : k < 2147483648) (hq : Q (.inl (some (.int (I (chZ (posZ po i) k : Nat))))) M) : mC E 10 [.ref b, .int (I i), .int (I k)] M Q := by
  obtain ⟨R, h, h0, -, hk, hsc, hv, hp, hn, hst⟩ := h
  have t := h.g8 hk.2.1
  have tl := t.len
  refine w10_0 ⟨h.k1, nz h.f1_2 h.1, by rw [h.f1_2]; exact h.k6, nz2 h.f1_2 h.f6_1 h.1, by rw [h.f1_2, h.f6_1]; exact t.1.1, ?_⟩
  rw [h.f1_2, h.f6_1]
  unfold posZ at hq
  by_cases q : i = -2147483648
  · subst q
    have e : I (-2147483648) - I 1 = I 2147483647 := by decide
    rw [e]
    rw [if_neg (by omega)] at hq
    refine r_at t (by omega) (by omega) (fun p cap' tp p1 p2 p3 => ⟨tp.1, t_ch tp h1 h2 ?_⟩)
    have z : atL po 2147483647 = [] := by
      unfold atL; rw [if_pos (by omega), List.getD_eq_getElem?_getD, List.getElem?_eq_none (by omega)]; rfl
    rw [z]; exact hq
  · rw [I_sub]
    refine r_at t (by omega) (by omega) (fun p cap' tp p1 p2 p3 => ⟨tp.1, t_ch tp h1 h2 ?_⟩)
    by_cases q1 : 1 ≤ i
    · rw [if_pos q1] at hq; exact hq
    · rw [if_neg q1] at hq
      have z : atL po (i - 1) = [] := by unfold atL; rw [if_neg (by omega)]
      rw [z]; exact hq
def cntZ (w : Int) (vs : eL) (po : List (List Nat)) (fl : eL) (st : Nat) (o : List Nat) : Int := if w = 0 then vs.length else if w = 1 then po.length else if w = 2 then fl.length else if w = 3 then st else if w = 4 then o.length else -1
theorem x_count {w : Int} (h : clI b M s vs po fl st o pl) (i1 : -2147483648 ≤ w) (i2 : w < 2147483648) (hq : Q (.inl (some (.int (I (cntZ w vs po fl st o))))) M) : mC E 8 [.ref b, .int (I w)] M Q := by
  obtain ⟨R, h, h0, -, hk, hsc, hv, hp, hn, hst⟩ := h
  obtain ⟨k7, k8, k9, k6, k10⟩ := hk
  refine w8_0 ?_
  rw [I_toInt i1 i2]
  unfold cntZ at hq
  have st' : mi M (b + 10) 4 = I (st : Int) := by have z := h.i6_4; rw [k6] at z; exact z
  by_cases q0 : w = 0
  · subst q0
    have t := h.g7 k7
    refine w8_1 ⟨h.k1, nz h.f1_2 h.1, by rw [h.f1_2]; exact h.k6, nz2 h.f1_2 h.f6_0 h.1, by rw [h.f1_2, h.f6_0]; exact t.1.1, ?_⟩
    rw [h.f1_2, h.f6_0, t.2.1]; exact hq
  by_cases q1 : w = 1
  · subst q1
    have t := h.g8 k8
    refine w8_2 ⟨h.k1, nz h.f1_2 h.1, by rw [h.f1_2]; exact h.k6, nz2 h.f1_2 h.f6_1 h.1, by rw [h.f1_2, h.f6_1]; exact t.1.1, ?_⟩
    rw [h.f1_2, h.f6_1, t.2.1]; exact hq
  by_cases q2 : w = 2
  · subst q2
    have t := h.g9 k9
    refine w8_3 ⟨h.k1, nz h.f1_2 h.1, by rw [h.f1_2]; exact h.k6, nz2 h.f1_2 h.f6_2 h.1, by rw [h.f1_2, h.f6_2]; exact t.1.1, ?_⟩
    rw [h.f1_2, h.f6_2, t.2.1]; exact hq
  by_cases q3 : w = 3
  · subst q3
    refine w8_4 ⟨h.k1, nz h.f1_2 h.1, by rw [h.f1_2]; exact h.k6, ?_⟩
    rw [h.f1_2, st']; exact hq
  by_cases q4 : w = 4
  · subst q4
    have t := h.c10
    rw [k10] at t
    refine w8_5 ⟨h.k1, nz h.f1_2 h.1, by rw [h.f1_2]; exact h.k6, nz2 h.f1_2 h.f6_3 h.1, by rw [h.f1_2, h.f6_3]; exact t.1, ?_⟩
    rw [h.f1_2, h.f6_3, t.2.2.2.2.1]; exact hq
  rw [if_neg q0, if_neg q1, if_neg q2, if_neg q3, if_neg q4] at hq
  have e : m_tab 0 4 w [6, 1, 2, 3, 4, 5] = 6 := by
    unfold m_tab; rw [if_pos (by omega)]; rfl
  rw [e]
  exact w8_6 hq
end FACE
