/-! THE REFERENCE: pipelines -/
section PIPP
variable {s : List Nat} {T : List tkn} {cs is ps : List (List Nat)}
theorem ex_sk (n : Nat) : ∀ (t : Nat), n = T.length - t → t ≤ T.length → ∃ q, t ≤ q ∧ q ≤ T.length ∧ (∀ i, t ≤ i → i < q → (tkD T i).1 = 5) ∧ (q < T.length → ¬ (tkD T q).1 = 5) := by
  induction n with
  | zero =>
    intro t hn ht
    exact ⟨t, Nat.le_refl _, ht, fun i h1 h2 => by omega, fun z => by omega⟩
  | succ n ih =>
    intro t hn ht
    by_cases k : (tkD T t).1 = 5
    · obtain ⟨q, h1, h2, h3, h4⟩ := ih (t + 1) (by omega) (by omega)
      refine ⟨q, by omega, h2, fun i i1 i2 => ?_, h4⟩
      by_cases z : i = t
      · rw [z]; exact k
      · exact h3 i (by omega) i2
    · exact ⟨t, Nat.le_refl _, ht, fun i h1 h2 => by omega, fun _ => k⟩
/-- the next command's join -/
theorem enc_jn {t aw jn rd : Nat} {ws : Bool} {c it : Nat} (ht : t ≤ T.length) (ha : aw ≤ 1) (h : enc s cs is ps (T.drop t) aw jn rd ws c it) : (c < cs.length ∧ (cs.getD c []).getD 0 0 = jn) ∨ (c = cs.length ∧ aw = 0) := by
  obtain ⟨q, h1, h2, h3, h4⟩ := ex_sk _ t rfl ht
  have hq := enc_nl _ t q aw jn rd ws c it rfl h1 h2 h3 ha h
  by_cases z : q < T.length
  · have := enc_cmd z ha (h4 z) hq
    exact Or.inl ⟨this.1, this.2.1⟩
  · have := enc_nil (by omega) hq
    exact Or.inr ⟨this.2.1, by omega⟩
theorem pip_out {c : Nat} (h : cs.length ≤ c) : pip cs c = false := by
  have : cs.getD c [] = [] := by rw [List.getD_eq_getElem?_getD, List.getElem?_eq_none h]; rfl
  unfold pip
  rw [this]; rfl
theorem pip_3 {c : Nat} : pip cs c = true ↔ (cs.getD c []).getD 0 0 = 3 := by
  unfold pip; exact ⟨fun h => Nat.eq_of_beq_eq_true h, fun h => by rw [h]; rfl⟩
theorem cmds_add {n : Nat} : ∀ (K c : Nat) (g : gS), cmds s ps is cs (K + n) c g = (cmds s ps is cs K c g).bind (cmds s ps is cs n (c + K))
  | 0, c, g => by rw [Nat.zero_add]; rfl
  | K + 1, c, g => by
    rw [show K + 1 + n = (K + n) + 1 by omega]
    unfold cmds
    cases cmd1 s ps is cs c g with
    | none => rfl
    | some g1 =>
      show cmds s ps is cs (K + n) (c + 1) g1 = _
      rw [cmds_add K (c + 1) g1, show c + 1 + K = c + (K + 1) by omega]; rfl
/-- when a command has ended it all, nothing more is done -/
theorem cmds_end : ∀ (n c : Nat) (g : gS), g.2.1.2.1 = true → ∃ G, cmds s ps is cs n c g = some G ∧ G.1 = g.1
  | 0, c, g, _ => ⟨g, rfl, rfl⟩
  | n + 1, c, g, h => by
    unfold cmds
    have e : ∃ g1, cmd1 s ps is cs c g = some g1 ∧ g1.1 = g.1 ∧ g1.2.1.2.1 = true := by
      unfold cmd1 cmdX
      rw [if_neg (by rw [h]; simp)]
      exact ⟨_, rfl, rfl, h⟩
    obtain ⟨g1, e1, e2, e3⟩ := e
    rw [e1]
    obtain ⟨G, a, b⟩ := cmds_end n (c + 1) g1 e3
    exact ⟨G, a, b.trans e2⟩
/-- commands of a pipeline that is not run -/
theorem cmds_no : ∀ (n c : Nat) (g : gS), g.2.1.2.1 = false → g.2.1.1 = false → (∀ j, j < n → pip cs (c + j) = true) → ∃ G, cmds s ps is cs n c g = some G ∧ G.1 = g.1 ∧ G.2.1.2.1 = false
  | 0, c, g, h, _, _ => ⟨g, rfl, rfl, h⟩
  | n + 1, c, g, h, hd, hp => by
    unfold cmds
    have e : ∃ g1, cmd1 s ps is cs c g = some g1 ∧ g1.1 = g.1 ∧ g1.2.1.2.1 = false ∧ g1.2.1.1 = false := by
      unfold cmd1 cmdX
      have p0 := hp 0 (by omega)
      rw [Nat.add_zero] at p0
      rw [if_pos p0, if_neg (by rw [hd]; simp)]
      exact ⟨_, rfl, rfl, h, hd⟩
    obtain ⟨g1, e1, e2, e3, e4⟩ := e
    rw [e1]
    obtain ⟨G, a, b, c'⟩ := cmds_no n (c + 1) g1 e3 e4 (fun j hj => by rw [show c + 1 + j = c + (j + 1) by omega]; exact hp (j + 1) (by omega))
    exact ⟨G, a, b.trans e2, c'⟩
/-- more than six -/
theorem cmds_6 : ∀ (n c i : Nat) (g : gS), g.2.1 = (true, false, i) → 1 ≤ i → 6 < i + n → i ≤ 6 → (∀ j, j < n → pip cs (c + j) = true) → cmds s ps is cs n c g = none
  | 0, c, i, g, _, _, h6, h, _ => by omega
  | n + 1, c, i, g, hg, h1, h6, h, hp => by
    unfold cmds
    have p0 := hp 0 (by omega)
    rw [Nat.add_zero] at p0
    have e : cmd1 s ps is cs c g = cmdX s ps is cs c g true i := by
      unfold cmd1; rw [if_pos p0, if_pos p0, hg]
    rw [e]
    unfold cmdX
    rw [hg, if_pos (show (true && !(true, false, i).2.1) = true from rfl)]
    by_cases i6 : i < 6
    · rw [if_pos i6]
      have al : alo cs c = false := by unfold alo; rw [p0]; rfl
      cases rcS s ps is (cs.getD c []) g.1.1 g.1.2.1 g.1.2.2.1 g.1.2.2.2.1 (if 0 < i then g.2.2 else []) with
      | none => rfl
      | some r =>
        have p1 := hp 1 (by omega)
        show Option.bind (if pip cs (c + 1) = true then _ else _) _ = none
        rw [if_pos p1]
        refine cmds_6 n (c + 1) (i + 1) _ ?_ (by omega) (by omega) (by omega) (fun j hj => by rw [show c + 1 + j = c + (j + 1) by omega]; exact hp (j + 1) (by omega))
        show (true, r.2.2 && alo cs c, i + 1) = (true, false, i + 1)
        rw [al, Bool.and_false]
    · rw [if_neg i6]; rfl
end PIPP
section MPIP
variable {E : mE} {M M' : mM} {Q : mQ} {m : Nat} {s : List Nat} {T : List tkn} {cs is ps : List (List Nat)} {vs fl : eL} {po : List (List Nat)} {stt : Nat}
/-- the output grows -/
theorem m_outs {v1 v2 v3 v4 : Int32} {d6 d7 : Option Value} {u o : List Nat} (n : Nat) : ∀ (j : Nat) (M : mM), n = u.length - j → j ≤ u.length → mS M m → inX M m u → ouX M m 1 (o ++ u.take j) → mi M m 25 = I 0 →
    ((o ++ u).length ≤ 240 → ∀ M', ouX M' m 1 (o ++ u) → mi M' m 25 = I 0 → fm m [51, 125] M M' → Q (.inl none) M') →
    (¬ (o ++ u).length ≤ 240 → ∀ M', mi M' m 25 = I 1 → fm m [51, 125] M M' → Q (.inl none) M') →
    mX E 188 10 [some (.ref m), some (.int v1), some (.int v2), some (.int v3), some (.int v4), some (.int (I j)), d6, d7] [] M Q := by
  induction n with
  | zero =>
    intro j M hn hj h i u' h25 hq hd
    have ul := i.2.1
    have e : j = u.length := by omega
    subst e
    rw [List.take_length] at u'
    refine w188_10 ⟨h.k0, fun _ => hq u'.2.1 M u' h25 (fm.refl _ _ _), fun c => ?_⟩
    rw [i.1, I_le (by omega) (by omega) (by omega) (by omega)] at c; omega
  | succ n ih =>
    intro j M hn hj h i u' h25 hq hd
    have ul := i.2.1
    obtain ⟨o1, o2, o3, o4⟩ := u'
    have tl : (u.take j).length = j := by rw [List.length_take]; omega
    refine w188_10 ⟨h.k0, fun c => ?_, fun _ => ⟨fun z => absurd h25 z, fun _ => ⟨h.n23, by rw [h.f23]; exact h.k19, by rw [h.f23, h.l19]; exact I_in (by omega) (by omega) (by omega), ?_⟩⟩⟩
    · rw [i.1, I_le (by omega) (by omega) (by omega) (by omega)] at c; omega
    · rw [h.f23, show nt (I 1) = 1 by decide, o1]
      refine ⟨fun c => ?_, fun c => ?_⟩
      · rw [I_eq (by omega) (by omega) (by omega) (by omega)] at c
        refine w188_12 ⟨h.k0, Or.inl rfl, fun M1 q1 => ⟨h.k0, fun z => ?_, fun _ => ?_⟩⟩
        · rw [q1, i_is] at z; exact absurd rfl z
        · have g1 : fm m [125] M M1 := fm_o q1 (by decide)
          have a1 : mi M1 (m + 19) 1 = I (o ++ u.take j).length := by rw [q1, i_ia (by omega)]; exact o1
          have ai : mi M1 (m + 25) j = I (u.getD j 0) := by rw [q1, i_ia (by omega)]; exact i.2.2.1 j (by omega)
          have uc : u.getD j 0 < 65536 := getD_lt i.2.2.2 (by omega) j
          have e1 : I 240 + I ((o ++ u.take j).length : Int) = I ((240 + (o ++ u.take j).length : Nat) : Int) := by
            rw [I_add]; congr 1
          refine ⟨h.n24, h.n23, by rw [h.f23]; exact h.k19, by rw [h.f23, h.l19]; exact I_in (by omega) (by omega) (by omega), h.n37, by rw [h.f37]; exact h.k25, by rw [h.f37, h.l25]; exact I_in (by omega) (by omega) (by omega), by rw [h.f24]; exact h.k20, ?_, fun M3 q3 M4 q4 => ?_⟩
          · rw [h.f24, h.f23, show nt (I 1) = 1 by decide, a1, e1, h.l20]; exact I_in (by omega) (by omega) (by omega)
          · rw [h.f24, h.f23, h.f37, show nt (I 1) = 1 by decide, a1, e1, I_ntn (by omega), I_ntn (by omega), ai, I_cN (by omega) (by omega)] at q3
            have b1 : mi M3 (m + 19) 1 = I (o ++ u.take j).length := by rw [q3, i_ia (by omega)]; exact a1
            rw [h.f23, show nt (I 1) = 1 by decide, b1, I_add] at q4
            have f3 : fm m [51] M1 M3 := fm_i (a := 20) q3 (by omega) (by show [51].contains (50 + (240 + (o ++ u.take j).length) / 240) = true; rw [show (240 + (o ++ u.take j).length) / 240 = 1 by omega]; decide)
            have f4 : fm m [51] M3 M4 := fm_i (a := 19) q4 (by omega) (by decide)
            have fa : fm m [51, 125] M M4 := ((g1.w (by decide)).trans (f3.w (by decide))).trans (f4.w (by decide))
            have tk : o ++ u.take (j + 1) = (o ++ u.take j) ++ [u.getD j 0] := by rw [List.append_assoc, take_snoc (by omega)]
            rw [I_add]
            refine ih (j + 1) M4 (by omega) (by omega) (h.mv fa.1) (i.mv fa (by decide) (by decide)) ?_ (by rw [f4.fld (by decide), f3.fld (by decide), q1, i_is]) (fun hl M' a1 a2 a3 => hq hl M' a1 a2 (fa.trans a3)) (fun hl M' a1 a3 => hd hl M' a1 (fa.trans a3))
            rw [tk]
            refine ⟨by rw [q4, i_is, List.length_append (bs := [u.getD j 0])]; rfl, by rw [List.length_append (bs := [u.getD j 0])]; simp only [List.length_cons, List.length_nil]; omega, fun k hk => ?_, o4.app (ok6.one uc)⟩
            rw [List.length_append (bs := [u.getD j 0])] at hk
            simp only [List.length_cons, List.length_nil] at hk
            rw [q4, i_ia (by omega), q3, i_i]
            by_cases z : k = (o ++ u.take j).length
            · rw [if_pos ⟨rfl, by omega⟩, z]
              rw [List.getD_eq_getElem?_getD (l := _ ++ [u.getD j 0]), List.getElem?_append_right (Nat.le_refl _), Nat.sub_self]; rfl
            · rw [if_neg (by omega), q1, i_ia (by omega), o3 k (by omega)]
              rw [List.getD_eq_getElem?_getD (l := _ ++ [u.getD j 0]), List.getElem?_append_left (by omega), ← List.getD_eq_getElem?_getD]
      · rw [I_eq (by omega) (by omega) (by omega) (by omega)] at c
        have full : ¬ (o ++ u).length ≤ 240 := by
          rw [List.length_append] at c ⊢
          rw [tl] at c
          omega
        refine w188_12 ⟨h.k0, Or.inr rfl, fun M1 q1 => ⟨h.k0, fun _ => ?_, fun z => ?_⟩⟩
        · have g1 : fm m [51, 125] M M1 := fm_o q1 (by decide)
          have d25 : mi M1 m 25 = I 1 := by rw [q1, i_is]
          have fin := hd full M1 d25 g1
          refine w188_10 ⟨(h.mv g1.1).k0, fun _ => fin, fun _ => ⟨fun _ => fin, fun z => ?_⟩⟩
          rw [d25] at z; exact absurd z (by decide)
        · rw [q1, i_is] at z; exact absurd z (by decide)
abbrev sP : List Nat := [11, 21, 41, 51, 31, 60, 61, 62, 63, 64, 65, 108, 125, 126, 127, 130, 131, 133, 136, 138, 140, 143, 144]
/-- a dead pipeline ends -/
theorem m_pip_d {v1 v2 v3 v4 v5 : Int32} {d6 d7 : Option Value} (h : mS M m) (d : mi M m 25 = I 1) (hd : ∀ M', mi M' m 25 = I 1 → fm m sP M M' → Q (.inl none) M') : mX E 188 1 [some (.ref m), some (.int v1), some (.int v2), some (.int v3), some (.int v4), some (.int v5), d6, d7] [] M Q := by
  have fin : ∀ M2, M2 = msi M (mr M m 22) (nt (I 1)) v4 → mX E 188 10 [some (.ref m), some (.int v1), some (.int v2), some (.int v3), some (.int v4), some (.int (I 0)), d6, d7] [] M2 Q := by
    intro M2 q2
    rw [h.f22] at q2
    have f2 : fm m sP M M2 := fm_i (a := 18) q2 (by omega) (by decide)
    have d2 : mi M2 m 25 = I 1 := by rw [q2, i_ia (by omega)]; exact d
    have := hd M2 d2 f2
    refine w188_10 ⟨(h.mv f2.1).k0, fun _ => this, fun _ => ⟨fun _ => this, fun z => ?_⟩⟩
    rw [d2] at z; exact absurd z (by decide)
  have e22 : ¬ mr M m 22 = 0 ∧ mkd M (mr M m 22) = 1 ∧ vp_in (I 1) (mln M (mr M m 22)) := ⟨h.n22, by rw [h.f22]; exact h.k18, by rw [h.f22, h.l18]; exact I_in (by omega) (by omega) (by omega)⟩
  refine w188_1 ⟨fun _ => ⟨h.k0, e22.1, e22.2.1, e22.2.2, fin⟩, fun _ => ⟨h.k0, fun _ => ⟨e22.1, e22.2.1, e22.2.2, fin⟩, fun z => ?_⟩⟩
  rw [d] at z; exact absurd z (by decide)
/-- behind a command: its output becomes the next one's input -/
theorem m_after {v1 v3 x3 v5 : Int32} {K b n : Nat} (h : mS M m) (k : tkX M m T) (hb : b ≤ T.length) (hK : K ≤ 1000) (v2 : vrX M m 2 vs) (p2 : poX M m 2 po) (hn : n ≤ 240) (h36 : mi M m 36 = I n)
    (hq : ∀ M' q d7, b + 1 ≤ q → (b + 1 ≤ T.length → q ≤ T.length) → (∀ i, b + 1 ≤ i → i < q → (tkD T i).1 = 5) → (q < T.length → ¬ (tkD T q).1 = 5) → (∀ j, j < n → mi M' (m + 25) j = cN (mi M (m + 26) j)) → mi M' m 36 = I n → (K ≤ 1 → fm m [63] M M') → (1 < K → vrX M' m 1 vs ∧ poX M' m 1 po) → fm m [63, 11, 21] M M' → mX E 188 1 [some (.ref m), some (.int v1), some (.int (I K)), some (.int (I q)), some (.int x3), some (.int (v5 + I 1)), some (.int (I b)), d7] [] M' Q) :
    mX E 188 6 [some (.ref m), some (.int v1), some (.int (I K)), some (.int v3), some (.int x3), some (.int v5), some (.int (I b)), some (.int (I 0))] [] M Q := by
  have kl := k.2.1
  refine cp_loop (L := fun x => [some (.ref m), some (.int v1), some (.int (I K)), some (.int v3), some (.int x3), some (.int v5), some (.int (I b)), some (.int x)]) (A := m + 25) (t := 0) (N := n) (g := fun j => cN (mi M (m + 26) j)) (fun j X hj c cont => ?_) (fun X c => ?_)
  · have h1 := h.mv c.1
    have e36 : mi X m 36 = I n := by rw [c.2.1 _ (by omega)]; exact h36
    refine w188_6 ⟨h1.k0, fun z => ?_, fun _ => ⟨h1.n37, h1.n39, by rw [h1.f39]; exact h1.k26, by rw [h1.f39, h1.l26]; exact I_in (by omega) (by omega) (by omega), by rw [h1.f37]; exact h1.k25, by rw [h1.f37, h1.l25]; exact I_in (by omega) (by omega) (by omega), fun Y q => ?_⟩⟩
    · rw [e36, I_le (by omega) (by omega) (by omega) (by omega)] at z; omega
    · rw [h1.f37, h1.f39, I_ntn (by omega), c.2.1 _ (by omega)] at q
      rw [I_add]
      refine cont Y ?_
      rw [Nat.zero_add]; exact q
  · have h1 := h.mv c.1
    have e36 : mi X m 36 = I n := by rw [c.2.1 _ (by omega)]; exact h36
    have fx : fm m [63] M X := c.fm (by omega) (fun j j1 j2 => by show [63].contains 63 = true; decide)
    have inp : ∀ j, j < n → mi X (m + 25) j = cN (mi M (m + 26) j) := fun j hj => by rw [c.2.2, if_pos (by omega), Nat.sub_zero]
    have kx := k.mv fx (by decide) (by decide)
    refine w188_6 ⟨h1.k0, fun _ => ⟨fun z => ?_, fun z => ?_⟩, fun z => ?_⟩
    · rw [I_le (by omega) (by omega) (by omega) (by omega)] at z
      refine w188_8 ⟨h1.k0, ?_⟩
      rw [I_add, show (b : Int) + 1 = ((b + 1 : Nat) : Int) by omega]
      exact m_skipN h1 kx (by omega) (fun q q1 q2 q3 q4 => hq X q _ q1 q2 q3 q4 inp e36 (fun _ => fx) (fun y => by omega) (fx.w (by decide)))
    · rw [I_le (by omega) (by omega) (by omega) (by omega)] at z
      refine m_copyV (a := 2) (b := 1) h1 (by omega) (by omega) (by decide) (v2.mv fx (by decide)) (p2.mv fx (by decide)) (fun Y vY pY fY => ?_)
      have hY := h1.mv fY.1
      have fa : fm m [63, 11, 21] M Y := (fx.w (by decide)).trans (fY.w (by decide))
      refine w188_8 ⟨hY.k0, ?_⟩
      rw [I_add, show (b : Int) + 1 = ((b + 1 : Nat) : Int) by omega]
      refine m_skipN hY (kx.mv fY (by decide) (by decide)) (by omega) (fun q q1 q2 q3 q4 => hq Y q _ q1 q2 q3 q4 (fun j hj => ?_) ?_ (fun y => by omega) (fun _ => ⟨vY, pY⟩) fa)
      · rw [fY.2.2 25 j (by omega) rfl]; exact inp j hj
      · rw [fY.fld (by decide)]; exact e36
    · rw [e36, I_le (by omega) (by omega) (by omega) (by omega)] at z; omega
end MPIP
