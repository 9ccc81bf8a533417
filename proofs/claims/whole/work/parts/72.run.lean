/-! A RUN OF THE CLASS -/
/-- the first command has no join -/
def fstJ (g : yT) : Prop := (g.2.2.2.2.1 = [] → g.2.1 = 0) ∧ (g.2.2.2.2.1.getD 0 []).getD 0 0 = 0
theorem opc_j {aw jn : Nat} {ws : Bool} {cs is : List (List Nat)} (h1 : cs = [] → jn = 0) (h2 : (cs.getD 0 []).getD 0 0 = 0) : ((opc aw jn ws cs is).2.getD 0 []).getD 0 0 = 0 := by
  unfold opc; split
  · cases cs with
    | nil => exact h1 rfl
    | cons x xs => exact h2
  · exact h2
theorem setE_j {cs : List (List Nat)} {n : Nat} (h : (cs.getD 0 []).getD 0 0 = 0) : ((setE cs n).getD 0 []).getD 0 0 = 0 := by
  unfold setE
  rw [set_get]
  split
  · next q =>
    rw [List.getD_eq_getElem?_getD, List.getElem?_set_ne (by omega), ← List.getD_eq_getElem?_getD, q.1]; exact h
  · exact h
theorem tok_j {s : List Nat} {p p' : Nat} {g g' : yT} (h : yI s p g) (hj : fstJ g) (e : tok s p g = .inl (p', g')) : fstJ g' := by
  obtain ⟨aw, jn, rd, ws, cs, is, ps⟩ := g
  obtain ⟨y1, y2, y3, y4, y5, y6, y7, y8, y9⟩ := h
  simp only at y6
  have j1 : cs = [] → jn = 0 := hj.1
  have j2 : (cs.getD 0 []).getD 0 0 = 0 := hj.2
  have jb : ∀ k w, jnB k w p aw rd ws cs is ps = .inl (p', g') → fstJ g' := by
    intro k w q
    unfold jnB at q; split at q
    · next qa =>
      cases q
      refine ⟨fun z => ?_, j2⟩
      have : cs = [] := z
      have := y6 (Or.inl qa); simp_all
    · cases q
  have rr : ∀ k w, rdr k w p aw jn ws cs is ps = .inl (p', g') → fstJ g' := by
    intro k w q
    unfold rdr at q; split at q
    · cases q
    · cases q
      refine ⟨fun z => ?_, opc_j j1 j2⟩
      have z' : (opc aw jn ws cs is).2 = [] := z
      unfold opc at z'; split at z'
      · simp at z'
      · exact j1 z'
  unfold tok at e
  simp only at e
  split at e
  · split at e
    · cases e; exact hj
    · exact jb 0 1 e
  · split at e
    · exact jb 0 1 e
    · split at e
      · split at e
        · exact jb 2 2 e
        · exact jb 3 1 e
      · split at e
        · split at e
          · exact jb 1 2 e
          · cases e
        · split at e
          · exact rr 2 1 e
          · split at e
            · split at e
              · exact rr 4 2 e
              · exact rr 3 1 e
            · split at e
              · cases e
              · unfold rwd at e
                generalize wKd s p aw rd (opc aw jn ws cs is).1 = z at e
                cases g1 : pL s 240 false z.2.1 ps with
                | inr x => rw [g1] at e; cases e
                | inl x =>
                  rw [g1] at e
                  cases e
                  refine ⟨fun q => ?_, setE_j (opc_j j1 j2)⟩
                  have q' : setE (opc aw jn ws cs is).2 (is.length + 1) = [] := q
                  have ql := congrArg List.length q'
                  unfold setE at ql
                  rw [List.length_set] at ql
                  have := List.length_eq_zero_iff.mp ql
                  unfold opc at this; split at this
                  · simp at this
                  · exact j1 this
theorem yR_j (s : List Nat) : ∀ n p g p' g', yI s p g → fstJ g → yR s n p g = .inl (p', g') → fstJ g' ∧ ∃ q, yI s q g'
  | 0, p, g, p', g', hy, hj, e => by
    unfold yR yF at e
    split at e
    · cases e
    · cases e; exact ⟨hj, _, hy⟩
  | n + 1, p, g, p', g', hy, hj, e => by
    unfold yR at e
    have fr1 := fT_r s s.length false p hy.1
    have hy2 : yI s (fT s s.length false p).2 g := ⟨by omega, by have := hy.2.1; omega, by have := hy.2.2.1; omega, by have := hy.2.2.2.1; omega, hy.2.2.2.2⟩
    split at e
    · next rt =>
      cases g1 : tok s (fT s s.length false p).2 g with
      | inr x => rw [g1] at e; cases e
      | inl x =>
        obtain ⟨p2, g2⟩ := x
        rw [g1] at e
        have tr := tok_r (fr1.2.2 rt) (fT_32 s _ _ _ rt) hy2 g1
        exact yR_j s n p2 g2 p' g' tr.1 (tok_j hy2 hj g1) e
    · unfold yF at e
      split at e
      · cases e
      · cases e; exact ⟨hj, _, hy2⟩
/-- the syntax has changed -/
def upY (R : RT) (pl p aw jn rd : Nat) (ws : Bool) (cs is ps : List (List Nat)) : RT := up (up (up (up R 2 (vI [(pl : Int), (p : Int), (aw : Int), (jn : Int), (rd : Int), bI ws])) 3 (vS cs)) 4 (vS is)) 5 (vS ps)
theorem cg3 : ∀ k, k < 32 → [2, 3, 4, 5].contains k = true ∨ cHi k ≤ 3 ∨ 10 ≤ cLo k := by decide +kernel
theorem upY_ag (R : RT) (pl p aw jn rd : Nat) (ws : Bool) (cs is ps : List (List Nat)) : ag [2, 3, 4, 5] R (upY R pl p aw jn rd ws cs is ps) := ((ag_up (by decide)).trans (ag_up (by decide))).trans ((ag_up (by decide)).trans (ag_up (by decide)))
section RUN
variable {E : mE} {M M' : mM} {Q : mQ} {b : Nat} {R : RT} {s : List Nat} {pl p aw jn rd : Nat} {ws : Bool} {cs is ps : List (List Nat)}
theorem RX.toY (h : RX b M R) (h0 : (R 0).2.2.1 = s) (e : R 2 = vI [(pl : Int), (p : Int), (aw : Int), (jn : Int), (rd : Int), bI ws]) : sy b M s pl p aw jn rd ws (R 3).2.1 (R 4).2.1 (R 5).2.1 := by
  refine ⟨h.1, by have z := h.c0; rw [h0] at z; exact z, ?_, h.c3, h.c4, h.c5⟩
  have z := h.2 2 (by decide)
  rw [e] at z; exact z
theorem RX.setY (h : RX b M R) (g : sy b M' s pl p aw jn rd ws cs is ps) (f : fr M M' (b + 3) (b + 10)) : RX b M' (upY R pl p aw jn rd ws cs is ps) ∧ fr M M' b (b + 369) := by
  refine ⟨h.grp (lo := 3) (hi := 10) f (fun k hk => ?_), f.wide (by omega) (by omega)⟩
  obtain ⟨h1, h2, h3, h4, h5, h6⟩ := g
  by_cases q1 : k = 2
  · subst q1; exact Or.inl h3
  by_cases q2 : k = 3
  · subst q2; exact Or.inl h4
  by_cases q3 : k = 4
  · subst q3; exact Or.inl h5
  by_cases q4 : k = 5
  · subst q4; exact Or.inl h6
  refine Or.inr ⟨?_, (cg3 k hk).resolve_left (fun z => by simp at z; omega)⟩
  unfold upY
  rw [up_n q4, up_n q3, up_n q2, up_n q1]
/-- the kept state -/
def keptS (R : RT) (vs : eL) (po : List (List Nat)) (fl : eL) (st : Nat) (o : List Nat) : Prop := (R 7).1 = vs ∧ (R 8).2.1 = po ∧ (R 9).1 = fl ∧ R 6 = vI [(st : Int)] ∧ (R 10).2.2.1 = o
theorem x_cmds (hs : ok1 s) (n : Nat) : ∀ (c : Nat) (g : gS) (x0 x2 : Int) (M : mM) (R : RT), n = cs.length - c → c ≤ cs.length → RX b M R → (R 0).2.2.1 = s → (R 3).2.1 = cs → (R 4).2.1 = is → (R 5).2.1 = ps → (R 13).1 = g.1.1 → (R 14).2.1 = g.1.2.1 → (R 15).1 = g.1.2.2.1 → R 12 = vI [(g.1.2.2.2.1 : Int)] → R 16 = vT g.1.2.2.2.2 → R 11 = vI [x0, bI g.2.1.2.1, x2] → (pip cs c = true → x0 = bI g.2.1.1 ∧ x2 = (g.2.1.2.2 : Int) ∧ g.2.1.2.2 ≤ 6 ∧ (0 < g.2.1.2.2 → R 25 = vT g.2.2)) → okG g →
    (∀ G, cmds s ps is cs n c g = some G → ∀ M' R', RX b M' R' → (∀ j, j < 6 → R' j = R j) → keptS R' G.1.1 G.1.2.1 G.1.2.2.1 G.1.2.2.2.1 G.1.2.2.2.2 → okG G → fr M M' b (b + 369) → Q (.inl (some (.int (I G.1.2.2.2.1)))) M') → (cmds s ps is cs n c g = none → TH E b M R Q) →
    mX E 5 1 [some (.ref b), some (.int (I c))] [] M Q := by
  induction n with
  | zero =>
    intro c g x0 x2 M R hn hcl h h0 h3 h4 h5 h13 h14 h15 h12 h16 h11 hpp hok hq ht
    have s3 := h.g3 h3
    have l3 := s3.len
    refine w5_1 ⟨h.k1, nz h.f1_1 h.1, by rw [h.f1_1]; exact h.k2, nz2 h.f1_1 h.f2_0 h.1, by rw [h.f1_1, h.f2_0]; exact s3.1, fun _ => ⟨nz h.f1_2 h.1, nz h.f1_3 h.1, by rw [h.f1_3]; exact h.k11, nz2 h.f1_3 h.f11_0 h.1, by rw [h.f1_2]; exact h.k6, ?_⟩, fun u => ?_⟩
    · rw [h.f1_2, h.f1_3, h.f11_0]
      refine s_become h.stK h.stR (by omega) (fun M1 k1 f1 => ?_)
      have h1 := h.setK k1 f1
      refine ⟨h1.1.k1, nz h1.1.f1_2 h.1, by rw [h1.1.f1_2]; exact h1.1.k6, ?_⟩
      have e4 : mi M1 (b + 10) 4 = I (g.1.2.2.2.1 : Int) := by rw [k1.2.2.2.2.2.1, h12]; rfl
      rw [h1.1.f1_2, e4]
      refine hq g rfl M1 _ h1.1 (fun j hj => ?_) ⟨h13, h14, h15, ?_, ?_⟩ hok h1.2
      · unfold upK
        rw [up_n (by omega), up_n (by omega), up_n (by omega), up_n (by omega), up_n (by omega)]
      · show vI [(R 12).2.2.2.getD 0 0] = _
        rw [h12]; rfl
      · show (R 16).2.2.1 = _
        rw [h16]; rfl
    · rw [h.f1_1, h.f2_0, s3.2.2.2.2.1, I_le (by omega) (by omega) (by omega) (by omega)] at u; omega
  | succ n ih =>
    intro c g x0 x2 M R hn hcl h h0 h3 h4 h5 h13 h14 h15 h12 h16 h11 hpp hok hq ht
    have s3 := h.g3 h3
    have l3 := s3.len
    unfold cmds at hq ht
    unfold cmd1 at hq ht
    refine w5_1 ⟨h.k1, nz h.f1_1 h.1, by rw [h.f1_1]; exact h.k2, nz2 h.f1_1 h.f2_0 h.1, by rw [h.f1_1, h.f2_0]; exact s3.1, fun u => ?_, fun _ => ⟨nz h.f1_3 h.1, by rw [h.f1_3]; exact h.k11, ?_⟩⟩
    · rw [h.f1_1, h.f2_0, s3.2.2.2.2.1, I_le (by omega) (by omega) (by omega) (by omega)] at u; omega
    rw [h.f1_3]
    have go : ∀ (M1 : mM) (R1 : RT) (due : Bool) (inP : Nat), due = (if pip cs c = true then g.2.1.1 else dueS ((cs.getD c []).getD 0 0) g.1.2.2.2.1) → inP = (if pip cs c = true then g.2.1.2.2 else 0) → inP ≤ 6 → (0 < inP → R 25 = vT g.2.2) → RX b M1 R1 → ag [11] R R1 → R1 11 = vI [bI due, bI g.2.1.2.1, (inP : Int)] → fr M M1 b (b + 369) →
        (I (bI (due && !g.2.1.2.1)) = I 0 → mX E 5 1 [some (.ref b), some (.int (I c + I 1))] [] M1 Q) ∧ (¬ I (bI (due && !g.2.1.2.1)) = I 0 → mkd M1 b = 100 ∧ ¬ mr M1 b 3 = 0 ∧ mkd M1 (mr M1 b 3) = 108 ∧ mC E 84 [.ref (mr M1 b 3), .int (I c)] M1 (kVo Q fun M8 => mkd M8 b = 100 ∧ ¬ mr M8 b 3 = 0 ∧ mkd M8 (mr M8 b 3) = 108 ∧ mC E 85 [.ref (mr M8 b 3), .int (I c)] M8 (kI Q fun x12 M10 => mkd M10 (mr M8 b 3) = 108 ∧ mC E 86 [.ref (mr M8 b 3), .int (I c), .int x12] M10 (kVo Q fun M13 => mX E 5 1 [some (.ref b), some (.int (I c + I 1))] [] M13 Q)))) := by
      intro M1 R1 due inP hdue hinP hin6 h25 h1 a1 e11 f1
      rw [← hdue, ← hinP] at hq ht
      unfold cmdX at hq ht
      have g3 : (R1 3).2.1 = cs := by rw [a1 3 (by decide)]; exact h3
      refine ⟨fun u => ?_, fun u => ⟨h1.k1, nz h1.f1_3 h.1, by rw [h1.f1_3]; exact h1.k11, ?_⟩⟩
      · rw [bI_0] at u
        rw [if_neg (by rw [u]; decide)] at hq ht
        simp only [Option.bind_some] at hq ht
        rw [I_add]
        refine ih (c + 1) (g.1, (due, g.2.1.2.1, inP), g.2.2) (bI due) inP M1 R1 (by omega) (by omega) h1 (by rw [a1 0 (by decide)]; exact h0) g3 (by rw [a1 4 (by decide)]; exact h4) (by rw [a1 5 (by decide)]; exact h5) (by rw [a1 13 (by decide)]; exact h13) (by rw [a1 14 (by decide)]; exact h14) (by rw [a1 15 (by decide)]; exact h15) (by rw [a1 12 (by decide)]; exact h12) (by rw [a1 16 (by decide)]; exact h16) e11 (fun _ => ⟨rfl, rfl, hin6, fun z => by rw [a1 25 (by decide)]; exact h25 z⟩) hok (fun G eG M' R' j1 j2 j3 j4 j5 => hq G eG M' R' j1 (fun j hj => (j2 j hj).trans (a1.lo (by decide) j (by omega))) j3 j4 (f1.then j5)) (fun eG => (ht eG).st f1 (a1.lo (by decide)))
      · rw [bI_0] at u
        have ut' : (due && !g.2.1.2.1) = true := by cases z : (due && !g.2.1.2.1) with | true => rfl | false => exact absurd z u
        rw [if_pos ut'] at hq ht
        rw [h1.f1_3]
        refine n_start (cs := cs) (vs := g.1.1) (po := g.1.2.1) (tout := g.2.2) h1 g3 (by rw [a1 13 (by decide)]; exact h13) (by rw [a1 14 (by decide)]; exact h14) e11 hin6 (fun z => by rw [a1 25 (by decide)]; exact h25 z) (by omega) (fun hi M2 R2 h2 a2 k11 k22 k24 k25 k28 f2 => ?_) (fun hi => ?_)
        · rw [if_pos hi] at hq ht
          have A2 : ag [11, 22, 24, 25, 28, 29] R R2 := (a1.w (by decide)).trans a2
          have f12 := f1.then f2
          refine ⟨h2.k1, nz h2.f1_3 h.1, by rw [h2.f1_3]; exact h2.k11, ?_⟩
          rw [h2.f1_3]
          have x2' : cxt R2 s g.1.1 g.1.2.1 g.1.2.2.2.1 ps := ⟨by rw [A2 0 (by decide)]; exact h0, by rw [A2 13 (by decide)]; exact h13, by rw [A2 14 (by decide)]; exact h14, by rw [A2 12 (by decide)]; exact h12, by rw [A2 5 (by decide)]; exact h5⟩
          refine n_run (inp := if 0 < inP then g.2.2 else []) hs hok.1 hok.2.1 hok.2.2.2 h2 x2' (fl := g.1.2.2.1) (by rw [A2 15 (by decide)]; exact h15) k24 k25 k22 (by omega) (fun r er M3 R3 h3' a3 l25 l13 l14 l15 l22 f3 => ?_) (fun er => ?_)
          · rw [A2 3 (by decide), h3, A2 4 (by decide), h4] at er
            have okr := rcS_ok hs hok.1 hok.2.1 hok.2.2.1 hok.2.2.2 er
            rw [er] at hq ht
            simp only [Option.bind_some] at hq ht
            have A3 : ag [11, 13, 14, 15, 17, 18, 19, 20, 21, 22, 23, 24, 25, 27, 28, 29, 30, 31] R R3 := (A2.w (by decide)).trans (a3.w (by decide))
            have f13 := f12.then f3
            have k3 : (R3 3).2.1 = cs := by rw [A3 3 (by decide)]; exact h3
            refine ⟨h3'.k11, n_end (cs := cs) (vs := g.1.1) (po := g.1.2.1) (out := g.1.2.2.2.2) h3' k3 l22 (by rw [a3 11 (by decide)]; exact k11) l25 (by rw [A3 16 (by decide)]; exact h16) (fun z => by rw [a3 28 (by decide), a3 29 (by decide)]; exact k28 z) (by omega) (fun M4 R4 h4' a4 m11 m13 m14 mp mn f4 => ?_) (fun zp zl => ?_)⟩
            · have f14 := f13.then f4
              have A4 : ag [11, 12, 13, 14, 15, 16, 17, 18, 19, 20, 21, 22, 23, 24, 25, 27, 28, 29, 30, 31] R R4 := (A3.w (by decide)).trans (a4.w (by decide))
              show mX E 5 1 _ [] M4 Q
              rw [I_add]
              have b1 : (R4 13).1 = (if alo cs c = true then r.2.1.1 else g.1.1) := by rw [m13, l13]
              have b2 : (R4 14).2.1 = (if alo cs c = true then r.2.1.2.1 else g.1.2.1) := by rw [m14, l14]
              have b3 : (R4 15).1 = r.2.1.2.2 := by rw [a4 15 (by decide)]; exact l15
              have b25 : R4 25 = vT r.1.2 := by rw [a4 25 (by decide)]; exact l25
              have okE1 : okE (if alo cs c = true then r.2.1.1 else g.1.1) := by split; exact okr.1; exact hok.1
              have okL1 : okL (if alo cs c = true then r.2.1.2.1 else g.1.2.1) := by split; exact okr.2.1; exact hok.2.1
              by_cases pp : pip cs (c + 1) = true
              · rw [if_pos pp] at hq ht
                simp only [Option.bind_some] at hq ht
                have mp' := mp pp
                refine ih (c + 1) ((if alo cs c = true then r.2.1.1 else g.1.1, if alo cs c = true then r.2.1.2.1 else g.1.2.1, r.2.1.2.2, g.1.2.2.2.1, g.1.2.2.2.2), (due, r.2.2 && alo cs c, inP + 1), r.1.2) (bI due) ((inP + 1 : Nat) : Int) M4 R4 (by omega) (by omega) h4' (by rw [A4 0 (by decide)]; exact h0) (by rw [A4 3 (by decide)]; exact h3) (by rw [A4 4 (by decide)]; exact h4) (by rw [A4 5 (by decide)]; exact h5) b1 b2 b3 (by rw [mp'.1, A3 12 (by decide)]; exact h12) (by rw [mp'.2, A3 16 (by decide)]; exact h16) m11 (fun _ => ⟨rfl, rfl, by show inP + 1 ≤ 6; omega, fun _ => b25⟩) ⟨okE1, okL1, okr.2.2.1, hok.2.2.2⟩ (fun G eG M' R' j1 j2 j3 j4 j5 => hq G eG M' R' j1 (fun j hj => (j2 j hj).trans (A4.lo (by decide) j (by omega))) j3 j4 (f14.then j5)) (fun eG => (ht eG).st f14 (A4.lo (by decide)))
              · have pf : pip cs (c + 1) = false := by cases z : pip cs (c + 1) with | false => rfl | true => exact absurd z pp
                obtain ⟨ml, m12, m16⟩ := mn pf
                rw [if_neg pp, if_pos ml] at hq ht
                simp only [Option.bind_some] at hq ht
                refine ih (c + 1) ((if alo cs c = true then r.2.1.1 else g.1.1, if alo cs c = true then r.2.1.2.1 else g.1.2.1, r.2.1.2.2, r.1.1, g.1.2.2.2.2 ++ r.1.2), (due, r.2.2 && alo cs c, inP + 1), r.1.2) (bI due) ((inP + 1 : Nat) : Int) M4 R4 (by omega) (by omega) h4' (by rw [A4 0 (by decide)]; exact h0) (by rw [A4 3 (by decide)]; exact h3) (by rw [A4 4 (by decide)]; exact h4) (by rw [A4 5 (by decide)]; exact h5) b1 b2 b3 m12 m16 m11 (fun z => absurd z pp) ⟨okE1, okL1, okr.2.2.1, okr.2.2.2⟩ (fun G eG M' R' j1 j2 j3 j4 j5 => hq G eG M' R' j1 (fun j hj => (j2 j hj).trans (A4.lo (by decide) j (by omega))) j3 j4 (f14.then j5)) (fun eG => (ht eG).st f14 (A4.lo (by decide)))
            · rw [if_neg (by rw [zp]; decide), if_neg (by omega)] at ht
              exact (ht rfl).st f13 (A3.lo (by decide))
          · rw [A2 3 (by decide), h3, A2 4 (by decide), h4] at er
            rw [er] at ht
            exact (ht rfl).st f12 (A2.lo (by decide))
        · rw [if_neg (by omega)] at ht
          exact (ht rfl).st f1 (a1.lo (by decide))
    by_cases pp : pip cs c = true
    · obtain ⟨p1, p2, p3, p4⟩ := hpp pp
      refine n_due h h3 h12 hok.2.2.2 h11 (by omega) (fun _ d ed => ?_) (fun _ => ⟨_, p1⟩) (fun z => absurd (z.symm.trans pp) (by decide))
      have ed' : d = g.2.1.1 := by
        rw [p1] at ed
        revert ed
        cases d <;> cases g.2.1.1 <;> decide
      rw [ed']
      exact go M R g.2.1.1 g.2.1.2.2 (by rw [if_pos pp]) (by rw [if_pos pp]) p3 p4 h (ag.refl _ _) (by rw [h11, p1, p2]) (fr.refl _ _ _)
    · have pf : pip cs c = false := by cases z : pip cs c with | false => rfl | true => exact absurd z pp
      refine n_due h h3 h12 hok.2.2.2 h11 (by omega) (fun z => absurd z pp) (fun z => absurd z pp) (fun _ M1 R1 h1 a1 e11 f1 => ?_)
      exact go M1 R1 _ 0 (by rw [if_neg pp]) (by rw [if_neg pp]) (by omega) (fun z => absurd z (by omega)) h1 a1 e11 f1
end RUN
