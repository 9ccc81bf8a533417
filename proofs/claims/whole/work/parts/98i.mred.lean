/-! THE REFERENCE: a redirection -/
def oRp (fl : eL) (nm : List Nat) (b : Int) : Prop := (nm = [] ∧ b = -1) ∨ (¬ nm = [] ∧ 0 ≤ fdT fl nm 0 ∧ b = fdT fl nm 0)
theorem oRp.l {fl : eL} {nm : List Nat} {b : Int} (h : oRp fl nm b) : oRl fl nm b := by
  rcases h with h | h
  · exact Or.inl h
  · exact Or.inr ⟨h.1, Or.inl h.2⟩
theorem oRp.ins {fl : eL} {nm w : List Nat} {b : Int} (h : oRp fl nm b) (hw : fdT fl w 0 < 0) : oRp (insT fl w []) nm (if (slT fl w fl.length : Int) ≤ b then b + 1 else b) := by
  rcases h with ⟨h1, h2⟩ | ⟨h1, h2, h3⟩
  · exact Or.inl ⟨h1, by rw [if_neg (by omega)]; exact h2⟩
  · have nw : ¬ w = nm := fun z => by rw [z] at hw; omega
    have fo := fdT_oth fl w nm [] nw (slT fl w fl.length) (slT_le _ _ _) 0
    rw [Nat.zero_add] at fo
    refine Or.inr ⟨h1, ?_, ?_⟩
    · unfold insT; rw [fo]; split <;> omega
    · unfold insT; rw [fo, h3]
theorem fdT_stT {es : eL} (w u : List Nat) {k : Nat} (hk : k < es.length) : fdT (stT es k u) w 0 = fdT es w 0 := by
  have g : ∀ x, ((stT es k u).getD x ([], [])).1 = (es.getD x ([], [])).1 := by
    intro x
    rw [stT_get hk]
    by_cases q : x = k
    · rw [if_pos q, q]
    · rw [if_neg q]
  have go : ∀ (a b : eL) (j : Nat), a.length = b.length → (∀ x, (a.getD x ([], [])).1 = (b.getD x ([], [])).1) → fdT a w j = fdT b w j := by
    intro a
    induction a with
    | nil =>
      intro b j hl _
      rw [List.eq_nil_of_length_eq_zero (show b.length = 0 from hl.symm)]
    | cons x a ih =>
      intro b j hl hx
      cases b with
      | nil => simp at hl
      | cons y b =>
        have h0 : x.1 = y.1 := hx 0
        have := ih b (j + 1) (by simpa using hl) (fun z => hx (z + 1))
        unfold fdT
        rw [h0, this]
  exact go _ _ 0 (by unfold stT; rw [List.length_set]) g
theorem oRp.st {fl : eL} {nm : List Nat} {b : Int} (h : oRp fl nm b) {k : Nat} {u : List Nat} (hk : k < fl.length) : oRp (stT fl k u) nm b := by
  rcases h with h | ⟨h1, h2, h3⟩
  · exact Or.inl h
  · exact Or.inr ⟨h1, by rw [fdT_stT _ _ hk]; exact h2, by rw [fdT_stT _ _ hk]; exact h3⟩
theorem oRp.r {fl : eL} {nm : List Nat} {b : Int} (h : oRp fl nm b) (hl : fl.length ≤ 8) : -2 < b ∧ b < 8 := by
  rcases h with h | ⟨h1, h2, h3⟩
  · omega
  · rcases fdT_r fl nm 0 with z | z <;> omega
/-- one redirection of kind K to u -/
def rd1 (K : Nat) (u : List Nat) (fl : eL) (i o : List Nat) : Option (Bool × eL × List Nat × List Nat) := if 8 < u.length then none else if u = [] ∨ (K = 2 ∧ fdT fl u 0 < 0) then some (false, fl, i, o) else if K = 2 then some (true, fl, u, o) else (opT 8 8 fl u).map fun fl1 => (true, (if K = 3 then stT fl1 (fdT fl1 u 0).toNat [] else fl1), i, u)
theorem rdL_st {s : List Nat} {vs : eL} {po : List (List Nat)} {stt : Nat} {ps is : List (List Nat)} {n it : Nat} {fl : eL} {i o : List Nat} (h0 : ¬ ((is.getD it []).getD 0 0 = 0 ∨ (is.getD it []).getD 0 0 = 1)) : rdL s vs po stt ps is (n + 1) it fl i o = ((exW s vs po stt ps (is.getD it [])).bind fun u => rd1 ((is.getD it []).getD 0 0) u fl i o).bind fun r => if r.1 = true then rdL s vs po stt ps is n (it + 1) r.2.1 r.2.2.1 r.2.2.2 else some r := by
  conv => lhs; unfold rdL
  rw [if_neg h0]
  cases exW s vs po stt ps (is.getD it []) with
  | none => rfl
  | some u =>
    show _ = (rd1 ((is.getD it []).getD 0 0) u fl i o).bind _
    unfold rd1
    simp only [Option.bind_some]
    by_cases a : 8 < u.length
    · rw [if_pos a, if_pos a]; rfl
    · rw [if_neg a, if_neg a]
      by_cases b : u = [] ∨ ((is.getD it []).getD 0 0 = 2 ∧ fdT fl u 0 < 0)
      · rw [if_pos b, if_pos b]; rfl
      · rw [if_neg b, if_neg b]
        by_cases c : (is.getD it []).getD 0 0 = 2
        · rw [if_pos c, if_pos c]; rfl
        · rw [if_neg c, if_neg c]
          cases opT 8 8 fl u with
          | none => rfl
          | some f1 => rfl
abbrev sR : List Nat := [31, 143, 144, 62, 131, 108, 60, 61, 125, 127, 130, 133]
abbrev nV : List Nat := [1, 102, 2, 104, 11, 21, 41]
section MRED
variable {E : mE} {M M' : mM} {Q : mQ} {m : Nat} {s : List Nat} {T : List tkn} {vs fl : eL} {po : List (List Nat)} {stt : Nat} {F : List (List Nat)} {is ps : List (List Nat)} {S : List Nat} {iN oN : List Nat}
theorem mW.mvf {fl' : eL} (h : mW M m s T vs po fl stt) (f : fm m S M M') (n : nV.all (fun x => !S.contains x) = true) (v : flX M' m 1 fl') : mW M' m s T vs po fl' stt := by
  obtain ⟨h1, h2, h3, h4, h5, h6, h7⟩ := h
  simp only [nV, List.all_cons, List.all_nil, Bool.and_true, Bool.and_eq_true, Bool.not_eq_true'] at n
  obtain ⟨n1, n2, n3, n4, n5, n6, n8⟩ := n
  exact ⟨h1.mv f.1, h2.mv f n1 n2, h3.mv f n3 n4, h4.mv f n5, h5.mv f n6, v, by rw [f.2.2 18 1 (by omega) n8]; exact h7⟩
/-- between redirections -/
def rdS (M : mM) (m : Nat) (F : List (List Nat)) (fl : eL) (iN oN : List Nat) : Prop := fdX M m F ∧ mi M m 25 = I 0 ∧ ∃ a b, mi M m 43 = I a ∧ mi M m 44 = I b ∧ oRp fl iN a ∧ oRp fl oN b
theorem flX.st0 {k : Nat} (v : flX M m 1 fl) (hk : k < fl.length) (q : M' = msi M (m + 17) (8 + k) (I 0)) : flX M' m 1 (stT fl k []) := by
  obtain ⟨v1, v2, v3⟩ := v
  have len : (stT fl k []).length = fl.length := by unfold stT; rw [List.length_set]
  refine ⟨by rw [len, q, i_ia (by omega)]; exact v1, by omega, fun i hi => ?_⟩
  rw [len] at hi
  obtain ⟨r1, r2⟩ := v3 i hi
  rw [stT_get hk]
  by_cases z : i = k
  · subst z
    rw [if_pos rfl]
    refine ⟨r1.oth1 q (by omega) (by omega), ?_⟩
    exact ⟨by rw [q, show 8 * 1 + i = 8 + i by omega, i_is]; rfl, by show 0 ≤ 80; omega, fun j hj => absurd hj (Nat.not_lt_zero j), fun c hc => absurd hc List.not_mem_nil⟩
  · rw [if_neg z]
    exact ⟨r1.oth1 q (by omega) (by omega), r2.row1 q (by omega) (by omega)⟩
theorem ex_same {R : List (List Nat)} {it : Nat} (e6 : ∀ (vs : eL) (po : List (List Nat)) (stt : Nat) (pa : Bool) (ts : List (List Nat)) (sp : List Nat), exI s vs po stt pa ps (is.getD it []) ts sp = exLs s vs po stt pa R (ts, sp, false)) : (exW s vs po stt ps (is.getD it []) = none ∧ gPs fl s vs po stt false R (F, [], false) = none) ∨ ∃ sp q', exW s vs po stt ps (is.getD it []) = some (sp.map unm) ∧ gPs fl s vs po stt false R (F, [], false) = some (F, sp, q') := by
  unfold exW
  rw [e6]
  rcases exLs_eq (fl := fl) (s := s) (vs := vs) (po := po) (stt := stt) R ([], [], false) (F, [], false) rfl with ⟨h1, h2⟩ | ⟨sp, q, q', h1, h2⟩
  · exact Or.inl ⟨by rw [h1]; rfl, h2⟩
  · exact Or.inr ⟨sp, q', by rw [h1]; rfl, h2⟩
theorem m_redirect {t it : Nat} (w : mW M m s T vs po fl stt) (ok : okW vs po fl stt) (ht : t + 1 < T.length) (r : rdS M m F fl iN oN) (hK : (tkD T t).1 = 6 ∨ (tkD T t).1 = 7 ∨ (tkD T t).1 = 8) (wd : wdI s is ps (tkD T (t + 1)) ((tkD T t).1 - 4) (tkD T (t + 1)).2.1 it)
    (hq : ∀ x, ((exW s vs po stt ps (is.getD it [])).bind fun u => rd1 ((tkD T t).1 - 4) u fl iN oN) = some x → ∀ M', mW M' m s T vs po x.2.1 stt → okW vs po x.2.1 stt → rdS M' m F x.2.1 x.2.2.1 x.2.2.2 → fm m sR M M' → Q (.inl (some (.int (I (bI x.1))))) M')
    (hd : ((exW s vs po stt ps (is.getD it [])).bind fun u => rd1 ((tkD T t).1 - 4) u fl iN oN) = none → ∀ M', mi M' m 25 = I 1 → fm m sR M M' → Q (.inl (some (.int (I 1)))) M') : mC E 159 [.ref m, .int (I t)] M Q := by
  have h := w.1
  have k := w.2.2.1
  have kl := k.2.1
  have tl := w.2.1.2.1
  have fl8 := w.2.2.2.2.2.1.2.1
  obtain ⟨e, R, e1, e2, e3, e4, -, -, ⟨acc, e5⟩, e6⟩ := wdI_p wd
  obtain ⟨rf, r25, a, b, ra, rb, oa, ob⟩ := r
  have ar := oa.r fl8
  have br := ob.r fl8
  obtain ⟨-, k2, k3, -⟩ := k.2.2 (t + 1) (by omega)
  have d1 : tkD T (t + 1) = T.getD (t + 1) (0, 0, 0) := rfl
  have d0 : tkD T t = T.getD t (0, 0, 0) := rfl
  rw [← d1] at k2 k3
  have n1 : nt (I (t : Int) + I 1) = t + 1 := by rw [I_add, show (t : Int) + 1 = ((t + 1 : Nat) : Int) by omega, I_ntn (by omega)]
  have li1 : ∀ {a : Nat}, mln M a = 241 → vp_in (I (t : Int) + I 1) (mln M a) := fun e => by rw [e, I_add]; exact I_in (by omega) (by omega) (by omega)
  refine w159_0 ⟨h.k0, fun M1 q1 => ⟨h.n6, by rw [h.f6]; exact h.k3, by rw [h.f6]; exact li1 h.l3, h.n7, by rw [h.f7]; exact h.k4, by rw [h.f7]; exact li1 h.l4, ?_⟩⟩
  have f1 : fm m [131] M M1 := fm_o q1 (by decide)
  rw [h.f6, h.f7, n1, q1, i_ia (by omega), i_ia (by omega), ← q1, k2, k3, e1]
  have w1 := w.mv f1 (by decide)
  refine m_expand (pa := false) (F := F) w1 ok (by omega) e5 ⟨rf.mv f1 (by decide) (by decide), by rw [q1, i_is]; rfl, by rw [f1.fld (by decide)]; exact r25⟩ (fun M2 x2 f2 => ?_)
  have f2' : fm m sR M M2 := (f1.w (by decide)).trans (f2.w (by decide))
  have w2 := w1.mv f2 (by decide)
  have h2 := w2.1
  rcases ex_same (fl := fl) (F := F) (vs := vs) (po := po) (stt := stt) e6 with ⟨g1, g2⟩ | ⟨sp, q', g1, g2⟩
  · rw [g2] at x2
    rw [g1] at hd
    refine ⟨h2.k0, fun z => ?_, fun _ => hd rfl M2 x2.1 f2'⟩
    rw [x2.1] at z; exact absurd z (by decide)
  · rw [g2] at x2
    rw [g1] at hq hd
    simp only [Option.bind_some] at hq hd
    obtain ⟨xf, xm, -, x31, x25⟩ := x2
    have xf : fdX M2 m F := xf
    have xm : mkX M2 m sp := xm
    have m2 := xm.2.1
    have ml : (sp.map unm).length = sp.length := List.length_map ..
    have uok := xm.ok
    have a2 : mi M2 m 43 = I a := by rw [f2.fld (by decide), f1.fld (by decide)]; exact ra
    have b2 : mi M2 m 44 = I b := by rw [f2.fld (by decide), f1.fld (by decide)]; exact rb
    refine ⟨h2.k0, fun _ => ?_, fun z => absurd x25 z⟩
    refine cp_loop (L := fun x => [some (.ref m), some (.int (I t)), some (.int x)]) (A := m + 23) (t := 40 * 16) (N := sp.length) (g := fun j => I (unm (sp.getD j 0))) (fun j M3 hj c3 cont => ?_) (fun M3 c3 => ?_)
    · have h3 := h2.mv c3.1
      have e27 : mi M3 m 27 = I sp.length := by rw [c3.2.1 _ (by omega)]; exact xm.1
      have en : nt (I 640 + I (j : Int)) = 40 * 16 + j := by
        rw [I_add, show (640 : Int) + (j : Int) = ((40 * 16 + j : Nat) : Int) by omega, I_ntn (by omega)]
      refine w159_2 ⟨h3.k0, fun c => ?_, fun c => ⟨h3.n34, h3.n28, by rw [h3.f28]; exact h3.k21, by rw [h3.f28, h3.l21]; exact I_in (by omega) (by omega) (by omega), by rw [h3.f34]; exact h3.k23, by rw [h3.f34, h3.l23, I_add]; exact I_in (by omega) (by omega) (by omega), fun M4 q4 => ?_⟩⟩
      · rw [e27, I_le (by omega) (by omega) (by omega) (by omega)] at c; omega
      · have cc := unm_lt (xm.c j)
        rw [h3.f34, h3.f28, en, I_ntn (by omega), c3.2.1 _ (by omega), (xm.2.2.1 j hj).1, I_cN (by omega) (by omega)] at q4
        rw [I_add]; exact cont M4 q4
    · have h3 := h2.mv c3.1
      have e27 : mi M3 m 27 = I sp.length := by rw [c3.2.1 _ (by omega)]; exact xm.1
      refine w159_2 ⟨h3.k0, fun c => ⟨h3.n35, by rw [h3.f35]; exact h3.k24, by rw [h3.f35, h3.l24]; exact I_in (by omega) (by omega) (by omega), fun M4 q4 => ?_⟩, fun c => ?_⟩
      · rw [h3.f35, e27, show nt (I 16) = 16 by decide, ← ml] at q4
        rw [← ml] at c3
        have f3 : fm m sR M2 M3 := c3.fm (by omega) (fun j j1 j2 => by show sR.contains (61 + j / 640) = true; rw [show j / 640 = 1 by omega]; decide)
        have f4 : fm m sR M3 M4 := fm_i (a := 24) q4 (by omega) (by decide)
        have f3' : fm m [62] M2 M3 := c3.fm (by omega) (fun j j1 j2 => by show [62].contains (61 + j / 640) = true; rw [show j / 640 = 1 by omega]; decide)
        have f4' : fm m [62] M3 M4 := fm_i (a := 24) q4 (by omega) (by decide)
        have row : nmR M4 (m + 23) (m + 24) 40 16 (sp.map unm) := nmR.mk' c3 (Nat.le_refl _) (fun j hj => by rw [map_get (by omega)]) (by omega) (fun c hc => by have := uok c hc; omega) q4 (by omega)
        have f34 := f3'.trans f4'
        have w4 := w2.mv f34 (by decide)
        have h4 := w4.1
        have k4 := w4.2.2.1
        have e27' : mi M4 m 27 = I (sp.map unm).length := by rw [q4, i_ia (by omega), e27, ml]
        have F4 := xf.mv f34 (by decide) (by decide)
        have x25' : mi M4 m 25 = I 0 := by rw [f34.fld (by decide)]; exact x25
        have a4 : mi M4 m 43 = I a := by rw [f34.fld (by decide)]; exact a2
        have b4 : mi M4 m 44 = I b := by rw [f34.fld (by decide)]; exact b2
        have f4'' : fm m sR M M4 := (f2'.trans f3).trans f4
        generalize hu : sp.map unm = u at *
        rw [e27']
        unfold rd1 at hq hd
        refine ⟨fun c8 => ?_, fun c8 => ?_⟩
        · rw [I_le (by omega) (by omega) (by omega) (by omega)] at c8
          rw [if_neg (by omega)] at hq hd
          refine w159_5 ⟨h4.k0, Or.inl rfl, fun M5 q5 => ⟨h4.k0, fun _ => ?_, fun z => ?_⟩⟩
          · -- the file's place
            have f5 : fm m sR M4 M5 := fm_o q5 (by decide)
            have f5' : fm m [125] M4 M5 := fm_o q5 (by decide)
            have fz := f4''.trans f5
            have w5 := w4.mv f5' (by decide)
            have h5 := w5.1
            have k5 := w5.2.2.1
            have row5 : nmR M5 (m + 23) (m + 24) 40 16 u := row.oth1 q5 (by omega) (by omega)
            have a5 : mi M5 m 43 = I a := by rw [f5'.fld (by decide)]; exact a4
            have b5 : mi M5 m 44 = I b := by rw [f5'.fld (by decide)]; exact b4
            have c5 : mi M5 m 25 = I 0 := by rw [q5, i_is]
            have e5' : mi M5 m 27 = I u.length := by rw [f5'.fld (by decide)]; exact e27'
            have F5 := F4.mv f5' (by decide) (by decide)
            have fr := fdT_r fl u 0
            obtain ⟨kk1, -⟩ := k5.2.2 t (by omega)
            rw [← d0] at kk1
            have li : vp_in (I t) (mln M5 (m + 2)) := by rw [h5.l2]; exact I_in (by omega) (by omega) (by omega)
            -- done with a file's place i in the files f1
            have thirteen : ∀ (f1 : eL) (i : Nat) (M6 : mM) (a' b' : Int) (v2 : Int32), ¬ (tkD T t).1 = 6 → mW M6 m s T vs po f1 stt → okW vs po f1 stt → fdX M6 m F → mi M6 m 25 = I 0 → mi M6 m 43 = I a' → oRp f1 iN a' → fdT f1 u 0 = (i : Int) → i < f1.length → ¬ u = [] → fm m sR M M6 → (∀ x, x = (true, (if (tkD T t).1 - 4 = 3 then stT f1 (fdT f1 u 0).toNat [] else f1), iN, u) → ∀ M', mW M' m s T vs po x.2.1 stt → okW vs po x.2.1 stt → rdS M' m F x.2.1 x.2.2.1 x.2.2.2 → fm m sR M M' → Q (.inl (some (.int (I (bI x.1))))) M') →
                mX E 159 13 [some (.ref m), some (.int (I t)), some (.int v2)] [.int (I i)] M6 Q := by
              intro f1 i M6 a' b' v2 n6 w6 ok6 F6 c6 a6 oa6 fi il nu fz6 hq
              have h6 := w6.1
              have k6 := w6.2.2.1
              have l6 := w6.2.2.2.2.2.1.2.1
              obtain ⟨kk, -⟩ := k6.2.2 t (by omega)
              rw [← d0] at kk
              refine w159_13 ⟨h6.k0, fun _ => ⟨h6.n5, by rw [h6.f5]; exact h6.k2, by rw [h6.f5, h6.l2]; exact I_in (by omega) (by omega) (by omega), ?_⟩, fun z => absurd c6 z⟩
              rw [h6.f5, I_ntn (by omega), kk]
              refine ⟨fun n7 M7 q7 => ?_, fun n7 => ⟨h6.n21, by rw [h6.f21]; exact h6.k17, by rw [h6.f21, h6.l17, I_add]; exact I_in (by omega) (by omega) (by omega), fun M7 q7 M8 q8 => ?_⟩⟩
              · rw [I_eq (by omega) (by omega) (by omega) (by omega)] at n7
                have f7 : fm m [144] M6 M7 := fm_o q7 (by decide)
                rw [if_neg (by omega)] at hq
                exact hq _ rfl M7 (w6.mv f7 (by decide)) ok6 ⟨F6.mv f7 (by decide) (by decide), by rw [f7.fld (by decide)]; exact c6, a', i, by rw [f7.fld (by decide)]; exact a6, by rw [q7, i_is], oa6, Or.inr ⟨nu, by show 0 ≤ fdT f1 u 0; omega, fi.symm⟩⟩ (fz6.trans (f7.w (by decide)))
              · rw [I_eq (by omega) (by omega) (by omega) (by omega)] at n7
                rw [if_pos (by omega), fi, Int.toNat_natCast] at hq
                rw [h6.f21, I_add, show (8 : Int) + (i : Int) = ((8 + i : Nat) : Int) by omega, I_ntn (by omega)] at q7
                have v7 := flX.st0 w6.2.2.2.2.2.1 il q7
                have f7 : fm m [31] M6 M7 := fm_i (a := 17) q7 (by omega) (by show [31].contains (30 + (8 + i) / 8) = true; rw [show (8 + i) / 8 = 1 by omega]; decide)
                have f8 : fm m [144] M7 M8 := fm_o q8 (by decide)
                have w7 := w6.mvf f7 (by decide) v7
                refine hq _ rfl M8 (w7.mv f8 (by decide)) ⟨okN_stT ok6.1, ok6.2.1, ok6.2.2.1, ok6.2.2.2.1, ok6.2.2.2.2.1, ok6.2.2.2.2.2.st il⟩ ⟨(F6.mv f7 (by decide) (by decide)).mv f8 (by decide) (by decide), by rw [f8.fld (by decide), f7.fld (by decide)]; exact c6, a', i, by rw [f8.fld (by decide), f7.fld (by decide)]; exact a6, by rw [q8, i_is], oa6.st il, Or.inr ⟨nu, by show 0 ≤ fdT (stT f1 i []) u 0; rw [fdT_stT _ _ il]; omega, by show (i : Int) = fdT (stT f1 i []) u 0; rw [fdT_stT _ _ il]; exact fi.symm⟩⟩ ((fz6.trans (f7.w (by decide))).trans (f8.w (by decide)))
            have ten : ¬ (u = [] ∨ ((tkD T t).1 - 4 = 2 ∧ fdT fl u 0 < 0)) → mX E 159 10 [some (.ref m), some (.int (I t)), some (.int (I (fdT fl u 0)))] [] M5 Q := by
              intro ng
              rw [if_neg ng] at hq hd
              have nu : ¬ u = [] := fun z => ng (Or.inl z)
              refine w159_10 ⟨h5.k0, h5.n5, by rw [h5.f5]; exact h5.k2, by rw [h5.f5]; exact li, ?_⟩
              rw [h5.f5, I_ntn (by omega), kk1]
              refine ⟨fun n6 => ?_, fun n6 M6 q6 => ?_⟩
              · rw [I_eq (by omega) (by omega) (by omega) (by omega)] at n6
                rw [if_neg (by omega)] at hq hd
                unfold opT at hq hd
                refine ⟨fun p0 => ?_, fun p0 => ?_⟩
                · rw [I_le (by omega) (by omega) (by omega) (by omega)] at p0
                  rw [if_pos (by omega)] at hq
                  have ei : fdT fl u 0 = (((fdT fl u 0).toNat : Nat) : Int) := by omega
                  have t13 := thirteen fl (fdT fl u 0).toNat M5 a b (I (fdT fl u 0)) (by omega) w5 ok F5 c5 a5 oa ei (by omega) nu fz (fun x hx => hq x (by rw [hx]; rfl))
                  rw [← ei] at t13; exact t13
                · rw [I_le (by omega) (by omega) (by omega) (by omega)] at p0
                  rw [if_neg (by omega)] at hq hd
                  refine m_make (f := 16) h5 (Nat.le_refl _) row5 (by omega) (by omega) (by omega) (by omega) (by omega) a5 b5 w5.2.2.2.2.2.1 (fun l8 M6 v6 a6 b6 f6 => ?_) (fun l8 M6 c6 f6 => ?_)
                  · rw [if_pos ⟨l8, by omega⟩] at hq
                    have w6 := w5.mvf f6 (by decide) v6
                    have fa := fdT_at fl u [] (slT fl u fl.length) (slT_le _ _ _) 0 (by omega)
                    rw [Nat.zero_add] at fa
                    have il : slT fl u fl.length < (insT fl u []).length := by
                      have := slT_le fl u fl.length
                      unfold insT; rw [List.length_append, List.length_take, List.length_cons, List.length_drop]; omega
                    exact thirteen (insT fl u []) (slT fl u fl.length) M6 _ 0 _ (by omega) w6 ⟨okN_ins ok.1 uok, ok.2.1, ok.2.2.1, ok.2.2.2.1, ok.2.2.2.2.1, ok.2.2.2.2.2.ins (by omega)⟩ (F5.mv f6 (by decide) (by decide)) (by rw [f6.fld (by decide)]; exact c5) a6 (oa.ins (by omega)) fa il nu (fz.trans (f6.w (by decide))) (fun x hx => hq x (by rw [hx]; rfl))
                  · rw [if_neg (by omega)] at hd
                    have h6 := h5.mv f6.1
                    refine w159_13 ⟨h6.k0, fun z => ?_, fun _ => hd rfl M6 c6 (fz.trans (f6.w (by decide)))⟩
                    rw [c6] at z; exact absurd z (by decide)
              · rw [I_eq (by omega) (by omega) (by omega) (by omega)] at n6
                rw [if_pos (by omega)] at hq
                have f6 : fm m [143] M5 M6 := fm_o q6 (by decide)
                have p0 : 0 ≤ fdT fl u 0 := by
                  by_cases z : fdT fl u 0 < 0
                  · exact absurd (Or.inr ⟨by omega, z⟩) ng
                  · omega
                exact hq _ rfl M6 (w5.mv f6 (by decide)) ok ⟨F5.mv f6 (by decide) (by decide), by rw [f6.fld (by decide)]; exact c5, _, b, by rw [q6, i_is], by rw [f6.fld (by decide)]; exact b5, Or.inr ⟨nu, p0, rfl⟩, ob⟩ (fz.trans (f6.w (by decide)))
            have bad : (u = [] ∨ ((tkD T t).1 - 4 = 2 ∧ fdT fl u 0 < 0)) → Q (.inl (some (.int (I 0)))) M5 := by
              intro bd
              rw [if_pos bd] at hq
              exact hq _ rfl M5 w5 ok ⟨F5, c5, a, b, a5, b5, oa, ob⟩ fz
            refine m_findF h5 w5.2.2.2.2.2.1 row5 (Nat.le_refl _) (w159_7 ⟨h5.k0, fun _ => ⟨fun z => bad (Or.inl ?_), fun z => ⟨h5.n5, by rw [h5.f5]; exact h5.k2, by rw [h5.f5]; exact li, ?_⟩⟩, fun z => absurd c5 z⟩)
            · rw [e5', I_eq (by omega) (by omega) (by omega) (by omega)] at z
              exact List.eq_nil_of_length_eq_zero (by omega)
            · rw [e5', I_eq (by omega) (by omega) (by omega) (by omega)] at z
              have nu : ¬ u = [] := fun y => by rw [y] at z; exact z rfl
              rw [h5.f5, I_ntn (by omega), kk1]
              refine ⟨fun n6 => ten (fun y => ?_), fun n6 => ⟨fun p0 => ten (fun y => ?_), fun p0 => bad (Or.inr ?_)⟩⟩
              · rw [I_eq (by omega) (by omega) (by omega) (by omega)] at n6
                rcases y with y | y
                · exact nu y
                · omega
              · rw [I_le (by omega) (by omega) (by omega) (by omega)] at p0
                rcases y with y | y
                · exact nu y
                · omega
              · rw [I_eq (by omega) (by omega) (by omega) (by omega)] at n6
                rw [I_le (by omega) (by omega) (by omega) (by omega)] at p0
                omega
          · rw [q5, i_is] at z; exact absurd rfl z
        · rw [I_le (by omega) (by omega) (by omega) (by omega)] at c8
          rw [if_pos (by omega)] at hd
          refine w159_5 ⟨h4.k0, Or.inr rfl, fun M5 q5 => ⟨h4.k0, fun z => ?_, fun _ => ?_⟩⟩
          · rw [q5, i_is] at z; exact absurd z (by decide)
          · have f5 : fm m sR M4 M5 := fm_o q5 (by decide)
            have h5 := h4.mv f5.1
            refine w159_7 ⟨h5.k0, fun z => ?_, fun _ => hd rfl M5 (by rw [q5, i_is]) (f4''.trans f5)⟩
            rw [q5, i_is] at z; exact absurd z (by decide)
      · rw [e27, I_le (by omega) (by omega) (by omega) (by omega)] at c; omega
end MRED
