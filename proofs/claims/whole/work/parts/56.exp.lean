/-! THE EXPANDER: pieces, whole words, names -/
/-- what an expansion looks at -/
def cxt (R : RT) (s : List Nat) (vs : eL) (po : List (List Nat)) (stt : Nat) (ps : List (List Nat)) : Prop := (R 0).2.2.1 = s ∧ (R 13).1 = vs ∧ (R 14).2.1 = po ∧ R 12 = vI [(stt : Int)] ∧ (R 5).2.1 = ps
theorem cxt.mv {R R' : RT} {s : List Nat} {vs : eL} {po : List (List Nat)} {stt : Nat} {ps : List (List Nat)} {S : List Nat} (h : cxt R s vs po stt ps) (a : ag S R R') (h0 : S.contains 0 = false) (h5 : S.contains 5 = false) (h12 : S.contains 12 = false) (h13 : S.contains 13 = false) (h14 : S.contains 14 = false) : cxt R' s vs po stt ps := by
  unfold cxt
  rw [a 0 h0, a 5 h5, a 12 h12, a 13 h13, a 14 h14]; exact h
theorem pcQ_iff (r : List Nat) : pcQ r = true ↔ ¬ (r.getD 0 0 = 0 ∨ r.getD 0 0 = 3) := by
  unfold pcQ
  generalize r.getD 0 0 = x
  constructor
  · intro h q
    rcases q with q | q <;> rw [q] at h <;> exact absurd h (by decide)
  · intro h
    cases hb : (Nat.beq x 0 || Nat.beq x 3) with
    | false => rfl
    | true =>
      exfalso
      rcases (Bool.or_eq_true _ _).mp hb with z | z
      · exact h (Or.inl (Nat.eq_of_beq_eq_true z))
      · exact h (Or.inr (Nat.eq_of_beq_eq_true z))
theorem shL_nat (rs : List (List Nat)) (p c : Nat) : shL rs (p : Int) c = (rs.getD p []).getD c 0 := by
  unfold shL; rw [if_pos (by omega), show ((p : Int).toNat) = p by omega]
section EXP
variable {E : mE} {M : mM} {Q : mQ} {b : Nat} {R : RT} {s : List Nat} {vs : eL} {po : List (List Nat)} {stt : Nat} {ps : List (List Nat)}
theorem e_pieces_l {en : Nat} {pa : Bool} {v1 : Int32} (hs : ok1 s) (hv : okE vs) (hp : okL po) (hst : stt ≤ 999) (hen : en < 100000) (n : Nat) : ∀ (p : Nat) (M : mM) (R : RT) (g : fS) (d6 d7 d8 d9 d10 d11 : Option Value), n = en - p → p < 100000 → RX b M R → cxt R s vs po stt ps → R 18 = vR g.1 g.2.1 → R 17 = vI [bI g.2.2] →
    (∀ g', exN s vs po stt pa ps n p g = some g' → ∀ M' R', RX b M' R' → ag [17, 18, 19, 20] R R' → R' 18 = vR g'.1 g'.2.1 → R' 17 = vI [bI g'.2.2] → fr M M' b (b + 369) → Q (.inl none) M') → (exN s vs po stt pa ps n p g = none → TH E b M R Q) →
    mX E 74 1 [some (.ref (b + 213)), some (.int v1), some (.int (I (bI pa))), some (.ref (b + 8)), some (.int (I en)), some (.int (I p)), d6, d7, d8, d9, d10, d11] [] M Q := by
  induction n with
  | zero =>
    intro p M R g d6 d7 d8 d9 d10 d11 hn hpl h hx h18 h17 hq ht
    refine w74_1 ⟨fun _ => hq g rfl M R h (ag.refl _ _) h18 h17 (fr.refl _ _ _), fun c => ?_⟩
    rw [I_le (by omega) (by omega) (by omega) (by omega)] at c; omega
  | succ n ih =>
    intro p M R g d6 d7 d8 d9 d10 d11 hn hpl h hx h18 h17 hq ht
    have hb := h.1
    have s5 := h.c5
    rw [hx.2.2.2.2] at s5
    have t0 := h.c0
    rw [hx.1] at t0
    unfold exN at hq ht
    have next : ∀ (g' : fS) (M' : mM) (R' : RT) (d6 d7 d8 d9 d10 d11 : Option Value), exPc s vs po stt pa (ps.getD p []) g = some g' → RX b M' R' → ag [17, 18, 19, 20] R R' → R' 18 = vR g'.1 g'.2.1 → R' 17 = vI [bI g'.2.2] → fr M M' b (b + 369) → mX E 74 1 [some (.ref (b + 213)), some (.int v1), some (.int (I (bI pa))), some (.ref (b + 8)), some (.int (I en)), some (.int (I p + I 1)), d6, d7, d8, d9, d10, d11] [] M' Q := by
      intro g' M' R' d6 d7 d8 d9 d10 d11 e1 k1 k2 k3 k4 k5
      rw [e1] at hq ht
      rw [I_add]
      exact ih (p + 1) M' R' g' d6 d7 d8 d9 d10 d11 (by omega) (by omega) k1 (hx.mv k2 (by decide) (by decide) (by decide) (by decide) (by decide)) k3 k4 (fun g2 e2 M2 R2 j1 j2 j3 j4 j5 => hq g2 e2 M2 R2 j1 (k2.trans j2) j3 j4 (k5.then j5)) (fun e2 => (ht e2).st k5 (k2.lo (by decide)))
    have bad : exPc s vs po stt pa (ps.getD p []) g = none → TH E b M R Q := fun e1 => ht (by rw [e1]; rfl)
    generalize hr : ps.getD p [] = r at next bad
    have b0 : r.getD 0 0 < 100000 := by rw [← hr, ← shL_nat]; exact shL_lt s5.2.2.2.2.2.2.2.2 _ _
    have b1 : r.getD 1 0 < 100000 := by rw [← hr, ← shL_nat]; exact shL_lt s5.2.2.2.2.2.2.2.2 _ _
    have b2 : r.getD 2 0 < 100000 := by rw [← hr, ← shL_nat]; exact shL_lt s5.2.2.2.2.2.2.2.2 _ _
    have b3 : r.getD 3 0 < 100000 := by rw [← hr, ← shL_nat]; exact shL_lt s5.2.2.2.2.2.2.2.2 _ _
    have b4 : r.getD 4 0 < 100000 := by rw [← hr, ← shL_nat]; exact shL_lt s5.2.2.2.2.2.2.2.2 _ _
    have bq : Nat.beq (r.getD 0 0) 2 = true ↔ r.getD 0 0 = 2 := by simp
    have qq := pcQ_iff r
    unfold exPc at next bad
    -- behind the flag
    have six : ∀ (z : Bool) (d10 d11 : Option Value), z = (g.2.2 || Nat.beq (r.getD 0 0) 2) → mX E 74 6 [some (.ref (b + 213)), some (.int v1), some (.int (I (bI pa))), some (.ref (b + 8)), some (.int (I en)), some (.int (I p)), some (.int (I (r.getD 0 0 : Nat))), some (.int (I (r.getD 1 0 : Nat))), some (.int (I (r.getD 2 0 : Nat))), some (.int (I (bI (pcQ r)))), d10, d11] [.int (I (bI z)), .ref (b + 213)] M Q := by
      intro z d10 d11 hz
      refine w74_6 ⟨h.k17, bI_01 z, fun M1 q1 => ?_⟩
      have h1 := h.u17 q1 (x0 := bI z) (by simp)
      have x1 := hx.mv (ag_up (R := R) (S := [17]) (k := 17) (v := vI [bI z]) (by decide)) (by decide) (by decide) (by decide) (by decide) (by decide)
      have e18 : up R 17 (vI [bI z]) 18 = vR g.1 g.2.1 := by rw [up_n (by decide)]; exact h18
      have a1 : ag [17, 18, 19, 20] R (up R 17 (vI [bI z])) := ag_up (by decide)
      have par : (r.getD 0 0 = 3 ∨ r.getD 0 0 = 4) → mX E 74 7 [some (.ref (b + 213)), some (.int v1), some (.int (I (bI pa))), some (.ref (b + 8)), some (.int (I en)), some (.int (I p)), some (.int (I (r.getD 0 0 : Nat))), some (.int (I (r.getD 1 0 : Nat))), some (.int (I (r.getD 2 0 : Nat))), some (.int (I (bI (pcQ r)))), d10, d11] [] M1 Q := by
        intro g3
        unfold pcC at next bad
        rw [if_pos g3] at next bad
        refine w74_7 ⟨h1.1.c17.1, e_param h1.1 x1.2.2.2.1 hst b1 b2 (fun M2 R2 a cap' h2 a2 f2 tp pp => ?_)⟩
        have x2 := x1.mv a2 (by decide) (by decide) (by decide) (by decide) (by decide)
        have e18' : R2 18 = vR g.1 g.2.1 := by rw [a2 18 (by decide)]; exact e18
        have e17' : R2 17 = vI [bI z] := by rw [a2 17 (by decide), up_s]
        have f2' := f2.wide (l := b) (u := b + 369) (by omega) (by omega)
        have a12 : ag [17, 18, 19, 20] R R2 := a1.trans (a2.w (by decide))
        have tpl := tp.len
        have s5' := h2.c5
        rw [x2.2.2.2.2] at s5'
        have t0' := h2.c0
        rw [x2.1] at t0'
        have hpv : pmV (up R 17 (vI [bI z]) 0).2.2.1 (up R 17 (vI [bI z]) 13).1 (up R 17 (vI [bI z]) 14).2.1 stt (r.getD 1 0) (r.getD 2 0) = pmV s vs po stt (r.getD 1 0) (r.getD 2 0) := by rw [x1.1, x1.2.1, x1.2.2.1]
        rw [hpv] at tp
        have okp : ok1 (pmV s vs po stt (r.getD 1 0) (r.getD 2 0)) := pmV_ok hv hp
        generalize pmV s vs po stt (r.getD 1 0) (r.getD 2 0) = pv at tp okp next bad
        have tpl := tp.len
        have fin : ∀ (a' cap'' f' e' : Nat) (u : List Nat) (d7 d8 d10 d11 : Option Value), f' < 100000 → e' < 100000 → tX M2 a' cap'' u → (a' + 2 ≤ b + 213 ∨ b + 252 ≤ a') → ok1 u → rng u f' e' = (if pv = [] then rng s (r.getD 3 0) (r.getD 4 0) else pv) → mC E 75 [.ref (b + 213), .ref a', .int (I f'), .int (I e'), .int (I (bI (pcQ r))), .int (I (bI pa))] M2 (kVo Q fun M3 => mX E 74 1 [some (.ref (b + 213)), some (.int v1), some (.int (I (bI pa))), some (.ref (b + 8)), some (.int (I en)), some (.int (I p + I 1)), some (.int (I (r.getD 0 0 : Nat))), d7, d8, some (.int (I (bI (pcQ r)))), d10, d11] [] M3 Q) := by
          intro a' cap'' f' e' u d7 d8 d10 d11 l1 l2 t' pa' hu er
          refine e_chars (g := (g.1, g.2.1, z)) h2 e18' e17' t' pa' hu l1 l2 (fun g' eg M3 R3 j1 j2 j3 j4 j5 => ?_) (fun eg => ?_)
          · rw [er, hz] at eg
            exact next g' M3 R3 _ _ _ _ _ _ eg j1 (a12.trans (j2.w (by decide))) j3 j4 ((h1.2.then f2').then (j5.wide (by omega) (by omega)))
          · rw [er, hz] at eg
            exact (bad eg).st (h1.2.then f2') (a12.lo (by decide))
        refine ⟨tp.1, fun u1 => w74_9 ⟨fun _ => w74_11 ⟨fun _ => ⟨tp.1, w74_13 ⟨fun _ => w74_15 ⟨h2.k17, ?_⟩, fun u => absurd rfl u⟩⟩, fun u => absurd rfl u⟩, fun u => absurd rfl u⟩, fun u1 => w74_9 ⟨fun u => absurd u (by decide), fun _ => ⟨s5'.1, sh_at (c := 3) s5' (by omega) (by omega) (by omega) (w74_11 ⟨fun u => absurd u (by decide), fun _ => ⟨s5'.1, sh_at (c := 4) s5' (by omega) (by omega) (by omega) (w74_13 ⟨fun u => absurd u (by decide), fun _ => ⟨h2.k17, nz h2.f17_0 h.1, w74_15 ⟨h2.k17, ?_⟩⟩⟩)⟩⟩)⟩⟩⟩
        · rw [tp.2.2.2.2.1, I_eq (by omega) (by omega) (by omega) (by omega)] at u1
          rw [tp.2.2.2.2.1]
          have ne : ¬ pv = [] := fun z => by rw [z] at u1; simp at u1
          refine fin a cap' 0 pv.length pv _ _ _ _ (by omega) (by omega) tp pp okp ?_
          rw [if_neg ne]
          unfold rng
          rw [Nat.sub_zero]
          apply List.ext_getElem
          · simp
          · intro i i1 i2
            simp at i1
            simp [List.getD_eq_getElem?_getD, List.getElem?_eq_getElem i1]
        · rw [tp.2.2.2.2.1, I_eq (by omega) (by omega) (by omega) (by omega)] at u1
          rw [shL_nat, shL_nat, hr, h2.f17_0]
          have ne : pv = [] := List.length_eq_zero_iff.mp (by omega)
          exact fin (b + 1) 240 _ _ s _ _ _ _ b3 b4 t0' (by omega) hs (by rw [if_pos ne])
      refine ⟨fun u1 => par (Or.inl ?_), fun u1 => ⟨fun u2 => par (Or.inr ?_), fun u2 => ⟨h.k17, nz h.f17_0 h.1, ?_⟩⟩⟩
      · rw [I_eq (by omega) (by omega) (by omega) (by omega)] at u1; omega
      · rw [I_eq (by omega) (by omega) (by omega) (by omega)] at u2; omega
      · rw [I_eq (by omega) (by omega) (by omega) (by omega)] at u1 u2
        rw [h.f17_0]
        unfold pcC at next bad
        rw [if_neg (by omega)] at next bad
        have t0' := h1.1.c0
        rw [x1.1] at t0'
        refine e_chars (g := (g.1, g.2.1, z)) h1.1 e18 (up_s _ _ _) t0' (by omega) hs b1 b2 (fun g' eg M3 R3 j1 j2 j3 j4 j5 => ?_) (fun eg => ?_)
        · rw [hz] at eg
          exact next g' M3 R3 _ _ _ _ _ _ eg j1 (a1.trans (j2.w (by decide))) j3 j4 (h1.2.then (j5.wide (by omega) (by omega)))
        · rw [hz] at eg
          exact (bad eg).st h1.2 (a1.lo (by decide))
    have three : ∀ (z : Bool), z = pcQ r → mX E 74 3 [some (.ref (b + 213)), some (.int v1), some (.int (I (bI pa))), some (.ref (b + 8)), some (.int (I en)), some (.int (I p)), some (.int (I (r.getD 0 0 : Nat))), some (.int (I (r.getD 1 0 : Nat))), some (.int (I (r.getD 2 0 : Nat))), d9, d10, d11] [.int (I (bI z))] M Q := by
      intro z hz
      rw [hz]
      refine w74_3 ⟨h.k17, fun u1 => w74_4 (six true _ _ ?_), fun u1 => ⟨fun u2 => six false _ _ ?_, fun u2 => w74_4 (six true _ _ ?_)⟩⟩
      · rw [h.q17 h17, bI_0] at u1
        cases g22 : g.2.2 with | true => rfl | false => exact absurd g22 u1
      · rw [h.q17 h17, bI_0] at u1
        rw [I_eq (by omega) (by omega) (by omega) (by omega)] at u2
        rw [u1]
        cases q : Nat.beq (r.getD 0 0) 2 with
        | false => rfl
        | true => exact absurd (bq.mp q) (by omega)
      · rw [I_eq (by omega) (by omega) (by omega) (by omega)] at u2
        rw [bq.mpr (by omega)]; simp
    refine w74_1 ⟨fun c => ?_, fun c => ⟨s5.1, sh_at (c := 0) s5 (by omega) (by omega) (by omega) ⟨s5.1, sh_at (c := 1) s5 (by omega) (by omega) (by omega) ⟨s5.1, sh_at (c := 2) s5 (by omega) (by omega) (by omega) ?_⟩⟩⟩⟩
    · rw [I_le (by omega) (by omega) (by omega) (by omega)] at c; omega
    · rw [shL_nat, shL_nat, shL_nat, hr]
      refine ⟨fun u1 => w74_2 (three false ?_), fun u1 => ⟨fun u2 => w74_2 (three false ?_), fun u2 => three true ?_⟩⟩
      · rw [I_eq (by omega) (by omega) (by omega) (by omega)] at u1
        cases q : pcQ r with
        | false => rfl
        | true => exact absurd (Or.inl (by omega)) (qq.mp q)
      · rw [I_eq (by omega) (by omega) (by omega) (by omega)] at u2
        cases q : pcQ r with
        | false => rfl
        | true => exact absurd (Or.inr (by omega)) (qq.mp q)
      · rw [I_eq (by omega) (by omega) (by omega) (by omega)] at u1 u2
        exact (qq.mpr (by omega)).symm
/-- the pieces of an item -/
def exI (s : List Nat) (vs : eL) (po : List (List Nat)) (stt : Nat) (pa : Bool) (ps : List (List Nat)) (it : List Nat) (ts : List (List Nat)) (sp : List Nat) : Option fS := exN s vs po stt pa ps (it.getD 2 0 - it.getD 1 0) (it.getD 1 0) (ts, sp, false)
theorem e_pieces {pa : Bool} {item : Nat} {ts : List (List Nat)} {sp : List Nat} (hs : ok1 s) (hv : okE vs) (hp : okL po) (hst : stt ≤ 999) (h : RX b M R) (hx : cxt R s vs po stt ps) (h18 : R 18 = vR ts sp) (hi : item < 100000)
    (hq : ∀ g', exI s vs po stt pa ps ((R 4).2.1.getD item []) ts sp = some g' → ∀ M' R', RX b M' R' → ag [17, 18, 19, 20] R R' → R' 18 = vR g'.1 g'.2.1 → R' 17 = vI [bI g'.2.2] → fr M M' b (b + 369) → Q (.inl none) M') (ht : exI s vs po stt pa ps ((R 4).2.1.getD item []) ts sp = none → TH E b M R Q) : mC E 74 [.ref (b + 213), .int (I item), .int (I (bI pa))] M Q := by
  have hb := h.1
  refine w74_0 ⟨h.k17, fun M1 q1 => ⟨nz h.f17_1 h.1, by rw [h.f17_1]; exact h.k2, nz2 h.f17_1 h.f2_2 h.1, nz2 h.f17_1 h.f2_1 h.1, by rw [h.f17_1, h.f2_1]; exact h.c4.1, ?_⟩⟩
  have h1 := h.u17 q1 (x0 := bI false) (by simp; rfl)
  have s4 := h1.1.c4
  rw [up_n (by decide)] at s4
  have z2 := shL_lt s4.2.2.2.2.2.2.2.2 (item : Int) 2
  have z1 := shL_lt s4.2.2.2.2.2.2.2.2 (item : Int) 1
  rw [shL_nat] at z1 z2
  rw [h.f17_1, h.f2_1, h.f2_2]
  refine sh_at (c := 2) s4 (by omega) (by omega) (by omega) ⟨h1.1.k17, nz h1.1.f17_1 h.1, by rw [h1.1.f17_1]; exact h1.1.k2, nz2 h1.1.f17_1 h1.1.f2_1 h.1, by rw [h1.1.f17_1, h1.1.f2_1]; exact s4.1, ?_⟩
  rw [h1.1.f17_1, h1.1.f2_1]
  refine sh_at (c := 1) s4 (by omega) (by omega) (by omega) ?_
  rw [shL_nat, shL_nat]
  unfold exI at hq ht
  have x1 := hx.mv (ag_up (R := R) (S := [17]) (k := 17) (v := vI [bI false]) (by decide)) (by decide) (by decide) (by decide) (by decide) (by decide)
  exact e_pieces_l hs hv hp hst z2 _ _ M1 _ (ts, sp, false) none none none none none none rfl z1 h1.1 x1 (by rw [up_n (by decide)]; exact h18) (up_s _ _ _) (fun g' eg M' R' j1 j2 j3 j4 j5 => hq g' eg M' R' j1 ((ag_up (by decide)).trans j2) j3 j4 (h1.2.then j5)) (fun eg => (ht eg).st h1.2 ((ag_up (S := [17]) (by decide)).lo (by decide)))
end EXP
