/-! THE RUNNER: redirections and assignments -/
def pip (cs : List (List Nat)) (c : Nat) : Bool := Nat.beq ((cs.getD c []).getD 0 0) 3
def alo (cs : List (List Nat)) (c : Nat) : Bool := !pip cs c && !pip cs (c + 1)
section RUN
variable {E : mE} {M : mM} {Q : mQ} {b : Nat} {R : RT} {s : List Nat} {vs : eL} {po : List (List Nat)} {stt : Nat} {ps is : List (List Nat)}
theorem n_piped {c : Nat} (h : RX b M R) (hc : c < 100000) (hq : Q (.inl (some (.int (I (bI (pip (R 3).2.1 c)))))) M) : mC E 87 [.ref (b + 111), .int (I c)] M Q := by
  have s3 := h.c3
  have z0 := shL_lt s3.2.2.2.2.2.2.2.2 (c : Int) 0
  rw [shL_nat] at z0
  refine w87_0 ⟨h.k11, nz h.f11_1 h.1, by rw [h.f11_1]; exact h.k2, nz2 h.f11_1 h.f2_0 h.1, by rw [h.f11_1, h.f2_0]; exact s3.1, ?_⟩
  rw [h.f11_1, h.f2_0]
  refine sh_at (c := 0) s3 (by omega) (by omega) (by omega) ?_
  rw [shL_nat]
  refine ⟨fun u => ?_, fun u => ?_⟩
  · rw [I_eq (by omega) (by omega) (by omega) (by omega)] at u
    have : pip (R 3).2.1 c = false := by
      unfold pip
      cases q : Nat.beq (((R 3).2.1.getD c []).getD 0 0) 3 with
      | false => rfl
      | true => exact absurd (Nat.eq_of_beq_eq_true q) (by omega)
    rw [this] at hq; exact hq
  · rw [I_eq (by omega) (by omega) (by omega) (by omega)] at u
    have : pip (R 3).2.1 c = true := by unfold pip; rw [show ((R 3).2.1.getD c []).getD 0 0 = 3 by omega]; rfl
    rw [this] at hq; exact hq
theorem n_alone {c : Nat} (h : RX b M R) (hc : c < 10000) (hq : Q (.inl (some (.int (I (bI (alo (R 3).2.1 c)))))) M) : mC E 88 [.ref (b + 111), .int (I c)] M Q := by
  unfold alo at hq
  refine w88_0 ⟨h.k11, n_piped h (by omega) ⟨fun u => ?_, fun u => ⟨h.k11, ?_⟩⟩⟩
  · rw [bI_0] at u
    have : pip (R 3).2.1 c = true := by cases z : pip (R 3).2.1 c with | true => rfl | false => exact absurd z u
    rw [this] at hq; exact hq
  · rw [bI_0] at u
    rw [u] at hq
    rw [I_add]
    refine n_piped (c := c + 1) h (by omega) ⟨fun w => ?_, fun w => ?_⟩
    · rw [bI_0] at w
      have : pip (R 3).2.1 (c + 1) = true := by cases z : pip (R 3).2.1 (c + 1) with | true => rfl | false => exact absurd z w
      rw [this] at hq; exact hq
    · rw [bI_0] at w
      rw [w] at hq; exact hq
theorem nil_len {u : List Nat} : u.length = 0 ↔ u = [] := List.length_eq_zero_iff
theorem n_redir_l (hs : ok1 s) (hv : okE vs) (hp : okL po) (hst : stt ≤ 999) {en : Nat} (hen : en < 100000) {v1 : Int32} (n : Nat) : ∀ (it : Nat) (fl : eL) (i o : List Nat) (M : mM) (R : RT) (d4 d5 : Option Value), n = en - it → it < 100000 → RX b M R → cxt R s vs po stt ps → (R 4).2.1 = is → (R 15).1 = fl → R 30 = vT i → R 31 = vT o →
    (∀ r, rdL s vs po stt ps is n it fl i o = some r → ∀ M' R', RX b M' R' → ag [15, 17, 18, 19, 20, 21, 30, 31] R R' → (R' 15).1 = r.2.1 → (r.1 = true → R' 30 = vT r.2.2.1 ∧ R' 31 = vT r.2.2.2) → fr M M' b (b + 369) → Q (.inl (some (.int (I (bI r.1))))) M') → (rdL s vs po stt ps is n it fl i o = none → TH E b M R Q) →
    mX E 89 1 [some (.ref (b + 111)), some (.int v1), some (.int (I en)), some (.int (I it)), d4, d5] [] M Q := by
  induction n with
  | zero =>
    intro it fl i o M R d4 d5 hn hit h hx h4 h15 h30 h31 hq ht
    refine w89_1 ⟨fun _ => hq _ rfl M R h (ag.refl _ _) h15 (fun _ => ⟨h30, h31⟩) (fr.refl _ _ _), fun c => ?_⟩
    rw [I_le (by omega) (by omega) (by omega) (by omega)] at c; omega
  | succ n ih =>
    intro it fl i o M R d4 d5 hn hit h hx h4 h15 h30 h31 hq ht
    have s4 := h.c4
    rw [h4] at s4
    have z0 := shL_lt s4.2.2.2.2.2.2.2.2 (it : Int) 0
    rw [shL_nat] at z0
    unfold rdL at hq ht
    generalize hr : is.getD it [] = r at *
    refine w89_1 ⟨fun c => ?_, fun _ => ⟨h.k11, nz h.f11_1 h.1, by rw [h.f11_1]; exact h.k2, nz2 h.f11_1 h.f2_1 h.1, by rw [h.f11_1, h.f2_1]; exact s4.1, ?_⟩⟩
    · rw [I_le (by omega) (by omega) (by omega) (by omega)] at c; omega
    rw [h.f11_1, h.f2_1]
    refine sh_at (c := 0) s4 (by omega) (by omega) (by omega) ?_
    rw [shL_nat, hr]
    have skip : ∀ (d4 d5 : Option Value), (r.getD 0 0 = 0 ∨ r.getD 0 0 = 1) → mX E 89 1 [some (.ref (b + 111)), some (.int v1), some (.int (I en)), some (.int (I it + I 1)), d4, d5] [] M Q := by
      intro d4 d5 g
      rw [if_pos g] at hq ht
      rw [I_add]
      exact ih (it + 1) fl i o M R d4 d5 (by omega) (by omega) h hx h4 h15 h30 h31 hq ht
    refine ⟨fun c0 => skip _ _ (Or.inl ?_), fun c0 => ⟨fun c1 => ⟨fun c2 => ⟨h.k11, nz h.f11_7 h.1, ?_⟩, fun c2 => ⟨h.k11, nz h.f11_6 h.1, ?_⟩⟩, fun c1 => skip _ _ (Or.inr ?_)⟩⟩
    · rw [I_eq (by omega) (by omega) (by omega) (by omega)] at c0; omega
    · -- an output
      rw [I_eq (by omega) (by omega) (by omega) (by omega)] at c0 c1 c2
      rw [if_neg (by omega)] at hq ht
      rw [h.f11_7]
      refine w89_4 ⟨h.k11, nz h.f11_2 h.1, by rw [h.f11_2]; exact h.k17, ?_⟩
      rw [h.f11_2]
      refine e_whole hs hv hp hst h hx hit (fun u eu M1 R1 h1 a1 e21 f1 => ?_) (fun eu => ht ?_)
      · rw [h4, hr] at eu
        have oku := exW_ok hs hv hp eu
        rw [eu] at hq ht
        simp only [Option.bind_some] at hq ht
        have t31 := h1.c31
        have t21 := h1.g21 e21
        refine ⟨t31.1, t_become t31 t21 (by unfold apart; omega) (fun lu M2 t2 f2 => ?_) (fun lu => ?_)⟩
        · have lu' : u.length ≤ 8 := lu
          rw [if_neg (show ¬ 8 < u.length by omega)] at hq ht
          have h2 := h1.u31 t2 f2
          have a2 : ag [15, 17, 18, 19, 20, 21, 30, 31] R (up R1 31 (vT u)) := (a1.w (by decide)).trans (ag_up (by decide))
          have f12 := f1.then h2.2
          have e2 : mi M2 (b + 367) 1 = I (u.length : Int) := t2.2.2.2.2.1
          have x2 := hx.mv a2 (by decide) (by decide) (by decide) (by decide) (by decide)
          refine ⟨t2.1, fun c => ?_, fun c => ⟨fun _ => w89_6 ⟨fun w => ?_, fun _ => ⟨h2.1.k11, nz h2.1.f11_0 h.1, by rw [h2.1.f11_0]; exact h2.1.k12, nz2 h2.1.f11_0 h2.1.f12_2 h.1, by rw [h2.1.f11_0, h2.1.f12_2]; exact h2.1.c15.1.1, ?_⟩⟩, fun w => ?_⟩⟩
          · rw [e2, I_eq (by omega) (by omega) (by omega) (by omega)] at c
            rw [if_pos (Or.inl (nil_len.mp (by omega)))] at hq
            exact hq _ rfl M2 _ h2.1 a2 (by rw [up_n (by decide), a1 15 (by decide)]; exact h15) (fun w => absurd w Bool.false_ne_true) f12
          · rw [I_eq (by omega) (by omega) (by omega) (by omega)] at w; omega
          · rw [e2, I_eq (by omega) (by omega) (by omega) (by omega)] at c
            have ne : ¬ u = [] := fun z => by rw [z] at c; exact c rfl
            rw [if_neg (fun z => by rcases z with z | z; exact ne z; omega), if_neg (by omega)] at hq ht
            rw [h2.1.f11_0, h2.1.f12_2]
            have e15 := h2.1.c15
            rw [up_n (by decide), a1 15 (by decide), h15] at e15
            have seven : ∀ (M3 : mM) (R3 : RT) (fl1 : eL), opT 8 8 fl u = some fl1 → RX b M3 R3 → ag [15, 17, 18, 19, 20, 21, 30, 31] R R3 → (R3 15).1 = fl1 → R3 30 = vT i → R3 31 = vT u → fr M M3 b (b + 369) → mX E 89 7 [some (.ref (b + 111)), some (.int v1), some (.int (I en)), some (.int (I it)), some (.int (I (r.getD 0 0 : Nat))), some (.ref (b + 367))] [] M3 Q := by
              intro M3 R3 fl1 eo h3 a3 e153 e30 e31 f3
              have ofd := opT_fd eo
              rw [eo] at hq ht
              simp only [Option.bind_some] at hq ht
              have x3 := hx.mv a3 (by decide) (by decide) (by decide) (by decide) (by decide)
              have e4 : (R3 4).2.1 = is := by rw [a3 4 (by decide)]; exact h4
              refine w89_7 ⟨fun c3 => ?_, fun c3 => ⟨h3.k11, nz h3.f11_0 h.1, by rw [h3.f11_0]; exact h3.k12, nz2 h3.f11_0 h3.f12_2 h.1, by rw [h3.f11_0, h3.f12_2]; exact h3.c15.1.1, ?_⟩⟩
              · rw [I_eq (by omega) (by omega) (by omega) (by omega)] at c3
                rw [if_neg (by omega)] at hq ht
                rw [I_add]
                exact ih (it + 1) fl1 i u M3 R3 _ _ (by omega) (by omega) h3 x3 e4 e153 e30 e31 (fun q eq M' R' j1 j2 j3 j4 j5 => hq q eq M' R' j1 (a3.trans j2) j3 j4 (f3.then j5)) (fun eq => (ht eq).st f3 (a3.lo (by decide)))
              · rw [I_eq (by omega) (by omega) (by omega) (by omega)] at c3
                rw [if_pos (by omega)] at hq ht
                rw [h3.f11_0, h3.f12_2]
                have g15 := h3.c15
                rw [e153] at g15
                have l15 := g15.len
                have t31' := h3.g31 e31
                have fd := fdT_r fl1 u 0
                refine tb_find g15 t31' ⟨g15.1.1, tb_textAt g15 (by omega) (by omega) (fun q cap' tq q1 q2 q3 up' => ⟨tq.1, fun M8 q8 => ?_⟩)⟩
                obtain ⟨ec, up2⟩ := up' ofd (by omega)
                have k8 := tq.clr q8
                rw [ec] at k8
                have g8 := up2 M8 [] k8.1 k8.2
                have h8 := h3.u15 g8 (k8.2.wide (by omega) (by omega))
                have a8 := a3.trans (ag_up (R := R3) (S := [15, 17, 18, 19, 20, 21, 30, 31]) (k := 15) (v := vE (fl1.set (fdT fl1 u 0).toNat ((fl1.getD (fdT fl1 u 0).toNat ([], [])).1, []))) (by decide))
                rw [I_add]
                exact ih (it + 1) _ i u M8 _ _ _ (by omega) (by omega) h8.1 (hx.mv a8 (by decide) (by decide) (by decide) (by decide) (by decide)) (by rw [up_n (by decide)]; exact e4) (by rw [up_s] <;> rfl) (by rw [up_n (by decide)]; exact e30) (by rw [up_n (by decide)]; exact e31) (fun q eq M' R' j1 j2 j3 j4 j5 => hq q eq M' R' j1 (a8.trans j2) j3 j4 ((f3.then h8.2).then j5)) (fun eq => (ht eq).st (f3.then h8.2) (a8.lo (by decide)))
            have e30 : up R1 31 (vT u) 30 = vT i := by rw [up_n (by decide), a1 30 (by decide)]; exact h30
            refine tb_open e15 t2 (by omega) (fun g0 => ?_) (fun g0 g1 g2 M3 k3 f3 => ?_) (fun g0 g1 => ?_)
            · exact seven M2 _ fl (by unfold opT; rw [if_pos g0]) h2.1 a2 (by rw [up_n (by decide), a1 15 (by decide)]; exact h15) e30 (up_s _ _ _) f12
            · have h3 := h2.1.u15 k3 f3
              exact seven M3 _ (insT fl u []) (by unfold opT; rw [if_neg (by omega), if_pos ⟨g1, g2⟩]) h3.1 (a2.trans (ag_up (by decide))) (by rw [up_s] <;> rfl) (by rw [up_n (by decide)]; exact e30) (by rw [up_n (by decide), up_s]) (f12.then h3.2)
            · refine ((ht ?_).st f12 (a2.lo (by decide))).here h2.1
              unfold opT; rw [if_neg (by omega), if_neg (by omega)]; rfl
          · rw [I_eq (by omega) (by omega) (by omega) (by omega)] at w; omega
        · have lu' : 8 < u.length := lu
          rw [if_pos lu'] at ht
          exact ((ht rfl).st f1 (a1.lo (by decide))).here h1
      · rw [h4, hr] at eu
        rw [eu]; rfl
    · -- the input
      rw [I_eq (by omega) (by omega) (by omega) (by omega)] at c0 c1 c2
      rw [if_neg (by omega)] at hq ht
      rw [h.f11_6]
      refine w89_4 ⟨h.k11, nz h.f11_2 h.1, by rw [h.f11_2]; exact h.k17, ?_⟩
      rw [h.f11_2]
      refine e_whole hs hv hp hst h hx hit (fun u eu M1 R1 h1 a1 e21 f1 => ?_) (fun eu => ht ?_)
      · rw [h4, hr] at eu
        rw [eu] at hq ht
        simp only [Option.bind_some] at hq ht
        have t30 := h1.c30
        have t21 := h1.g21 e21
        refine ⟨t30.1, t_become t30 t21 (by unfold apart; omega) (fun lu M2 t2 f2 => ?_) (fun lu => ?_)⟩
        · have lu' : u.length ≤ 8 := lu
          rw [if_neg (show ¬ 8 < u.length by omega)] at hq ht
          have h2 := h1.u30 t2 f2
          have a2 : ag [15, 17, 18, 19, 20, 21, 30, 31] R (up R1 30 (vT u)) := (a1.w (by decide)).trans (ag_up (by decide))
          have f12 := f1.then h2.2
          have e2 : mi M2 (b + 365) 1 = I (u.length : Int) := t2.2.2.2.2.1
          have x2 := hx.mv a2 (by decide) (by decide) (by decide) (by decide) (by decide)
          have e15r : (up R1 30 (vT u) 15).1 = fl := by rw [up_n (by decide), a1 15 (by decide)]; exact h15
          refine ⟨t2.1, fun c => ?_, fun c => ⟨fun w => ?_, fun _ => ⟨h2.1.k11, nz h2.1.f11_0 h.1, by rw [h2.1.f11_0]; exact h2.1.k12, nz2 h2.1.f11_0 h2.1.f12_2 h.1, by rw [h2.1.f11_0, h2.1.f12_2]; exact h2.1.c15.1.1, ?_⟩⟩⟩
          · rw [e2, I_eq (by omega) (by omega) (by omega) (by omega)] at c
            rw [if_pos (Or.inl (nil_len.mp (by omega)))] at hq
            exact hq _ rfl M2 _ h2.1 a2 e15r (fun w => absurd w Bool.false_ne_true) f12
          · rw [I_eq (by omega) (by omega) (by omega) (by omega)] at w; omega
          · rw [e2, I_eq (by omega) (by omega) (by omega) (by omega)] at c
            have ne : ¬ u = [] := fun z => by rw [z] at c; exact c rfl
            rw [h2.1.f11_0, h2.1.f12_2]
            have e15 := h2.1.c15
            rw [e15r] at e15
            have l15 := e15.len
            have fd := fdT_r fl u 0
            refine tb_find e15 t2 ⟨fun g => w89_6 ⟨fun _ => w89_7 ⟨fun _ => ?_, fun w => ?_⟩, fun w => ?_⟩, fun g => ?_⟩
            · rw [I_le (by omega) (by omega) (by omega) (by omega)] at g
              rw [if_neg (fun z => by rcases z with z | z; exact ne z; omega), if_pos (by omega)] at hq ht
              rw [I_add]
              exact ih (it + 1) fl u o M2 _ _ _ (by omega) (by omega) h2.1 x2 (by rw [a2 4 (by decide)]; exact h4) e15r (up_s _ _ _) (by rw [up_n (by decide), a1 31 (by decide)]; exact h31) (fun q eq M' R' j1 j2 j3 j4 j5 => hq q eq M' R' j1 (a2.trans j2) j3 j4 (f12.then j5)) (fun eq => (ht eq).st f12 (a2.lo (by decide)))
            · rw [I_eq (by omega) (by omega) (by omega) (by omega)] at w; omega
            · rw [I_eq (by omega) (by omega) (by omega) (by omega)] at w; omega
            · rw [I_le (by omega) (by omega) (by omega) (by omega)] at g
              rw [if_pos (Or.inr ⟨by omega, by omega⟩)] at hq
              exact hq _ rfl M2 _ h2.1 a2 e15r (fun w => absurd w Bool.false_ne_true) f12
        · have lu' : 8 < u.length := lu
          rw [if_pos lu'] at ht
          exact ((ht rfl).st f1 (a1.lo (by decide))).here h1
      · rw [h4, hr] at eu
        rw [eu]; rfl
    · rw [I_eq (by omega) (by omega) (by omega) (by omega)] at c1; omega
theorem n_redir {c : Nat} (hs : ok1 s) (hv : okE vs) (hp : okL po) (hst : stt ≤ 999) (h : RX b M R) (hx : cxt R s vs po stt ps) (hc : c < 100000)
    (hq : ∀ r, rdL s vs po stt ps (R 4).2.1 (((R 3).2.1.getD c []).getD 2 0 - ((R 3).2.1.getD c []).getD 1 0) (((R 3).2.1.getD c []).getD 1 0) (R 15).1 [] [] = some r → ∀ M' R', RX b M' R' → ag [15, 17, 18, 19, 20, 21, 30, 31] R R' → (R' 15).1 = r.2.1 → (r.1 = true → R' 30 = vT r.2.2.1 ∧ R' 31 = vT r.2.2.2) → fr M M' b (b + 369) → Q (.inl (some (.int (I (bI r.1))))) M') (ht : rdL s vs po stt ps (R 4).2.1 (((R 3).2.1.getD c []).getD 2 0 - ((R 3).2.1.getD c []).getD 1 0) (((R 3).2.1.getD c []).getD 1 0) (R 15).1 [] [] = none → TH E b M R Q) : mC E 89 [.ref (b + 111), .int (I c)] M Q := by
  refine w89_0 ⟨h.k11, nz h.f11_6 h.1, by rw [h.f11_6]; exact h.c30.1, fun M1 q1 => ⟨nz h.f11_7 h.1, by rw [h.f11_7]; exact h.c31.1, fun M2 q2 => ⟨nz h.f11_1 h.1, by rw [h.f11_1]; exact h.k2, nz2 h.f11_1 h.f2_0 h.1, by rw [h.f11_1, h.f2_0]; exact h.c3.1, ?_⟩⟩⟩
  rw [h.f11_6] at q1
  rw [h.f11_7] at q2
  have k1 := h.c30.clr q1
  have h1 := h.u30 k1.1 k1.2
  have k2 := h1.1.c31.clr q2
  have h2 := h1.1.u31 k2.1 k2.2
  have a2 : ag [15, 17, 18, 19, 20, 21, 30, 31] R (up (up R 30 (vT [])) 31 (vT [])) := (ag_up (by decide)).trans (ag_up (by decide))
  have s3 := h2.1.c3
  rw [a2 3 (by decide)] at s3
  have z2 := shL_lt s3.2.2.2.2.2.2.2.2 (c : Int) 2
  have z1 := shL_lt s3.2.2.2.2.2.2.2.2 (c : Int) 1
  rw [shL_nat] at z1 z2
  rw [h.f11_1, h.f2_0]
  refine sh_at (c := 2) s3 (by omega) (by omega) (by omega) ⟨h2.1.k11, nz h2.1.f11_1 h.1, by rw [h2.1.f11_1]; exact h2.1.k2, nz2 h2.1.f11_1 h2.1.f2_0 h.1, by rw [h2.1.f11_1, h2.1.f2_0]; exact s3.1, ?_⟩
  rw [h2.1.f11_1, h2.1.f2_0]
  refine sh_at (c := 1) s3 (by omega) (by omega) (by omega) ?_
  rw [shL_nat, shL_nat]
  exact n_redir_l (is := (R 4).2.1) hs hv hp hst z2 _ _ (R 15).1 [] [] M2 _ none none rfl z1 h2.1 (hx.mv a2 (by decide) (by decide) (by decide) (by decide) (by decide)) (by rw [a2 4 (by decide)]) (by rw [up_n (by decide), up_n (by decide)]) (by rw [up_n (by decide), up_s]) (up_s _ _ _) (fun r e M' R' j1 j2 j3 j4 j5 => hq r e M' R' j1 (a2.trans j2) j3 j4 ((h1.2.then h2.2).then j5)) (fun e => (ht e).st (h1.2.then h2.2) (a2.lo (by decide)))
end RUN
