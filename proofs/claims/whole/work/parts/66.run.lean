/-! THE RUNNER: assignments, output to a file, a command -/
section RUN
variable {E : mE} {M : mM} {Q : mQ} {b : Nat} {R : RT} {s : List Nat} {vs : eL} {po : List (List Nat)} {stt : Nat} {ps is : List (List Nat)}
theorem n_assign_l (hs : ok1 s) (hp : okL po) (hst : stt ≤ 999) {fs : List (List Nat)} {sp : List Nat} {en : Nat} (hen : en < 100000) {v1 : Int32} (n : Nat) : ∀ (it : Nat) (vs : eL) (M : mM) (R : RT) (d4 d5 : Option Value), n = en - it → it < 100000 → okE vs → RX b M R → cxt R s vs po stt ps → (R 4).2.1 = is → R 23 = vR fs sp →
    (∀ v', asL s po stt ps is (fs.isEmpty) n it vs = some v' → okE v' → ∀ M' R', RX b M' R' → ag [13, 17, 18, 19, 20, 21] R R' → (R' 13).1 = v' → fr M M' b (b + 369) → Q (.inl none) M') → (asL s po stt ps is (fs.isEmpty) n it vs = none → TH E b M R Q) →
    mX E 90 1 [some (.ref (b + 111)), some (.int v1), some (.int (I en)), some (.int (I it)), d4, d5] [] M Q := by
  induction n with
  | zero =>
    intro it vs M R d4 d5 hn hit hv h hx h4 h23 hq ht
    refine w90_1 ⟨fun _ => hq _ rfl hv M R h (ag.refl _ _) hx.2.1 (fr.refl _ _ _), fun c => ?_⟩
    rw [I_le (by omega) (by omega) (by omega) (by omega)] at c; omega
  | succ n ih =>
    intro it vs M R d4 d5 hn hit hv h hx h4 h23 hq ht
    have s4 := h.g4 h4
    have z0 := shL_lt s4.2.2.2.2.2.2.2.2 (it : Int) 0
    rw [shL_nat] at z0
    unfold asL at hq ht
    generalize hr : is.getD it [] = r at *
    refine w90_1 ⟨fun c => ?_, fun _ => ⟨h.k11, nz h.f11_1 h.1, by rw [h.f11_1]; exact h.k2, nz2 h.f11_1 h.f2_1 h.1, by rw [h.f11_1, h.f2_1]; exact s4.1, ?_⟩⟩
    · rw [I_le (by omega) (by omega) (by omega) (by omega)] at c; omega
    rw [h.f11_1, h.f2_1]
    refine sh_at (c := 0) s4 (by omega) (by omega) (by omega) ?_
    rw [shL_nat, hr]
    refine ⟨fun c => ⟨h.k11, nz h.f11_2 h.1, by rw [h.f11_2]; exact h.k17, ?_⟩, fun c => ?_⟩
    · rw [I_eq (by omega) (by omega) (by omega) (by omega)] at c
      rw [if_pos (by omega)] at hq ht
      rw [h.f11_2]
      refine e_whole hs hv hp hst h hx hit (fun u eu M1 R1 h1 a1 e21 f1 => ?_) (fun eu => ht ?_)
      · rw [h4, hr] at eu
        have oku := exW_ok hs hv hp eu
        rw [eu] at hq ht
        simp only [Option.bind_some] at hq ht
        have e23 : R1 23 = vR fs sp := by rw [a1 23 (by decide)]; exact h23
        have r23 := h1.r23 e23
        have l23 := r23.len
        have x1 := hx.mv a1 (by decide) (by decide) (by decide) (by decide) (by decide)
        have e4 : (R1 4).2.1 = is := by rw [a1 4 (by decide)]; exact h4
        refine ⟨h1.k11, nz h1.f11_3 h.1, by rw [h1.f11_3]; exact h1.k22, nz2 h1.f11_3 h1.f22_0 h.1, by rw [h1.f11_3, h1.f22_0]; exact r23.1.1, fun c2 => ?_, fun c2 => ⟨nz h1.f11_2 h.1, by rw [h1.f11_2]; exact h1.k17, ?_⟩⟩
        · rw [h1.f11_3, h1.f22_0, r23.2.1, I_eq (by omega) (by omega) (by omega) (by omega)] at c2
          have ee : fs.isEmpty = false := by
            cases fs with
            | nil => exact absurd rfl c2
            | cons x xs => rfl
          rw [ee] at ih hq ht
          rw [if_neg Bool.false_ne_true] at hq ht
          rw [I_add]
          exact ih (it + 1) vs M1 R1 _ _ (by omega) (by omega) hv h1 x1 e4 e23 (fun v' e o M' R' j1 j2 j3 j4 => hq v' e o M' R' j1 ((a1.w (by decide)).trans j2) j3 (f1.then j4)) (fun e => (ht e).st f1 (a1.lo (by decide)))
        · rw [h1.f11_3, h1.f22_0, r23.2.1, I_eq (by omega) (by omega) (by omega) (by omega)] at c2
          have ee : fs.isEmpty = true := by
            cases fs with
            | nil => rfl
            | cons x xs => simp at c2; omega
          rw [ee] at ih hq ht
          rw [if_pos rfl] at hq ht
          rw [h1.f11_2]
          refine e_name h1 hit (fun M2 R2 h2 a2 e20 f2 => ?_)
          rw [x1.1, e4, hr] at e20
          generalize hnm : seg s (r.getD 3 0) (r.getD 4 0) = nm at *
          have oknm : ok1 nm := by rw [← hnm]; exact ok1_seg hs
          have a12 : ag [13, 17, 18, 19, 20, 21] R R2 := (a1.w (by decide)).trans (a2.w (by decide))
          have f12 := f1.then (f2.wide (l := b) (u := b + 369) (by omega) (by omega))
          have e13 := h2.g13 (es := vs) (by rw [a2 13 (by decide), a1 13 (by decide)]; exact hx.2.1)
          have t20 := h2.g20 e20
          refine ⟨h2.k11, nz h2.f11_0 h.1, by rw [h2.f11_0]; exact h2.k12, nz2 h2.f11_0 h2.f12_0 h.1, by rw [h2.f11_0, h2.f12_0]; exact e13.1.1, ?_⟩
          rw [h2.f11_0, h2.f12_0]
          have go : ∀ (M3 : mM) (R3 : RT) (v1' : eL), opT 8 6 vs nm = some v1' → RX b M3 R3 → ag [13] R2 R3 → (R3 13).1 = v1' → fr M2 M3 b (b + 369) → mkd M3 (b + 111) = 108 ∧ ¬ mr M3 (b + 111) 0 = 0 ∧ mkd M3 (mr M3 (b + 111) 0) = 105 ∧ ¬ mr M3 (mr M3 (b + 111) 0) 0 = 0 ∧ mkd M3 (mr M3 (mr M3 (b + 111) 0) 0) = 103 ∧ mC E 37 [.ref (mr M3 (mr M3 (b + 111) 0) 0), .ref (b + 254)] M3 (kI Q fun x17 M15 => mkd M15 (mr M3 (mr M3 (b + 111) 0) 0) = 103 ∧ mC E 36 [.ref (mr M3 (mr M3 (b + 111) 0) 0), .int x17] M15 (kR Q fun a20 M18 => mkd M18 a20 = 101 ∧ mC E 19 [.ref a20, .ref (b + 256)] M18 (kVo Q fun M21 => mX E 90 1 [some (.ref (b + 111)), some (.int v1), some (.int (I en)), some (.int (I it + I 1)), some (.ref (b + 256)), some (.ref (b + 254))] [] M21 Q))) := by
            intro M3 R3 v1' eo h3 a3 e133 f3
            have ofd := opT_fd eo
            have okv1 := okE_opT hv oknm eo
            rw [eo] at hq ht
            simp only [Option.bind_some] at hq ht
            have g13 := h3.g13 e133
            have l13 := g13.len
            have t20' := h3.g20 (s := nm) (by rw [a3 20 (by decide)]; exact e20)
            have t21' := h3.g21 (s := u) (by rw [a3 21 (by decide), a2 21 (by decide)]; exact e21)
            have l21 := t21'.len
            have fd := fdT_r v1' nm 0
            refine ⟨h3.k11, nz h3.f11_0 h.1, by rw [h3.f11_0]; exact h3.k12, nz2 h3.f11_0 h3.f12_0 h.1, by rw [h3.f11_0, h3.f12_0]; exact g13.1.1, ?_⟩
            rw [h3.f11_0, h3.f12_0]
            refine tb_find g13 t20' ⟨g13.1.1, tb_textAt g13 (by omega) (by omega) (fun q cap' tq q1 q2 q3 up' => ?_)⟩
            obtain ⟨ec, up2⟩ := up' ofd (by omega)
            rw [ec] at tq
            refine ⟨tq.1, t_become tq t21' (by unfold apart; omega) (fun lu M4 t4 f4 => ?_) (fun lu => absurd lu (by omega))⟩
            have g4 := up2 M4 u t4 f4
            have h4' := h3.u13 g4 (f4.wide (by omega) (by omega))
            have a4 := (a12.trans (a3.w (by decide))).trans (ag_up (R := R3) (S := [13, 17, 18, 19, 20, 21]) (k := 13) (v := vE (v1'.set (fdT v1' nm 0).toNat ((v1'.getD (fdT v1' nm 0).toNat ([], [])).1, u))) (by decide))
            show mX E 90 1 _ [] M4 Q
            rw [I_add]
            have f34 := (f12.then f3).then h4'.2
            refine ih (it + 1) _ M4 _ _ _ (by omega) (by omega) (okE_stT okv1 oku) h4'.1 ⟨?_, ?_, ?_, ?_, ?_⟩ ?_ ?_ (fun v' e o M' R' j1 j2 j3 j4 => hq v' e o M' R' j1 (a4.trans j2) j3 (f34.then j4)) (fun e => (ht e).st f34 (a4.lo (by decide)))
            · rw [a4 0 (by decide)]; exact hx.1
            · rw [up_s] <;> rfl
            · rw [a4 14 (by decide)]; exact hx.2.2.1
            · rw [a4 12 (by decide)]; exact hx.2.2.2.1
            · rw [a4 5 (by decide)]; exact hx.2.2.2.2
            · rw [a4 4 (by decide)]; exact h4
            · rw [a4 23 (by decide)]; exact h23
          refine tb_open e13 t20 (by omega) (fun g0 => ?_) (fun g0 g1 g2 M3 k3 f3 => ?_) (fun g0 g1 => ?_)
          · exact go M2 R2 vs (by unfold opT; rw [if_pos g0]) h2 (ag.refl _ _) (by rw [a2 13 (by decide), a1 13 (by decide)]; exact hx.2.1) (fr.refl _ _ _)
          · have h3 := h2.u13 k3 f3
            exact go M3 _ (insT vs nm []) (by unfold opT; rw [if_neg (by omega), if_pos ⟨g1, g2⟩]) h3.1 (ag_up (by decide)) (by rw [up_s] <;> rfl) h3.2
          · refine ((ht ?_).st f12 (a12.lo (by decide))).here h2
            unfold opT; rw [if_neg (by omega), if_neg (by omega)]; rfl
      · rw [h4, hr] at eu
        rw [eu]; rfl
    · rw [I_eq (by omega) (by omega) (by omega) (by omega)] at c
      rw [if_neg (by omega)] at hq ht
      rw [I_add]
      exact ih (it + 1) vs M R _ _ (by omega) (by omega) hv h hx h4 h23 hq ht
theorem n_assign {c : Nat} {fs : List (List Nat)} {sp : List Nat} (hs : ok1 s) (hv : okE vs) (hp : okL po) (hst : stt ≤ 999) (h : RX b M R) (hx : cxt R s vs po stt ps) (h23 : R 23 = vR fs sp) (hc : c < 100000)
    (hq : ∀ v', asL s po stt ps (R 4).2.1 (fs.isEmpty) (((R 3).2.1.getD c []).getD 2 0 - ((R 3).2.1.getD c []).getD 1 0) (((R 3).2.1.getD c []).getD 1 0) vs = some v' → okE v' → ∀ M' R', RX b M' R' → ag [13, 17, 18, 19, 20, 21] R R' → (R' 13).1 = v' → fr M M' b (b + 369) → Q (.inl none) M') (ht : asL s po stt ps (R 4).2.1 (fs.isEmpty) (((R 3).2.1.getD c []).getD 2 0 - ((R 3).2.1.getD c []).getD 1 0) (((R 3).2.1.getD c []).getD 1 0) vs = none → TH E b M R Q) : mC E 90 [.ref (b + 111), .int (I c)] M Q := by
  have s3 := h.c3
  have z2 := shL_lt s3.2.2.2.2.2.2.2.2 (c : Int) 2
  have z1 := shL_lt s3.2.2.2.2.2.2.2.2 (c : Int) 1
  rw [shL_nat] at z1 z2
  refine w90_0 ⟨h.k11, nz h.f11_1 h.1, by rw [h.f11_1]; exact h.k2, nz2 h.f11_1 h.f2_0 h.1, by rw [h.f11_1, h.f2_0]; exact s3.1, ?_⟩
  rw [h.f11_1, h.f2_0]
  refine sh_at (c := 2) s3 (by omega) (by omega) (by omega) ⟨h.k11, nz h.f11_1 h.1, by rw [h.f11_1]; exact h.k2, nz2 h.f11_1 h.f2_0 h.1, by rw [h.f11_1, h.f2_0]; exact s3.1, ?_⟩
  rw [h.f11_1, h.f2_0]
  refine sh_at (c := 1) s3 (by omega) (by omega) (by omega) ?_
  rw [shL_nat, shL_nat]
  exact n_assign_l (is := (R 4).2.1) hs hp hst z2 _ _ vs M R none none rfl z1 hv h hx rfl h23 hq ht
/-- what a command has put out goes to a file -/
def snF (fl : eL) (nm o : List Nat) : Option eL := if 0 ≤ fdT fl nm 0 then (if (txL fl (fdT fl nm 0) ++ o).length ≤ 80 then some (stT fl (fdT fl nm 0).toNat (txL fl (fdT fl nm 0) ++ o)) else none) else some fl
theorem n_send {fl : eL} {nm o : List Nat} (h : RX b M R) (h15 : (R 15).1 = fl) (h31 : R 31 = vT nm) (h25 : R 25 = vT o)
    (hq : ∀ fl', snF fl nm o = some fl' → ∀ M' R', RX b M' R' → ag [15, 25] R R' → (R' 15).1 = fl' → R' 25 = vT [] → fr M M' b (b + 369) → Q (.inl none) M') (ht : snF fl nm o = none → TH E b M R Q) : mC E 91 [.ref (b + 111)] M Q := by
  have e15 := h.g15 h15
  have l15 := e15.len
  have t31 := h.g31 h31
  have t25 := h.g25 h25
  have l25 := t25.len
  have fd := fdT_r fl nm 0
  have hb := h.1
  unfold snF at hq ht
  refine w91_0 ⟨h.k11, nz h.f11_0 h.1, by rw [h.f11_0]; exact h.k12, nz2 h.f11_0 h.f12_2 h.1, nz h.f11_7 h.1, by rw [h.f11_0, h.f12_2]; exact e15.1.1, ?_⟩
  rw [h.f11_0, h.f12_2, h.f11_7]
  refine tb_find e15 t31 ⟨fun c => ⟨h.k11, nz h.f11_3 h.1, by rw [h.f11_3]; exact h.k22, nz2 h.f11_3 h.f22_2 h.1, by rw [h.f11_3, h.f22_2]; exact t25.1, fun M5 q5 => ?_⟩, fun c => ⟨h.k11, nz h.f11_0 h.1, by rw [h.f11_0]; exact h.k12, nz2 h.f11_0 h.f12_2 h.1, by rw [h.f11_0, h.f12_2]; exact e15.1.1, ?_⟩⟩
  · rw [I_lt (by omega) (by omega) (by omega) (by omega)] at c
    rw [if_neg (by omega)] at hq
    rw [h.f11_3, h.f22_2] at q5
    have k5 := t25.clr q5
    have h5 := h.u25 k5.1 k5.2
    exact hq _ rfl M5 _ h5.1 (ag_up (by decide)) (by rw [up_n (by decide)]; exact h15) (up_s _ _ _) h5.2
  · rw [I_lt (by omega) (by omega) (by omega) (by omega)] at c
    rw [if_pos (by omega)] at hq ht
    rw [h.f11_0, h.f12_2]
    refine tb_textAt e15 (by omega) (by omega) (fun q cap' tq q1 q2 q3 up' => ?_)
    obtain ⟨ec, up2⟩ := up' (by omega) (by omega)
    rw [ec] at tq
    refine ⟨h.k11, nz h.f11_3 h.1, by rw [h.f11_3]; exact h.k22, nz2 h.f11_3 h.f22_2 h.1, by rw [h.f11_3, h.f22_2]; exact t25.1, tq.1, ?_⟩
    rw [h.f11_3, h.f22_2, t25.2.2.2.2.1]
    refine t_addRange (f := 0) tq t25 (by unfold apart; omega) (by omega) (by omega) (fun M1 t1 f1 => ?_) (fun M1 s1 l1 t1 f1 => ?_)
    · rw [seg_all] at t1
      have l1 := t1.len
      rw [if_pos (by omega)] at hq
      have g1 := up2 M1 _ t1 f1
      have h1 := h.u15 g1 (f1.wide (by omega) (by omega))
      refine ⟨h1.1.k11, nz h1.1.f11_3 h.1, by rw [h1.1.f11_3]; exact h1.1.k22, nz2 h1.1.f11_3 h1.1.f22_2 h.1, by rw [h1.1.f11_3, h1.1.f22_2]; exact h1.1.c25.1, fun M2 q2 => ?_⟩
      rw [h1.1.f11_3, h1.1.f22_2] at q2
      have k2 := h1.1.c25.clr q2
      have h2 := h1.1.u25 k2.1 k2.2
      exact hq _ rfl M2 _ h2.1 ((ag_up (by decide)).trans (ag_up (by decide))) (by rw [up_n (by decide), up_s] <;> rfl) (up_s _ _ _) (h1.2.then h2.2)
    · rw [seg_all] at l1
      rw [if_neg (by rw [List.length_append]; omega)] at ht
      have g1 := up2 M1 _ t1 f1
      have h1 := h.u15 g1 (f1.wide (by omega) (by omega))
      exact ht rfl M1 _ h1.1 ((ag_up (S := [15]) (by decide)).lo (by decide)) h1.2
end RUN
