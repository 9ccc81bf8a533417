/-! THE RUNNER: from command to command -/
/-- whether a command's pipeline is due by what joins it to the one before -/
def dueS (jn stt : Nat) : Bool := Nat.beq jn 0 || (Nat.beq jn 1 == Nat.beq stt 0)
section RUN
variable {E : mE} {M : mM} {Q : mQ} {b : Nat} {R : RT} {vs fl : eL} {po : List (List Nat)} {stt : Nat} {cs : List (List Nat)}
theorem RX.r11 (h : RX b M R) {x0 x1 x2 : Int} (e : R 11 = vI [x0, x1, x2]) : mi M (b + 111) 8 = I x0 ∧ mi M (b + 111) 9 = I x1 ∧ mi M (b + 111) 10 = I x2 := by
  have z1 := h.i11_8
  have z2 := h.i11_9
  have z3 := h.i11_10
  rw [e] at z1 z2 z3
  exact ⟨z1, z2, z3⟩
theorem RX.r12 (h : RX b M R) (e : R 12 = vI [(stt : Int)]) : mi M (b + 112) 4 = I (stt : Int) := by
  have z := h.i12_4
  rw [e] at z; exact z
theorem n_begin (h : RX b M R) (hq : ∀ M' R', RX b M' R' → ag [11, 12, 13, 14, 15, 16] R R' → (R' 13).1 = (R 7).1 → (R' 14).2.1 = (R 8).2.1 → (R' 15).1 = (R 9).1 → R' 12 = vI [(R 6).2.2.2.getD 0 0] → R' 16 = vT [] → (∃ x0 x2, R' 11 = vI [x0, bI false, x2]) → fr M M' b (b + 369) → Q (.inl none) M') : mC E 82 [.ref (b + 111), .ref (b + 10)] M Q := by
  refine w82_0 ⟨h.k11, nz h.f11_0 h.1, by rw [h.f11_0]; exact h.k12, ?_⟩
  rw [h.f11_0]
  refine s_become h.stR h.stK (by omega) (fun M1 k1 f1 => ?_)
  have h1 := h.setR k1 f1
  refine ⟨h1.1.k11, nz h1.1.f11_0 h.1, by rw [h1.1.f11_0]; exact h1.1.k12, nz2 h1.1.f11_0 h1.1.f12_3 h.1, by rw [h1.1.f11_0, h1.1.f12_3]; exact h1.1.c16.1, fun M3 q3 M4 q4 => ?_⟩
  rw [h1.1.f11_0, h1.1.f12_3] at q3
  have k3 := h1.1.c16.clr q3
  have h3 := h1.1.u16 k3.1 k3.2
  have h4 := h3.1.u11 q4 (x0 := (R 11).2.2.2.getD 0 0) (x1 := bI false) (x2 := (R 11).2.2.2.getD 2 0) rfl rfl rfl
  refine hq M4 _ h4.1 (fun j hj => ?_) rfl rfl rfl rfl rfl ⟨_, _, rfl⟩ ((h1.2.then h3.2).then h4.2)
  have ne : ∀ k, [11, 12, 13, 14, 15, 16].contains k = true → ¬ j = k := fun k hk e => by rw [e, hk] at hj; exact absurd hj (by decide)
  rw [up_n (ne 11 (by decide)), up_n (ne 16 (by decide))]
  unfold upR
  rw [up_n (ne 16 (by decide)), up_n (ne 15 (by decide)), up_n (ne 14 (by decide)), up_n (ne 13 (by decide)), up_n (ne 12 (by decide))]
theorem n_due {c : Nat} {x0 x2 : Int} {en : Bool} (h : RX b M R) (h3 : (R 3).2.1 = cs) (h12 : R 12 = vI [(stt : Int)]) (hst : stt ≤ 255) (h11 : R 11 = vI [x0, bI en, x2]) (hc : c < 10000)
    (hp : pip cs c = true → ∀ d : Bool, x0 = bI d → Q (.inl (some (.int (I (bI (d && !en)))))) M) (hd : pip cs c = true → ∃ d : Bool, x0 = bI d)
    (hq : pip cs c = false → ∀ M' R', RX b M' R' → ag [11] R R' → R' 11 = vI [bI (dueS ((cs.getD c []).getD 0 0) stt), bI en, 0] → fr M M' b (b + 369) → Q (.inl (some (.int (I (bI (dueS ((cs.getD c []).getD 0 0) stt && !en)))))) M') : mC E 83 [.ref (b + 111), .int (I c)] M Q := by
  have s3 := h.g3 h3
  have z0 := shL_lt s3.2.2.2.2.2.2.2.2 (c : Int) 0
  rw [shL_nat] at z0
  have r12 := h.r12 h12
  generalize hj : (cs.getD c []).getD 0 0 = jn at *
  have pj : pip cs c = Nat.beq jn 3 := by unfold pip; rw [hj]
  have last : ∀ (M1 : mM) (R1 : RT) (y0 y2 : Int) (d : Bool) (v2 : Int32), RX b M1 R1 → R1 11 = vI [y0, bI en, y2] → y0 = bI d → Q (.inl (some (.int (I (bI (d && !en)))))) M1 → mX E 83 8 [some (.ref (b + 111)), some (.int (I c)), some (.int v2)] [] M1 Q := by
    intro M1 R1 y0 y2 d v2 h1 e11 ed k
    obtain ⟨r1, r2, r3⟩ := h1.r11 e11
    subst ed
    refine w83_8 ⟨h1.k11, fun u => ?_, fun u => ⟨fun w => ?_, fun w => ?_⟩⟩
    · rw [r1, bI_0] at u
      rw [u] at k; exact k
    · rw [r2, bI_0] at w
      have : en = true := by cases en with | true => rfl | false => exact absurd rfl w
      rw [this] at k
      cases d <;> exact k
    · rw [r1, bI_0] at u
      rw [r2, bI_0] at w
      have : d = true := by cases d with | true => rfl | false => exact absurd rfl u
      rw [this, w] at k; exact k
  have sev : ∀ (d : Bool), pip cs c = false → d = dueS jn stt → mX E 83 7 [some (.ref (b + 111)), some (.int (I c)), some (.int (I jn))] [.int (I (bI d)), .ref (b + 111)] M Q := by
    intro d hp0 ed
    refine w83_7 ⟨h.k11, bI_01 d, fun M1 q1 => ⟨h.k11, fun M2 q2 => ?_⟩⟩
    have h1 := h.u11 q1 (x0 := bI d) (x1 := bI en) (x2 := x2) rfl (by rw [h11]; rfl) (by rw [h11]; rfl)
    have h2 := h1.1.u11 q2 (x0 := bI d) (x1 := bI en) (x2 := 0) (by rw [up_s]; rfl) (by rw [up_s]; rfl) rfl
    refine last M2 _ (bI d) 0 d _ h2.1 (up_s _ _ _) rfl ?_
    have := hq hp0 M2 _ h2.1 ((ag_up (by decide)).trans (ag_up (by decide))) (by rw [up_s, ed]) (h1.2.then h2.2)
    rw [ed]; exact this
  refine w83_0 ⟨h.k11, nz h.f11_1 h.1, by rw [h.f11_1]; exact h.k2, nz2 h.f11_1 h.f2_0 h.1, by rw [h.f11_1, h.f2_0]; exact s3.1, ?_⟩
  rw [h.f11_1, h.f2_0]
  refine sh_at (c := 0) s3 (by omega) (by omega) (by omega) ?_
  rw [shL_nat, hj]
  have two : ∀ (z : Bool), pip cs c = false → ¬ jn = 0 → z = Nat.beq jn 1 → mX E 83 2 [some (.ref (b + 111)), some (.int (I c)), some (.int (I jn))] [.int (I (bI z)), .ref (b + 111)] M Q := by
    intro z hp0 j0 hz
    have b0 : Nat.beq jn 0 = false := by
      cases q : Nat.beq jn 0 with
      | false => rfl
      | true => exact absurd (Nat.eq_of_beq_eq_true q) j0
    have four : ∀ (y : Bool), y = Nat.beq stt 0 → mX E 83 4 [some (.ref (b + 111)), some (.int (I c)), some (.int (I jn))] [.int (I (bI y)), .int (I (bI z)), .ref (b + 111)] M Q := by
      intro y hy
      refine w83_4 ⟨fun u => sev false hp0 ?_, fun u => w83_5 (sev true hp0 ?_)⟩
      · unfold dueS
        rw [b0, ← hz, ← hy]
        cases z <;> cases y <;> first | rfl | exact absurd rfl u
      · unfold dueS
        rw [b0, ← hz, ← hy]
        cases z <;> cases y <;> first | rfl | exact absurd u (by decide)
    refine w83_2 ⟨h.k11, nz h.f11_0 h.1, by rw [h.f11_0]; exact h.k12, fun u => four false ?_, fun u => four true ?_⟩
    · rw [h.f11_0, r12, I_eq (by omega) (by omega) (by omega) (by omega)] at u
      cases q : Nat.beq stt 0 with
      | false => rfl
      | true => exact absurd (Nat.eq_of_beq_eq_true q) (by omega)
    · rw [h.f11_0, r12, I_eq (by omega) (by omega) (by omega) (by omega)] at u
      rw [show stt = 0 by omega]; rfl
  refine ⟨fun u => ?_, fun u => ⟨fun w => w83_5 (sev true ?_ ?_), fun w => ⟨fun v => two false ?_ ?_ ?_, fun v => two true ?_ ?_ ?_⟩⟩⟩
  · rw [I_eq (by omega) (by omega) (by omega) (by omega)] at u
    have pt : pip cs c = true := by rw [pj, show jn = 3 by omega]; rfl
    obtain ⟨d, ed⟩ := hd pt
    exact last M R x0 x2 d _ h h11 ed (hp pt d ed)
  all_goals rw [I_eq (by omega) (by omega) (by omega) (by omega)] at u
  · rw [pj]; cases q : Nat.beq jn 3 with
    | false => rfl
    | true => exact absurd (Nat.eq_of_beq_eq_true q) (by omega)
  · rw [I_eq (by omega) (by omega) (by omega) (by omega)] at w
    rw [show jn = 0 by omega]; rfl
  · rw [pj]; cases q : Nat.beq jn 3 with
    | false => rfl
    | true => exact absurd (Nat.eq_of_beq_eq_true q) (by omega)
  · rw [I_eq (by omega) (by omega) (by omega) (by omega)] at w; omega
  · rw [I_eq (by omega) (by omega) (by omega) (by omega)] at v
    cases q : Nat.beq jn 1 with
    | false => rfl
    | true => exact absurd (Nat.eq_of_beq_eq_true q) (by omega)
  · rw [pj]; cases q : Nat.beq jn 3 with
    | false => rfl
    | true => exact absurd (Nat.eq_of_beq_eq_true q) (by omega)
  · rw [I_eq (by omega) (by omega) (by omega) (by omega)] at w; omega
  · rw [I_eq (by omega) (by omega) (by omega) (by omega)] at v
    rw [show jn = 1 by omega]; rfl
theorem n_start {c inP : Nat} {d en : Bool} {tout : List Nat} (h : RX b M R) (h3 : (R 3).2.1 = cs) (h13 : (R 13).1 = vs) (h14 : (R 14).2.1 = po) (h11 : R 11 = vI [bI d, bI en, (inP : Int)]) (hi : inP ≤ 6) (h25 : 0 < inP → R 25 = vT tout) (hc : c < 10000)
    (hq : inP < 6 → ∀ M' R', RX b M' R' → ag [11, 22, 24, 25, 28, 29] R R' → R' 11 = vI [bI d, bI en, ((inP + 1 : Nat) : Int)] → R' 22 = vI [0] → (R' 24).2.2.1 = (if 0 < inP then tout else []) → R' 25 = vT [] → (alo cs c = false → (R' 28).1 = vs ∧ (R' 29).2.1 = po) → fr M M' b (b + 369) → Q (.inl none) M')
    (ht : inP = 6 → TH E b M R Q) : mC E 84 [.ref (b + 111), .int (I c)] M Q := by
  obtain ⟨r1, r2, r3⟩ := h.r11 h11
  refine w84_0 ⟨h.k11, fun M1 q1 => ?_⟩
  rw [r3, I_add] at q1
  have h1 := h.u11 q1 (x0 := bI d) (x1 := bI en) (x2 := ((inP + 1 : Nat) : Int)) (by rw [h11]; rfl) (by rw [h11]; rfl) rfl
  have e1 : mi M1 (b + 111) 10 = I ((inP + 1 : Nat) : Int) := (h1.1.r11 (up_s _ _ _)).2.2
  have three : ∀ (z : Bool), inP < 6 → z = decide (0 < inP) → mX E 84 3 [some (.ref (b + 111)), some (.int (I c))] [.int (I (bI z)), .ref (b + 258)] M1 Q := by
    intro z hi6 hz
    refine w84_3 ⟨h1.1.k22, u_begin h1.1 (fun M2 R2 h2 a2 g22 g24 g25 f2 => ?_)⟩
    have A2 : ag [11, 22, 24, 25, 28, 29] R R2 := (ag_up (by decide)).trans (a2.w (by decide))
    have f12 := h1.2.then f2
    have i24 : (R2 24).2.2.1 = (if 0 < inP then tout else []) := by
      rw [g24, hz]
      by_cases p : 0 < inP
      · rw [if_pos p, if_pos (decide_eq_true p), up_n (by decide), h25 p]; rfl
      · rw [if_neg p, if_neg (by rw [decide_eq_false p]; decide)]; rfl
    have i11 : R2 11 = vI [bI d, bI en, ((inP + 1 : Nat) : Int)] := by rw [a2 11 (by decide), up_s]
    have i3 : (R2 3).2.1 = cs := by rw [A2 3 (by decide)]; exact h3
    refine ⟨h2.k11, n_alone h2 hc ⟨fun u => ?_, fun u => ⟨h2.k11, nz h2.f11_4 h.1, nz h2.f11_0 h.1, by rw [h2.f11_0]; exact h2.k12, nz2 h2.f11_0 h2.f12_0 h.1, by rw [h2.f11_4]; exact h2.c28.1.1, ?_⟩⟩⟩
    · rw [i3, bI_0] at u
      exact hq hi6 M2 R2 h2 A2 i11 g22 i24 g25 (fun z => absurd z u) f12
    · rw [i3, bI_0] at u
      rw [h2.f11_4, h2.f11_0, h2.f12_0]
      have e13 := h2.g13 (es := vs) (by rw [A2 13 (by decide)]; exact h13)
      refine tb_become h2.c28 e13 (by omega) (fun M3 k3 f3 => ?_)
      have h3' := h2.u28 k3 f3
      refine ⟨h3'.1.k11, nz h3'.1.f11_5 h.1, nz h3'.1.f11_0 h.1, by rw [h3'.1.f11_0]; exact h3'.1.k12, nz2 h3'.1.f11_0 h3'.1.f12_1 h.1, by rw [h3'.1.f11_5]; exact h3'.1.c29.1.1, ?_⟩
      rw [h3'.1.f11_5, h3'.1.f11_0, h3'.1.f12_1]
      have r14 := h3'.1.g14 (ts := po) (by rw [up_n (by decide), A2 14 (by decide)]; exact h14)
      refine r_become h3'.1.c29 r14 (by omega) (fun M4 k4 f4 => ?_)
      have h4 := h3'.1.u29 k4 f4
      exact hq hi6 M4 _ h4.1 (A2.trans ((ag_up (by decide)).trans (ag_up (by decide)))) (by rw [up_n (by decide), up_n (by decide)]; exact i11) (by rw [up_n (by decide), up_n (by decide)]; exact g22) (by rw [up_n (by decide), up_n (by decide)]; exact i24) (by rw [up_n (by decide), up_n (by decide)]; exact g25) (fun _ => ⟨by rw [up_n (by decide), up_s] <;> rfl, by rw [up_s] <;> rfl⟩) (f12.then (h3'.2.then h4.2))
  refine ⟨fun u => ⟨nz h.f11_3 h.1, fun w => ?_, fun w => ?_⟩, fun u => ?_⟩
  · rw [e1, I_le (by omega) (by omega) (by omega) (by omega)] at u w
    rw [h.f11_3]
    exact three false (by omega) (decide_eq_false (by omega)).symm
  · rw [e1, I_le (by omega) (by omega) (by omega) (by omega)] at u w
    rw [h.f11_3]
    exact three true (by omega) (decide_eq_true (by omega)).symm
  · rw [e1, I_le (by omega) (by omega) (by omega) (by omega)] at u
    exact ((ht (by omega)).st h1.2 ((ag_up (S := [11]) (by decide)).lo (by decide))).here h1.1
end RUN
