/-! THE RUNNER: a command, its beginning and end -/
/-- a command's run: its status, what stays in the output's text, variables, positions, files, whether it exits -/
def rcS (s : List Nat) (ps is : List (List Nat)) (cm : List Nat) (vs : eL) (po : List (List Nat)) (fl : eL) (stt : Nat) (inp : List Nat) : Option uR :=
  (exF s vs po stt ps is fl cm).bind fun fs =>
  (rdL s vs po stt ps is (cm.getD 2 0 - cm.getD 1 0) (cm.getD 1 0) fl [] []).bind fun r =>
  if r.1 = true then
    (asL s po stt ps is (fs.isEmpty) (cm.getD 2 0 - cm.getD 1 0) (cm.getD 1 0) vs).bind fun v1 =>
    if fs.isEmpty = true then some ((0, []), (v1, po, r.2.1), false)
    else (ut fs (if r.2.2.1 = [] then inp else txL r.2.1 (fdT r.2.1 r.2.2.1 0)) v1 po r.2.1 stt).bind fun u =>
      if r.2.2.2 = [] then some u
      else (snF u.2.1.2.2 r.2.2.2 u.1.2).map fun f2 => ((u.1.1, []), (u.2.1.1, u.2.1.2.1, f2), u.2.2)
  else some ((1, []), (vs, po, r.2.1), false)
section RUN
variable {E : mE} {M : mM} {Q : mQ} {b : Nat} {R : RT} {s : List Nat} {vs fl : eL} {po : List (List Nat)} {stt : Nat} {ps is : List (List Nat)} {inp : List Nat}
theorem exV_r (fs : List (List Nat)) (stt : Nat) (h : stt ≤ 255) : -1 ≤ exV fs stt ∧ exV fs stt < 1000 := by
  have := numV_r (fs.getD 1 []) 3 (by omega)
  unfold exV; split <;> omega
theorem n_run {c : Nat} (hs : ok1 s) (hv : okE vs) (hp : okL po) (hst : stt ≤ 255) (h : RX b M R) (hx : cxt R s vs po stt ps) (h15 : (R 15).1 = fl) (h24 : (R 24).2.2.1 = inp) (h25 : R 25 = vT []) (h22 : R 22 = vI [0]) (hc : c < 100000)
    (hq : ∀ r, rcS s ps (R 4).2.1 ((R 3).2.1.getD c []) vs po fl stt inp = some r → ∀ M' R', RX b M' R' → ag [13, 14, 15, 17, 18, 19, 20, 21, 22, 23, 24, 25, 27, 30, 31] R R' → R' 25 = vT r.1.2 → (R' 13).1 = r.2.1.1 → (R' 14).2.1 = r.2.1.2.1 → (R' 15).1 = r.2.1.2.2 → R' 22 = vI [bI r.2.2] → fr M M' b (b + 369) → Q (.inl (some (.int (I r.1.1)))) M')
    (ht : rcS s ps (R 4).2.1 ((R 3).2.1.getD c []) vs po fl stt inp = none → TH E b M R Q) : mC E 85 [.ref (b + 111), .int (I c)] M Q := by
  have hb := h.1
  unfold rcS at hq ht
  generalize hcm : (R 3).2.1.getD c [] = cm at *
  refine w85_0 ⟨h.k11, nz h.f11_2 h.1, nz h.f11_3 h.1, by rw [h.f11_3]; exact h.k22, nz2 h.f11_3 h.f22_0 h.1, by rw [h.f11_2]; exact h.k17, ?_⟩
  rw [h.f11_2, h.f11_3, h.f22_0]
  refine e_words hs hv hp (by omega) h hx hc (fun fs ef M1 R1 h1 a1 e23 f1 => ?_) (fun ef => ht ?_)
  · rw [hcm, h15] at ef
    rw [ef] at hq ht
    simp only [Option.bind_some] at hq ht
    have A1 : ag [13, 14, 15, 17, 18, 19, 20, 21, 22, 23, 24, 25, 27, 30, 31] R R1 := a1.w (by decide)
    have x1 := hx.mv a1 (by decide) (by decide) (by decide) (by decide) (by decide)
    have i4 : (R1 4).2.1 = (R 4).2.1 := by rw [a1 4 (by decide)]
    have i3 : (R1 3).2.1.getD c [] = cm := by rw [a1 3 (by decide)]; exact hcm
    have i15 : (R1 15).1 = fl := by rw [a1 15 (by decide)]; exact h15
    refine ⟨h1.k11, n_redir hs hv hp (by omega) h1 x1 hc (fun r er M2 R2 h2 a2 g15 g30 f2 => ?_) (fun er => ?_)⟩
    · rw [i3, i4, i15] at er
      rw [er] at hq ht
      simp only [Option.bind_some] at hq ht
      have A2 : ag [13, 14, 15, 17, 18, 19, 20, 21, 22, 23, 24, 25, 27, 30, 31] R R2 := A1.trans (a2.w (by decide))
      have f12 := f1.then f2
      refine ⟨fun cc => ?_, fun cc => ?_⟩
      · rw [bI_0] at cc
        have rt : r.1 = true := by cases z : r.1 with | true => rfl | false => exact absurd z cc
        rw [if_pos rt] at hq ht
        obtain ⟨g30, g31⟩ := g30 rt
        have x2 := x1.mv a2 (by decide) (by decide) (by decide) (by decide) (by decide)
        have i4' : (R2 4).2.1 = (R 4).2.1 := by rw [a2 4 (by decide)]; exact i4
        have i3' : (R2 3).2.1.getD c [] = cm := by rw [a2 3 (by decide)]; exact i3
        have i23 : R2 23 = vR fs [] := by rw [a2 23 (by decide)]; exact e23
        refine ⟨h2.k11, n_assign hs hv hp (by omega) h2 x2 i23 hc (fun v1 ev okv M3 R3 h3 a3 g13 f3 => ?_) (fun ev => ?_)⟩
        · rw [i3', i4'] at ev
          rw [ev] at hq ht
          simp only [Option.bind_some] at hq ht
          have A3 : ag [13, 14, 15, 17, 18, 19, 20, 21, 22, 23, 24, 25, 27, 30, 31] R R3 := A2.trans (a3.w (by decide))
          have f13 := f12.then f3
          have i23' : R3 23 = vR fs [] := by rw [a3 23 (by decide)]; exact i23
          have r23 := h3.r23 i23'
          have l23 := r23.len
          have j30 : R3 30 = vT r.2.2.1 := by rw [a3 30 (by decide)]; exact g30
          have j31 : R3 31 = vT r.2.2.2 := by rw [a3 31 (by decide)]; exact g31
          have t30 := h3.g30 j30
          have l30 := t30.len
          have j15 : (R3 15).1 = r.2.1 := by rw [a3 15 (by decide)]; exact g15
          have j25 : R3 25 = vT [] := by rw [a3 25 (by decide), a2 25 (by decide), a1 25 (by decide)]; exact h25
          have j22 : R3 22 = vI [0] := by rw [a3 22 (by decide), a2 22 (by decide), a1 22 (by decide)]; exact h22
          have j14 : (R3 14).2.1 = po := by rw [a3 14 (by decide)]; exact x2.2.2.1
          have j12 : R3 12 = vI [(stt : Int)] := by rw [a3 12 (by decide)]; exact x2.2.2.2.1
          have j24 : (R3 24).2.2.1 = inp := by rw [a3 24 (by decide), a2 24 (by decide), a1 24 (by decide)]; exact h24
          refine ⟨h3.k11, nz h3.f11_3 h.1, by rw [h3.f11_3]; exact h3.k22, nz2 h3.f11_3 h3.f22_0 h.1, by rw [h3.f11_3, h3.f22_0]; exact r23.1.1, fun ce => ⟨nz h3.f11_6 h.1, by rw [h3.f11_6]; exact t30.1, ?_⟩, fun ce => ?_⟩
          · rw [h3.f11_3, h3.f22_0, r23.2.1, I_eq (by omega) (by omega) (by omega) (by omega)] at ce
            have ee : ¬ fs.isEmpty = true := fun z => by
              rw [List.isEmpty_iff] at z; rw [z] at ce; exact ce rfl
            rw [if_neg ee] at hq ht
            have lf : 1 ≤ fs.length := by omega
            have three : ∀ (M4 : mM) (R4 : RT) (i : List Nat), RX b M4 R4 → ag [24] R3 R4 → (R4 24).2.2.1 = i → fr M3 M4 b (b + 369) → i = (if r.2.2.1 = [] then inp else txL r.2.1 (fdT r.2.1 r.2.2.1 0)) → mX E 85 3 [some (.ref (b + 111)), some (.int (I c)), none] [] M4 Q := by
              intro M4 R4 i h4 a4 g24 f4 ei
              have A4 : ag [13, 14, 15, 17, 18, 19, 20, 21, 22, 23, 24, 25, 27, 30, 31] R R4 := A3.trans (a4.w (by decide))
              have f14 := f13.then f4
              rw [← ei] at hq ht
              refine w85_3 ⟨h4.k11, nz h4.f11_3 h.1, by rw [h4.f11_3]; exact h4.k22, ?_⟩
              rw [h4.f11_3]
              refine u_call (fs := fs) (sp := []) (inp := i) (vs := v1) (po := po) (fl := r.2.1) (stt := stt) h4 (by rw [a4 23 (by decide)]; exact i23') g24 (by rw [a4 25 (by decide)]; exact j25) (by rw [a4 22 (by decide)]; exact j22) (by rw [a4 13 (by decide)]; exact g13) (by rw [a4 14 (by decide)]; exact j14) (by rw [a4 15 (by decide)]; exact j15) (by rw [a4 12 (by decide)]; exact j12) hst lf (fun u eu M5 R5 h5 a5 k25 k13 k14 k15 k22 f5 => ?_) (fun eu => ?_)
              · rw [eu] at hq ht
                simp only [Option.bind_some] at hq ht
                have A5 : ag [13, 14, 15, 17, 18, 19, 20, 21, 22, 23, 24, 25, 27, 30, 31] R R5 := A4.trans (a5.w (by decide))
                have f15 := f14.then f5
                have k31 : R5 31 = vT r.2.2.2 := by rw [a5 31 (by decide), a4 31 (by decide)]; exact j31
                have t31 := h5.g31 k31
                have l31 := t31.len
                refine ⟨h5.k11, nz h5.f11_7 h.1, by rw [h5.f11_7]; exact t31.1, fun co => ?_, fun co => ?_⟩
                · rw [h5.f11_7, t31.2.2.2.2.1, I_le (by omega) (by omega) (by omega) (by omega)] at co
                  rw [if_pos (nil_len.mp (by omega))] at hq
                  exact hq _ rfl M5 R5 h5 A5 k25 k13 k14 k15 k22 f15
                · rw [h5.f11_7, t31.2.2.2.2.1, I_le (by omega) (by omega) (by omega) (by omega)] at co
                  rw [if_neg (fun z => by rw [z] at co; exact co (by simp))] at hq ht
                  refine n_send h5 k15 k31 k25 (fun f2' es M6 R6 h6 a6 l15 l25 f6 => ?_) (fun es => ?_)
                  · rw [es] at hq
                    exact hq _ rfl M6 R6 h6 (A5.trans (a6.w (by decide))) l25 (by rw [a6 13 (by decide)]; exact k13) (by rw [a6 14 (by decide)]; exact k14) l15 (by rw [a6 22 (by decide)]; exact k22) (f15.then f6)
                  · rw [es] at ht
                    exact (ht rfl).st f15 (A5.lo (by decide))
              · rw [eu] at ht
                exact (ht rfl).st f14 (A4.lo (by decide))
            rw [h3.f11_6, t30.2.2.2.2.1]
            refine ⟨fun ci => three M3 R3 inp h3 (ag.refl _ _) j24 (fr.refl _ _ _) ?_, fun ci => ⟨by rw [h3.f11_3]; exact nz h3.f22_1 h.1, nz h3.f11_0 h.1, by rw [h3.f11_0]; exact h3.k12, nz2 h3.f11_0 h3.f12_2 h.1, by rw [h3.f11_0, h3.f12_2]; exact h3.c15.1.1, ?_⟩⟩
            · rw [I_le (by omega) (by omega) (by omega) (by omega)] at ci
              rw [if_pos (nil_len.mp (by omega))]
            · rw [I_le (by omega) (by omega) (by omega) (by omega)] at ci
              have e15 := h3.g15 j15
              have l15 := e15.len
              have fd := fdT_r r.2.1 r.2.2.1 0
              rw [h3.f11_0, h3.f12_2, h3.f11_3, h3.f22_1]
              refine tb_find e15 t30 ⟨e15.1.1, tb_textAt e15 (by omega) (by omega) (fun q cap' tq q1 q2 q3 _ => ?_)⟩
              have tl := tq.len
              refine ⟨h3.c24.1, t_become h3.c24 tq (by unfold apart; omega) (fun lu M4 t4 f4 => ?_) (fun lu => absurd lu (by omega))⟩
              have h4 := h3.u24 t4 f4
              refine three M4 _ _ h4.1 (ag_up (by decide)) (by rw [up_s] <;> rfl) h4.2 ?_
              rw [if_neg (fun z => by rw [z] at ci; exact ci (by simp))]
              rfl
          · rw [h3.f11_3, h3.f22_0, r23.2.1, I_eq (by omega) (by omega) (by omega) (by omega)] at ce
            have ee : fs.isEmpty = true := by rw [List.isEmpty_iff]; exact List.length_eq_zero_iff.mp (by omega)
            rw [if_pos ee] at hq
            exact hq _ rfl M3 R3 h3 A3 j25 g13 j14 j15 j22 f13
        · rw [i3', i4'] at ev
          rw [ev] at ht
          exact (ht rfl).st f12 (A2.lo (by decide))
      · rw [bI_0] at cc
        rw [if_neg (by rw [cc]; decide)] at hq
        refine hq _ rfl M2 R2 h2 A2 ?_ ?_ ?_ g15 ?_ f12
        · rw [a2 25 (by decide), a1 25 (by decide)]; exact h25
        · rw [a2 13 (by decide)]; exact x1.2.1
        · rw [a2 14 (by decide)]; exact x1.2.2.1
        · rw [a2 22 (by decide), a1 22 (by decide)]; exact h22
    · rw [i3, i4, i15] at er
      rw [er] at ht
      exact (ht rfl).st f1 (a1.lo (by decide))
  · rw [hcm, h15] at ef
    rw [ef]; rfl
end RUN
