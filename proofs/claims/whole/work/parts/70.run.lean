/-! THE RUNNER: a command's end; a run -/
section RUN
variable {E : mE} {M : mM} {Q : mQ} {b : Nat} {R : RT} {vs fl : eL} {po : List (List Nat)} {stt : Nat} {cs : List (List Nat)}
theorem RX.r22 (h : RX b M R) {x : Bool} (e : R 22 = vI [bI x]) : mi M (b + 258) 3 = I (bI x) := by
  have z := h.i22_3
  rw [e] at z; exact z
theorem n_end {c st : Nat} {d en ex : Bool} {x2 : Int} {o out : List Nat} (h : RX b M R) (h3 : (R 3).2.1 = cs) (h22 : R 22 = vI [bI ex]) (h11 : R 11 = vI [bI d, bI en, x2]) (h25 : R 25 = vT o) (h16 : R 16 = vT out) (h28 : alo cs c = false → (R 28).1 = vs ∧ (R 29).2.1 = po) (hc : c < 10000)
    (hq : ∀ M' R', RX b M' R' → ag [11, 12, 13, 14, 16] R R' → R' 11 = vI [bI d, bI (ex && alo cs c), x2] → (R' 13).1 = (if alo cs c = true then (R 13).1 else vs) → (R' 14).2.1 = (if alo cs c = true then (R 14).2.1 else po) → (pip cs (c + 1) = true → R' 12 = R 12 ∧ R' 16 = R 16) → (pip cs (c + 1) = false → (out ++ o).length ≤ 240 ∧ R' 12 = vI [(st : Int)] ∧ R' 16 = vT (out ++ o)) → fr M M' b (b + 369) → Q (.inl none) M')
    (ht : pip cs (c + 1) = false → 240 < (out ++ o).length → TH E b M R Q) : mC E 86 [.ref (b + 111), .int (I c), .int (I st)] M Q := by
  have three : ∀ (M1 : mM) (R1 : RT), RX b M1 R1 → ag [11, 13, 14] R R1 → R1 11 = vI [bI d, bI (ex && alo cs c), x2] → (R1 13).1 = (if alo cs c = true then (R 13).1 else vs) → (R1 14).2.1 = (if alo cs c = true then (R 14).2.1 else po) → fr M M1 b (b + 369) → mX E 86 3 [some (.ref (b + 111)), some (.int (I c)), some (.int (I st))] [] M1 Q := by
    intro M1 R1 h1 a1 e11 e13 e14 f1
    have A1 : ag [11, 12, 13, 14, 16] R R1 := a1.w (by decide)
    have i3 : (R1 3).2.1 = cs := by rw [a1 3 (by decide)]; exact h3
    refine w86_3 ⟨h1.k11, ?_⟩
    rw [I_add]
    refine n_piped (c := c + 1) h1 (by omega) ⟨fun u => ?_, fun u => ?_⟩
    · rw [i3, bI_0] at u
      refine hq M1 R1 h1 A1 e11 e13 e14 (fun _ => ⟨a1 12 (by decide), a1 16 (by decide)⟩) (fun z => absurd z u) f1
    · rw [i3, bI_0] at u
      refine ⟨h1.k11, nz h1.f11_0 h.1, by rw [h1.f11_0]; exact h1.k12, fun M5 q5 => ⟨nz2 h1.f11_0 h1.f12_3 h.1, nz h1.f11_3 h.1, by rw [h1.f11_3]; exact h1.k22, nz2 h1.f11_3 h1.f22_2 h.1, by rw [h1.f11_3, h1.f22_2]; exact h1.c25.1, by rw [h1.f11_0, h1.f12_3]; exact h1.c16.1, ?_⟩⟩
      rw [h1.f11_0] at q5
      have h5 := h1.u12 q5 (x0 := (st : Int)) rfl
      have t16 := h5.1.g16 (s := out) (by rw [up_n (by decide), a1 16 (by decide)]; exact h16)
      have t25 := h5.1.g25 (s := o) (by rw [up_n (by decide), a1 25 (by decide)]; exact h25)
      have l25 := t25.len
      rw [h1.f11_0, h1.f12_3, h1.f11_3, h1.f22_2, t25.2.2.2.2.1]
      refine t_addRange (f := 0) t16 t25 (by unfold apart; omega) (by omega) (by omega) (fun M6 t6 f6 => ?_) (fun M6 s6 l6 t6 f6 => ?_)
      · rw [seg_all] at t6
        have h6 := h5.1.u16 t6 f6
        have l6 := t6.len
        exact hq M6 _ h6.1 (A1.trans ((ag_up (by decide)).trans (ag_up (by decide)))) (by rw [up_n (by decide), up_n (by decide)]; exact e11) (by rw [up_n (by decide), up_n (by decide)]; exact e13) (by rw [up_n (by decide), up_n (by decide)]; exact e14) (fun z => absurd (z.symm.trans u) (by decide)) (fun _ => ⟨l6.1, by rw [up_n (by decide), up_s], up_s _ _ _⟩) (f1.then (h5.2.then h6.2))
      · rw [seg_all] at l6
        have h6 := h5.1.u16 t6 f6
        exact ((ht u (by rw [List.length_append]; omega)).st f1 (a1.lo (by decide))) M6 _ h6.1 (((ag_up (S := [12, 16]) (by decide)).trans (ag_up (by decide))).lo (by decide)) (h5.2.then h6.2)
  have two : ∀ (z : Bool), z = (ex && alo cs c) → mX E 86 2 [some (.ref (b + 111)), some (.int (I c)), some (.int (I st))] [.int (I (bI z)), .ref (b + 111)] M Q := by
    intro z hz
    refine w86_2 ⟨h.k11, bI_01 z, fun M1 q1 => ⟨h.k11, ?_⟩⟩
    have h1 := h.u11 q1 (x0 := bI d) (x1 := bI z) (x2 := x2) (by rw [h11]; rfl) rfl (by rw [h11]; rfl)
    have i3 : (up R 11 (vI [bI d, bI z, x2]) 3).2.1 = cs := by rw [up_n (by decide)]; exact h3
    have a1 : ag [11, 13, 14] R (up R 11 (vI [bI d, bI z, x2])) := ag_up (by decide)
    refine n_alone h1.1 hc ⟨fun u => ?_, fun u => ⟨h1.1.k11, nz h1.1.f11_0 h.1, by rw [h1.1.f11_0]; exact h1.1.k12, nz2 h1.1.f11_0 h1.1.f12_0 h.1, nz h1.1.f11_4 h.1, by rw [h1.1.f11_0, h1.1.f12_0]; exact h1.1.c13.1.1, ?_⟩⟩
    · rw [i3, bI_0] at u
      have at' : alo cs c = true := by cases q : alo cs c with | true => rfl | false => exact absurd q u
      exact three M1 _ h1.1 a1 (by rw [up_s, hz]) (by rw [if_pos at', up_n (by decide)]) (by rw [if_pos at', up_n (by decide)]) h1.2
    · rw [i3, bI_0] at u
      obtain ⟨g28, g29⟩ := h28 u
      rw [h1.1.f11_0, h1.1.f12_0, h1.1.f11_4]
      have e28 := h1.1.g28 (es := vs) (by rw [up_n (by decide)]; exact g28)
      refine tb_become h1.1.c13 e28 (by omega) (fun M2 k2 f2 => ?_)
      have h2 := h1.1.u13 k2 f2
      refine ⟨h2.1.k11, nz h2.1.f11_0 h.1, by rw [h2.1.f11_0]; exact h2.1.k12, nz2 h2.1.f11_0 h2.1.f12_1 h.1, nz h2.1.f11_5 h.1, by rw [h2.1.f11_0, h2.1.f12_1]; exact h2.1.c14.1.1, ?_⟩
      rw [h2.1.f11_0, h2.1.f12_1, h2.1.f11_5]
      have r29 := h2.1.g29 (ts := po) (by rw [up_n (by decide), up_n (by decide)]; exact g29)
      refine r_become h2.1.c14 r29 (by omega) (fun M3 k3 f3 => ?_)
      have h3' := h2.1.u14 k3 f3
      exact three M3 _ h3'.1 (a1.trans ((ag_up (by decide)).trans (ag_up (by decide)))) (by rw [up_n (by decide), up_n (by decide), up_s, hz]) (by rw [if_neg (by rw [u]; decide), up_n (by decide), up_s] <;> rfl) (by rw [if_neg (by rw [u]; decide), up_s] <;> rfl) (h1.2.then (h2.2.then h3'.2))
  have r22 := h.r22 h22
  refine w86_0 ⟨h.k11, nz h.f11_3 h.1, by rw [h.f11_3]; exact h.k22, fun u => w86_1 (two false ?_), fun u => n_alone h hc ⟨fun w => w86_1 (two false ?_), fun w => two true ?_⟩⟩
  · rw [h.f11_3, r22, bI_0] at u; rw [u]; rfl
  · rw [h3, bI_0] at w; rw [w]; simp
  · rw [h.f11_3, r22, bI_0] at u
    rw [h3, bI_0] at w
    have e1 : ex = true := by cases ex with | true => rfl | false => exact absurd rfl u
    have e2 : alo cs c = true := by cases q : alo cs c with | true => rfl | false => exact absurd q w
    rw [e1, e2]; rfl
end RUN
/-- names are plain -/
def okN (fl : eL) : Prop := ∀ e ∈ fl, ok1 e.1
/-- what goes from command to command: variables, positions, files, status, output; due, ended, how many of the pipeline; what the last one has put out -/
abbrev gS : Type := (eL × List (List Nat) × eL × Nat × List Nat) × (Bool × Bool × Nat) × List Nat
def cmdX (s : List Nat) (ps is cs : List (List Nat)) (c : Nat) (g : gS) (due : Bool) (inP : Nat) : Option gS :=
  if (due && !g.2.1.2.1) = true then
    if inP < 6 then
      (rcS s ps is (cs.getD c []) g.1.1 g.1.2.1 g.1.2.2.1 g.1.2.2.2.1 (if 0 < inP then g.2.2 else [])).bind fun r =>
      if pip cs (c + 1) = true then some ((if alo cs c = true then r.2.1.1 else g.1.1, if alo cs c = true then r.2.1.2.1 else g.1.2.1, r.2.1.2.2, g.1.2.2.2.1, g.1.2.2.2.2), (due, r.2.2 && alo cs c, inP + 1), r.1.2)
      else if (g.1.2.2.2.2 ++ r.1.2).length ≤ 240 then some ((if alo cs c = true then r.2.1.1 else g.1.1, if alo cs c = true then r.2.1.2.1 else g.1.2.1, r.2.1.2.2, r.1.1, g.1.2.2.2.2 ++ r.1.2), (due, r.2.2 && alo cs c, inP + 1), r.1.2)
      else none
    else none
  else some (g.1, (due, g.2.1.2.1, inP), g.2.2)
def cmd1 (s : List Nat) (ps is cs : List (List Nat)) (c : Nat) (g : gS) : Option gS := cmdX s ps is cs c g (if pip cs c = true then g.2.1.1 else dueS ((cs.getD c []).getD 0 0) g.1.2.2.2.1) (if pip cs c = true then g.2.1.2.2 else 0)
def cmds (s : List Nat) (ps is cs : List (List Nat)) : Nat → Nat → gS → Option gS
  | 0, _, g => some g
  | n + 1, c, g => (cmd1 s ps is cs c g).bind (cmds s ps is cs n (c + 1))
