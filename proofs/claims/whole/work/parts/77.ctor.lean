/-! THE CLASS'S CONSTRUCTORS: the runner, the shell itself -/
section CTOR
variable {E : mE} {M : mM} {Q : mQ}
theorem n_new {b : Nat} (ha : b + 111 = msz M) (h0 : 0 < b) (hR : rm E M 258 6251) {M1 : mM} (q1 : M1 = mnw M 108 0 11)
    (hq : ∀ M', (∀ k, 11 ≤ k → k < 32 → cX b M' v0 k) → msz M' = msz M + 258 → mns M' = mns M + 6251 → (∀ x, x < b + 111 → ceq M M' x) → Q (.inl none) M') : mC E 81 [.ref (b + 111), .ref (b + 1), .ref (b + 3)] M1 Q := by
  have O1 := ownP.new q1 ha
  have Z1 := zz.new q1 ha
  refine w81_0 ⟨O1.1, by omega, fun M2 q2 => ?_⟩
  have O2 := O1.set q2
  have Z2 := Z1.set q2
  have R2 := Z2.rm (c := 257) (s := 6240) ha hR (by decide) (by decide)
  clear O1 Z1 q1 q2
  refine ⟨R2.one (by decide) (by decide), fun M3 q3 => ?_⟩
  rw [Z2.1]
  refine s_new (a := b + 112) Z2.1.symm (by omega) (R2.less (dc := 0) (ds := 0) rfl rfl (by decide) (by decide)) q3 (fun M4 t4 z4 s4 c4 => ?_)
  have O4 := O2.to c4 (by omega)
  have Z4 := Z2.st z4 s4 (c' := 102) (s' := 1873) rfl rfl
  clear z4 s4 c4 q3 R2 Z2 O2
  refine ⟨O4.1, by omega, fun M5 q5 => ?_⟩
  have O5 := O4.set q5
  have Z5 := Z4.set q5
  have R5 := Z5.rm (c := 156) (s := 4378) ha hR (by decide) (by decide)
  have f4 : ∀ x, b + 111 < x → ceq M4 M5 x := fun x hx => ceq_o q5 hx
  have S : ∀ k, 12 ≤ k → k < 17 → cX b M5 v0 k := by
    obtain ⟨a1, a2, a3, a4, a5, a6, a7, a8, a9, a10⟩ := t4
    intro k h1 h2
    rcases (show k = 12 ∨ k = 13 ∨ k = 14 ∨ k = 15 ∨ k = 16 by omega) with r | r | r | r | r <;> subst r
    · exact cX_mc12 (M := M4) ⟨a1, a2, a3, a4, a5, a6⟩ (fun x h1 h2 => f4 x (by omega))
    · exact cX_mc13 (v := v0) a7 (fun x h1 h2 => f4 x (by omega))
    · exact cX_mc14 (v := v0) a8 (fun x h1 h2 => f4 x (by omega))
    · exact cX_mc15 (v := v0) a9 (fun x h1 h2 => f4 x (by omega))
    · exact cX_mc16 (v := v0) a10 (fun x h1 h2 => f4 x (by omega))
  clear t4 O4 Z4 q5 f4
  refine ⟨R5.one (by decide) (by decide), fun M6 q6 => ?_⟩
  have O6 := O5.to (t := b + 213) (fun x hx => (own_n q6).1 x (by rw [Z5.1]; exact hx)) (by omega)
  have m0 : mr M6 (b + 111) 0 = b + 112 := O6.2.1 0
  refine ⟨O6.1, by rw [m0]; omega, ?_⟩
  rw [m0, Z5.1]
  clear m0 O6
  refine e_new (a := b + 213) Z5.1.symm (by omega) (by omega) (by omega) (by omega) (R5.less (dc := 0) (ds := 0) rfl rfl (by decide) (by decide)) q6 (fun M7 g1 g2 g3 g4 g5 g6 g7 g8 g9 g10 g11 g12 g13 z7 s7 c7 => ?_)
  have O7 := O5.to c7 (by omega)
  have Z7 := Z5.st z7 s7 (c' := 147) (s' := 2943) rfl rfl
  have S7 : ∀ k, 12 ≤ k → k < 22 → cX b M7 v0 k := by
    intro k h1 h2
    by_cases hk : k < 17
    · refine cX_mc (by omega) (S k h1 hk) (fun x q1 q2 => c7 x ?_)
      have : cHi k ≤ 213 := by
        rcases (show k = 12 ∨ k = 13 ∨ k = 14 ∨ k = 15 ∨ k = 16 by omega) with r | r | r | r | r <;> subst r <;> decide
      omega
    · rcases (show k = 17 ∨ k = 18 ∨ k = 19 ∨ k = 20 ∨ k = 21 by omega) with r | r | r | r | r <;> subst r
      · exact ⟨g1, g2, g3, g4, g5, g6, g7, g8, g9 7⟩
      · exact g10
      · exact g11
      · exact g12
      · exact g13
  clear g1 g2 g3 g4 g5 g6 g7 g8 g9 g10 g11 g12 g13 z7 s7 c7 q6 R5 Z5 O5 S
  refine ⟨O7.1, by omega, fun M9 q9 => ?_⟩
  have O9 := O7.set q9
  have Z9 := Z7.set q9
  have R9 := Z9.rm (c := 111) (s := 3308) ha hR (by decide) (by decide)
  have lo12 : ∀ k, k < 32 → 12 ≤ k → 112 ≤ cLo k := by decide +kernel
  have S9 : ∀ k, 12 ≤ k → k < 22 → cX b M9 v0 k := fun k h1 h2 => cX_mc (by omega) (S7 k h1 h2) (fun x e1 e2 => ceq_o q9 (by have := lo12 k (by omega) h1; omega))
  clear O7 Z7 q9 S7
  refine ⟨R9.one (by decide) (by decide), fun M10 q10 => ?_⟩
  have O10 := O9.to (t := b + 258) (fun x hx => (own_n q10).1 x (by rw [Z9.1]; exact hx)) (by omega)
  have m0 : mr M10 (b + 111) 0 = b + 112 := O10.2.1 0
  refine ⟨O10.1, by rw [m0]; omega, ?_⟩
  rw [m0, Z9.1]
  clear m0 O10
  have hi22 : ∀ k, k < 22 → 12 ≤ k → cHi k ≤ 258 := by decide +kernel
  refine u_new (a := b + 258) Z9.1.symm (by omega) (by omega) (R9.less (dc := 0) (ds := 0) rfl rfl (by decide) (by decide)) q10 (fun M11 i1 i2 i3 i4 i5 i6 i7 i8 i9 i10 i11 i12 i13 i14 i15 z11 s11 c11 => ?_)
  have O11 := O9.to c11 (by omega)
  have Z11 := Z9.st z11 s11 (c' := 193) (s' := 5374) rfl rfl
  have S11 : ∀ k, 12 ≤ k → k < 28 → cX b M11 v0 k := by
    intro k h1 h2
    by_cases hk : k < 22
    · exact cX_mc (by omega) (S9 k h1 hk) (fun x q1 q2 => c11 x (by have := hi22 k hk h1; omega))
    · rcases (show k = 22 ∨ k = 23 ∨ k = 24 ∨ k = 25 ∨ k = 26 ∨ k = 27 by omega) with r | r | r | r | r | r <;> subst r
      · exact ⟨i1, i2, i3, i4, i5, i6, i7 3⟩
      · exact i8
      · exact i9
      · exact i10
      · exact ⟨i11, i12, i13, i14⟩
      · exact i15
  clear i1 i2 i3 i4 i5 i6 i7 i8 i9 i10 i11 i12 i13 i14 i15 z11 s11 c11 q10 R9 Z9 O9 S9 hi22
  refine ⟨O11.1, by omega, fun M13 q13 => ?_⟩
  have O13 := O11.set q13
  have Z13 := Z11.set q13
  have R13 := Z13.rm (c := 65) (s := 877) ha hR (by decide) (by decide)
  have S13 : ∀ k, 12 ≤ k → k < 28 → cX b M13 v0 k := fun k h1 h2 => cX_mc (by omega) (S11 k h1 h2) (fun x e1 e2 => ceq_o q13 (by have := lo12 k (by omega) h1; omega))
  clear O11 Z11 q13 S11
  have hi28 : ∀ k, k < 28 → 12 ≤ k → cHi k ≤ 304 := by decide +kernel
  refine ⟨R13.one (by decide) (by decide), fun M14 q14 => ?_⟩
  rw [Z13.1]
  refine tb_new (t := b + 304) (n := 8) (cn := 6) (ct := 40) Z13.1.symm (by omega) (by omega) (by omega) (by omega) (R13.less (dc := 0) (ds := 0) rfl rfl (by decide) (by decide)) q14 (fun M15 t15 z15 s15 c15 => ?_)
  have O15 := O13.to c15 (by omega)
  have Z15 := Z13.st z15 s15 (c' := 230) (s' := 5796) rfl rfl
  have S15 : ∀ k, 12 ≤ k → k < 29 → cX b M15 v0 k := by
    intro k h1 h2
    by_cases hk : k < 28
    · exact cX_mc (by omega) (S13 k h1 hk) (fun x q1 q2 => c15 x (by have := hi28 k hk h1; omega))
    · have r : k = 28 := by omega
      subst r; exact t15
  clear t15 z15 s15 c15 q14 R13 Z13 O13 S13 hi28
  refine ⟨O15.1, by omega, fun M17 q17 => ?_⟩
  have O17 := O15.set q17
  have Z17 := Z15.set q17
  have R17 := Z17.rm (c := 28) (s := 455) ha hR (by decide) (by decide)
  have S17 : ∀ k, 12 ≤ k → k < 29 → cX b M17 v0 k := fun k h1 h2 => cX_mc (by omega) (S15 k h1 h2) (fun x e1 e2 => ceq_o q17 (by have := lo12 k (by omega) h1; omega))
  clear O15 Z15 q17 S15
  have hi29 : ∀ k, k < 29 → 12 ≤ k → cHi k ≤ 341 := by decide +kernel
  refine ⟨R17.one (by decide) (by decide), fun M18 q18 => ?_⟩
  rw [Z17.1]
  refine r_new (r := b + 341) (n := 9) (cap := 40) Z17.1.symm (by omega) (by omega) (by omega) (R17.less (dc := 0) (ds := 0) rfl rfl (by decide) (by decide)) q18 (fun M19 t19 z19 s19 c19 => ?_)
  have O19 := O17.to c19 (by omega)
  have Z19 := Z17.st z19 s19 (c' := 254) (s' := 6231) rfl rfl
  have S19 : ∀ k, 12 ≤ k → k < 30 → cX b M19 v0 k := by
    intro k h1 h2
    by_cases hk : k < 29
    · exact cX_mc (by omega) (S17 k h1 hk) (fun x q1 q2 => c19 x (by have := hi29 k hk h1; omega))
    · have r : k = 29 := by omega
      subst r; exact t19
  clear t19 z19 s19 c19 q18 R17 Z17 O17 S17 hi29
  refine ⟨O19.1, by omega, fun M21 q21 => ?_⟩
  have O21 := O19.set q21
  have Z21 := Z19.set q21
  have R21 := Z21.rm (c := 4) (s := 20) ha hR (by decide) (by decide)
  have S21 : ∀ k, 12 ≤ k → k < 30 → cX b M21 v0 k := fun k h1 h2 => cX_mc (by omega) (S19 k h1 h2) (fun x e1 e2 => ceq_o q21 (by have := lo12 k (by omega) h1; omega))
  clear O19 Z19 q21 S19
  have hi30 : ∀ k, k < 30 → 12 ≤ k → cHi k ≤ 365 := by decide +kernel
  refine ⟨R21.one (by decide) (by decide), fun M22 q22 => ?_⟩
  rw [Z21.1]
  refine t_new (a := b + 365) (cap := 8) Z21.1.symm (by omega) (R21.less (dc := 0) (ds := 0) rfl rfl (by decide) (by decide)) q22 (fun M23 t23 z23 s23 c23 => ?_)
  have O23 := O21.to c23 (by omega)
  have Z23 := Z21.st z23 s23 (c' := 256) (s' := 6241) rfl rfl
  have S23 : ∀ k, 12 ≤ k → k < 31 → cX b M23 v0 k := by
    intro k h1 h2
    by_cases hk : k < 30
    · exact cX_mc (by omega) (S21 k h1 hk) (fun x q1 q2 => c23 x (by have := hi30 k hk h1; omega))
    · have r : k = 30 := by omega
      subst r; exact t23
  clear t23 z23 s23 c23 q22 R21 Z21 O21 S21 hi30
  refine ⟨O23.1, by omega, fun M25 q25 => ?_⟩
  have O25 := O23.set q25
  have Z25 := Z23.set q25
  have R25 := Z25.rm (c := 2) (s := 10) ha hR (by decide) (by decide)
  have S25 : ∀ k, 12 ≤ k → k < 31 → cX b M25 v0 k := fun k h1 h2 => cX_mc (by omega) (S23 k h1 h2) (fun x e1 e2 => ceq_o q25 (by have := lo12 k (by omega) h1; omega))
  clear O23 Z23 q25 S23
  have hi31 : ∀ k, k < 31 → 12 ≤ k → cHi k ≤ 367 := by decide +kernel
  refine ⟨R25.one (by decide) (by decide), fun M26 q26 => ?_⟩
  rw [Z25.1]
  refine t_new (a := b + 367) (cap := 8) Z25.1.symm (by omega) R25 q26 (fun M27 t27 z27 s27 c27 => ?_)
  have O27 := O25.to c27 (by omega)
  have Z27 := Z25.st z27 s27 (c' := 258) (s' := 6251) rfl rfl
  have S27 : ∀ k, 12 ≤ k → k < 32 → cX b M27 v0 k := by
    intro k h1 h2
    by_cases hk : k < 31
    · exact cX_mc (by omega) (S25 k h1 hk) (fun x q1 q2 => c27 x (by have := hi31 k hk h1; omega))
    · have r : k = 31 := by omega
      subst r; exact t27
  clear t27 z27 s27 c27 q26 R25 Z25 O25 S25 hi31
  refine ⟨O27.1, by omega, fun M29 q29 => ?_⟩
  have O29 := O27.set q29
  have Z29 := Z27.set q29
  refine hq M29 (fun k h1 h2 => ?_) (by rw [Z29.1, ← ha]) Z29.2 O29.2.2.2
  by_cases hk : k = 11
  · subst hk
    exact ⟨O29.1, O29.2.1 0, O29.2.1 1, O29.2.1 2, O29.2.1 3, O29.2.1 4, O29.2.1 5, O29.2.1 6, O29.2.1 7, O29.2.2.1 8, O29.2.2.1 9, O29.2.2.1 10⟩
  · exact cX_mc h2 (S27 k (by omega) h2) (fun x e1 e2 => ceq_o q29 (by have := lo12 k h2 (by omega); omega))
/-- a new shell -/
theorem x_new {b : Nat} (ha : b = msz M) (h0 : 0 < b) (hR : rm E M 369 11975) {M1 : mM} (q1 : M1 = mnw M 100 0 4)
    (hq : ∀ M', clI b M' [] [] [] [] 0 [] 0 → msz M' = msz M + 369 → mns M' = mns M + 11975 → (∀ x, x < b → ceq M M' x) → Q (.inl none) M') : mC E 2 [.ref b] M1 Q := by
  have O1 := ownP.new q1 ha
  have Z1 := zz.new q1 ha
  have R1 := Z1.rm (c := 368) (s := 11971) ha hR (by decide) (by decide)
  clear q1
  refine w2_0 ⟨R1.one (by decide) (by decide), fun M2 q2 => ?_⟩
  rw [Z1.1]
  refine t_new (a := b + 1) (cap := 240) Z1.1.symm (by omega) (R1.less (dc := 0) (ds := 0) rfl rfl (by decide) (by decide)) q2 (fun M3 t3 z3 s3 c3 => ?_)
  have O3 := O1.to c3 (by omega)
  have Z3 := Z1.st z3 s3 (c' := 3) (s' := 246) rfl rfl
  clear z3 s3 c3 q2 R1 Z1 O1
  refine ⟨O3.1, by omega, fun M4 q4 => ?_⟩
  have O4 := O3.set q4
  have Z4 := Z3.set q4
  have R4 := Z4.rm (c := 366) (s := 11729) ha hR (by decide) (by decide)
  have t4 := t3.mc (fun x h1 h2 => ceq_o q4 (x := x) (by omega))
  clear O3 Z3 q4 t3
  refine ⟨R4.one (by decide) (by decide), fun M5 q5 => ?_⟩
  have O5 := O4.to (t := b + 3) (fun x hx => (own_n q5).1 x (by rw [Z4.1]; exact hx)) (by omega)
  have m0 : mr M5 b 0 = b + 1 := O5.2.1 0
  refine ⟨O5.1, by rw [m0]; omega, ?_⟩
  rw [m0, Z4.1]
  clear m0 O5
  refine y_new (a := b + 3) Z4.1.symm (by omega) (by omega) (R4.less (dc := 0) (ds := 0) rfl rfl (by decide) (by decide)) q5 (fun M6 y1 y2 y3 y4 y5 y6 y7 y8 y9 z6 s6 c6 => ?_)
  have O6 := O4.to c6 (by omega)
  have Z6 := Z4.st z6 s6 (c' := 10) (s' := 3862) rfl rfl
  have t6 := t4.mc (fun x h1 h2 => c6 x (by omega))
  clear z6 s6 c6 q5 R4 Z4 O4 t4
  have S6 : ∀ k, k < 6 → ¬ k = 1 → cX b M6 v0 k := by
    intro k h1 h2
    rcases (show k = 0 ∨ k = 2 ∨ k = 3 ∨ k = 4 ∨ k = 5 by omega) with r | r | r | r | r <;> subst r
    · exact t6
    · exact ⟨y1, y2, y3, y4, y5, y6 3, y6 5, y6 6, y6 7, y6 8, y6 9⟩
    · exact y7
    · exact y8
    · exact y9
  clear y1 y2 y3 y4 y5 y6 y7 y8 y9 t6
  have lo1 : ∀ k, k < 32 → k = 1 ∨ 1 ≤ cLo k := by decide +kernel
  refine ⟨O6.1, by omega, fun M8 q8 => ?_⟩
  have O8 := O6.set q8
  have Z8 := Z6.set q8
  have R8 := Z8.rm (c := 359) (s := 8113) ha hR (by decide) (by decide)
  have S8 : ∀ k, k < 6 → ¬ k = 1 → cX b M8 v0 k := fun k h1 h2 => cX_mc (by omega) (S6 k h1 h2) (fun x e1 e2 => ceq_o q8 (by have := (lo1 k (by omega)).resolve_left h2; omega))
  clear O6 Z6 q8 S6
  have hi6 : ∀ k, k < 6 → cHi k ≤ 10 := by decide +kernel
  refine ⟨R8.one (by decide) (by decide), fun M9 q9 => ?_⟩
  rw [Z8.1]
  refine s_new (a := b + 10) Z8.1.symm (by omega) (R8.less (dc := 0) (ds := 0) rfl rfl (by decide) (by decide)) q9 (fun M10 t10 z10 s10 c10 => ?_)
  have O10 := O8.to c10 (by omega)
  have Z10 := Z8.st z10 s10 (c' := 111) (s' := 5724) rfl rfl
  have S10 : ∀ k, k < 11 → ¬ k = 1 → cX b M10 v0 k := by
    obtain ⟨a1, a2, a3, a4, a5, a6, a7, a8, a9, a10⟩ := t10
    intro k h1 h2
    by_cases hk : k < 6
    · exact cX_mc (by omega) (S8 k hk h2) (fun x q1 q2 => c10 x (by have := hi6 k hk; omega))
    · rcases (show k = 6 ∨ k = 7 ∨ k = 8 ∨ k = 9 ∨ k = 10 by omega) with r | r | r | r | r <;> subst r
      · exact ⟨a1, a2, a3, a4, a5, a6⟩
      · exact a7
      · exact a8
      · exact a9
      · exact a10
  clear t10 z10 s10 c10 q9 R8 Z8 O8 S8 hi6
  refine ⟨O10.1, by omega, fun M12 q12 => ?_⟩
  have O12 := O10.set q12
  have Z12 := Z10.set q12
  have R12 := Z12.rm (c := 258) (s := 6251) ha hR (by decide) (by decide)
  have S12 : ∀ k, k < 11 → ¬ k = 1 → cX b M12 v0 k := fun k h1 h2 => cX_mc (by omega) (S10 k h1 h2) (fun x e1 e2 => ceq_o q12 (by have := (lo1 k (by omega)).resolve_left h2; omega))
  clear O10 Z10 q12 S10
  have hi11 : ∀ k, k < 11 → cHi k ≤ 111 := by decide +kernel
  refine ⟨R12.one (by decide) (by decide), fun M13 q13 => ?_⟩
  have O13 := O12.to (t := b + 111) (fun x hx => (own_n q13).1 x (by rw [Z12.1]; exact hx)) (by omega)
  have m0 : mr M13 b 0 = b + 1 := O13.2.1 0
  have m1 : mr M13 b 1 = b + 3 := O13.2.1 1
  refine ⟨O13.1, by rw [m0]; omega, by rw [m1]; omega, ?_⟩
  rw [m0, m1, Z12.1]
  clear m0 m1 O13
  refine n_new Z12.1.symm h0 R12 q13 (fun M14 g z14 s14 c14 => ?_)
  have O14 := O12.to c14 (by omega)
  have Z14 := Z12.st z14 s14 (c' := 369) (s' := 11975) rfl rfl
  have S14 : ∀ k, k < 32 → ¬ k = 1 → cX b M14 v0 k := by
    intro k h1 h2
    by_cases hk : k < 11
    · exact cX_mc (by omega) (S12 k hk h2) (fun x q1 q2 => c14 x (by have := hi11 k hk; omega))
    · exact g k (by omega) h1
  clear g z14 s14 c14 q13 R12 Z12 O12 S12 hi11
  refine ⟨O14.1, by omega, fun M16 q16 => ?_⟩
  have O16 := O14.set q16
  have Z16 := Z14.set q16
  have SF : ∀ k, k < 32 → cX b M16 v0 k := by
    intro k hk
    by_cases h1 : k = 1
    · subst h1
      exact ⟨O16.1, O16.2.1 0, O16.2.1 1, O16.2.1 2, O16.2.1 3⟩
    · exact cX_mc hk (S14 k hk h1) (fun x e1 e2 => ceq_o q16 (by have := (lo1 k hk).resolve_left h1; omega))
  refine hq M16 ⟨up (up (fun _ => v0) 2 (vI [0, 0, 0, 0, 0, 0])) 6 (vI [0]), ⟨h0, fun k hk => ?_⟩, rfl, ⟨0, 0, 0, 0, false, rfl⟩, ⟨rfl, rfl, rfl, rfl, rfl⟩, fun c hc => absurd hc List.not_mem_nil, fun e he => absurd he List.not_mem_nil, okL_nil, fun e he => absurd he List.not_mem_nil, by omega⟩ (by rw [Z16.1, ha]) Z16.2 O16.2.2.2
  · by_cases h6 : k = 6
    · subst h6; exact SF 6 hk
    · by_cases h2 : k = 2
      · subst h2; exact SF 2 hk
      · rw [up_n h6, up_n h2]; exact SF k hk
end CTOR
