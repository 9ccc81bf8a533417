/-! THE CLASS'S CONSTRUCTORS -/
theorem own_r {M M' : mM} {a f v : Nat} (q : M' = msr M a f v) : (∀ x, ¬ x = a → ceq M M' x) ∧ mkd M' a = mkd M a ∧ (∀ k, mi M' a k = mi M a k) ∧ mr M' a f = v ∧ (∀ k, ¬ k = f → mr M' a k = mr M a k) ∧ msz M' = msz M ∧ mns M' = mns M := by
  rw [q]; exact ⟨fun x hx => ceq_r hx, rfl, fun _ => rfl, r_rs, fun k hk => r_rk hk, rfl, rfl⟩
theorem own_i {M M' : mM} {a f : Nat} {v : Int32} (q : M' = msi M a f v) : (∀ x, ¬ x = a → ceq M M' x) ∧ mkd M' a = mkd M a ∧ mi M' a f = v ∧ (∀ k, ¬ k = f → mi M' a k = mi M a k) ∧ (∀ k, mr M' a k = mr M a k) ∧ msz M' = msz M ∧ mns M' = mns M := by
  rw [q]; exact ⟨fun x hx => ceq_i hx, rfl, i_is, fun k hk => i_ik hk, fun _ => rfl, rfl, rfl⟩
theorem own_n {M M' : mM} {kd c : Nat} (q : M' = mnw M kd 0 c) : (∀ x, x < msz M → ceq M M' x) ∧ mkd M' (msz M) = kd ∧ (∀ k, mi M' (msz M) k = 0) ∧ msz M' = msz M + 1 ∧ mns M' = mns M + c := by
  rw [q]; exact ⟨fun x hx => ceq_n (by omega), kd_ns, fun _ => i_ns, rfl, rfl⟩
section CTOR
variable {E : mE} {M : mM} {Q : mQ}
theorem s_new {a : Nat} (ha : a = msz M) (h0 : 0 < a) (hR : rm E M 101 1862) {M1 : mM} (q1 : M1 = mnw M 105 0 5)
    (hq : ∀ M', stX M' a [] [] [] [] [] 0 → msz M' = msz M + 101 → mns M' = mns M + 1862 → (∀ x, x < a → ceq M M' x) → Q (.inl none) M') : mC E 48 [.ref a] M1 Q := by
  obtain ⟨n1, n2, n3, n4, n5⟩ := own_n q1
  rw [← ha] at n1 n2
  have R1 : rm E M1 100 1857 := hR.less n4 n5 (by omega) (by omega)
  refine w48_0 ⟨R1.one (by omega) (by omega), fun M2 q2 => ?_⟩
  refine tb_new (n := 8) (cn := 6) (ct := 40) rfl (by omega) (by omega) (by omega) (by omega) (R1.less (dc := 0) (ds := 0) rfl rfl (by omega) (by omega)) q2 (fun M3 t3 z3 s3 c3 => ?_)
  have k3 : mkd M3 a = 105 := by rw [(c3 a (by omega)).1, n2]
  refine ⟨k3, by omega, fun M4 q4 => ?_⟩
  obtain ⟨o1, o2, o3, o4, o5, o6, o7⟩ := own_r q4
  have R4 : rm E M4 63 1435 := R1.less (by rw [o6, z3]) (by rw [o7, s3]) (by omega) (by omega)
  refine ⟨R4.one (by omega) (by omega), fun M5 q5 => ?_⟩
  refine r_new (n := 9) (cap := 40) rfl (by omega) (by omega) (by omega) (R4.less (dc := 0) (ds := 0) rfl rfl (by omega) (by omega)) q5 (fun M6 t6 z6 s6 c6 => ?_)
  have k6 : mkd M6 a = 105 := by rw [(c6 a (by omega)).1, o2, k3]
  refine ⟨k6, by omega, fun M8 q8 => ?_⟩
  obtain ⟨p1, p2, p3, p4, p5, p6, p7⟩ := own_r q8
  have R8 : rm E M8 39 1000 := R4.less (by rw [p6, z6]) (by rw [p7, s6]) (by omega) (by omega)
  refine ⟨R8.one (by omega) (by omega), fun M9 q9 => ?_⟩
  refine tb_new (n := 8) (cn := 8) (ct := 80) rfl (by omega) (by omega) (by omega) (by omega) (R8.less (dc := 0) (ds := 0) rfl rfl (by omega) (by omega)) q9 (fun M10 t10 z10 s10 c10 => ?_)
  have k10 : mkd M10 a = 105 := by rw [(c10 a (by omega)).1, p2, k6]
  refine ⟨k10, by omega, fun M12 q12 => ?_⟩
  obtain ⟨r1, r2, r3, r4, r5, r6, r7⟩ := own_r q12
  have R12 : rm E M12 2 242 := R8.less (by rw [r6, z10]) (by rw [r7, s10]) (by omega) (by omega)
  refine ⟨R12.one (by omega) (by omega), fun M13 q13 => ?_⟩
  refine t_new (cap := 240) rfl (by omega) R12 q13 (fun M14 t14 z14 s14 c14 => ?_)
  have k14 : mkd M14 a = 105 := by rw [(c14 a (by omega)).1, r2, k10]
  refine ⟨k14, by omega, fun M16 q16 M17 q17 => ?_⟩
  obtain ⟨u1, u2, u3, u4, u5, u6, u7⟩ := own_r q16
  obtain ⟨w1, w2, w3, w4, w5, w6, w7⟩ := own_i q17
  have fin : ∀ x, ¬ x = a → x < msz M12 + 2 → ceq M14 M17 x := fun x hx _ => (u1 x hx).trans (w1 x hx)
  have c12 : ∀ x, ¬ x = a → x < msz M12 → ceq M12 M17 x := fun x hx hl => (c14 x (by omega)).trans (fin x hx (by omega))
  have c10' : ∀ x, ¬ x = a → x < msz M10 → ceq M10 M17 x := fun x hx hl => (r1 x hx).trans (c12 x hx (by omega))
  have c8 : ∀ x, ¬ x = a → x < msz M8 → ceq M8 M17 x := fun x hx hl => (c10 x (by omega)).trans (c10' x hx (by omega))
  have c6' : ∀ x, ¬ x = a → x < msz M6 → ceq M6 M17 x := fun x hx hl => (p1 x hx).trans (c8 x hx (by omega))
  have c4 : ∀ x, ¬ x = a → x < msz M4 → ceq M4 M17 x := fun x hx hl => (c6 x (by omega)).trans (c6' x hx (by omega))
  have c3' : ∀ x, ¬ x = a → x < msz M3 → ceq M3 M17 x := fun x hx hl => (o1 x hx).trans (c4 x hx (by omega))
  have e4 : msz M4 = a + 38 := by omega
  have e8 : msz M8 = a + 62 := by omega
  have e12 : msz M12 = a + 99 := by omega
  have e1 : msz M1 = a + 1 := by omega
  rw [e1] at t3
  rw [e4] at t6
  rw [e8] at t10
  rw [e12] at t14
  refine hq M17 ⟨by rw [w2, u2, k14], ?_, ?_, ?_, ?_, by rw [w3], t3.mc (fun x h1 h2 => c3' x (by omega) (by omega)), t6.mc (fun x h1 h2 => c6' x (by omega) (by omega)), t10.mc (fun x h1 h2 => c10' x (by omega) (by omega)), t14.mc (fun x h1 h2 => fin x (by omega) (by omega))⟩ (by omega) (by omega) (fun x hx => ?_)
  · rw [w5, u5 0 (by omega), (c14 a (by omega)).2.2.2.1, r5 0 (by omega), (c10 a (by omega)).2.2.2.1, p5 0 (by omega), (c6 a (by omega)).2.2.2.1, o4, e1]
  · rw [w5, u5 1 (by omega), (c14 a (by omega)).2.2.2.1, r5 1 (by omega), (c10 a (by omega)).2.2.2.1, p4, e4]
  · rw [w5, u5 2 (by omega), (c14 a (by omega)).2.2.2.1, r4, e8]
  · rw [w5, u4, e12]
  · exact (n1 x hx).trans ((c3 x (by omega)).trans (c3' x (by omega) (by omega)))
/-- the syntax: its cell and three sheets, behind the script's text -/
theorem y_new {a sc : Nat} (ha : a = msz M) (h0 : 0 < a) (hs0 : 0 < sc) (hR : rm E M 7 3616) {M1 : mM} (q1 : M1 = mnw M 106 0 10)
    (hq : ∀ M', mkd M' a = 106 → mr M' a 0 = a + 1 → mr M' a 1 = a + 3 → mr M' a 2 = a + 5 → mr M' a 4 = sc → (∀ k, mi M' a k = I 0) → shX M' (a + 1) 240 [] → shX M' (a + 3) 240 [] → shX M' (a + 5) 240 [] → msz M' = msz M + 7 → mns M' = mns M + 3616 → (∀ x, x < a → ceq M M' x) → Q (.inl none) M') : mC E 50 [.ref a, .ref sc] M1 Q := by
  obtain ⟨n1, n2, n3, n4, n5⟩ := own_n q1
  rw [← ha] at n1 n2 n3
  refine w50_0 ⟨n2, by omega, fun M2 q2 => ?_⟩
  obtain ⟨o1, o2, o3, o4, o5, o6, o7⟩ := own_r q2
  have R2 : rm E M2 6 3606 := hR.less (by rw [o6, n4]) (by rw [o7, n5]) (by omega) (by omega)
  refine ⟨R2.one (by omega) (by omega), fun M3 q3 => ?_⟩
  refine sh_new (w := 240) rfl (by omega) (R2.less (dc := 0) (ds := 0) rfl rfl (by omega) (by omega)) q3 (fun M4 t4 z4 s4 c4 => ?_)
  have k4 : mkd M4 a = 106 := by rw [(c4 a (by omega)).1, o2, n2]
  refine ⟨k4, by omega, fun M5 q5 => ?_⟩
  obtain ⟨p1, p2, p3, p4, p5, p6, p7⟩ := own_r q5
  have R5 : rm E M5 4 2404 := R2.less (by rw [p6, z4]) (by rw [p7, s4]) (by omega) (by omega)
  refine ⟨R5.one (by omega) (by omega), fun M6 q6 => ?_⟩
  refine sh_new (w := 240) rfl (by omega) (R5.less (dc := 0) (ds := 0) rfl rfl (by omega) (by omega)) q6 (fun M7 t7 z7 s7 c7 => ?_)
  have k7 : mkd M7 a = 106 := by rw [(c7 a (by omega)).1, p2, k4]
  refine ⟨k7, by omega, fun M8 q8 => ?_⟩
  obtain ⟨r1, r2, r3, r4, r5, r6, r7⟩ := own_r q8
  have R8 : rm E M8 2 1202 := R5.less (by rw [r6, z7]) (by rw [r7, s7]) (by omega) (by omega)
  refine ⟨R8.one (by omega) (by omega), fun M9 q9 => ?_⟩
  refine sh_new (w := 240) rfl (by omega) R8 q9 (fun M10 t10 z10 s10 c10 => ?_)
  have k10 : mkd M10 a = 106 := by rw [(c10 a (by omega)).1, r2, k7]
  refine ⟨k10, by omega, fun M11 q11 M12 q12 => ?_⟩
  obtain ⟨u1, u2, u3, u4, u5, u6, u7⟩ := own_r q11
  obtain ⟨w1, w2, w3, w4, w5, w6, w7⟩ := own_i q12
  have f10 : ∀ x, ¬ x = a → ceq M10 M12 x := fun x hx => (u1 x hx).trans (w1 x hx)
  have f7 : ∀ x, ¬ x = a → x < msz M8 → ceq M7 M12 x := fun x hx hl => (r1 x hx).trans ((c10 x (by omega)).trans (f10 x hx))
  have f4 : ∀ x, ¬ x = a → x < msz M5 → ceq M4 M12 x := fun x hx hl => (p1 x hx).trans ((c7 x (by omega)).trans (f7 x hx (by omega)))
  have e2 : msz M2 = a + 1 := by omega
  have e5 : msz M5 = a + 3 := by omega
  have e8 : msz M8 = a + 5 := by omega
  rw [e2] at t4
  rw [e5] at t7
  rw [e8] at t10
  refine hq M12 (by rw [w2, u2, k10]) ?_ ?_ ?_ ?_ (fun k => ?_) (t4.mc (fun x h1 h2 => f4 x (by omega) (by omega))) (t7.mc (fun x h1 h2 => f7 x (by omega) (by omega))) (t10.mc (fun x h1 h2 => f10 x (by omega))) (by omega) (by omega) (fun x hx => ?_)
  · rw [w5, u5 0 (by omega), (c10 a (by omega)).2.2.2.1, r5 0 (by omega), (c7 a (by omega)).2.2.2.1, p4, e2]
  · rw [w5, u5 1 (by omega), (c10 a (by omega)).2.2.2.1, r4, e5]
  · rw [w5, u4, e8]
  · rw [w5, u5 4 (by omega), (c10 a (by omega)).2.2.2.1, r5 4 (by omega), (c7 a (by omega)).2.2.2.1, p5 4 (by omega), (c4 a (by omega)).2.2.2.1, o4]
  · by_cases q : k = 3
    · subst q; exact w3
    · rw [w4 k q, u3, (c10 a (by omega)).2.2.1, r3, (c7 a (by omega)).2.2.1, p3, (c4 a (by omega)).2.2.1, o3, n3]; rfl
  · exact (n1 x hx).trans ((o1 x (by omega)).trans ((c4 x (by omega)).trans (f4 x (by omega) (by omega))))
/-- the expander: its cell, a row, three texts -/
theorem e_new {a sc sx sa : Nat} (ha : a = msz M) (h0 : 0 < a) (h1 : 0 < sc) (h2 : 0 < sx) (h3 : 0 < sa) (hR : rm E M 45 1070) {M1 : mM} (q1 : M1 = mnw M 107 0 8)
    (hq : ∀ M', mkd M' a = 107 → mr M' a 0 = sc → mr M' a 1 = sx → mr M' a 2 = sa → mr M' a 3 = a + 1 → mr M' a 4 = a + 39 → mr M' a 5 = a + 41 → mr M' a 6 = a + 43 → (∀ k, mi M' a k = I 0) → rX M' (a + 1) 16 40 [] [] → tX M' (a + 39) 40 [] → tX M' (a + 41) 240 [] → tX M' (a + 43) 40 [] → msz M' = msz M + 45 → mns M' = mns M + 1070 → (∀ x, x < a → ceq M M' x) → Q (.inl none) M') : mC E 70 [.ref a, .ref sc, .ref sx, .ref sa] M1 Q := by
  obtain ⟨n1, n2, n3, n4, n5⟩ := own_n q1
  rw [← ha] at n1 n2 n3
  refine w70_0 ⟨n2, by omega, fun M2 q2 => ⟨by omega, fun M3 q3 => ⟨by omega, fun M4 q4 => ?_⟩⟩⟩
  obtain ⟨o1, o2, o3, o4, o5, o6, o7⟩ := own_r q2
  obtain ⟨o1', o2', o3', o4', o5', o6', o7'⟩ := own_r q3
  obtain ⟨p1, p2, p3, p4, p5, p6, p7⟩ := own_r q4
  have R4 : rm E M4 44 1062 := hR.less (by rw [p6, o6', o6, n4]) (by rw [p7, o7', o7, n5]) (by omega) (by omega)
  refine ⟨R4.one (by omega) (by omega), fun M5 q5 => ?_⟩
  refine r_new (n := 16) (cap := 40) rfl (by omega) (by omega) (by omega) (R4.less (dc := 0) (ds := 0) rfl rfl (by omega) (by omega)) q5 (fun M6 t6 z6 s6 c6 => ?_)
  have k6 : mkd M6 a = 107 := by rw [(c6 a (by omega)).1, p2, o2', o2, n2]
  refine ⟨k6, by omega, fun M7 q7 => ?_⟩
  obtain ⟨r1, r2, r3, r4, r5, r6, r7⟩ := own_r q7
  have R7 : rm E M7 6 326 := R4.less (by rw [r6, z6]) (by rw [r7, s6]) (by omega) (by omega)
  refine ⟨R7.one (by omega) (by omega), fun M8 q8 => ?_⟩
  refine t_new (cap := 40) rfl (by omega) (R7.less (dc := 0) (ds := 0) rfl rfl (by omega) (by omega)) q8 (fun M9 t9 z9 s9 c9 => ?_)
  have k9 : mkd M9 a = 107 := by rw [(c9 a (by omega)).1, r2, k6]
  refine ⟨k9, by omega, fun M10 q10 => ?_⟩
  obtain ⟨u1, u2, u3, u4, u5, u6, u7⟩ := own_r q10
  have R10 : rm E M10 4 284 := R7.less (by rw [u6, z9]) (by rw [u7, s9]) (by omega) (by omega)
  refine ⟨R10.one (by omega) (by omega), fun M11 q11 => ?_⟩
  refine t_new (cap := 240) rfl (by omega) (R10.less (dc := 0) (ds := 0) rfl rfl (by omega) (by omega)) q11 (fun M12 t12 z12 s12 c12 => ?_)
  have k12 : mkd M12 a = 107 := by rw [(c12 a (by omega)).1, u2, k9]
  refine ⟨k12, by omega, fun M13 q13 => ?_⟩
  obtain ⟨w1, w2, w3, w4, w5, w6, w7⟩ := own_r q13
  have R13 : rm E M13 2 42 := R10.less (by rw [w6, z12]) (by rw [w7, s12]) (by omega) (by omega)
  refine ⟨R13.one (by omega) (by omega), fun M14 q14 => ?_⟩
  refine t_new (cap := 40) rfl (by omega) R13 q14 (fun M15 t15 z15 s15 c15 => ?_)
  have k15 : mkd M15 a = 107 := by rw [(c15 a (by omega)).1, w2, k12]
  refine ⟨k15, by omega, fun M16 q16 => ?_⟩
  obtain ⟨y1, y2, y3, y4, y5, y6, y7⟩ := own_r q16
  have f12 : ∀ x, ¬ x = a → x < msz M13 → ceq M12 M16 x := fun x hx hl => (w1 x hx).trans ((c15 x (by omega)).trans (y1 x hx))
  have f9 : ∀ x, ¬ x = a → x < msz M10 → ceq M9 M16 x := fun x hx hl => (u1 x hx).trans ((c12 x (by omega)).trans (f12 x hx (by omega)))
  have f6 : ∀ x, ¬ x = a → x < msz M7 → ceq M6 M16 x := fun x hx hl => (r1 x hx).trans ((c9 x (by omega)).trans (f9 x hx (by omega)))
  have e4 : msz M4 = a + 1 := by omega
  have e7 : msz M7 = a + 39 := by omega
  have e10 : msz M10 = a + 41 := by omega
  have e13 : msz M13 = a + 43 := by omega
  rw [e4] at t6
  rw [e7] at t9
  rw [e10] at t12
  rw [e13] at t15
  have low : ∀ k, ¬ k = 3 → ¬ k = 4 → ¬ k = 5 → ¬ k = 6 → mr M16 a k = mr M4 a k := fun k h3 h4 h5 h6 => by
    rw [y5 k h6, (c15 a (by omega)).2.2.2.1, w5 k h5, (c12 a (by omega)).2.2.2.1, u5 k h4, (c9 a (by omega)).2.2.2.1, r5 k h3, (c6 a (by omega)).2.2.2.1]
  refine hq M16 (by rw [y2, k15]) ?_ ?_ ?_ ?_ ?_ ?_ ?_ (fun k => ?_) (t6.mc (fun x h1 h2 => f6 x (by omega) (by omega))) (t9.mc (fun x h1 h2 => f9 x (by omega) (by omega))) (t12.mc (fun x h1 h2 => f12 x (by omega) (by omega))) (t15.mc (fun x h1 h2 => y1 x (by omega))) (by omega) (by omega) (fun x hx => ?_)
  · rw [low 0 (by omega) (by omega) (by omega) (by omega), p5 0 (by omega), o5' 0 (by omega), o4]
  · rw [low 1 (by omega) (by omega) (by omega) (by omega), p5 1 (by omega), o4']
  · rw [low 2 (by omega) (by omega) (by omega) (by omega), p4]
  · rw [y5 3 (by omega), (c15 a (by omega)).2.2.2.1, w5 3 (by omega), (c12 a (by omega)).2.2.2.1, u5 3 (by omega), (c9 a (by omega)).2.2.2.1, r4, e4]
  · rw [y5 4 (by omega), (c15 a (by omega)).2.2.2.1, w5 4 (by omega), (c12 a (by omega)).2.2.2.1, u4, e7]
  · rw [y5 5 (by omega), (c15 a (by omega)).2.2.2.1, w4, e10]
  · rw [y4, e13]
  · rw [y3, (c15 a (by omega)).2.2.1, w3, (c12 a (by omega)).2.2.1, u3, (c9 a (by omega)).2.2.1, r3, (c6 a (by omega)).2.2.1, p3, o3', o3, n3]; rfl
  · exact (n1 x hx).trans ((o1 x (by omega)).trans ((o1' x (by omega)).trans ((p1 x (by omega)).trans ((c6 x (by omega)).trans (f6 x (by omega) (by omega))))))
end CTOR
