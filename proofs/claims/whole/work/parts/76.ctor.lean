/-! THE CLASS'S CONSTRUCTORS: lines, tools, runner, the shell itself -/
/-- an object under way: its kind, its references, its numbers still 0, all before it as it was -/
def ownP (M0 M : mM) (a kd : Nat) (rf : Nat → Nat) : Prop := mkd M a = kd ∧ (∀ k, mr M a k = rf k) ∧ (∀ k, mi M a k = I 0) ∧ ∀ x, x < a → ceq M0 M x
/-- so many cells behind a, so many slots -/
def zz (M0 M : mM) (a dc ds : Nat) : Prop := msz M = a + dc ∧ mns M = mns M0 + ds
section CTOR
variable {E : mE} {M : mM} {Q : mQ}
theorem ownP.new {M1 : mM} {a kd c : Nat} (q : M1 = mnw M kd 0 c) (ha : a = msz M) : ownP M M1 a kd (fun _ => 0) := by
  rw [q, ha]; exact ⟨kd_ns, fun k => by rw [r_n, if_pos rfl], fun k => by rw [i_ns]; rfl, fun x hx => ceq_n (by omega)⟩
theorem ownP.to {M0 M' : mM} {a kd t : Nat} {rf : Nat → Nat} (h : ownP M0 M a kd rf) (c : ∀ x, x < t → ceq M M' x) (hl : a < t) : ownP M0 M' a kd rf :=
  ⟨by rw [(c a hl).1, h.1], fun k => by rw [(c a hl).2.2.2.1, h.2.1], fun k => by rw [(c a hl).2.2.1, h.2.2.1], fun x hx => (h.2.2.2 x hx).trans (c x (by omega))⟩
theorem ownP.set {M0 M' : mM} {a kd f v : Nat} {rf : Nat → Nat} (h : ownP M0 M a kd rf) (q : M' = msr M a f v) : ownP M0 M' a kd (fun k => if k = f then v else rf k) := by
  obtain ⟨o1, o2, o3, o4, o5, o6, o7⟩ := own_r q
  refine ⟨by rw [o2, h.1], fun k => ?_, fun k => by rw [o3, h.2.2.1], fun x hx => (h.2.2.2 x hx).trans (o1 x (by omega))⟩
  show mr M' a k = if k = f then v else rf k
  by_cases e : k = f
  · subst e; rw [o4, if_pos rfl]
  · rw [o5 k e, h.2.1, if_neg e]
theorem ceq_o {M' : mM} {a f v : Nat} (q : M' = msr M a f v) {x : Nat} (hx : a < x) : ceq M M' x := (own_r q).1 x (by omega)
theorem zz.new {M1 : mM} {a kd c : Nat} (q : M1 = mnw M kd 0 c) (ha : a = msz M) : zz M M1 a 1 c := by rw [q]; exact ⟨by rw [sz_n, ha], ns_n⟩
theorem zz.set {M0 M' : mM} {a f v dc ds : Nat} (h : zz M0 M a dc ds) {a' : Nat} (q : M' = msr M a' f v) : zz M0 M' a dc ds := by rw [q]; exact h
theorem zz.st {M0 M' : mM} {a dc ds x y : Nat} (h : zz M0 M a dc ds) (e1 : msz M' = msz M + x) (e2 : mns M' = mns M + y) {c' s' : Nat} (hc : dc + x = c') (hs : ds + y = s') : zz M0 M' a c' s' := ⟨by rw [e1, h.1]; omega, by rw [e2, h.2]; omega⟩
theorem zz.rm {M0 : mM} {a dc ds C S c s : Nat} (h : zz M0 M a dc ds) (ha : a = msz M0) (hR : rm E M0 C S) (hc : dc + c ≤ C) (hs : ds + s ≤ S) : rm E M c s := hR.less (dc := dc) (ds := ds) (by rw [h.1, ha]) h.2 hc hs
theorem l_new {a si so : Nat} (ha : a = msz M) (h0 : 0 < a) (h1 : 0 < si) (h2 : 0 < so) (hR : rm E M 3 1205) {M1 : mM} (q1 : M1 = mnw M 110 0 3)
    (hq : ∀ M', mkd M' a = 110 → mr M' a 0 = si → mr M' a 1 = so → mr M' a 2 = a + 1 → shX M' (a + 1) 240 [] → msz M' = msz M + 3 → mns M' = mns M + 1205 → (∀ x, x < a → ceq M M' x) → Q (.inl none) M') : mC E 105 [.ref a, .ref si, .ref so] M1 Q := by
  obtain ⟨n1, n2, n3, n4, n5⟩ := own_n q1
  rw [← ha] at n1 n2 n3
  refine w105_0 ⟨n2, by omega, fun M2 q2 => ⟨by omega, fun M3 q3 => ?_⟩⟩
  obtain ⟨o1, o2, o3, o4, o5, o6, o7⟩ := own_r q2
  obtain ⟨p1, p2, p3, p4, p5, p6, p7⟩ := own_r q3
  have R3 : rm E M3 2 1202 := hR.less (by rw [p6, o6, n4]) (by rw [p7, o7, n5]) (by omega) (by omega)
  refine ⟨R3.one (by omega) (by omega), fun M4 q4 => ?_⟩
  refine sh_new (w := 240) rfl (by omega) R3 q4 (fun M5 t5 z5 s5 c5 => ?_)
  have k5 : mkd M5 a = 110 := by rw [(c5 a (by omega)).1, p2, o2, n2]
  refine ⟨k5, by omega, fun M6 q6 => ?_⟩
  obtain ⟨r1, r2, r3, r4, r5, r6, r7⟩ := own_r q6
  have e3 : msz M3 = a + 1 := by omega
  rw [e3] at t5
  refine hq M6 (by rw [r2, k5]) ?_ ?_ ?_ (t5.mc (fun x h1 h2 => r1 x (by omega))) (by omega) (by omega) (fun x hx => ?_)
  · rw [r5 0 (by omega), (c5 a (by omega)).2.2.2.1, p5 0 (by omega), o4]
  · rw [r5 1 (by omega), (c5 a (by omega)).2.2.2.1, p4]
  · rw [r4, e3]
  · exact (n1 x hx).trans ((o1 x (by omega)).trans ((p1 x (by omega)).trans ((c5 x (by omega)).trans (r1 x (by omega)))))
theorem u_new {a sa : Nat} (ha : a = msz M) (h0 : 0 < a) (h3 : 0 < sa) (hR : rm E M 46 2431) {M1 : mM} (q1 : M1 = mnw M 109 0 6)
    (hq : ∀ M', mkd M' a = 109 → mr M' a 0 = a + 1 → mr M' a 1 = a + 39 → mr M' a 2 = a + 41 → mr M' a 4 = sa → mr M' a 5 = a + 43 → (∀ k, mi M' a k = I 0) → rX M' (a + 1) 16 40 [] [] → tX M' (a + 39) 240 [] → tX M' (a + 41) 240 [] → mkd M' (a + 43) = 110 → mr M' (a + 43) 0 = a + 39 → mr M' (a + 43) 1 = a + 41 → mr M' (a + 43) 2 = a + 44 → shX M' (a + 44) 240 [] → msz M' = msz M + 46 → mns M' = mns M + 2431 → (∀ x, x < a → ceq M M' x) → Q (.inl none) M') : mC E 92 [.ref a, .ref sa] M1 Q := by
  have O1 := ownP.new q1 ha
  have Z1 := zz.new q1 ha
  refine w92_0 ⟨O1.1, by omega, fun M2 q2 => ?_⟩
  have O2 := O1.set q2
  have Z2 := Z1.set q2
  have R2 := Z2.rm (c := 45) (s := 2425) ha hR (by decide) (by decide)
  clear O1 Z1 q1 q2
  refine ⟨R2.one (by decide) (by decide), fun M5 q5 => ?_⟩
  rw [Z2.1]
  refine r_new (n := 16) (cap := 40) Z2.1.symm (by omega) (by omega) (by omega) (R2.less (dc := 0) (ds := 0) rfl rfl (by decide) (by decide)) q5 (fun M6 t6 z6 s6 c6 => ?_)
  have O6 := O2.to c6 (by omega)
  have Z6 := Z2.st z6 s6 (c' := 39) (s' := 742) rfl rfl
  clear z6 s6 c6 q5 R2 Z2 O2
  refine ⟨O6.1, by omega, fun M7 q7 => ?_⟩
  have O7 := O6.set q7
  have Z7 := Z6.set q7
  have R7 := Z7.rm (c := 7) (s := 1689) ha hR (by decide) (by decide)
  have t7 := t6.mc (fun x h1 h2 => ceq_o q7 (x := x) (by omega))
  clear t6 O6 Z6 q7
  refine ⟨R7.one (by decide) (by decide), fun M8 q8 => ?_⟩
  rw [Z7.1]
  refine t_new (cap := 240) Z7.1.symm (by omega) (R7.less (dc := 0) (ds := 0) rfl rfl (by decide) (by decide)) q8 (fun M9 t9 z9 s9 c9 => ?_)
  have O9 := O7.to c9 (by omega)
  have Z9 := Z7.st z9 s9 (c' := 41) (s' := 984) rfl rfl
  have t9' := t7.mc (fun x h1 h2 => c9 x (by omega))
  clear z9 s9 c9 q8 R7 Z7 O7 t7
  refine ⟨O9.1, by omega, fun M10 q10 => ?_⟩
  have O10 := O9.set q10
  have Z10 := Z9.set q10
  have R10 := Z10.rm (c := 5) (s := 1447) ha hR (by decide) (by decide)
  have ta := t9'.mc (fun x h1 h2 => ceq_o q10 (x := x) (by omega))
  have tb := t9.mc (fun x h1 h2 => ceq_o q10 (x := x) (by omega))
  clear t9 t9' O9 Z9 q10
  refine ⟨R10.one (by decide) (by decide), fun M11 q11 => ?_⟩
  rw [Z10.1]
  refine t_new (cap := 240) Z10.1.symm (by omega) (R10.less (dc := 0) (ds := 0) rfl rfl (by decide) (by decide)) q11 (fun M12 t12 z12 s12 c12 => ?_)
  have O12 := O10.to c12 (by omega)
  have Z12 := Z10.st z12 s12 (c' := 43) (s' := 1226) rfl rfl
  have ta' := ta.mc (fun x h1 h2 => c12 x (by omega))
  have tb' := tb.mc (fun x h1 h2 => c12 x (by omega))
  clear z12 s12 c12 q11 R10 Z10 O10 ta tb
  refine ⟨O12.1, by omega, fun M13 q13 => ?_⟩
  have O13 := O12.set q13
  have Z13 := Z12.set q13
  have R13 := Z13.rm (c := 3) (s := 1205) ha hR (by decide) (by decide)
  have ta := ta'.mc (fun x h1 h2 => ceq_o q13 (x := x) (by omega))
  have tb := tb'.mc (fun x h1 h2 => ceq_o q13 (x := x) (by omega))
  have tc := t12.mc (fun x h1 h2 => ceq_o q13 (x := x) (by omega))
  clear t12 ta' tb' O12 Z12 q13
  refine ⟨R13.one (by decide) (by decide), fun M14 q14 => ?_⟩
  have O14 := O13.to (t := a + 43) (fun x hx => (own_n q14).1 x (by rw [Z13.1]; exact hx)) (by omega)
  have m1 : mr M14 a 1 = a + 39 := O14.2.1 1
  have m2 : mr M14 a 2 = a + 41 := O14.2.1 2
  refine ⟨O14.1, by rw [m1]; omega, by rw [m2]; omega, ?_⟩
  rw [m1, m2, Z13.1]
  clear m1 m2 O14
  refine l_new Z13.1.symm (by omega) (by omega) (by omega) R13 q14 (fun M15 t15 v0 v1 v2 vs z15 s15 c15 => ?_)
  have O15 := O13.to c15 (by omega)
  have Z15 := Z13.st z15 s15 (c' := 46) (s' := 2431) rfl rfl
  have ta' := ta.mc (fun x h1 h2 => c15 x (by omega))
  have tb' := tb.mc (fun x h1 h2 => c15 x (by omega))
  have tc' := tc.mc (fun x h1 h2 => c15 x (by omega))
  clear z15 s15 c15 q14 R13 Z13 O13 ta tb tc
  refine ⟨O15.1, by omega, fun M16 q16 M17 q17 => ?_⟩
  have O16 := O15.set q16
  have Z16 := Z15.set q16
  obtain ⟨i1, i2, i3, i4, i5, i6, i7⟩ := own_i q17
  have f15 : ∀ x, a < x → ceq M15 M17 x := fun x hx => (ceq_o q16 hx).trans (i1 x (by omega))
  have ml := f15 (a + 43) (by omega)
  refine hq M17 (by rw [i2]; exact O16.1) (by rw [i5]; exact O16.2.1 0) (by rw [i5]; exact O16.2.1 1) (by rw [i5]; exact O16.2.1 2) (by rw [i5]; exact O16.2.1 4) (by rw [i5]; exact O16.2.1 5) (fun k => ?_) (ta'.mc (fun x h1 h2 => f15 x (by omega))) (tb'.mc (fun x h1 h2 => f15 x (by omega))) (tc'.mc (fun x h1 h2 => f15 x (by omega))) (by rw [ml.1, t15]) (by rw [ml.2.2.2.1, v0]) (by rw [ml.2.2.2.1, v1]) (by rw [ml.2.2.2.1, v2]) (vs.mc (fun x h1 h2 => f15 x (by omega))) (by rw [i6, Z16.1, ha]) (by rw [i7, Z16.2]) (fun x hx => (O16.2.2.2 x hx).trans (i1 x (by omega)))
  by_cases q : k = 3
  · subst q; exact i3
  · rw [i4 k q]; exact O16.2.2.1 k
/-- nothing yet -/
def v0 : Vl := ([], [], [], [])
end CTOR
