/-! WHAT STANDS IN CELLS THAT ARE THE SAME; the constructors of rows, tables, states -/
theorem tX.mc {M M' : mM} {a cap : Nat} {s : List Nat} (h : tX M a cap s) (f : ∀ x, a ≤ x → x < a + 2 → ceq M M' x) : tX M' a cap s := by
  obtain ⟨c1, c2, c3, c4, c5⟩ := f a (by omega) (by omega)
  obtain ⟨d1, d2, d3, d4, d5⟩ := f (a + 1) (by omega) (by omega)
  obtain ⟨h1, h2, h3, h4, h5, h6, h7, h8, h9⟩ := h
  exact ⟨by rw [c1, h1], by rw [c4, h2], by rw [d1, h3], by rw [d2, h4], by rw [c3, h5], h6, h7, fun k hk => by rw [d3, h8 k hk], h9⟩
theorem shX.mc {M M' : mM} {a n : Nat} {rs : List (List Nat)} (h : shX M a n rs) (f : ∀ x, a ≤ x → x < a + 2 → ceq M M' x) : shX M' a n rs := by
  obtain ⟨c1, c2, c3, c4, c5⟩ := f a (by omega) (by omega)
  obtain ⟨d1, d2, d3, d4, d5⟩ := f (a + 1) (by omega) (by omega)
  obtain ⟨h1, h2, h3, h4, h5, h6, h7, h8, h9⟩ := h
  exact ⟨by rw [c1, h1], by rw [c4, h2], by rw [d1, h3], by rw [d2, h4], by rw [c3, h5], h6, h7, fun i hi c hc => by rw [d3, h8 i hi c hc], h9⟩
theorem rX.mc {M M' : mM} {r n cap : Nat} {ts : List (List Nat)} {sp : List Nat} (h : rX M r n cap ts sp) (f : ∀ x, r ≤ x → x < r + 2 * n + 6 → ceq M M' x) : rX M' r n cap ts sp := by
  obtain ⟨a1, a2, a3, a4, a5, a6, a7⟩ := h
  refine ⟨a1.mv (f _ (by omega) (by omega)) (f _ (by omega) (by omega)), by rw [(f r (by omega) (by omega)).2.2.1, a2], a3, fun i hi => (a4 i hi).mc (fun x q1 q2 => f x (by omega) (by omega)), a5.mc (fun x q1 q2 => f x (by omega) (by omega)), fun i h1 h2 => ?_, a7.mc (fun x q1 q2 => f x (by omega) (by omega))⟩
  obtain ⟨s, hs⟩ := a6 i h1 h2
  exact ⟨s, hs.mc (fun x q1 q2 => f x (by omega) (by omega))⟩
theorem tbX.mc {M M' : mM} {t n cn ct : Nat} {es : eL} (h : tbX M t n cn ct es) (f : ∀ x, t ≤ x → x < t + 4 * n + 5 → ceq M M' x) : tbX M' t n cn ct es := by
  obtain ⟨⟨a1, a2, a3, a4, a5, a6, a7, a8, a9, a10⟩, b2, b3, σ, g, c1, c2, c3, c4⟩ := h
  have h0 := f t (by omega) (by omega)
  have h1 := f (t + 1) (by omega) (by omega)
  have h2 := f (t + 2) (by omega) (by omega)
  refine ⟨⟨by rw [h0.1, a1], by rw [h0.2.2.2.1, a2], by rw [h0.2.2.2.1, a3], by rw [h0.2.2.2.1, a4], by rw [h1.1, a5], by rw [h1.2.1, a6], by rw [h2.1, a7], by rw [h2.2.1, a8], a9, a10.mc (fun x q1 q2 => f x (by omega) (by omega))⟩, by rw [h0.2.2.1, b2], b3, σ, g, fun i hi => ?_, c2, fun i hi => ?_, c4⟩
  · rw [h1.2.2.2.1, h2.2.2.2.1]; exact c1 i hi
  · have := c2.1 i hi
    exact ⟨(c3 i hi).1.mc (fun x q1 q2 => f x (by omega) (by omega)), (c3 i hi).2.mc (fun x q1 q2 => f x (by omega) (by omega))⟩
theorem ceq_i {M : mM} {a k x : Nat} {v : Int32} (h : ¬ x = a) : ceq M (msi M a k v) x := ⟨rfl, rfl, fun j => i_ia h, fun _ => rfl, fun _ => rfl⟩
theorem ceq_r {M : mM} {a k x : Nat} {v : Nat} (h : ¬ x = a) : ceq M (msr M a k v) x := ⟨rfl, rfl, fun _ => rfl, fun j => r_ra h, fun _ => rfl⟩
theorem ceq_n {M : mM} {kd n c x : Nat} (h : ¬ x = msz M) : ceq M (mnw M kd n c) x := ⟨by rw [kd_n, if_neg h], by rw [ln_n, if_neg h], fun j => by rw [i_n, if_neg h], fun j => by rw [r_n, if_neg h], fun j => by rw [j_n, if_neg h]⟩
/-- c cells and s slots more may be made -/
def rm (E : mE) (M : mM) (c s : Nat) : Prop := msz M - E.1 + c ≤ mCC ∧ mns M + s ≤ mCS ∧ E.1 ≤ msz M
theorem rm.one {E : mE} {M : mM} {c s k : Nat} (h : rm E M c s) (hc : 1 ≤ c) (hs : k ≤ s) : m_room E M k := by
  unfold rm at h; unfold m_room; omega
theorem rm.less {E : mE} {M M' : mM} {c s c' s' : Nat} (h : rm E M c s) {dc ds : Nat} (e1 : msz M' = msz M + dc) (e2 : mns M' = mns M + ds) (hc : dc + c' ≤ c) (hs : ds + s' ≤ s) : rm E M' c' s' := by
  unfold rm at h ⊢; omega
section CTOR
variable {E : mE} {M : mM} {Q : mQ}
/-- a text made: its cell, then its characters -/
theorem t_new {cap a : Nat} (ha : a = msz M) (hc : cap ≤ 1000) (hr : rm E M 2 (2 + cap)) {M1 : mM} (q1 : M1 = mnw M 101 0 2)
    (hq : ∀ M', tX M' a cap [] → msz M' = msz M + 2 → mns M' = mns M + (2 + cap) → (∀ x, x < a → ceq M M' x) → Q (.inl none) M') : mC E 13 [.ref a, .int (I cap)] M1 Q := by
  have z1 : msz M1 = msz M + 1 := by rw [q1, sz_n]
  have n1 : mns M1 = mns M + 2 := by rw [q1, ns_n]
  refine t_init (by rw [q1, ha]; exact kd_ns) (by omega) hc ((hr.less (c' := 1) (s' := cap) z1 n1 (by omega) (by omega)).one (by omega) (by omega)) (fun M' t1 t2 t3 t4 => hq M' t1 (by omega) (by omega) (fun x hx => ?_))
  have : ceq M M1 x := by rw [q1]; exact ceq_n (by omega)
  exact this.trans (t4 x hx)
theorem r_init_l {r n cap : Nat} {w1 w2 : Int32} (hw : w2 = I cap) (hr1 : 0 < r) (hn : n ≤ 100) (hc : cap ≤ 1000) (m : Nat) : ∀ (i : Nat) (M : mM), n + 1 - i ≤ m → i ≤ n + 1 → mkd M r = 102 → mr M r 0 = r + 1 → mkd M (r + 1) = 5 → mln M (r + 1) = n + 1 → msz M = r + 2 + 2 * i → (∀ j, j < i → mr M (r + 1) j = r + 2 + 2 * j ∧ tX M (r + 2 + 2 * j) cap []) → rm E M (2 * (n + 1 - i) + 2) ((n + 1 - i) * (2 + cap) + 2) →
    (∀ M', rX M' r n cap [] [] → msz M' = r + 2 * n + 6 → mns M' = mns M + ((n + 1 - i) * (2 + cap) + 2) → (∀ x, x < r → ceq M M' x) → Q (.inl none) M') →
    mX E 25 1 [some (.ref r), some (.int w1), some (.int w2), some (.int (I i))] [] M Q := by
  induction m with
  | zero =>
    intro i M hm hi k1 r1 k2 l2 z1 hj hR hq
    have ei : i = n + 1 := by omega
    subst ei
    refine w25_1 ⟨k1, by rw [r1]; omega, by rw [r1]; exact k2, fun _ => ⟨hR.one (by omega) (by omega), fun M1 q1 => ?_⟩, fun c => ?_⟩
    · refine t_new (cap := 0) rfl (by omega) (hR.less (dc := 0) (ds := 0) rfl rfl (by omega) (by omega)) q1 (fun M2 t1 t2 t3 t4 => ?_)
      refine ⟨by rw [(t4 r (by omega)).1, k1], by omega, fun M3 q3 M4 q4 => ?_⟩
      have ce : ∀ x, x < msz M → ¬ x = r → ceq M M4 x := fun x hx hxr => by
        have c3 : ceq M2 M3 x := by rw [q3]; exact ceq_r hxr
        have c4 : ceq M3 M4 x := by rw [q4]; exact ceq_i hxr
        exact ((t4 x hx).trans c3).trans c4
      have e2 : ∀ x, mkd M4 x = mkd M2 x := fun x => by rw [q4, kd_i, q3, kd_r]
      have tn : tX M4 (msz M) 0 [] := t1.mc (fun x h1 h2 => by
        have c3 : ceq M2 M3 x := by rw [q3]; exact ceq_r (by omega)
        have c4 : ceq M3 M4 x := by rw [q4]; exact ceq_i (by omega)
        exact c3.trans c4)
      have all : ∀ j, j ≤ n → tX M4 (r + 2 + 2 * j) cap [] := fun j hj' => (hj j (by omega)).2.mc (fun x h1 h2 => ce x (by omega) (by omega))
      refine hq M4 ⟨⟨?_, ?_, ?_, ?_, ?_, fun j hj' => ?_, hn⟩, by rw [q4, i_is]; rfl, Nat.zero_le _, fun i hi => absurd hi (Nat.not_lt_zero i), all 0 (by omega), fun i _ h => ⟨_, all i h⟩, ?_⟩ (by rw [q4, sz_i, q3, sz_r, t2, z1]; omega) (by rw [q4, ns_i, q3, ns_r, t3, Nat.sub_self, Nat.zero_mul]) (fun x hx => ce x (by omega) (by omega))
      · rw [e2, (t4 r (by omega)).1, k1]
      · rw [q4, r_i, q3, r_rk (by omega), (t4 r (by omega)).2.2.2.1, r1]
      · rw [q4, r_i, q3, r_rs, z1]; omega
      · rw [(ce (r + 1) (by omega) (by omega)).1, k2]
      · rw [(ce (r + 1) (by omega) (by omega)).2.1, l2]
      · rw [(ce (r + 1) (by omega) (by omega)).2.2.2.1, (hj j (by omega)).1]
      · rw [show r + 2 * n + 4 = msz M by omega]; exact tn
    · rw [r1, l2, I_nI, I_le (by omega) (by omega) (by omega) (by omega)] at c; omega
  | succ m ih =>
    intro i M hm hi k1 r1 k2 l2 z1 hj hR hq
    by_cases ei : i = n + 1
    · exact ih i M (by omega) hi k1 r1 k2 l2 z1 hj hR hq
    have en : n + 1 - i = (n + 1 - (i + 1)) + 1 := by omega
    have em : (n + 1 - i) * (2 + cap) = (n + 1 - (i + 1)) * (2 + cap) + (2 + cap) := by rw [en, Nat.add_mul, Nat.one_mul]
    refine w25_1 ⟨k1, by rw [r1]; omega, by rw [r1]; exact k2, fun c => ?_, fun _ => ⟨hR.one (by omega) (by omega), fun M1 q1 => ?_⟩⟩
    · rw [r1, l2, I_nI, I_le (by omega) (by omega) (by omega) (by omega)] at c; omega
    · rw [hw]
      refine t_new (cap := cap) rfl hc (hR.less (dc := 0) (ds := 0) rfl rfl (by omega) (by omega)) q1 (fun M2 t1 t2 t3 t4 => ?_)
      rw [r1]
      refine ⟨by rw [(t4 (r + 1) (by omega)).1, k2], by rw [(t4 (r + 1) (by omega)).2.1, l2]; exact I_in (by omega) (by omega) (by omega), t1.1, fun M3 q3 => ?_⟩
      rw [I_ntn (by omega)] at q3
      have ce : ∀ x, x < msz M → ¬ x = r + 1 → ceq M M3 x := fun x hx hxr => by
        have c3 : ceq M2 M3 x := by rw [q3]; exact ceq_r hxr
        exact (t4 x hx).trans c3
      rw [I_add, ← hw]
      refine ih (i + 1) M3 (by omega) (by omega) (by rw [(ce r (by omega) (by omega)).1, k1]) (by rw [(ce r (by omega) (by omega)).2.2.2.1, r1]) (by rw [q3, kd_r, (t4 (r + 1) (by omega)).1, k2]) (by rw [q3, ln_r, (t4 (r + 1) (by omega)).2.1, l2]) (by rw [q3, sz_r, t2, z1]; omega) (fun j hj' => ?_) (hR.less (dc := 2) (ds := 2 + cap) (by rw [q3, sz_r, t2]) (by rw [q3, ns_r, t3]) (by omega) (by omega)) (fun M' g1 g2 g3 g4 => hq M' g1 g2 (by rw [g3, q3, ns_r, t3]; omega) (fun x hx => (ce x (by omega) (by omega)).trans (g4 x hx)))
      by_cases q : j = i
      · subst q
        refine ⟨by rw [q3, r_rs]; omega, ?_⟩
        rw [show r + 2 + 2 * j = msz M by omega]
        exact t1.mc (fun x h1 h2 => by rw [q3]; exact ceq_r (by omega))
      · refine ⟨?_, (hj j (by omega)).2.mc (fun x h1 h2 => ce x (by omega) (by omega))⟩
        rw [q3, r_rk q, (t4 (r + 1) (by omega)).2.2.2.1, (hj j (by omega)).1]
/-- a row made: its cell, then all else -/
theorem r_new {n cap r : Nat} (hr : r = msz M) (h0 : 0 < r) (hn : n ≤ 100) (hc : cap ≤ 1000) (hR : rm E M (2 * n + 6) (n + 6 + (n + 1) * (2 + cap))) {M1 : mM} (q1 : M1 = mnw M 102 0 3)
    (hq : ∀ M', rX M' r n cap [] [] → msz M' = msz M + (2 * n + 6) → mns M' = mns M + (n + 6 + (n + 1) * (2 + cap)) → (∀ x, x < r → ceq M M' x) → Q (.inl none) M') : mC E 25 [.ref r, .int (I n), .int (I cap)] M1 Q := by
  have z1 : msz M1 = msz M + 1 := by rw [q1, sz_n]
  have n1 : mns M1 = mns M + 3 := by rw [q1, ns_n]
  refine w25_0 (c_max (by omega) (by omega) (by omega) (by omega) ?_)
  rw [show max (n : Int) 0 = n by omega]
  have e1 : I (n : Int) + I 1 = I ((n + 1 : Nat) : Int) := by rw [I_add]; rfl
  show _ ∧ _ ∧ _ ∧ _
  rw [e1, I_ntn (by omega)]
  refine ⟨by rw [I_z, I_lt (by omega) (by omega) (by omega) (by omega)]; omega, by omega, (hR.less (c' := 1) (s' := n + 1) z1 n1 (by omega) (by omega)).one (by omega) (by omega), fun M2 q2 => ⟨?_, by omega, fun M3 q3 => ?_⟩⟩
  · rw [q2, kd_n, if_neg (by omega), q1, hr, kd_ns]
  · have ce : ∀ x, x < r → ceq M M3 x := fun x hx => by
      have c1 : ceq M M1 x := by rw [q1]; exact ceq_n (by omega)
      have c2 : ceq M1 M2 x := by rw [q2]; exact ceq_n (by omega)
      have c3 : ceq M2 M3 x := by rw [q3]; exact ceq_r (by omega)
      exact (c1.trans c2).trans c3
    have z3 : msz M3 = msz M + 2 := by rw [q3, sz_r, q2, sz_n, z1]
    have n3 : mns M3 = mns M + (n + 4) := by rw [q3, ns_r, q2, ns_n, n1]; omega
    refine r_init_l rfl h0 hn hc (n + 1) 0 M3 (by omega) (by omega) (by rw [q3, kd_r, q2, kd_n, if_neg (by omega), q1, hr, kd_ns]) (by rw [q3, r_rs]; omega) (by rw [q3, kd_r, q2, show r + 1 = msz M1 by omega, kd_ns]) (by rw [q3, ln_r, q2, show r + 1 = msz M1 by omega, ln_ns]) (by omega) (fun j hj => absurd hj (Nat.not_lt_zero j)) (hR.less (dc := 2) (ds := n + 4) z3 n3 (by omega) (by rw [Nat.sub_zero]; omega)) (fun M' g1 g2 g3 g4 => hq M' g1 (by omega) (by rw [g3, n3, Nat.sub_zero]; omega) (fun x hx => (ce x hx).trans (g4 x hx)))
theorem tb_init_l {t n cn ct : Nat} {w1 w2 w3 : Int32} (hw2 : w2 = I cn) (hw3 : w3 = I ct) (ht : 0 < t) (hn : n ≤ 100) (hc : cn ≤ 1000) (hc' : ct ≤ 1000) (m : Nat) : ∀ (i : Nat) (M : mM), n - i ≤ m → i ≤ n → mkd M t = 103 → mr M t 0 = t + 1 → mr M t 1 = t + 2 → mkd M (t + 1) = 5 → mln M (t + 1) = n → mkd M (t + 2) = 5 → mln M (t + 2) = n → msz M = t + 3 + 4 * i → (∀ j, j < i → mr M (t + 1) j = t + 3 + 4 * j ∧ mr M (t + 2) j = t + 5 + 4 * j ∧ tX M (t + 3 + 4 * j) cn [] ∧ tX M (t + 5 + 4 * j) ct []) → rm E M (4 * (n - i) + 2) ((n - i) * (4 + cn + ct) + 2) →
    (∀ M', tbX M' t n cn ct [] → msz M' = t + 4 * n + 5 → mns M' = mns M + ((n - i) * (4 + cn + ct) + 2) → (∀ x, x < t → ceq M M' x) → Q (.inl none) M') →
    mX E 33 1 [some (.ref t), some (.int w1), some (.int w2), some (.int w3), some (.int (I i))] [] M Q := by
  have fin : ∀ (i : Nat) (M : mM) (w4 : Int32), i = n → mkd M t = 103 → mr M t 0 = t + 1 → mr M t 1 = t + 2 → mkd M (t + 1) = 5 → mln M (t + 1) = n → mkd M (t + 2) = 5 → mln M (t + 2) = n → msz M = t + 3 + 4 * i → (∀ j, j < i → mr M (t + 1) j = t + 3 + 4 * j ∧ mr M (t + 2) j = t + 5 + 4 * j ∧ tX M (t + 3 + 4 * j) cn [] ∧ tX M (t + 5 + 4 * j) ct []) → rm E M 2 2 →
    (∀ M', tbX M' t n cn ct [] → msz M' = t + 4 * n + 5 → mns M' = mns M + 2 → (∀ x, x < t → ceq M M' x) → Q (.inl none) M') →
    mX E 33 2 [some (.ref t), some (.int w1), some (.int w2), some (.int w3), some (.int w4)] [] M Q := by
    intro i M w4 ei k0 r1 r2 k1 l1 k2 l2 z1 hj hR hq
    subst ei
    refine w33_2 ⟨hR.one (by omega) (by omega), fun M1 q1 => t_new (cap := 0) rfl (by omega) (hR.less (dc := 0) (ds := 0) rfl rfl (by omega) (by omega)) q1 (fun M2 t1 t2 t3 t4 => ⟨by rw [(t4 t (by omega)).1, k0], by omega, fun M3 q3 M4 q4 => ?_⟩)⟩
    have ce : ∀ x, x < msz M → ¬ x = t → ceq M M4 x := fun x hx hxr => by
      have c3 : ceq M2 M3 x := by rw [q3]; exact ceq_r hxr
      have c4 : ceq M3 M4 x := by rw [q4]; exact ceq_i hxr
      exact ((t4 x hx).trans c3).trans c4
    have tn : tX M4 (msz M) 0 [] := t1.mc (fun x h1 h2 => by
      have c3 : ceq M2 M3 x := by rw [q3]; exact ceq_r (by omega)
      have c4 : ceq M3 M4 x := by rw [q4]; exact ceq_i (by omega)
      exact c3.trans c4)
    refine hq M4 ⟨⟨?_, ?_, ?_, ?_, ?_, ?_, ?_, ?_, hn, ?_⟩, by rw [q4, i_is]; rfl, Nat.zero_le _, fun j => j, fun _ => ([], []), fun j hj' => ?_, ⟨fun _ h => h, fun _ _ _ _ h => h⟩, fun j hj' => ?_, fun j hj' => absurd hj' (Nat.not_lt_zero j)⟩ (by rw [q4, sz_i, q3, sz_r, t2, z1]; omega) (by rw [q4, ns_i, q3, ns_r, t3]) (fun x hx => ce x (by omega) (by omega))
    · rw [q4, kd_i, q3, kd_r, (t4 t (by omega)).1, k0]
    · rw [q4, r_i, q3, r_rk (by omega), (t4 t (by omega)).2.2.2.1, r1]
    · rw [q4, r_i, q3, r_rk (by omega), (t4 t (by omega)).2.2.2.1, r2]
    · rw [q4, r_i, q3, r_rs, z1]
    · rw [(ce (t + 1) (by omega) (by omega)).1, k1]
    · rw [(ce (t + 1) (by omega) (by omega)).2.1, l1]
    · rw [(ce (t + 2) (by omega) (by omega)).1, k2]
    · rw [(ce (t + 2) (by omega) (by omega)).2.1, l2]
    · rw [← z1]; exact tn
    · rw [(ce (t + 1) (by omega) (by omega)).2.2.2.1, (ce (t + 2) (by omega) (by omega)).2.2.2.1]
      exact ⟨(hj j hj').1, (hj j hj').2.1⟩
    · exact ⟨(hj j hj').2.2.1.mc (fun x h1 h2 => ce x (by omega) (by omega)), (hj j hj').2.2.2.mc (fun x h1 h2 => ce x (by omega) (by omega))⟩
  induction m with
  | zero =>
    intro i M hm hi k0 r1 r2 k1 l1 k2 l2 z1 hj hR hq
    have ei : i = n := by omega
    refine w33_1 ⟨k0, by rw [r1]; omega, by rw [r1]; exact k1, fun _ => ?_, fun c => ?_⟩
    · refine fin i M _ ei k0 r1 r2 k1 l1 k2 l2 z1 hj (hR.less (dc := 0) (ds := 0) rfl rfl (by omega) (by omega)) ?_
      rw [ei, Nat.sub_self, Nat.zero_mul, Nat.zero_add] at hq; exact hq
    · rw [r1, l1, I_nI, I_le (by omega) (by omega) (by omega) (by omega)] at c; omega
  | succ m ih =>
    intro i M hm hi k0 r1 r2 k1 l1 k2 l2 z1 hj hR hq
    by_cases ei : i = n
    · exact ih i M (by omega) hi k0 r1 r2 k1 l1 k2 l2 z1 hj hR hq
    have en : n - i = (n - (i + 1)) + 1 := by omega
    have em : (n - i) * (4 + cn + ct) = (n - (i + 1)) * (4 + cn + ct) + (4 + cn + ct) := by rw [en, Nat.add_mul, Nat.one_mul]
    refine w33_1 ⟨k0, by rw [r1]; omega, by rw [r1]; exact k1, fun c => ?_, fun _ => ⟨by rw [r2]; omega, by rw [r2]; exact k2, fun c => ?_, fun _ => ⟨hR.one (by omega) (by omega), fun M1 q1 => ?_⟩⟩⟩
    · rw [r1, l1, I_nI, I_le (by omega) (by omega) (by omega) (by omega)] at c; omega
    · rw [r2, l2, I_nI, I_le (by omega) (by omega) (by omega) (by omega)] at c; omega
    · rw [hw2, hw3, r1]
      refine t_new (cap := cn) rfl hc (hR.less (dc := 0) (ds := 0) rfl rfl (by omega) (by omega)) q1 (fun M2 t1 t2 t3 t4 => ⟨by rw [(t4 (t + 1) (by omega)).1, k1], by rw [(t4 (t + 1) (by omega)).2.1, l1]; exact I_in (by omega) (by omega) (by omega), t1.1, fun M3 q3 => ?_⟩)
      rw [I_ntn (by omega)] at q3
      have z3 : msz M3 = msz M + 2 := by rw [q3, sz_r, t2]
      have n3 : mns M3 = mns M + (2 + cn) := by rw [q3, ns_r, t3]
      have ce : ∀ x, x < msz M → ¬ x = t + 1 → ceq M M3 x := fun x hx hxr => by
        have c3 : ceq M2 M3 x := by rw [q3]; exact ceq_r hxr
        exact (t4 x hx).trans c3
      have r3 : mr M3 t 1 = t + 2 := by rw [(ce t (by omega) (by omega)).2.2.2.1, r2]
      rw [r3]
      refine ⟨by rw [(t4 t (by omega)).1, k0], by omega, (hR.less (c' := 1) (s' := 2) z3 n3 (by omega) (by omega)).one (by omega) (by omega), fun M4 q4 => t_new (cap := ct) rfl hc' (hR.less z3 n3 (by omega) (by omega)) q4 (fun M5 u1 u2 u3 u4 => ⟨by rw [(u4 (t + 2) (by omega)).1, (ce (t + 2) (by omega) (by omega)).1, k2], by rw [(u4 (t + 2) (by omega)).2.1, (ce (t + 2) (by omega) (by omega)).2.1, l2]; exact I_in (by omega) (by omega) (by omega), u1.1, fun M6 q6 => ?_⟩)⟩
      rw [I_ntn (by omega)] at q6
      have cf : ∀ x, x < msz M → ¬ x = t + 1 → ¬ x = t + 2 → ceq M M6 x := fun x hx h1 h2 => by
        have c3 : ceq M5 M6 x := by rw [q6]; exact ceq_r h2
        exact ((ce x hx h1).trans (u4 x (by omega))).trans c3
      have c1 : ceq M3 M6 (t + 1) := by
        have c3 : ceq M5 M6 (t + 1) := by rw [q6]; exact ceq_r (by omega)
        exact (u4 _ (by omega)).trans c3
      have z6 : msz M6 = msz M + 4 := by rw [q6, sz_r, u2, z3]
      have n6 : mns M6 = mns M + (4 + cn + ct) := by rw [q6, ns_r, u3, n3]; omega
      rw [I_add, ← hw2, ← hw3]
      refine ih (i + 1) M6 (by omega) (by omega) (by rw [(cf t (by omega) (by omega) (by omega)).1, k0]) (by rw [(cf t (by omega) (by omega) (by omega)).2.2.2.1, r1]) (by rw [(cf t (by omega) (by omega) (by omega)).2.2.2.1, r2]) (by rw [c1.1, q3, kd_r, (t4 (t + 1) (by omega)).1, k1]) (by rw [c1.2.1, q3, ln_r, (t4 (t + 1) (by omega)).2.1, l1]) (by rw [q6, kd_r, (u4 (t + 2) (by omega)).1, (ce (t + 2) (by omega) (by omega)).1, k2]) (by rw [q6, ln_r, (u4 (t + 2) (by omega)).2.1, (ce (t + 2) (by omega) (by omega)).2.1, l2]) (by omega) (fun j hj' => ?_) (hR.less z6 n6 (by omega) (by omega)) (fun M' g1 g2 g3 g4 => hq M' g1 g2 (by rw [g3, n6]; omega) (fun x hx => (cf x (by omega) (by omega) (by omega)).trans (g4 x hx)))
      rw [c1.2.2.2.1]
      by_cases q : j = i
      · subst q
        refine ⟨by rw [q3, r_rs]; omega, by rw [q6, r_rs]; omega, ?_, ?_⟩
        · rw [show t + 3 + 4 * j = msz M by omega]
          exact t1.mc (fun x h1 h2 => by
            have c2 : ceq M2 M3 x := by rw [q3]; exact ceq_r (by omega)
            have c3 : ceq M5 M6 x := by rw [q6]; exact ceq_r (by omega)
            exact (c2.trans (u4 x (by omega))).trans c3)
        · rw [show t + 5 + 4 * j = msz M3 by omega]
          exact u1.mc (fun x h1 h2 => by rw [q6]; exact ceq_r (by omega))
      · obtain ⟨y1, y2, y3, y4⟩ := hj j (by omega)
        refine ⟨?_, ?_, y3.mc (fun x h1 h2 => cf x (by omega) (by omega) (by omega)), y4.mc (fun x h1 h2 => cf x (by omega) (by omega) (by omega))⟩
        · rw [q3, r_rk q, (t4 (t + 1) (by omega)).2.2.2.1, y1]
        · rw [q6, r_rk q, (u4 (t + 2) (by omega)).2.2.2.1, (ce (t + 2) (by omega) (by omega)).2.2.2.1, y2]
/-- a table made: its cell, then all else -/
theorem tb_new {t n cn ct : Nat} (ht : t = msz M) (h0 : 0 < t) (hn : n ≤ 100) (hc : cn ≤ 1000) (hc' : ct ≤ 1000) (hR : rm E M (4 * n + 5) (2 * n + 6 + n * (4 + cn + ct))) {M1 : mM} (q1 : M1 = mnw M 103 0 4)
    (hq : ∀ M', tbX M' t n cn ct [] → msz M' = msz M + (4 * n + 5) → mns M' = mns M + (2 * n + 6 + n * (4 + cn + ct)) → (∀ x, x < t → ceq M M' x) → Q (.inl none) M') : mC E 33 [.ref t, .int (I n), .int (I cn), .int (I ct)] M1 Q := by
  have z1 : msz M1 = msz M + 1 := by rw [q1, sz_n]
  have n1 : mns M1 = mns M + 4 := by rw [q1, ns_n]
  refine w33_0 (c_max (by omega) (by omega) (by omega) (by omega) ?_)
  rw [show max (n : Int) 0 = n by omega]
  show _ ∧ _ ∧ _ ∧ _
  rw [I_ntn (by omega)]
  refine ⟨by rw [I_z, I_lt (by omega) (by omega) (by omega) (by omega)]; omega, by omega, (hR.less (c' := 1) (s' := n) z1 n1 (by omega) (by omega)).one (by omega) (by omega), fun M2 q2 => ⟨?_, by omega, fun M3 q3 => ?_⟩⟩
  · rw [q2, kd_n, if_neg (by omega), q1, ht, kd_ns]
  · have z3 : msz M3 = msz M + 2 := by rw [q3, sz_r, q2, sz_n, z1]
    have n3 : mns M3 = mns M + (n + 4) := by rw [q3, ns_r, q2, ns_n, n1]; omega
    have k3 : mkd M3 t = 103 := by rw [q3, kd_r, q2, kd_n, if_neg (by omega), q1, ht, kd_ns]
    refine c_max (by omega) (by omega) (by omega) (by omega) ?_
    rw [show max (n : Int) 0 = n by omega]
    show _ ∧ _ ∧ _ ∧ _
    rw [I_ntn (by omega)]
    refine ⟨by rw [I_z, I_lt (by omega) (by omega) (by omega) (by omega)]; omega, by omega, (hR.less (c' := 1) (s' := n) z3 n3 (by omega) (by omega)).one (by omega) (by omega), fun M4 q4 => ⟨?_, by omega, fun M5 q5 => ?_⟩⟩
    · rw [q4, kd_n, if_neg (by omega), k3]
    · have z5 : msz M5 = msz M + 3 := by rw [q5, sz_r, q4, sz_n, z3]
      have n5 : mns M5 = mns M + (2 * n + 4) := by rw [q5, ns_r, q4, ns_n, n3]; omega
      have ce : ∀ x, x < t → ceq M M5 x := fun x hx => by
        have c1 : ceq M M1 x := by rw [q1]; exact ceq_n (by omega)
        have c2 : ceq M1 M2 x := by rw [q2]; exact ceq_n (by omega)
        have c3 : ceq M2 M3 x := by rw [q3]; exact ceq_r (by omega)
        have c4 : ceq M3 M4 x := by rw [q4]; exact ceq_n (by omega)
        have c5 : ceq M4 M5 x := by rw [q5]; exact ceq_r (by omega)
        exact (((c1.trans c2).trans c3).trans c4).trans c5
      refine tb_init_l rfl rfl h0 hn hc hc' n 0 M5 (by omega) (by omega) (by rw [q5, kd_r, q4, kd_n, if_neg (by omega), k3]) ?_ ?_ ?_ ?_ ?_ ?_ (by omega) (fun j hj => absurd hj (Nat.not_lt_zero j)) (hR.less z5 n5 (by omega) (by rw [Nat.sub_zero]; omega)) (fun M' g1 g2 g3 g4 => hq M' g1 (by omega) (by rw [g3, n5, Nat.sub_zero]; omega) (fun x hx => (ce x hx).trans (g4 x hx)))
      · rw [q5, r_rk (by omega), q4, r_n, if_neg (by omega), q3, r_rs]; omega
      · rw [q5, r_rs]; omega
      · rw [q5, kd_r, q4, kd_n, if_neg (by omega), q3, kd_r, q2, show t + 1 = msz M1 by omega, kd_ns]
      · rw [q5, ln_r, q4, ln_n, if_neg (by omega), q3, ln_r, q2, show t + 1 = msz M1 by omega, ln_ns]
      · rw [q5, kd_r, q4, show t + 2 = msz M3 by omega, kd_ns]
      · rw [q5, ln_r, q4, show t + 2 = msz M3 by omega, ln_ns]
/-- a sheet made -/
theorem sh_new {w a : Nat} (ha : a = msz M) (hc : w ≤ 240) (hr : rm E M 2 (2 + w * 5)) {M1 : mM} (q1 : M1 = mnw M 104 0 2)
    (hq : ∀ M', shX M' a w [] → msz M' = msz M + 2 → mns M' = mns M + (2 + w * 5) → (∀ x, x < a → ceq M M' x) → Q (.inl none) M') : mC E 41 [.ref a, .int (I w)] M1 Q := by
  have z1 : msz M1 = msz M + 1 := by rw [q1, sz_n]
  have n1 : mns M1 = mns M + 2 := by rw [q1, ns_n]
  refine sh_init (by rw [q1, ha]; exact kd_ns) (by omega) hc ((hr.less (c' := 1) (s' := w * 5) z1 n1 (by omega) (by omega)).one (by omega) (by omega)) (fun M' t1 t2 t3 t4 => hq M' t1 (by omega) (by omega) (fun x hx => ?_))
  have : ceq M M1 x := by rw [q1]; exact ceq_n (by omega)
  exact this.trans (t4 x hx)
end CTOR
