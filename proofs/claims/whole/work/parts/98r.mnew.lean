/-! THE REFERENCE'S CONSTRUCTOR: 28 arrays -/
/-- which fields hold which arrays -/
def aNs : List (Nat × Nat × Nat) := [(3, 2, 240), (5, 1, 241), (6, 1, 241), (7, 1, 241), (9, 1, 3), (10, 2, 144), (11, 1, 24), (12, 2, 960), (13, 1, 24), (14, 1, 3), (15, 2, 1080), (16, 1, 27), (17, 1, 2), (18, 2, 128), (19, 1, 16), (20, 2, 1280), (21, 1, 16), (22, 1, 2), (23, 1, 2), (24, 2, 480), (28, 2, 41), (29, 3, 41), (34, 2, 680), (35, 1, 17), (37, 2, 240), (39, 2, 241), (41, 1, 241), (42, 1, 241)]
def aSum (l : List (Nat × Nat × Nat)) : Nat := (l.map fun x => x.2.2).sum
/-- j arrays are made, above M0's cells -/
def aInv (M0 M : mM) (m j : Nat) : Prop := m = msz M0 ∧ msz M = m + 1 + j ∧ mns M = mns M0 + 45 + aSum (aNs.take j) ∧ mkd M m = 111 ∧ (∀ k, mi M m k = 0) ∧ (∀ i, i < j → mr M m (aNs.getD i (0, 0, 0)).1 = m + 1 + i ∧ mkd M (m + 1 + i) = (aNs.getD i (0, 0, 0)).2.1 ∧ mln M (m + 1 + i) = (aNs.getD i (0, 0, 0)).2.2 ∧ ∀ k, mi M (m + 1 + i) k = 0) ∧ ∀ x, x < m → ceq M0 M x
theorem aSum_st {j : Nat} (h : j < aNs.length) : aSum (aNs.take (j + 1)) = aSum (aNs.take j) + (aNs.getD j (0, 0, 0)).2.2 := by
  have e : aNs.take (j + 1) = aNs.take j ++ [aNs.getD j (0, 0, 0)] := by rw [List.take_succ, List.getD_eq_getElem?_getD, List.getElem?_eq_getElem h]; rfl
  unfold aSum
  rw [e, List.map_append, List.sum_append]
  rfl
theorem aInv.st {M0 M M' : mM} {m j f kd n : Nat} (h : aInv M0 M m j) (hj : j < aNs.length) (e : aNs.getD j (0, 0, 0) = (f, kd, n)) (nd : ((aNs.take j).map fun x => x.1).contains f = false) (q : M' = msr (mnw M kd n n) m f (msz M)) : aInv M0 M' m (j + 1) := by
  obtain ⟨h1, h2, h3, h4, h5, h6, h7⟩ := h
  have ne : ¬ m = msz M := by omega
  refine ⟨h1, ?_, ?_, ?_, ?_, fun i hi => ?_, fun x hx => ?_⟩
  · rw [q]; show msz M + 1 = _; omega
  · rw [q, aSum_st hj, e]; show mns M + n = mns M0 + 45 + (aSum (aNs.take j) + n); omega
  · rw [q]; show mkd (mnw M kd n n) m = 111; rw [kd_n, if_neg ne]; exact h4
  · intro k; rw [q]; show mi (mnw M kd n n) m k = 0; rw [i_n, if_neg ne]; exact h5 k
  · by_cases z : i = j
    · subst z
      rw [e, q]
      have e0 : m + 1 + i = msz M := h2.symm
      refine ⟨?_, ?_, ?_, ?_⟩
      · rw [r_rs]; exact h2
      · show mkd (mnw M kd n n) (m + 1 + i) = kd; rw [kd_n, if_pos e0]
      · show mln (mnw M kd n n) (m + 1 + i) = n; rw [ln_n, if_pos e0]
      · intro k; show mi (mnw M kd n n) (m + 1 + i) k = 0; rw [i_n, if_pos e0]
    · obtain ⟨g1, g2, g3, g4⟩ := h6 i (by omega)
      have e0 : ¬ m + 1 + i = msz M := by omega
      have nf : ¬ (aNs.getD i (0, 0, 0)).1 = f := fun y => by
        have : f ∈ (aNs.take j).map fun x => x.1 := by
          rw [← y]
          refine List.mem_map.mpr ⟨aNs.getD i (0, 0, 0), ?_, rfl⟩
          rw [List.getD_eq_getElem?_getD, List.getElem?_eq_getElem (by omega)]
          exact List.mem_take_iff_getElem.mpr ⟨i, by omega, rfl⟩
        rw [List.contains_iff_mem.mpr this] at nd; cases nd
      refine ⟨?_, ?_, ?_, ?_⟩
      · rw [q, r_r, if_neg (fun y => nf y.2), r_n, if_neg ne]; exact g1
      · rw [q]; show mkd (mnw M kd n n) _ = _; rw [kd_n, if_neg e0]; exact g2
      · rw [q]; show mln (mnw M kd n n) _ = _; rw [ln_n, if_neg e0]; exact g3
      · intro k; rw [q]; show mi (mnw M kd n n) _ k = _; rw [i_n, if_neg e0]; exact g4 k
  · rw [q]
    exact (h7 x hx).trans ((ceq_n (by omega)).trans (ceq_r (by omega)))
section MNEW
variable {E : mE} {M0 M : mM} {Q : mQ} {m : Nat} {go : mG} {call : mCl}
theorem aInv.room {j n : Nat} (h : aInv M0 M m j) (hR : rm E M0 29 (45 + aSum aNs)) (hj : j < 28) (hn : aSum (aNs.take j) + n ≤ aSum aNs) : m_room E M n := by
  obtain ⟨h1, h2, h3, -⟩ := h
  unfold rm at hR; unfold m_room; omega
theorem un_s {i : Int} {t : ArrayType} {x : Nat} {rest : List mOp} {j f kd n nx : Nat} (h : aInv M0 M m j) (h0 : 0 < m) (hR : rm E M0 29 (45 + aSum aNs)) (hj : j < 28) (e : aNs.getD j (0, 0, 0) = (f, kd, n)) (nd : ((aNs.take j).map fun x => x.1).contains f = false) (hv : ((Int16.ofInt i).toInt32).toNatClampNeg = n) (hz : ¬ ((Int16.ofInt i).toInt32) < 0) (hn : n ≤ 1000000) (hs : aSum (aNs.take j) + n ≤ aSum aNs) (hk : ∀ M', aInv M0 M' m (j + 1) → mBlk E go call Q nx rest [some (.ref m)] [] M') :
    mBlk E go call Q nx ((.aload_n 0, 1, []) :: (.sipush i, 3, []) :: (.newarray t, 2, [kd]) :: (.putfield x, 3, [111, f, 1]) :: rest) [some (.ref m)] [] M := by
  have ro := h.room hR hj hs
  have k4 := h.2.2.2.1
  have sz := h.2.1
  show ¬ ((Int16.ofInt i).toInt32) < 0 ∧ ((Int16.ofInt i).toInt32).toNatClampNeg ≤ 1000000 ∧ m_room E M ((Int16.ofInt i).toInt32).toNatClampNeg ∧ mkd (mnw M kd ((Int16.ofInt i).toInt32).toNatClampNeg ((Int16.ofInt i).toInt32).toNatClampNeg) m = 111 ∧ ¬ msz M = 0 ∧ mBlk E go call Q nx rest [some (.ref m)] [] (msr (mnw M kd ((Int16.ofInt i).toInt32).toNatClampNeg ((Int16.ofInt i).toInt32).toNatClampNeg) m f (msz M))
  rw [hv]
  exact ⟨hz, hn, ro, by rw [kd_n, if_neg (by omega)]; exact k4, by omega, hk _ (h.st hj e nd rfl)⟩
theorem un_b {i : Int} {t : ArrayType} {x : Nat} {rest : List mOp} {j f kd n nx : Nat} (h : aInv M0 M m j) (h0 : 0 < m) (hR : rm E M0 29 (45 + aSum aNs)) (hj : j < 28) (e : aNs.getD j (0, 0, 0) = (f, kd, n)) (nd : ((aNs.take j).map fun x => x.1).contains f = false) (hv : ((Int8.ofInt i).toInt32).toNatClampNeg = n) (hz : ¬ ((Int8.ofInt i).toInt32) < 0) (hn : n ≤ 1000000) (hs : aSum (aNs.take j) + n ≤ aSum aNs) (hk : ∀ M', aInv M0 M' m (j + 1) → mBlk E go call Q nx rest [some (.ref m)] [] M') :
    mBlk E go call Q nx ((.aload_n 0, 1, []) :: (.bipush i, 2, []) :: (.newarray t, 2, [kd]) :: (.putfield x, 3, [111, f, 1]) :: rest) [some (.ref m)] [] M := by
  have ro := h.room hR hj hs
  have k4 := h.2.2.2.1
  have sz := h.2.1
  show ¬ ((Int8.ofInt i).toInt32) < 0 ∧ ((Int8.ofInt i).toInt32).toNatClampNeg ≤ 1000000 ∧ m_room E M ((Int8.ofInt i).toInt32).toNatClampNeg ∧ mkd (mnw M kd ((Int8.ofInt i).toInt32).toNatClampNeg ((Int8.ofInt i).toInt32).toNatClampNeg) m = 111 ∧ ¬ msz M = 0 ∧ mBlk E go call Q nx rest [some (.ref m)] [] (msr (mnw M kd ((Int8.ofInt i).toInt32).toNatClampNeg ((Int8.ofInt i).toInt32).toNatClampNeg) m f (msz M))
  rw [hv]
  exact ⟨hz, hn, ro, by rw [kd_n, if_neg (by omega)]; exact k4, by omega, hk _ (h.st hj e nd rfl)⟩
theorem un_c {i : Int} {t : ArrayType} {x : Nat} {rest : List mOp} {j f kd n nx : Nat} (h : aInv M0 M m j) (h0 : 0 < m) (hR : rm E M0 29 (45 + aSum aNs)) (hj : j < 28) (e : aNs.getD j (0, 0, 0) = (f, kd, n)) (nd : ((aNs.take j).map fun x => x.1).contains f = false) (hv : (Int32.ofInt i).toNatClampNeg = n) (hz : ¬ (Int32.ofInt i) < 0) (hn : n ≤ 1000000) (hs : aSum (aNs.take j) + n ≤ aSum aNs) (hk : ∀ M', aInv M0 M' m (j + 1) → mBlk E go call Q nx rest [some (.ref m)] [] M') :
    mBlk E go call Q nx ((.aload_n 0, 1, []) :: (.iconst i, 1, []) :: (.newarray t, 2, [kd]) :: (.putfield x, 3, [111, f, 1]) :: rest) [some (.ref m)] [] M := by
  have ro := h.room hR hj hs
  have k4 := h.2.2.2.1
  have sz := h.2.1
  show ¬ (Int32.ofInt i) < 0 ∧ (Int32.ofInt i).toNatClampNeg ≤ 1000000 ∧ m_room E M (Int32.ofInt i).toNatClampNeg ∧ mkd (mnw M kd (Int32.ofInt i).toNatClampNeg (Int32.ofInt i).toNatClampNeg) m = 111 ∧ ¬ msz M = 0 ∧ mBlk E go call Q nx rest [some (.ref m)] [] (msr (mnw M kd (Int32.ofInt i).toNatClampNeg (Int32.ofInt i).toNatClampNeg) m f (msz M))
  rw [hv]
  exact ⟨hz, hn, ro, by rw [kd_n, if_neg (by omega)]; exact k4, by omega, hk _ (h.st hj e nd rfl)⟩
theorem m_new {M1 : mM} (ha : m = msz M0) (h0 : 0 < m) (hR : rm E M0 29 (45 + aSum aNs)) (q1 : M1 = mnw M0 111 0 45)
    (hq : ∀ M', moI M' m [] [] [] [] 0 [] 0 0 → msz M' = msz M0 + 29 → mns M' = mns M0 + 45 + aSum aNs → (∀ x, x < m → ceq M0 M' x) → Q (.inl none) M') : mC E 117 [.ref m] M1 Q := by
  have i0 : aInv M0 M1 m 0 := by
    refine ⟨ha, ?_, ?_, ?_, ?_, fun i hi => absurd hi (Nat.not_lt_zero i), fun x hx => ?_⟩
    · rw [q1]; show msz M0 + 1 = _; omega
    · rw [q1]; rfl
    · rw [q1, kd_n, if_pos ha]
    · intro k; rw [q1, i_n, if_pos ha]
    · rw [q1]; exact ceq_n (by omega)
  have l28 : aNs.length = 28 := rfl
  refine mX_run ?_
  show mBlk E _ _ Q 0 (k_117_0.drop 2) [some (.ref m)] [] M1
  refine un_s i0 h0 hR (by decide) rfl (by decide) (by decide) (by decide) (by decide) (by decide) (fun M2 i1 => ?_)
  refine un_s i1 h0 hR (by decide) rfl (by decide) (by decide) (by decide) (by decide) (by decide) (fun M3 i2 => ?_)
  refine un_s i2 h0 hR (by decide) rfl (by decide) (by decide) (by decide) (by decide) (by decide) (fun M4 i3 => ?_)
  refine un_s i3 h0 hR (by decide) rfl (by decide) (by decide) (by decide) (by decide) (by decide) (fun M5 i4 => ?_)
  refine un_c i4 h0 hR (by decide) rfl (by decide) (by decide) (by decide) (by decide) (by decide) (fun M6 i5 => ?_)
  refine un_s i5 h0 hR (by decide) rfl (by decide) (by decide) (by decide) (by decide) (by decide) (fun M7 i6 => ?_)
  refine un_b i6 h0 hR (by decide) rfl (by decide) (by decide) (by decide) (by decide) (by decide) (fun M8 i7 => ?_)
  refine un_s i7 h0 hR (by decide) rfl (by decide) (by decide) (by decide) (by decide) (by decide) (fun M9 i8 => ?_)
  refine un_b i8 h0 hR (by decide) rfl (by decide) (by decide) (by decide) (by decide) (by decide) (fun M10 i9 => ?_)
  refine un_c i9 h0 hR (by decide) rfl (by decide) (by decide) (by decide) (by decide) (by decide) (fun M11 i10 => ?_)
  refine un_s i10 h0 hR (by decide) rfl (by decide) (by decide) (by decide) (by decide) (by decide) (fun M12 i11 => ?_)
  refine un_b i11 h0 hR (by decide) rfl (by decide) (by decide) (by decide) (by decide) (by decide) (fun M13 i12 => ?_)
  refine un_c i12 h0 hR (by decide) rfl (by decide) (by decide) (by decide) (by decide) (by decide) (fun M14 i13 => ?_)
  refine un_s i13 h0 hR (by decide) rfl (by decide) (by decide) (by decide) (by decide) (by decide) (fun M15 i14 => ?_)
  refine un_b i14 h0 hR (by decide) rfl (by decide) (by decide) (by decide) (by decide) (by decide) (fun M16 i15 => ?_)
  refine un_s i15 h0 hR (by decide) rfl (by decide) (by decide) (by decide) (by decide) (by decide) (fun M17 i16 => ?_)
  refine un_b i16 h0 hR (by decide) rfl (by decide) (by decide) (by decide) (by decide) (by decide) (fun M18 i17 => ?_)
  refine un_c i17 h0 hR (by decide) rfl (by decide) (by decide) (by decide) (by decide) (by decide) (fun M19 i18 => ?_)
  refine un_c i18 h0 hR (by decide) rfl (by decide) (by decide) (by decide) (by decide) (by decide) (fun M20 i19 => ?_)
  refine un_s i19 h0 hR (by decide) rfl (by decide) (by decide) (by decide) (by decide) (by decide) (fun M21 i20 => ?_)
  refine un_b i20 h0 hR (by decide) rfl (by decide) (by decide) (by decide) (by decide) (by decide) (fun M22 i21 => ?_)
  refine un_b i21 h0 hR (by decide) rfl (by decide) (by decide) (by decide) (by decide) (by decide) (fun M23 i22 => ?_)
  refine un_s i22 h0 hR (by decide) rfl (by decide) (by decide) (by decide) (by decide) (by decide) (fun M24 i23 => ?_)
  refine un_b i23 h0 hR (by decide) rfl (by decide) (by decide) (by decide) (by decide) (by decide) (fun M25 i24 => ?_)
  refine un_s i24 h0 hR (by decide) rfl (by decide) (by decide) (by decide) (by decide) (by decide) (fun M26 i25 => ?_)
  refine un_s i25 h0 hR (by decide) rfl (by decide) (by decide) (by decide) (by decide) (by decide) (fun M27 i26 => ?_)
  refine un_s i26 h0 hR (by decide) rfl (by decide) (by decide) (by decide) (by decide) (by decide) (fun M28 i27 => ?_)
  refine un_s i27 h0 hR (by decide) rfl (by decide) (by decide) (by decide) (by decide) (by decide) (fun M29 i28 => ?_)
  show Q (.inl none) M29
  obtain ⟨g1, g2, g3, g4, g5, g, g7⟩ := i28
  have hs : mS M29 m := ⟨g4, h0, (g 0 (by decide)).1, (g 0 (by decide)).2.1, (g 0 (by decide)).2.2.1, (g 1 (by decide)).1, (g 1 (by decide)).2.1, (g 1 (by decide)).2.2.1, (g 2 (by decide)).1, (g 2 (by decide)).2.1, (g 2 (by decide)).2.2.1, (g 3 (by decide)).1, (g 3 (by decide)).2.1, (g 3 (by decide)).2.2.1, (g 4 (by decide)).1, (g 4 (by decide)).2.1, (g 4 (by decide)).2.2.1, (g 5 (by decide)).1, (g 5 (by decide)).2.1, (g 5 (by decide)).2.2.1, (g 6 (by decide)).1, (g 6 (by decide)).2.1, (g 6 (by decide)).2.2.1, (g 7 (by decide)).1, (g 7 (by decide)).2.1, (g 7 (by decide)).2.2.1, (g 8 (by decide)).1, (g 8 (by decide)).2.1, (g 8 (by decide)).2.2.1, (g 9 (by decide)).1, (g 9 (by decide)).2.1, (g 9 (by decide)).2.2.1, (g 10 (by decide)).1, (g 10 (by decide)).2.1, (g 10 (by decide)).2.2.1, (g 11 (by decide)).1, (g 11 (by decide)).2.1, (g 11 (by decide)).2.2.1, (g 12 (by decide)).1, (g 12 (by decide)).2.1, (g 12 (by decide)).2.2.1, (g 13 (by decide)).1, (g 13 (by decide)).2.1, (g 13 (by decide)).2.2.1, (g 14 (by decide)).1, (g 14 (by decide)).2.1, (g 14 (by decide)).2.2.1, (g 15 (by decide)).1, (g 15 (by decide)).2.1, (g 15 (by decide)).2.2.1, (g 16 (by decide)).1, (g 16 (by decide)).2.1, (g 16 (by decide)).2.2.1, (g 17 (by decide)).1, (g 17 (by decide)).2.1, (g 17 (by decide)).2.2.1, (g 18 (by decide)).1, (g 18 (by decide)).2.1, (g 18 (by decide)).2.2.1, (g 19 (by decide)).1, (g 19 (by decide)).2.1, (g 19 (by decide)).2.2.1, (g 20 (by decide)).1, (g 20 (by decide)).2.1, (g 20 (by decide)).2.2.1, (g 21 (by decide)).1, (g 21 (by decide)).2.1, (g 21 (by decide)).2.2.1, (g 22 (by decide)).1, (g 22 (by decide)).2.1, (g 22 (by decide)).2.2.1, (g 23 (by decide)).1, (g 23 (by decide)).2.1, (g 23 (by decide)).2.2.1, (g 24 (by decide)).1, (g 24 (by decide)).2.1, (g 24 (by decide)).2.2.1, (g 25 (by decide)).1, (g 25 (by decide)).2.1, (g 25 (by decide)).2.2.1, (g 26 (by decide)).1, (g 26 (by decide)).2.1, (g 26 (by decide)).2.2.1, (g 27 (by decide)).1, (g 27 (by decide)).2.1, (g 27 (by decide)).2.2.1⟩
  have z : ∀ a k, 1 ≤ a → a < 29 → mi M29 (m + a) k = 0 := fun a k a1 a2 => by
    have := (g (a - 1) (by omega)).2.2.2 k
    rw [show m + 1 + (a - 1) = m + a by omega] at this; exact this
  refine hq M29 ⟨hs, ⟨g5 2, by show 0 ≤ 240; omega, fun k hk => absurd hk (Nat.not_lt_zero k), fun c hc => absurd hc List.not_mem_nil⟩, ⟨z 5 0 (by omega) (by omega), by show 0 ≤ 8; omega, fun i hi => absurd hi (Nat.not_lt_zero i)⟩, ⟨z 10 0 (by omega) (by omega), by show 0 ≤ 9; omega, fun i hi => absurd hi (Nat.not_lt_zero i)⟩, ⟨z 13 0 (by omega) (by omega), by show 0 ≤ 8; omega, fun i hi => absurd hi (Nat.not_lt_zero i)⟩, z 18 0 (by omega) (by omega), ⟨z 19 0 (by omega) (by omega), by show 0 ≤ 240; omega, fun k hk => absurd hk (Nat.not_lt_zero k), ok6.nil⟩, ⟨fun e he => absurd he List.not_mem_nil, fun e he => absurd he List.not_mem_nil, fun e he => absurd he List.not_mem_nil, by omega, fun i j hi => absurd hi (Nat.not_lt_zero i), fun i j hi => absurd hi (Nat.not_lt_zero i)⟩, g5 1, g5 0⟩ (by omega) ?_ g7
  rw [g3, List.take_of_length_le (by decide)]
end MNEW
