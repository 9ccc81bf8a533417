/-! THE REFERENCE: its tables of variables and of files. Printed by wip/whole/gen8.py -/
theorem ins_get {α : Type} {l : List α} {i j : Nat} {x d : α} (h : i ≤ l.length) : (l.take i ++ x :: l.drop i).getD j d = if j < i then l.getD j d else if j = i then x else l.getD (j - 1) d := by
  simp only [List.getD_eq_getElem?_getD]
  by_cases q : j < i
  · rw [if_pos q, List.getElem?_append_left (by simp; omega), List.getElem?_take_of_lt q]
  · rw [if_neg q, List.getElem?_append_right (by simp; omega)]
    have e : (l.take i).length = i := by simp; omega
    rw [e]
    by_cases q2 : j = i
    · rw [if_pos q2, q2, Nat.sub_self]; rfl
    · rw [if_neg q2, show j - i = (j - 1 - i) + 1 by omega, List.getElem?_cons_succ, List.getElem?_drop, show i + (j - 1 - i) = j - 1 by omega]

/-- row j of the variables -/
def vrR (M : mM) (m j : Nat) (e : List Nat × List Nat) : Prop := nmR M (m + 6) (m + 7) 6 j e.1 ∧ nmR M (m + 8) (m + 9) 40 j e.2
/-- copy c of the variables -/
def vrX (M : mM) (m c : Nat) (es : eL) : Prop := mi M (m + 5) c = I es.length ∧ es.length ≤ 8 ∧ ∀ i, i < es.length → vrR M m (8 * c + i) (es.getD i ([], []))
/-- one row was moved -/
def vrM (m a b : Nat) (M M' : mM) : Prop := (∀ j e, ¬ j = 8 + b → vrR M m j e → vrR M' m j e) ∧ (∀ e, vrR M m (8 + a) e → vrR M' m (8 + b) e) ∧ ∀ c, mi M' (m + 5) c = mi M (m + 5) c
/-- a hole before i -/
def vrH (M : mM) (m : Nat) (es : eL) (i : Nat) : Prop := mi M (m + 5) 1 = I es.length ∧ i ≤ es.length ∧ es.length < 8 ∧ (∀ j, j < i → vrR M m (8 + j) (es.getD j ([], []))) ∧ ∀ j, i ≤ j → j < es.length → vrR M m (8 + (j + 1)) (es.getD j ([], []))
/-- entry i goes: the rows from i up to k are moved -/
def vrG (M : mM) (m : Nat) (es : eL) (i k : Nat) : Prop := mi M (m + 5) 1 = I ((es.length - 1 : Nat) : Int) ∧ i ≤ k ∧ k < es.length ∧ es.length ≤ 8 ∧ (∀ j, j < i → vrR M m (8 + j) (es.getD j ([], []))) ∧ (∀ j, i ≤ j → j < k → vrR M m (8 + j) (es.getD (j + 1) ([], []))) ∧ ∀ j, k < j → j < es.length → vrR M m (8 + j) (es.getD j ([], []))
section MTAB
variable {E : mE} {M M' : mM} {Q : mQ} {m c : Nat} {s : List Nat} {es : eL} {S : List Nat}
theorem vrR.mv {j : Nat} {e : List Nat × List Nat} (h : vrR M m j e) (f : fm m S M M') (hS : S.contains (10 + j / 8) = false) : vrR M' m j e := by
  obtain ⟨⟨a1, a2, a3, a4⟩, b1, b2, b3, b4⟩ := h
  refine ⟨⟨?_, a2, fun k hk => ?_, a4⟩, ?_, b2, fun k hk => ?_, b4⟩
  · rw [f.2.2 7 j (by omega) hS]; exact a1
  · rw [f.2.2 6 (6 * j + k) (by omega) (by show S.contains (10 + (6 * j + k) / 48) = false; rw [show (6 * j + k) / 48 = j / 8 by omega]; exact hS)]; exact a3 k hk
  · rw [f.2.2 9 j (by omega) hS]; exact b1
  · rw [f.2.2 8 (40 * j + k) (by omega) (by show S.contains (10 + (40 * j + k) / 320) = false; rw [show (40 * j + k) / 320 = j / 8 by omega]; exact hS)]; exact b3 k hk
theorem vrX.mv (h : vrX M m c es) (f : fm m S M M') (hS : S.contains (10 + c) = false) : vrX M' m c es := by
  have h1 := h.2.1
  refine ⟨by rw [f.2.2 5 c (by omega) hS]; exact h.1, h.2.1, fun i hi => (h.2.2 i hi).mv f ?_⟩
  rw [show (8 * c + i) / 8 = c by omega]; exact hS
theorem m_mvvr {a b : Nat} (h : mS M m) (ha : a < 8) (hb : b < 8) (hab : ¬ a = b) (hq : ∀ M', vrM m a b M M' → fm m [10 + 1] M M' → Q (.inl none) M') : mC E 138 [.ref m, .int (I a), .int (I b)] M Q := by
  refine w138_0 (cp_loop (L := fun x => [some (.ref m), some (.int (I a)), some (.int (I b)), some (.int x)]) (A := m + 6) (t := 6 * (8 + b)) (N := 6) (g := fun k => cN (mi M (m + 6) (6 * (8 + a) + k))) (fun k M1 hk c1 cont => ?_) (fun M1 c1 => ?_))
  · have h1 := h.mv c1.1
    have e1 : nt (I 6 * (I 8 + I (a : Int)) + I (k : Int)) = 6 * (8 + a) + k := by
      rw [I_add, I_mul, I_add, show (6 : Int) * (8 + (a : Int)) + (k : Int) = ((6 * (8 + a) + k : Nat) : Int) by omega, I_ntn (by omega)]
    have e2 : nt (I 6 * (I 8 + I (b : Int)) + I (k : Int)) = 6 * (8 + b) + k := by
      rw [I_add, I_mul, I_add, show (6 : Int) * (8 + (b : Int)) + (k : Int) = ((6 * (8 + b) + k : Nat) : Int) by omega, I_ntn (by omega)]
    refine w138_1 ⟨fun q => ?_, fun _ => ⟨h1.k0, h1.n10, by rw [h1.f10]; exact h1.k6, by rw [h1.f10, h1.l6, I_add, I_mul, I_add]; exact I_in (by omega) (by omega) (by omega), by rw [h1.f10, h1.l6, I_add, I_mul, I_add]; exact I_in (by omega) (by omega) (by omega), fun M2 q2 => ?_⟩⟩
    · rw [I_le (by omega) (by omega) (by omega) (by omega)] at q; omega
    · rw [h1.f10, e1, e2, c1.2.2, if_neg (strip hk (Nat.le_of_lt hk) (by omega))] at q2
      rw [I_add]; exact cont M2 q2
  · have h1 := h.mv c1.1
    refine w138_1 ⟨fun _ => ?_, fun q => absurd (by decide) q⟩
    refine cp_loop (L := fun x => [some (.ref m), some (.int (I a)), some (.int (I b)), some (.int x)]) (A := m + 8) (t := 40 * (8 + b)) (N := 40) (g := fun k => cN (mi M1 (m + 8) (40 * (8 + a) + k))) (fun k M2 hk c2 cont => ?_) (fun M2 c2 => ?_)
    · have h2 := h1.mv c2.1
      have e1 : nt (I 40 * (I 8 + I (a : Int)) + I (k : Int)) = 40 * (8 + a) + k := by
        rw [I_add, I_mul, I_add, show (40 : Int) * (8 + (a : Int)) + (k : Int) = ((40 * (8 + a) + k : Nat) : Int) by omega, I_ntn (by omega)]
      have e2 : nt (I 40 * (I 8 + I (b : Int)) + I (k : Int)) = 40 * (8 + b) + k := by
        rw [I_add, I_mul, I_add, show (40 : Int) * (8 + (b : Int)) + (k : Int) = ((40 * (8 + b) + k : Nat) : Int) by omega, I_ntn (by omega)]
      refine w138_3 ⟨fun q => ?_, fun _ => ⟨h2.k0, h2.n12, by rw [h2.f12]; exact h2.k8, by rw [h2.f12, h2.l8, I_add, I_mul, I_add]; exact I_in (by omega) (by omega) (by omega), by rw [h2.f12, h2.l8, I_add, I_mul, I_add]; exact I_in (by omega) (by omega) (by omega), fun M3 q3 => ?_⟩⟩
      · rw [I_le (by omega) (by omega) (by omega) (by omega)] at q; omega
      · rw [h2.f12, e1, e2, c2.2.2, if_neg (strip hk (Nat.le_of_lt hk) (by omega))] at q3
        rw [I_add]; exact cont M3 q3
    · have h2 := h1.mv c2.1
      have e1 : nt (I 8 + I (a : Int)) = 8 + a := by
        rw [I_add, show (8 : Int) + (a : Int) = ((8 + a : Nat) : Int) by omega, I_ntn (by omega)]
      have e2 : nt (I 8 + I (b : Int)) = 8 + b := by
        rw [I_add, show (8 : Int) + (b : Int) = ((8 + b : Nat) : Int) by omega, I_ntn (by omega)]
      refine w138_3 ⟨fun _ => ⟨h2.k0, h2.n11, by rw [h2.f11]; exact h2.k7, by rw [h2.f11, h2.l7, I_add]; exact I_in (by omega) (by omega) (by omega), by rw [h2.f11, h2.l7, I_add]; exact I_in (by omega) (by omega) (by omega), fun M3 q3 => ⟨h2.n13, by rw [h2.f13]; exact h2.k9, by rw [h2.f13, h2.l9, I_add]; exact I_in (by omega) (by omega) (by omega), by rw [h2.f13, h2.l9, I_add]; exact I_in (by omega) (by omega) (by omega), fun M4 q4 => ?_⟩⟩, fun q => absurd (by decide) q⟩
      rw [h2.f11, e1, e2, c2.2.1 _ (by omega), c1.2.1 _ (by omega)] at q3
      rw [h2.f13, e1, e2, q3, i_ia (by omega), c2.2.1 _ (by omega), c1.2.1 _ (by omega), ← q3] at q4
      have f1 : fm m [10 + 1] M M1 := c1.fm (by omega) (fun j j1 j2 => by show [10 + 1].contains (10 + j / 48) = true; rw [show j / 48 = 1 by omega]; decide)
      have f2 : fm m [10 + 1] M1 M2 := c2.fm (by omega) (fun j j1 j2 => by show [10 + 1].contains (10 + j / 320) = true; rw [show j / 320 = 1 by omega]; decide)
      have f3 : fm m [10 + 1] M2 M3 := fm_i (a := 7) q3 (by omega) (by show [10 + 1].contains (10 + (8 + b) / 8) = true; rw [show (8 + b) / 8 = 1 by omega]; decide)
      have f4 : fm m [10 + 1] M3 M4 := fm_i (a := 9) q4 (by omega) (by show [10 + 1].contains (10 + (8 + b) / 8) = true; rw [show (8 + b) / 8 = 1 by omega]; decide)
      refine hq M4 ⟨fun j e hj r => ?_, fun e r => ?_, fun cc => ?_⟩ (((f1.trans f2).trans f3).trans f4)
      · exact ⟨(((r.1.row c1 (Nat.le_refl _) hj (by omega)).oth c2 (by omega) (by omega)).row1 q3 hj (by omega)).oth1 q4 (by omega) (by omega),
          (((r.2.oth c1 (by omega) (by omega)).row c2 (Nat.le_refl _) hj (by omega)).oth1 q3 (by omega) (by omega)).row1 q4 hj (by omega)⟩
      · obtain ⟨r1, r2⟩ := r
        refine ⟨⟨?_, r1.2.1, fun k hk => ?_, r1.2.2.2⟩, ?_, r2.2.1, fun k hk => ?_, r2.2.2.2⟩
        · rw [q4, i_ia (by omega), q3, i_is]; exact r1.1
        · have l1 := r1.2.1
          have cc := r1.ch k
          rw [q4, i_ia (by omega), q3, i_ia (by omega), c2.2.1 _ (by omega), c1.2.2, if_pos (by omega), Nat.add_sub_cancel_left]
          show cN (mi M (m + 6) (6 * (8 + a) + k)) = _
          rw [r1.2.2.1 k hk, I_cN (by omega) (by omega)]
        · rw [q4, i_is]; exact r2.1
        · have l1 := r2.2.1
          have cc := r2.ch k
          rw [q4, i_ia (by omega), q3, i_ia (by omega), c2.2.2, if_pos (by omega), Nat.add_sub_cancel_left]
          show cN (mi M1 (m + 8) (40 * (8 + a) + k)) = _
          rw [c1.2.1 _ (by omega), r2.2.2.1 k hk, I_cN (by omega) (by omega)]
      · rw [q4, i_ia (by omega), q3, i_ia (by omega), c2.2.1 _ (by omega), c1.2.1 _ (by omega)]
theorem vrX.hole (h : vrX M m 1 es) (hl : es.length < 8) : vrH M m es es.length := ⟨h.1, Nat.le_refl _, hl, fun j hj => h.2.2 j hj, fun j h1 h2 => by omega⟩
theorem vrH.step {i : Nat} (h : vrH M m es (i + 1)) (v : vrM m i (i + 1) M M') : vrH M' m es i := by
  obtain ⟨a1, a2, a3, a4, a5⟩ := h
  refine ⟨by rw [v.2.2]; exact a1, by omega, a3, fun j hj => v.1 _ _ (by omega) (a4 j (by omega)), fun j h1 h2 => ?_⟩
  by_cases q : j = i
  · subst q; exact v.2.1 _ (a4 j (by omega))
  · exact v.1 _ _ (by omega) (a5 j (by omega) h2)
theorem vrH.fill {i : Nat} {e : List Nat × List Nat} (h : vrH M m es i) (hc : mi M' (m + 5) 1 = I ((es.length + 1 : Nat) : Int)) (hk : ∀ j e, ¬ j = 8 + i → vrR M m j e → vrR M' m j e) (he : vrR M' m (8 + i) e) : vrX M' m 1 (es.take i ++ e :: es.drop i) := by
  obtain ⟨a1, a2, a3, a4, a5⟩ := h
  have len : (es.take i ++ e :: es.drop i).length = es.length + 1 := by simp; omega
  refine ⟨by rw [len]; exact hc, by omega, fun j hj => ?_⟩
  rw [len] at hj
  rw [ins_get a2]
  by_cases q : j < i
  · rw [if_pos q]; exact hk _ _ (by omega) (a4 j q)
  · rw [if_neg q]
    by_cases q2 : j = i
    · rw [if_pos q2, q2]; exact he
    · rw [if_neg q2, show 8 * 1 + j = 8 + (j - 1 + 1) by omega]
      exact hk _ _ (by omega) (a5 (j - 1) (by omega) (by omega))
theorem vrG.step {i k : Nat} (h : vrG M m es i k) (hk : k + 1 < es.length) (v : vrM m (k + 1) k M M') : vrG M' m es i (k + 1) := by
  obtain ⟨a1, a2, a3, a4, a5, a6, a7⟩ := h
  refine ⟨by rw [v.2.2]; exact a1, by omega, hk, a4, fun j hj => v.1 _ _ (by omega) (a5 j hj), fun j h1 h2 => ?_, fun j h1 h2 => v.1 _ _ (by omega) (a7 j (by omega) h2)⟩
  by_cases q : j = k
  · subst q; exact v.2.1 _ (a7 (j + 1) (by omega) (by omega))
  · exact v.1 _ _ (by omega) (a6 j h1 (by omega))
theorem vrG.fin {i k : Nat} (h : vrG M m es i k) (hk : k + 1 = es.length) : vrX M m 1 (es.eraseIdx i) := by
  obtain ⟨a1, a2, a3, a4, a5, a6, a7⟩ := h
  have len : (es.eraseIdx i).length = es.length - 1 := by rw [List.length_eraseIdx]; rw [if_pos (by omega)]
  refine ⟨by rw [len]; exact a1, by omega, fun j hj => ?_⟩
  rw [len] at hj
  rw [List.getD_eq_getElem?_getD, List.getElem?_eraseIdx]
  by_cases q : j < i
  · rw [if_pos q, ← List.getD_eq_getElem?_getD]; exact a5 j q
  · rw [if_neg q, ← List.getD_eq_getElem?_getD]; exact a6 j (by omega) (by omega)
theorem vrX.gone {i : Nat} (h : vrX M m 1 es) (hi : i < es.length) (q : M' = msi M (m + 5) 1 (I es.length - I 1)) : vrG M' m es i i ∧ fm m [10 + 1] M M' := by
  have f : fm m [10 + 1] M M' := fm_i (a := 5) q (by omega) (by decide)
  have keep : ∀ j e, vrR M m j e → vrR M' m j e := fun j e r => ⟨r.1.oth1 q (by omega) (by omega), r.2.oth1 q (by omega) (by omega)⟩
  refine ⟨⟨?_, Nat.le_refl _, hi, h.2.1, fun j hj => keep _ _ (h.2.2 j (by omega)), fun j h1 h2 => by omega, fun j h1 h2 => keep _ _ (h.2.2 j h2)⟩, f⟩
  rw [q, i_is, I_sub]; congr 1; omega
end MTAB

/-- row j of the files -/
def flR (M : mM) (m j : Nat) (e : List Nat × List Nat) : Prop := nmR M (m + 14) (m + 15) 8 j e.1 ∧ nmR M (m + 16) (m + 17) 80 j e.2
/-- copy c of the files -/
def flX (M : mM) (m c : Nat) (es : eL) : Prop := mi M (m + 13) c = I es.length ∧ es.length ≤ 8 ∧ ∀ i, i < es.length → flR M m (8 * c + i) (es.getD i ([], []))
/-- one row was moved -/
def flM (m a b : Nat) (M M' : mM) : Prop := (∀ j e, ¬ j = 8 + b → flR M m j e → flR M' m j e) ∧ (∀ e, flR M m (8 + a) e → flR M' m (8 + b) e) ∧ ∀ c, mi M' (m + 13) c = mi M (m + 13) c
/-- a hole before i -/
def flH (M : mM) (m : Nat) (es : eL) (i : Nat) : Prop := mi M (m + 13) 1 = I es.length ∧ i ≤ es.length ∧ es.length < 8 ∧ (∀ j, j < i → flR M m (8 + j) (es.getD j ([], []))) ∧ ∀ j, i ≤ j → j < es.length → flR M m (8 + (j + 1)) (es.getD j ([], []))
/-- entry i goes: the rows from i up to k are moved -/
def flG (M : mM) (m : Nat) (es : eL) (i k : Nat) : Prop := mi M (m + 13) 1 = I ((es.length - 1 : Nat) : Int) ∧ i ≤ k ∧ k < es.length ∧ es.length ≤ 8 ∧ (∀ j, j < i → flR M m (8 + j) (es.getD j ([], []))) ∧ (∀ j, i ≤ j → j < k → flR M m (8 + j) (es.getD (j + 1) ([], []))) ∧ ∀ j, k < j → j < es.length → flR M m (8 + j) (es.getD j ([], []))
section MTAB
variable {E : mE} {M M' : mM} {Q : mQ} {m c : Nat} {s : List Nat} {es : eL} {S : List Nat}
theorem flR.mv {j : Nat} {e : List Nat × List Nat} (h : flR M m j e) (f : fm m S M M') (hS : S.contains (30 + j / 8) = false) : flR M' m j e := by
  obtain ⟨⟨a1, a2, a3, a4⟩, b1, b2, b3, b4⟩ := h
  refine ⟨⟨?_, a2, fun k hk => ?_, a4⟩, ?_, b2, fun k hk => ?_, b4⟩
  · rw [f.2.2 15 j (by omega) hS]; exact a1
  · rw [f.2.2 14 (8 * j + k) (by omega) (by show S.contains (30 + (8 * j + k) / 64) = false; rw [show (8 * j + k) / 64 = j / 8 by omega]; exact hS)]; exact a3 k hk
  · rw [f.2.2 17 j (by omega) hS]; exact b1
  · rw [f.2.2 16 (80 * j + k) (by omega) (by show S.contains (30 + (80 * j + k) / 640) = false; rw [show (80 * j + k) / 640 = j / 8 by omega]; exact hS)]; exact b3 k hk
theorem flX.mv (h : flX M m c es) (f : fm m S M M') (hS : S.contains (30 + c) = false) : flX M' m c es := by
  have h1 := h.2.1
  refine ⟨by rw [f.2.2 13 c (by omega) hS]; exact h.1, h.2.1, fun i hi => (h.2.2 i hi).mv f ?_⟩
  rw [show (8 * c + i) / 8 = c by omega]; exact hS
theorem m_mvfl {a b : Nat} (h : mS M m) (ha : a < 8) (hb : b < 8) (hab : ¬ a = b) (hq : ∀ M', flM m a b M M' → fm m [30 + 1] M M' → Q (.inl none) M') : mC E 143 [.ref m, .int (I a), .int (I b)] M Q := by
  refine w143_0 (cp_loop (L := fun x => [some (.ref m), some (.int (I a)), some (.int (I b)), some (.int x)]) (A := m + 14) (t := 8 * (8 + b)) (N := 8) (g := fun k => cN (mi M (m + 14) (8 * (8 + a) + k))) (fun k M1 hk c1 cont => ?_) (fun M1 c1 => ?_))
  · have h1 := h.mv c1.1
    have e1 : nt (I 8 * (I 8 + I (a : Int)) + I (k : Int)) = 8 * (8 + a) + k := by
      rw [I_add, I_mul, I_add, show (8 : Int) * (8 + (a : Int)) + (k : Int) = ((8 * (8 + a) + k : Nat) : Int) by omega, I_ntn (by omega)]
    have e2 : nt (I 8 * (I 8 + I (b : Int)) + I (k : Int)) = 8 * (8 + b) + k := by
      rw [I_add, I_mul, I_add, show (8 : Int) * (8 + (b : Int)) + (k : Int) = ((8 * (8 + b) + k : Nat) : Int) by omega, I_ntn (by omega)]
    refine w143_1 ⟨fun q => ?_, fun _ => ⟨h1.k0, h1.n18, by rw [h1.f18]; exact h1.k14, by rw [h1.f18, h1.l14, I_add, I_mul, I_add]; exact I_in (by omega) (by omega) (by omega), by rw [h1.f18, h1.l14, I_add, I_mul, I_add]; exact I_in (by omega) (by omega) (by omega), fun M2 q2 => ?_⟩⟩
    · rw [I_le (by omega) (by omega) (by omega) (by omega)] at q; omega
    · rw [h1.f18, e1, e2, c1.2.2, if_neg (strip hk (Nat.le_of_lt hk) (by omega))] at q2
      rw [I_add]; exact cont M2 q2
  · have h1 := h.mv c1.1
    refine w143_1 ⟨fun _ => ?_, fun q => absurd (by decide) q⟩
    refine cp_loop (L := fun x => [some (.ref m), some (.int (I a)), some (.int (I b)), some (.int x)]) (A := m + 16) (t := 80 * (8 + b)) (N := 80) (g := fun k => cN (mi M1 (m + 16) (80 * (8 + a) + k))) (fun k M2 hk c2 cont => ?_) (fun M2 c2 => ?_)
    · have h2 := h1.mv c2.1
      have e1 : nt (I 80 * (I 8 + I (a : Int)) + I (k : Int)) = 80 * (8 + a) + k := by
        rw [I_add, I_mul, I_add, show (80 : Int) * (8 + (a : Int)) + (k : Int) = ((80 * (8 + a) + k : Nat) : Int) by omega, I_ntn (by omega)]
      have e2 : nt (I 80 * (I 8 + I (b : Int)) + I (k : Int)) = 80 * (8 + b) + k := by
        rw [I_add, I_mul, I_add, show (80 : Int) * (8 + (b : Int)) + (k : Int) = ((80 * (8 + b) + k : Nat) : Int) by omega, I_ntn (by omega)]
      refine w143_3 ⟨fun q => ?_, fun _ => ⟨h2.k0, h2.n20, by rw [h2.f20]; exact h2.k16, by rw [h2.f20, h2.l16, I_add, I_mul, I_add]; exact I_in (by omega) (by omega) (by omega), by rw [h2.f20, h2.l16, I_add, I_mul, I_add]; exact I_in (by omega) (by omega) (by omega), fun M3 q3 => ?_⟩⟩
      · rw [I_le (by omega) (by omega) (by omega) (by omega)] at q; omega
      · rw [h2.f20, e1, e2, c2.2.2, if_neg (strip hk (Nat.le_of_lt hk) (by omega))] at q3
        rw [I_add]; exact cont M3 q3
    · have h2 := h1.mv c2.1
      have e1 : nt (I 8 + I (a : Int)) = 8 + a := by
        rw [I_add, show (8 : Int) + (a : Int) = ((8 + a : Nat) : Int) by omega, I_ntn (by omega)]
      have e2 : nt (I 8 + I (b : Int)) = 8 + b := by
        rw [I_add, show (8 : Int) + (b : Int) = ((8 + b : Nat) : Int) by omega, I_ntn (by omega)]
      refine w143_3 ⟨fun _ => ⟨h2.k0, h2.n19, by rw [h2.f19]; exact h2.k15, by rw [h2.f19, h2.l15, I_add]; exact I_in (by omega) (by omega) (by omega), by rw [h2.f19, h2.l15, I_add]; exact I_in (by omega) (by omega) (by omega), fun M3 q3 => ⟨h2.n21, by rw [h2.f21]; exact h2.k17, by rw [h2.f21, h2.l17, I_add]; exact I_in (by omega) (by omega) (by omega), by rw [h2.f21, h2.l17, I_add]; exact I_in (by omega) (by omega) (by omega), fun M4 q4 => ?_⟩⟩, fun q => absurd (by decide) q⟩
      rw [h2.f19, e1, e2, c2.2.1 _ (by omega), c1.2.1 _ (by omega)] at q3
      rw [h2.f21, e1, e2, q3, i_ia (by omega), c2.2.1 _ (by omega), c1.2.1 _ (by omega), ← q3] at q4
      have f1 : fm m [30 + 1] M M1 := c1.fm (by omega) (fun j j1 j2 => by show [30 + 1].contains (30 + j / 64) = true; rw [show j / 64 = 1 by omega]; decide)
      have f2 : fm m [30 + 1] M1 M2 := c2.fm (by omega) (fun j j1 j2 => by show [30 + 1].contains (30 + j / 640) = true; rw [show j / 640 = 1 by omega]; decide)
      have f3 : fm m [30 + 1] M2 M3 := fm_i (a := 15) q3 (by omega) (by show [30 + 1].contains (30 + (8 + b) / 8) = true; rw [show (8 + b) / 8 = 1 by omega]; decide)
      have f4 : fm m [30 + 1] M3 M4 := fm_i (a := 17) q4 (by omega) (by show [30 + 1].contains (30 + (8 + b) / 8) = true; rw [show (8 + b) / 8 = 1 by omega]; decide)
      refine hq M4 ⟨fun j e hj r => ?_, fun e r => ?_, fun cc => ?_⟩ (((f1.trans f2).trans f3).trans f4)
      · exact ⟨(((r.1.row c1 (Nat.le_refl _) hj (by omega)).oth c2 (by omega) (by omega)).row1 q3 hj (by omega)).oth1 q4 (by omega) (by omega),
          (((r.2.oth c1 (by omega) (by omega)).row c2 (Nat.le_refl _) hj (by omega)).oth1 q3 (by omega) (by omega)).row1 q4 hj (by omega)⟩
      · obtain ⟨r1, r2⟩ := r
        refine ⟨⟨?_, r1.2.1, fun k hk => ?_, r1.2.2.2⟩, ?_, r2.2.1, fun k hk => ?_, r2.2.2.2⟩
        · rw [q4, i_ia (by omega), q3, i_is]; exact r1.1
        · have l1 := r1.2.1
          have cc := r1.ch k
          rw [q4, i_ia (by omega), q3, i_ia (by omega), c2.2.1 _ (by omega), c1.2.2, if_pos (by omega), Nat.add_sub_cancel_left]
          show cN (mi M (m + 14) (8 * (8 + a) + k)) = _
          rw [r1.2.2.1 k hk, I_cN (by omega) (by omega)]
        · rw [q4, i_is]; exact r2.1
        · have l1 := r2.2.1
          have cc := r2.ch k
          rw [q4, i_ia (by omega), q3, i_ia (by omega), c2.2.2, if_pos (by omega), Nat.add_sub_cancel_left]
          show cN (mi M1 (m + 16) (80 * (8 + a) + k)) = _
          rw [c1.2.1 _ (by omega), r2.2.2.1 k hk, I_cN (by omega) (by omega)]
      · rw [q4, i_ia (by omega), q3, i_ia (by omega), c2.2.1 _ (by omega), c1.2.1 _ (by omega)]
theorem flX.hole (h : flX M m 1 es) (hl : es.length < 8) : flH M m es es.length := ⟨h.1, Nat.le_refl _, hl, fun j hj => h.2.2 j hj, fun j h1 h2 => by omega⟩
theorem flH.step {i : Nat} (h : flH M m es (i + 1)) (v : flM m i (i + 1) M M') : flH M' m es i := by
  obtain ⟨a1, a2, a3, a4, a5⟩ := h
  refine ⟨by rw [v.2.2]; exact a1, by omega, a3, fun j hj => v.1 _ _ (by omega) (a4 j (by omega)), fun j h1 h2 => ?_⟩
  by_cases q : j = i
  · subst q; exact v.2.1 _ (a4 j (by omega))
  · exact v.1 _ _ (by omega) (a5 j (by omega) h2)
theorem flH.fill {i : Nat} {e : List Nat × List Nat} (h : flH M m es i) (hc : mi M' (m + 13) 1 = I ((es.length + 1 : Nat) : Int)) (hk : ∀ j e, ¬ j = 8 + i → flR M m j e → flR M' m j e) (he : flR M' m (8 + i) e) : flX M' m 1 (es.take i ++ e :: es.drop i) := by
  obtain ⟨a1, a2, a3, a4, a5⟩ := h
  have len : (es.take i ++ e :: es.drop i).length = es.length + 1 := by simp; omega
  refine ⟨by rw [len]; exact hc, by omega, fun j hj => ?_⟩
  rw [len] at hj
  rw [ins_get a2]
  by_cases q : j < i
  · rw [if_pos q]; exact hk _ _ (by omega) (a4 j q)
  · rw [if_neg q]
    by_cases q2 : j = i
    · rw [if_pos q2, q2]; exact he
    · rw [if_neg q2, show 8 * 1 + j = 8 + (j - 1 + 1) by omega]
      exact hk _ _ (by omega) (a5 (j - 1) (by omega) (by omega))
theorem flG.step {i k : Nat} (h : flG M m es i k) (hk : k + 1 < es.length) (v : flM m (k + 1) k M M') : flG M' m es i (k + 1) := by
  obtain ⟨a1, a2, a3, a4, a5, a6, a7⟩ := h
  refine ⟨by rw [v.2.2]; exact a1, by omega, hk, a4, fun j hj => v.1 _ _ (by omega) (a5 j hj), fun j h1 h2 => ?_, fun j h1 h2 => v.1 _ _ (by omega) (a7 j (by omega) h2)⟩
  by_cases q : j = k
  · subst q; exact v.2.1 _ (a7 (j + 1) (by omega) (by omega))
  · exact v.1 _ _ (by omega) (a6 j h1 (by omega))
theorem flG.fin {i k : Nat} (h : flG M m es i k) (hk : k + 1 = es.length) : flX M m 1 (es.eraseIdx i) := by
  obtain ⟨a1, a2, a3, a4, a5, a6, a7⟩ := h
  have len : (es.eraseIdx i).length = es.length - 1 := by rw [List.length_eraseIdx]; rw [if_pos (by omega)]
  refine ⟨by rw [len]; exact a1, by omega, fun j hj => ?_⟩
  rw [len] at hj
  rw [List.getD_eq_getElem?_getD, List.getElem?_eraseIdx]
  by_cases q : j < i
  · rw [if_pos q, ← List.getD_eq_getElem?_getD]; exact a5 j q
  · rw [if_neg q, ← List.getD_eq_getElem?_getD]; exact a6 j (by omega) (by omega)
theorem flX.gone {i : Nat} (h : flX M m 1 es) (hi : i < es.length) (q : M' = msi M (m + 13) 1 (I es.length - I 1)) : flG M' m es i i ∧ fm m [30 + 1] M M' := by
  have f : fm m [30 + 1] M M' := fm_i (a := 13) q (by omega) (by decide)
  have keep : ∀ j e, flR M m j e → flR M' m j e := fun j e r => ⟨r.1.oth1 q (by omega) (by omega), r.2.oth1 q (by omega) (by omega)⟩
  refine ⟨⟨?_, Nat.le_refl _, hi, h.2.1, fun j hj => keep _ _ (h.2.2 j (by omega)), fun j h1 h2 => by omega, fun j h1 h2 => keep _ _ (h.2.2 j h2)⟩, f⟩
  rw [q, i_is, I_sub]; congr 1; omega
end MTAB
