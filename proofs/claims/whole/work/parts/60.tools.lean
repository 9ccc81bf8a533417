/-! THE TOOLS' METHODS: set, unset, rm, wc, tr, exit -/
section TOOLS
variable {E : mE} {M : mM} {Q : mQ} {b : Nat} {R : RT} {fs : List (List Nat)} {sp o inp : List Nat}
theorem u_set_l (n : Nat) : ∀ (i : Nat) (M : mM) (R : RT), n = fs.length - i → 1 ≤ i → i ≤ 1000 → i - 1 ≤ 9 → RX b M R → R 23 = vR fs sp → R 14 = vR ((fs.drop 1).take (i - 1)) [] → (i ≤ fs.length ∨ fs.length = 0) →
    (fs.length ≤ 10 → ∀ M' R', RX b M' R' → ag [14] R R' → R' 14 = vR (fs.drop 1) [] → fr M M' b (b + 369) → Q (.inl (some (.int (I 0)))) M') → (10 < fs.length → TH E b M R Q) →
    mX E 97 1 [some (.ref (b + 258)), some (.int (I i))] [] M Q := by
  induction n with
  | zero =>
    intro i M R hn hi hi2 hi9 h h23 h14 hle hq ht
    have r23 := h.r23 h23
    have l23 := r23.len
    refine w97_1 ⟨h.k22, nz h.f22_0 h.1, by rw [h.f22_0]; exact r23.1.1, fun _ => hq (by omega) M R h (ag.refl _ _) ?_ (fr.refl _ _ _), fun c => ?_⟩
    · rw [h14, List.take_of_length_le (by rw [List.length_drop]; omega)]
    · rw [h.f22_0, r23.2.1, I_le (by omega) (by omega) (by omega) (by omega)] at c; omega
  | succ n ih =>
    intro i M R hn hi hi2 hi9 h h23 h14 hle hq ht
    have hb := h.1
    have r23 := h.r23 h23
    have l23 := r23.len
    have r14 := h.c14
    rw [h14] at r14
    have lt : ((fs.drop 1).take (i - 1)).length = i - 1 := by rw [List.length_take, List.length_drop]; omega
    refine w97_1 ⟨h.k22, nz h.f22_0 h.1, by rw [h.f22_0]; exact r23.1.1, fun c => ?_, fun c => ⟨nz h.f22_4 h.1, by rw [h.f22_4]; exact h.k12, nz2 h.f22_4 h.f12_1 h.1, ?_⟩⟩
    · rw [h.f22_0, r23.2.1, I_le (by omega) (by omega) (by omega) (by omega)] at c; omega
    · rw [h.f22_0, h.f22_4, h.f12_1]
      refine r_at r23 (by omega) (by omega) (fun p cap' tp p1 p2 p3 => ⟨r14.1.1, ?_⟩)
      rw [atL_nat] at tp
      have tl := tp.len
      refine r_add r14 tp (by omega) (fun _ hn2 M2 k2 f2 => ?_) (fun hx M2 sp2 k2 f2 => ?_)
      · have h2 := h.u14 k2 f2
        show mX E 97 1 _ [] M2 Q
        rw [I_add]
        have e : (fs.drop 1).take (i - 1) ++ [fs.getD i []] = (fs.drop 1).take (i + 1 - 1) := by
          rw [show i + 1 - 1 = (i - 1) + 1 by omega, List.take_succ, List.getElem?_drop, show 1 + (i - 1) = i by omega, List.getD_eq_getElem?_getD, List.getElem?_eq_getElem (show i < fs.length by omega)]; rfl
        simp only [vR] at hn2
        rw [lt] at hn2
        refine ih (i + 1) M2 _ (by omega) (by omega) (by omega) (by omega) h2.1 (by rw [up_n (by decide)]; exact h23) ?_ (by omega) (fun l M' R' j1 j2 j3 j4 => hq l M' R' j1 ((ag_up (by decide)).trans j2) j3 (h2.2.then j4)) (fun l => (ht l).st h2.2 ((ag_up (S := [14]) (by decide)).lo (by decide)))
        rw [up_s, ← e]; rfl
      · have h2 := h.u14 k2 f2
        simp only [vR] at hx
        rw [lt] at hx
        exact ht (by omega) M2 _ h2.1 ((ag_up (S := [14]) (by decide)).lo (by decide)) h2.2
theorem u_set (h : RX b M R) (h23 : R 23 = vR fs sp) (h1 : 1 ≤ fs.length) (hq : fs.length ≤ 10 → ∀ M' R', RX b M' R' → ag [14] R R' → R' 14 = vR (fs.drop 1) [] → fr M M' b (b + 369) → Q (.inl (some (.int (I 0)))) M') (ht : 10 < fs.length → TH E b M R Q) : mC E 97 [.ref (b + 258)] M Q := by
  have hb := h.1
  refine w97_0 ⟨h.k22, nz h.f22_4 h.1, by rw [h.f22_4]; exact h.k12, nz2 h.f22_4 h.f12_1 h.1, by rw [h.f22_4, h.f12_1]; exact h.c14.1.1, ?_⟩
  rw [h.f22_4, h.f12_1]
  refine r_clear h.c14 (fun M1 k1 f1 => ?_)
  have h1' := h.u14 k1 f1
  refine u_set_l _ 1 M1 _ rfl (by omega) (by omega) (by omega) h1'.1 (by rw [up_n (by decide)]; exact h23) (by rw [up_s] <;> rfl) (by omega) (fun l M' R' j1 j2 j3 j4 => hq l M' R' j1 ((ag_up (by decide)).trans j2) j3 (h1'.2.then j4)) (fun l => (ht l).st h1'.2 ((ag_up (S := [14]) (by decide)).lo (by decide)))
theorem u_unset_l (n : Nat) : ∀ (i : Nat) (vs : eL) (M : mM) (R : RT), n = fs.length - i → i ≤ 1000 → RX b M R → R 23 = vR fs sp → (R 13).1 = vs →
    (∀ M' R', RX b M' R' → ag [13] R R' → (R' 13).1 = unL fs n i vs → fr M M' b (b + 369) → Q (.inl (some (.int (I 0)))) M') →
    mX E 98 1 [some (.ref (b + 258)), some (.int (I i))] [] M Q := by
  induction n with
  | zero =>
    intro i vs M R hn hi h h23 h13 hq
    have r23 := h.r23 h23
    have l23 := r23.len
    refine w98_1 ⟨h.k22, nz h.f22_0 h.1, by rw [h.f22_0]; exact r23.1.1, fun _ => hq M R h (ag.refl _ _) h13 (fr.refl _ _ _), fun c => ?_⟩
    rw [h.f22_0, r23.2.1, I_le (by omega) (by omega) (by omega) (by omega)] at c; omega
  | succ n ih =>
    intro i vs M R hn hi h h23 h13 hq
    have hb := h.1
    have r23 := h.r23 h23
    have l23 := r23.len
    have e13 := h.c13
    rw [h13] at e13
    have l13 := e13.len
    have fd := fdT_r vs (fs.getD i []) 0
    refine w98_1 ⟨h.k22, nz h.f22_0 h.1, by rw [h.f22_0]; exact r23.1.1, fun c => ?_, fun c => ⟨nz h.f22_4 h.1, by rw [h.f22_4]; exact h.k12, nz2 h.f22_4 h.f12_0 h.1, ?_⟩⟩
    · rw [h.f22_0, r23.2.1, I_le (by omega) (by omega) (by omega) (by omega)] at c; omega
    · rw [h.f22_0, h.f22_4, h.f12_0]
      refine r_at r23 (by omega) (by omega) (fun p cap' tp p1 p2 p3 => ⟨e13.1.1, ?_⟩)
      rw [atL_nat] at tp
      refine tb_find e13 tp ⟨e13.1.1, tb_drop e13 (by omega) (by omega) (fun M2 k2 f2 => ?_)⟩
      have h2 := h.u13 k2 f2
      show mX E 98 1 _ [] M2 Q
      rw [I_add]
      exact ih (i + 1) _ M2 _ (by omega) (by omega) h2.1 (by rw [up_n (by decide)]; exact h23) (by rw [up_s] <;> rfl) (fun M' R' j1 j2 j3 j4 => hq M' R' j1 ((ag_up (by decide)).trans j2) j3 (h2.2.then j4))
theorem u_unset (h : RX b M R) (h23 : R 23 = vR fs sp) (hq : ∀ M' R', RX b M' R' → ag [13] R R' → (R' 13).1 = unL fs (fs.length - 1) 1 (R 13).1 → fr M M' b (b + 369) → Q (.inl (some (.int (I 0)))) M') : mC E 98 [.ref (b + 258)] M Q :=
  w98_0 (u_unset_l _ 1 _ M R rfl (by omega) h h23 rfl hq)
theorem u_rm_l (n : Nat) : ∀ (i st : Nat) (fl : eL) (M : mM) (R : RT) (d3 : Option Value), n = fs.length - i → i ≤ 1000 → RX b M R → R 23 = vR fs sp → (R 15).1 = fl →
    (∀ M' R', RX b M' R' → ag [15] R R' → (R' 15).1 = (rmL fs n i fl st).1 → fr M M' b (b + 369) → Q (.inl (some (.int (I (rmL fs n i fl st).2)))) M') →
    mX E 99 1 [some (.ref (b + 258)), some (.int (I st)), some (.int (I i)), d3] [] M Q := by
  induction n with
  | zero =>
    intro i st fl M R d3 hn hi h h23 h15 hq
    have r23 := h.r23 h23
    have l23 := r23.len
    refine w99_1 ⟨h.k22, nz h.f22_0 h.1, by rw [h.f22_0]; exact r23.1.1, fun _ => hq M R h (ag.refl _ _) h15 (fr.refl _ _ _), fun c => ?_⟩
    rw [h.f22_0, r23.2.1, I_le (by omega) (by omega) (by omega) (by omega)] at c; omega
  | succ n ih =>
    intro i st fl M R d3 hn hi h h23 h15 hq
    have hb := h.1
    have r23 := h.r23 h23
    have l23 := r23.len
    have e15 := h.c15
    rw [h15] at e15
    have l15 := e15.len
    have fd := fdT_r fl (fs.getD i []) 0
    unfold rmL at hq
    refine w99_1 ⟨h.k22, nz h.f22_0 h.1, by rw [h.f22_0]; exact r23.1.1, fun c => ?_, fun c => ⟨nz h.f22_4 h.1, by rw [h.f22_4]; exact h.k12, nz2 h.f22_4 h.f12_2 h.1, ?_⟩⟩
    · rw [h.f22_0, r23.2.1, I_le (by omega) (by omega) (by omega) (by omega)] at c; omega
    · rw [h.f22_0, h.f22_4, h.f12_2]
      refine r_at r23 (by omega) (by omega) (fun p cap' tp p1 p2 p3 => ⟨e15.1.1, ?_⟩)
      rw [atL_nat] at tp
      refine tb_find e15 tp ⟨h.k22, nz h.f22_4 h.1, by rw [h.f22_4]; exact h.k12, nz2 h.f22_4 h.f12_2 h.1, by rw [h.f22_4, h.f12_2]; exact e15.1.1, ?_⟩
      rw [h.f22_4, h.f12_2]
      refine tb_drop e15 (by omega) (by omega) (fun M2 k2 f2 => ?_)
      have h2 := h.u15 k2 f2
      have go : ∀ st1 : Nat, st1 = (if 0 ≤ fdT fl (fs.getD i []) 0 then st else 1) → mX E 99 1 [some (.ref (b + 258)), some (.int (I st1)), some (.int (I i + I 1)), some (.int (I (fdT fl (fs.getD i []) 0)))] [] M2 Q := by
        intro st1 es
        rw [I_add]
        exact ih (i + 1) st1 _ M2 _ _ (by omega) (by omega) h2.1 (by rw [up_n (by decide)]; exact h23) (by rw [up_s] <;> rfl) (fun M' R' j1 j2 j3 j4 => by rw [es] at j3 ⊢; exact hq M' R' j1 ((ag_up (by decide)).trans j2) j3 (h2.2.then j4))
      refine ⟨fun u => go st ?_, fun u => go 1 ?_⟩
      · rw [I_le (by omega) (by omega) (by omega) (by omega)] at u; rw [if_pos u]
      · rw [I_le (by omega) (by omega) (by omega) (by omega)] at u; rw [if_neg u]
theorem u_rm (h : RX b M R) (h23 : R 23 = vR fs sp) (hq : ∀ M' R', RX b M' R' → ag [15] R R' → (R' 15).1 = (rmL fs (fs.length - 1) 1 (R 15).1 0).1 → fr M M' b (b + 369) → Q (.inl (some (.int (I (rmL fs (fs.length - 1) 1 (R 15).1 0).2)))) M') : mC E 99 [.ref (b + 258)] M Q :=
  w99_0 (u_rm_l _ 1 0 _ M R none rfl (by omega) h h23 rfl hq)
def wcO (inp : List Nat) : List Nat := numS (cnt10 inp) ++ ([32] ++ (numS inp.length ++ [10]))
/-- a number to the output -/
theorem o_num {n : Nat} (h : RX b M R) (h25 : R 25 = vT o) (hn : n ≤ 999) (hq : o.length + (numS n).length ≤ 240 → ∀ M', RX b M' (up R 25 (vT (o ++ numS n))) → fr M M' (b + 299) (b + 301) → Q (.inl none) M') (ht : 240 < o.length + (numS n).length → TH E b M R Q) : mC E 20 [.ref (b + 299), .int (I n)] M Q :=
  t_addNumber hn (h.t25 h25) (fun M1 t1 f1 => hq (by have := t1.len; rw [List.length_append] at this; omega) M1 (h.u25 t1 f1).1 f1) (fun M1 s1 l t1 f1 => ht l M1 _ (h.u25 t1 f1).1 ((ag_up (S := [25]) (by decide)).lo (by decide)) (f1.wide (by omega) (by omega)))
theorem cnt_snoc {u : List Nat} {k : Nat} (h : k < u.length) : cnt10 (u.take (k + 1)) = cnt10 (u.take k) + if u.getD k 0 = 10 then 1 else 0 := by
  unfold cnt10
  rw [take_snoc h, List.filter_append, List.length_append]
  congr 1
  by_cases q : u.getD k 0 = 10
  · rw [if_pos q, List.filter_cons, if_pos (by rw [q]; rfl)]; rfl
  · rw [if_neg q, List.filter_cons, if_neg (by simpa using q)]; rfl
theorem cnt_le (u : List Nat) : cnt10 u ≤ u.length := List.length_filter_le _ _
theorem u_wc_l (h : RX b M R) (h25 : R 25 = vT o) (hq : o.length + (wcO (R 24).2.2.1).length ≤ 240 → ∀ M' R', RX b M' R' → ag [25] R R' → R' 25 = vT (o ++ wcO (R 24).2.2.1) → fr M M' b (b + 369) → Q (.inl (some (.int (I 0)))) M') (ht : 240 < o.length + (wcO (R 24).2.2.1).length → TH E b M R Q) (n : Nat) : ∀ (k : Nat), n = (R 24).2.2.1.length - k → k ≤ (R 24).2.2.1.length → mX E 100 1 [some (.ref (b + 258)), some (.int (I (cnt10 ((R 24).2.2.1.take k)))), some (.int (I k))] [] M Q := by
  have hb := h.1
  have t24 := h.c24
  have l24 := t24.len
  induction n with
  | zero =>
    intro k hn hk
    have hc := cnt_le (R 24).2.2.1
    rw [show k = (R 24).2.2.1.length by omega, List.take_length]
    unfold wcO at hq ht
    simp only [List.length_append, List.length_singleton] at hq ht
    refine w100_1 ⟨h.k22, nz h.f22_1 h.1, by rw [h.f22_1]; exact t24.1, fun _ => ⟨nz h.f22_2 h.1, by rw [h.f22_2]; exact h.c25.1, ?_⟩, fun c => ?_⟩
    · rw [h.f22_2]
      refine o_num h h25 (by omega) (fun l1 M1 h1 f1 => ?_) (fun l1 => ht (by omega))
      have f1' := f1.wide (l := b) (u := b + 369) (by omega) (by omega)
      have a1 : ag [25] R (up R 25 (vT (o ++ numS (cnt10 (R 24).2.2.1)))) := ag_up (by decide)
      refine ⟨h1.k22, nz h1.f22_2 h.1, by rw [h1.f22_2]; exact h1.c25.1, ?_⟩
      rw [h1.f22_2]
      refine o_add (c := 32) h1 (up_s _ _ _) (by omega) (fun l2 M2 h2 f2 => ?_) (fun l2 => (ht (by rw [List.length_append] at l2; omega)).st f1' (a1.lo (by decide)))
      have f2' := f2.wide (l := b) (u := b + 369) (by omega) (by omega)
      have a2 := a1.trans (ag_up (R := up R 25 (vT (o ++ numS (cnt10 (R 24).2.2.1)))) (S := [25]) (k := 25) (v := vT (o ++ numS (cnt10 (R 24).2.2.1) ++ [32])) (by decide))
      have t24' := h2.c24
      rw [a2 24 (by decide)] at t24'
      refine ⟨h2.k22, nz h2.f22_2 h.1, nz h2.f22_1 h.1, by rw [h2.f22_1]; exact t24'.1, by rw [h2.f22_2]; exact h2.c25.1, ?_⟩
      rw [h2.f22_2, h2.f22_1, t24'.2.2.2.2.1]
      refine o_num h2 (up_s _ _ _) (by omega) (fun l3 M3 h3 f3 => ?_) (fun l3 => (ht (by simp only [List.length_append, List.length_singleton] at l3; omega)).st (f1'.then f2') (a2.lo (by decide)))
      have f3' := f3.wide (l := b) (u := b + 369) (by omega) (by omega)
      have a3 := a2.trans (ag_up (R := up (up R 25 (vT (o ++ numS (cnt10 (R 24).2.2.1)))) 25 (vT (o ++ numS (cnt10 (R 24).2.2.1) ++ [32]))) (S := [25]) (k := 25) (v := vT (o ++ numS (cnt10 (R 24).2.2.1) ++ [32] ++ numS (R 24).2.2.1.length)) (by decide))
      refine ⟨h3.k22, nz h3.f22_2 h.1, by rw [h3.f22_2]; exact h3.c25.1, ?_⟩
      rw [h3.f22_2]
      refine o_add (c := 10) h3 (up_s _ _ _) (by omega) (fun l4 M4 h4 f4 => ?_) (fun l4 => (ht (by simp only [List.length_append, List.length_singleton] at l4; omega)).st ((f1'.then f2').then f3') (a3.lo (by decide)))
      refine hq (by simp only [List.length_append, List.length_singleton] at l4; omega) M4 _ h4 (a3.trans (ag_up (by decide))) ?_ (((f1'.then f2').then f3').then (f4.wide (by omega) (by omega)))
      rw [up_s]; simp
    · rw [h.f22_1, t24.2.2.2.2.1, I_le (by omega) (by omega) (by omega) (by omega)] at c; omega
  | succ n ih =>
    intro k hn hk
    have hc := t24.ch k
    have cs := cnt_snoc (u := (R 24).2.2.1) (k := k) (by omega)
    refine w100_1 ⟨h.k22, nz h.f22_1 h.1, by rw [h.f22_1]; exact t24.1, fun c => ?_, fun c => ?_⟩
    · rw [h.f22_1, t24.2.2.2.2.1, I_le (by omega) (by omega) (by omega) (by omega)] at c; omega
    · rw [h.f22_1]
      refine t_at t24 (by omega) (by omega) ?_
      rw [if_pos (by omega), show ((k : Int).toNat) = k by omega]
      have := ih (k + 1) (by omega) (by omega)
      rw [cs] at this
      refine ⟨fun u => ?_, fun u => ?_⟩
      · rw [I_eq (by omega) (by omega) (by omega) (by omega)] at u
        rw [if_neg (by omega)] at this
        rw [I_add, I_add, Int.add_zero]; exact this
      · rw [I_eq (by omega) (by omega) (by omega) (by omega)] at u
        rw [if_pos (by omega)] at this
        rw [I_add, I_add]; exact this
theorem u_wc (h : RX b M R) (h25 : R 25 = vT o) (hq : o.length + (wcO (R 24).2.2.1).length ≤ 240 → ∀ M' R', RX b M' R' → ag [25] R R' → R' 25 = vT (o ++ wcO (R 24).2.2.1) → fr M M' b (b + 369) → Q (.inl (some (.int (I 0)))) M') (ht : 240 < o.length + (wcO (R 24).2.2.1).length → TH E b M R Q) : mC E 100 [.ref (b + 258)] M Q :=
  w100_0 (u_wc_l h h25 hq ht _ 0 rfl (by omega))
theorem ch0 {a cap : Nat} {s : List Nat} (t : tX M a cap s) (hq : Q (.inl (some (.int (I (s.getD 0 0 : Nat))))) M) : mC E 15 [.ref a, .int (I 0)] M Q := by
  refine t_at (k := 0) t (by omega) (by omega) ?_
  rw [if_pos (by omega)]; exact hq
/-- a walk over the input that puts each character, changed, to the output -/
theorem u_tr_l {x y : Nat} (hx : x < 65536) (hy : y < 65536) (n : Nat) : ∀ (k : Nat) (o : List Nat) (M : mM) (R : RT), n = (R 24).2.2.1.length - k → k ≤ (R 24).2.2.1.length → RX b M R → R 23 = vR fs sp → (fs.getD 2 []).getD 0 0 = y → R 25 = vT o →
    (o.length + (trL x y ((R 24).2.2.1.drop k)).length ≤ 240 → ∀ M' R', RX b M' R' → ag [25] R R' → R' 25 = vT (o ++ trL x y ((R 24).2.2.1.drop k)) → fr M M' b (b + 369) → Q (.inl (some (.int (I 0)))) M') → (240 < o.length + (trL x y ((R 24).2.2.1.drop k)).length → TH E b M R Q) →
    mX E 101 3 [some (.ref (b + 258)), some (.int (I x)), some (.int (I k))] [] M Q := by
  induction n with
  | zero =>
    intro k o M R hn hk h h23 hyv h25 hq ht
    have t24 := h.c24
    have l24 := t24.len
    rw [List.drop_eq_nil_of_le (by omega)] at hq
    refine w101_3 ⟨h.k22, nz h.f22_1 h.1, by rw [h.f22_1]; exact t24.1, fun _ => hq ?_ M R h (ag.refl _ _) ?_ (fr.refl _ _ _), fun c => ?_⟩
    · have := (h.t25 h25).len; simp [trL]; omega
    · rw [h25]; simp [trL]
    · rw [h.f22_1, t24.2.2.2.2.1, I_le (by omega) (by omega) (by omega) (by omega)] at c; omega
  | succ n ih =>
    intro k o M R hn hk h h23 hyv h25 hq ht
    have hb := h.1
    have t24 := h.c24
    have l24 := t24.len
    have hc := t24.ch k
    have dr : trL x y ((R 24).2.2.1.drop k) = (if (R 24).2.2.1.getD k 0 = x then y else (R 24).2.2.1.getD k 0) :: trL x y ((R 24).2.2.1.drop (k + 1)) := by rw [drop_getD (by omega)]; rfl
    rw [dr] at hq ht
    simp only [List.length_cons] at hq ht
    have five : ∀ z : Nat, z < 65536 → z = (if (R 24).2.2.1.getD k 0 = x then y else (R 24).2.2.1.getD k 0) → mX E 101 5 [some (.ref (b + 258)), some (.int (I x)), some (.int (I k))] [.int (I z), .ref (b + 299)] M Q := by
      intro z hz ez
      refine w101_5 ⟨h.c25.1, o_add h h25 hz (fun l M1 h1 f1 => ?_) (fun l => ht (by omega))⟩
      show mX E 101 3 _ [] M1 Q
      rw [I_add]
      have f1' := f1.wide (l := b) (u := b + 369) (by omega) (by omega)
      have e24 : up R 25 (vT (o ++ [z])) 24 = R 24 := up_n (by decide)
      refine ih (k + 1) _ M1 _ (by rw [e24]; omega) (by rw [e24]; omega) h1 (by rw [up_n (by decide)]; exact h23) hyv (up_s _ _ _) ?_ ?_
      · rw [e24]
        intro l3 M' R' j1 j2 j3 j4
        refine hq ?_ M' R' j1 ((ag_up (by decide)).trans j2) ?_ (f1'.then j4)
        · simp only [List.length_append, List.length_singleton] at l3; omega
        · rw [j3, ez]; simp
      · rw [e24]
        intro l3
        refine (ht ?_).st f1' ((ag_up (S := [25]) (by decide)).lo (by decide))
        simp only [List.length_append, List.length_singleton] at l3; omega
    refine w101_3 ⟨h.k22, nz h.f22_1 h.1, by rw [h.f22_1]; exact t24.1, fun c => ?_, fun c => ⟨nz h.f22_2 h.1, ?_⟩⟩
    · rw [h.f22_1, t24.2.2.2.2.1, I_le (by omega) (by omega) (by omega) (by omega)] at c; omega
    · rw [h.f22_1, h.f22_2]
      refine t_at t24 (by omega) (by omega) ?_
      rw [if_pos (by omega), show ((k : Int).toNat) = k by omega]
      refine ⟨fun u => ⟨h.k22, nz h.f22_1 h.1, by rw [h.f22_1]; exact t24.1, ?_⟩, fun u => ⟨h.k22, nz h.f22_0 h.1, by rw [h.f22_0]; exact h.c23.1.1, ?_⟩⟩
      · rw [I_eq (by omega) (by omega) (by omega) (by omega)] at u
        rw [h.f22_1]
        refine t_at t24 (by omega) (by omega) ?_
        rw [if_pos (by omega), show ((k : Int).toNat) = k by omega]
        exact five _ hc (by rw [if_neg (by omega)])
      · rw [I_eq (by omega) (by omega) (by omega) (by omega)] at u
        rw [h.f22_0]
        refine r_at (k := 2) (h.r23 h23) (by omega) (by omega) (fun p cap' tp p1 p2 p3 => ⟨tp.1, ?_⟩)
        rw [show atL fs 2 = fs.getD 2 [] from atL_nat fs 2] at tp
        refine ch0 tp ?_
        rw [hyv]
        exact five y hy (by rw [if_pos (by omega)])
/-- tr: its status, what it puts out -/
def trS (fs : List (List Nat)) : Nat := if (fs.getD 1 []).length = 1 ∧ (fs.getD 2 []).length = 1 then 0 else 2
def trO (fs : List (List Nat)) (inp : List Nat) : List Nat := if (fs.getD 1 []).length = 1 ∧ (fs.getD 2 []).length = 1 then trL ((fs.getD 1 []).getD 0 0) ((fs.getD 2 []).getD 0 0) inp else []
theorem u_tr (h : RX b M R) (h23 : R 23 = vR fs sp) (h25 : R 25 = vT o) (hq : o.length + (trO fs (R 24).2.2.1).length ≤ 240 → ∀ M' R', RX b M' R' → ag [25] R R' → R' 25 = vT (o ++ trO fs (R 24).2.2.1) → fr M M' b (b + 369) → Q (.inl (some (.int (I (trS fs))))) M') (ht : 240 < o.length + (trO fs (R 24).2.2.1).length → TH E b M R Q) : mC E 101 [.ref (b + 258)] M Q := by
  have hb := h.1
  have r23 := h.r23 h23
  have l25 := (h.t25 h25).len
  unfold trO trS at hq
  unfold trO at ht
  have no : ¬ ((fs.getD 1 []).length = 1 ∧ (fs.getD 2 []).length = 1) → Q (.inl (some (.int (I 2)))) M := by
    intro g
    rw [if_neg g, if_neg g] at hq
    refine hq (by simp; omega) M R h (ag.refl _ _) ?_ (fr.refl _ _ _)
    rw [h25]; simp
  refine w101_0 ⟨h.k22, nz h.f22_0 h.1, by rw [h.f22_0]; exact r23.1.1, ?_⟩
  rw [h.f22_0]
  refine r_at (k := 1) r23 (by omega) (by omega) (fun p cap' tp p1 p2 p3 => ⟨tp.1, fun u => no ?_, fun u => ⟨h.k22, nz h.f22_0 h.1, by rw [h.f22_0]; exact r23.1.1, ?_⟩⟩)
  · rw [show atL fs 1 = fs.getD 1 [] from atL_nat fs 1] at tp
    have tl := tp.len
    rw [tp.2.2.2.2.1, I_eq (by omega) (by omega) (by omega) (by omega)] at u; omega
  · rw [show atL fs 1 = fs.getD 1 [] from atL_nat fs 1] at tp
    have tl := tp.len
    rw [tp.2.2.2.2.1, I_eq (by omega) (by omega) (by omega) (by omega)] at u
    rw [h.f22_0]
    refine r_at (k := 2) r23 (by omega) (by omega) (fun p' cap'' tp' p1' p2' p3' => ?_)
    rw [show atL fs 2 = fs.getD 2 [] from atL_nat fs 2] at tp'
    have tl' := tp'.len
    refine ⟨tp'.1, fun w => ⟨h.k22, nz h.f22_0 h.1, by rw [h.f22_0]; exact r23.1.1, ?_⟩, fun w => no ?_⟩
    · rw [tp'.2.2.2.2.1, I_eq (by omega) (by omega) (by omega) (by omega)] at w
      have g : (fs.getD 1 []).length = 1 ∧ (fs.getD 2 []).length = 1 := by omega
      rw [if_pos g, if_pos g] at hq
      rw [if_pos g] at ht
      rw [h.f22_0]
      refine r_at (k := 1) r23 (by omega) (by omega) (fun p3 cap3 tp3 p13 p23 p33 => ⟨tp3.1, ?_⟩)
      rw [show atL fs 1 = fs.getD 1 [] from atL_nat fs 1] at tp3
      refine ch0 tp3 ?_
      exact u_tr_l (tp3.ch 0) (tp'.ch 0) _ 0 o M R rfl (by omega) h h23 rfl h25 hq ht
    · rw [tp'.2.2.2.2.1, I_eq (by omega) (by omega) (by omega) (by omega)] at w; omega
/-- exit's number; below 0 or above 255: wrong -/
def exV (fs : List (List Nat)) (stt : Nat) : Int := if fs.length = 1 then (stt : Int) else numV (fs.getD 1 []) 3
theorem numV_r (s : List Nat) (d : Nat) (hd : d ≤ 3) : -1 ≤ numV s d ∧ numV s d < 1000 := by
  unfold numV; split
  · omega
  · next q =>
    have := digV_r s 0 0 (by omega) (by omega)
    have e : (10 : Int) ^ (0 + s.length) ≤ 1000 := by
      have hl : s.length = 0 ∨ s.length = 1 ∨ s.length = 2 ∨ s.length = 3 := by omega
      rcases hl with r | r | r | r <;> rw [r] <;> decide
    omega
theorem u_exit {stt : Nat} (h : RX b M R) (h23 : R 23 = vR fs sp) (h12 : R 12 = vI [(stt : Int)]) (hst : stt ≤ 999) (hq : (exV fs stt < 0 ∨ 255 < exV fs stt) → Q (.inl (some (.int (I 2)))) M) (hq2 : 0 ≤ exV fs stt → exV fs stt ≤ 255 → ∀ M' R', RX b M' R' → ag [22] R R' → R' 22 = vI [1] → fr M M' b (b + 369) → Q (.inl (some (.int (I (exV fs stt))))) M') : mC E 103 [.ref (b + 258)] M Q := by
  have hb := h.1
  have r23 := h.r23 h23
  have l23 := r23.len
  have d6' : mi M (b + 112) 4 = I (stt : Int) := by have z := h.i12_4; rw [h12] at z; exact z
  have nr := numV_r (fs.getD 1 []) 3 (by omega)
  have two : mX E 103 2 [some (.ref (b + 258)), none] [.int (I (exV fs stt))] M Q := by
    have er : -1 ≤ exV fs stt ∧ exV fs stt < 1000 := by unfold exV; split <;> omega
    refine w103_2 ⟨fun u => hq (Or.inl ?_), fun u => ⟨fun w => ⟨h.k22, fun M3 q3 => ?_⟩, fun w => hq (Or.inr ?_)⟩⟩
    · rw [I_lt (by omega) (by omega) (by omega) (by omega)] at u; exact u
    · rw [I_lt (by omega) (by omega) (by omega) (by omega)] at u; rw [I_le (by omega) (by omega) (by omega) (by omega)] at w
      have h3 := h.u22 q3 (x0 := 1) (by simp)
      exact hq2 (by omega) w M3 _ h3.1 (ag_up (by decide)) (up_s _ _ _) h3.2
    · rw [I_le (by omega) (by omega) (by omega) (by omega)] at w; omega
  unfold exV at two
  refine w103_0 ⟨h.k22, nz h.f22_0 h.1, by rw [h.f22_0]; exact r23.1.1, fun u => ?_, fun u => ⟨nz h.f22_4 h.1, by rw [h.f22_4]; exact h.k12, ?_⟩⟩
  · rw [h.f22_0, r23.2.1, I_eq (by omega) (by omega) (by omega) (by omega)] at u
    rw [if_neg (by omega)] at two
    rw [h.f22_0]
    refine r_at (k := 1) r23 (by omega) (by omega) (fun p cap' tp p1 p2 p3 => ⟨tp.1, ?_⟩)
    rw [show atL fs 1 = fs.getD 1 [] from atL_nat fs 1] at tp
    exact t_asNumber (d := 3) (by omega) tp two
  · rw [h.f22_0, r23.2.1, I_eq (by omega) (by omega) (by omega) (by omega)] at u
    rw [if_pos (by omega)] at two
    rw [h.f22_4, d6']; exact two
end TOOLS
