/-! THE UTILITIES, as functions; the Tools' methods -/
def ecL (fs : List (List Nat)) : Nat → Nat → List Nat
  | 0, _ => [10]
  | n + 1, i => (if 1 < i then [32] else []) ++ (fs.getD i [] ++ ecL fs n (i + 1))
def ctL (fl : eL) (fs : List (List Nat)) : Nat → Nat → List Nat
  | 0, _ => []
  | n + 1, i => txL fl (fdT fl (fs.getD i []) 0) ++ ctL fl fs n (i + 1)
def ctS (fl : eL) (fs : List (List Nat)) : Nat → Nat → Nat → Nat
  | 0, _, st => st
  | n + 1, i, st => ctS fl fs n (i + 1) (if 0 ≤ fdT fl (fs.getD i []) 0 then st else 1)
def unL (fs : List (List Nat)) : Nat → Nat → eL → eL
  | 0, _, vs => vs
  | n + 1, i, vs => unL fs n (i + 1) (delT vs (fdT vs (fs.getD i []) 0))
def rmL (fs : List (List Nat)) : Nat → Nat → eL → Nat → eL × Nat
  | 0, _, fl, st => (fl, st)
  | n + 1, i, fl, st => rmL fs n (i + 1) (delT fl (fdT fl (fs.getD i []) 0)) (if 0 ≤ fdT fl (fs.getD i []) 0 then st else 1)
def cnt10 (u : List Nat) : Nat := (u.filter fun c => Nat.beq c 10).length
def trL (a b : Nat) (u : List Nat) : List Nat := u.map fun c => if c = a then b else c
section TOOLS
variable {E : mE} {M : mM} {Q : mQ} {b : Nat} {R : RT} {fs : List (List Nat)} {sp o inp : List Nat}
theorem RX.t25 (h : RX b M R) {s : List Nat} (e : R 25 = vT s) : tX M (b + 299) 240 s := by
  have := h.c25
  rw [e] at this; exact this
theorem atL_nat (ts : List (List Nat)) (k : Nat) : atL ts (k : Int) = ts.getD k [] := by unfold atL; rw [if_pos (by omega), show ((k : Int).toNat) = k by omega]
/-- a character to the output -/
theorem o_add {c : Nat} (h : RX b M R) (h25 : R 25 = vT o) (hc : c < 65536) (hq : o.length < 240 → ∀ M', RX b M' (up R 25 (vT (o ++ [c]))) → fr M M' (b + 299) (b + 301) → Q (.inl none) M') (ht : o.length = 240 → TH E b M R Q) : mC E 17 [.ref (b + 299), .int (I c)] M Q :=
  t_add (h.t25 h25) hc (fun l M1 t1 f1 => hq l M1 (h.u25 t1 f1).1 f1) (fun l => (ht l).here h)
theorem o_range {q cap f e : Nat} {u : List Nat} (h : RX b M R) (h25 : R 25 = vT o) (t : tX M q cap u) (hq1 : q + 2 ≤ b + 299 ∨ b + 301 ≤ q) (hf : f < 100000) (he : e < 100000) (hq : o.length + (seg u f e).length ≤ 240 → ∀ M', RX b M' (up R 25 (vT (o ++ seg u f e))) → fr M M' (b + 299) (b + 301) → Q (.inl none) M') (ht : 240 < o.length + (seg u f e).length → TH E b M R Q) : mC E 18 [.ref (b + 299), .ref q, .int (I f), .int (I e)] M Q :=
  t_addRange (h.t25 h25) t (by unfold apart; omega) hf he (fun M1 t1 f1 => hq (by have := t1.len; rw [List.length_append] at this; omega) M1 (h.u25 t1 f1).1 f1) (fun M1 s1 l t1 f1 => ht l M1 _ (h.u25 t1 f1).1 ((ag_up (S := [25]) (by decide)).lo (by decide)) (f1.wide (by omega) (by omega)))
theorem u_begin {pp : Bool} (h : RX b M R) (hq : ∀ M' R', RX b M' R' → ag [22, 24, 25] R R' → R' 22 = vI [0] → R' 24 = vT (if pp = true then (R 25).2.2.1 else []) → R' 25 = vT [] → fr M M' b (b + 369) → Q (.inl none) M') : mC E 93 [.ref (b + 258), .int (I (bI pp))] M Q := by
  refine w93_0 ⟨h.k22, nz h.f22_1 h.1, by rw [h.f22_1]; exact h.c24.1, fun M1 q1 => ⟨fun c => ⟨nz h.f22_2 h.1, by rw [h.f22_2]; exact h.c25.1, fun M3 q3 M4 q4 => ?_⟩, fun c => ⟨nz h.f22_2 h.1, ?_⟩⟩⟩
  · rw [h.f22_1] at q1
    rw [h.f22_2] at q3
    have k1 := h.c24.clr q1
    have h1 := h.u24 k1.1 k1.2
    have k3 := h1.1.c25.clr q3
    have h3 := h1.1.u25 k3.1 k3.2
    have h4 := h3.1.u22 q4 (x0 := 0) (by simp)
    rw [bI_0] at c
    refine hq M4 _ h4.1 (((ag_up (by decide)).trans (ag_up (by decide))).trans (ag_up (by decide))) (up_s _ _ _) ?_ ?_ ((h1.2.then h3.2).then h4.2)
    · rw [up_n (by decide), up_n (by decide), up_s, if_neg (by rw [c]; decide)]
    · rw [up_n (by decide), up_s]
  · rw [h.f22_1] at q1
    have k1 := h.c24.clr q1
    have h1 := h.u24 k1.1 k1.2
    have t25 := h1.1.c25
    rw [up_n (by decide)] at t25
    have l25 := t25.len
    rw [h.f22_1, h.f22_2]
    refine t_become k1.1 t25 (by unfold apart; omega) (fun _ M2 t2 f2 => ?_) (fun l => absurd l (by omega))
    have h2 := h1.1.u24 t2 f2
    refine ⟨h2.1.k22, nz h2.1.f22_2 h.1, by rw [h2.1.f22_2]; exact h2.1.c25.1, fun M3 q3 M4 q4 => ?_⟩
    rw [h2.1.f22_2] at q3
    have k3 := h2.1.c25.clr q3
    have h3 := h2.1.u25 k3.1 k3.2
    have h4 := h3.1.u22 q4 (x0 := 0) (by simp)
    rw [bI_0] at c
    refine hq M4 _ h4.1 ((((ag_up (by decide)).trans (ag_up (by decide))).trans (ag_up (by decide))).trans (ag_up (by decide))) (up_s _ _ _) ?_ ?_ (((h1.2.then h2.2).then h3.2).then h4.2)
    · rw [up_n (by decide), up_n (by decide), up_s, if_pos (by cases pp with | true => rfl | false => exact absurd rfl c)]
    · rw [up_n (by decide), up_s]
theorem u_echo_l (n : Nat) : ∀ (i : Nat) (o : List Nat) (M : mM) (R : RT), n = fs.length - i → 1 ≤ i → i ≤ 1000 → RX b M R → R 23 = vR fs sp → R 25 = vT o →
    (o.length + (ecL fs n i).length ≤ 240 → ∀ M' R', RX b M' R' → ag [25] R R' → R' 25 = vT (o ++ ecL fs n i) → fr M M' b (b + 369) → Q (.inl (some (.int (I 0)))) M') → (240 < o.length + (ecL fs n i).length → TH E b M R Q) →
    mX E 95 1 [some (.ref (b + 258)), some (.int (I i))] [] M Q := by
  induction n with
  | zero =>
    intro i o M R hn hi hi2 h h23 h25 hq ht
    have r23 := h.r23 h23
    have l23 := r23.len
    refine w95_1 ⟨h.k22, nz h.f22_0 h.1, by rw [h.f22_0]; exact r23.1.1, fun _ => ⟨nz h.f22_2 h.1, by rw [h.f22_2]; exact h.c25.1, ?_⟩, fun c => ?_⟩
    · rw [h.f22_2]
      refine o_add (c := 10) h h25 (by omega) (fun l M1 h1 f1 => hq (by unfold ecL; simp; omega) M1 _ h1 (ag_up (by decide)) (up_s _ _ _) (f1.wide (by omega) (by omega))) (fun l => ht (by unfold ecL; simp; omega))
    · rw [h.f22_0, r23.2.1, I_le (by omega) (by omega) (by omega) (by omega)] at c; omega
  | succ n ih =>
    intro i o M R hn hi hi2 h h23 h25 hq ht
    have hb := h.1
    have r23 := h.r23 h23
    have l23 := r23.len
    unfold ecL at hq ht
    have two : ∀ (o1 : List Nat) (M1 : mM) (R1 : RT), RX b M1 R1 → ag [25] R R1 → R1 25 = vT o1 → fr M M1 b (b + 369) → o1 = o ++ (if 1 < i then [32] else []) → mX E 95 2 [some (.ref (b + 258)), some (.int (I i))] [] M1 Q := by
      intro o1 M1 R1 h1 a1 e1 f1 eo
      have r23' := h1.r23 (by rw [a1 23 (by decide)]; exact h23)
      refine w95_2 ⟨h1.k22, nz h1.f22_2 h.1, nz h1.f22_0 h.1, by rw [h1.f22_0]; exact r23'.1.1, ?_⟩
      rw [h1.f22_0, h1.f22_2]
      refine r_at r23' (by omega) (by omega) (fun p cap' tp p1 p2 p3 => ⟨h1.k22, nz h1.f22_0 h.1, by rw [h1.f22_0]; exact r23'.1.1, ?_⟩)
      rw [h1.f22_0]
      refine r_at r23' (by omega) (by omega) (fun p' cap'' tp' p1' p2' p3' => ⟨tp'.1, h1.c25.1, ?_⟩)
      rw [atL_nat] at tp tp'
      rw [tp'.2.2.2.2.1]
      have tl := tp.len
      rw [eo] at e1
      have lens : (o ++ (if 1 < i then [32] else [])).length = o.length + (if 1 < i then [32] else []).length := List.length_append
      refine o_range (f := 0) h1 e1 tp (by omega) (by omega) (by omega) (fun l M2 h2 f2 => ?_) (fun l => ?_)
      · rw [seg_all] at l h2
        have f2' := f2.wide (l := b) (u := b + 369) (by omega) (by omega)
        show mX E 95 1 _ [] M2 Q
        rw [I_add]
        refine ih (i + 1) _ M2 _ (by omega) (by omega) (by omega) h2 (by rw [up_n (by decide), a1 23 (by decide)]; exact h23) (up_s _ _ _) (fun l3 M' R' j1 j2 j3 j4 => hq ?_ M' R' j1 ((a1.trans (ag_up (by decide))).trans j2) ?_ ((f1.then f2').then j4)) (fun l3 => (ht ?_).st (f1.then f2') ((a1.trans (ag_up (S := [25]) (by decide))).lo (by decide)))
        · simp only [List.length_append] at l3 lens ⊢; omega
        · rw [j3]; simp
        · simp only [List.length_append] at l3 lens ⊢; omega
      · rw [seg_all] at l
        refine (ht ?_).st f1 (a1.lo (by decide))
        simp only [List.length_append] at l lens ⊢; omega
    refine w95_1 ⟨h.k22, nz h.f22_0 h.1, by rw [h.f22_0]; exact r23.1.1, fun c => ?_, fun c => ⟨fun u => two o M R h (ag.refl _ _) h25 (fr.refl _ _ _) ?_, fun u => ⟨nz h.f22_2 h.1, by rw [h.f22_2]; exact h.c25.1, ?_⟩⟩⟩
    · rw [h.f22_0, r23.2.1, I_le (by omega) (by omega) (by omega) (by omega)] at c; omega
    · rw [I_le (by omega) (by omega) (by omega) (by omega)] at u; rw [if_neg (by omega), List.append_nil]
    · rw [I_le (by omega) (by omega) (by omega) (by omega)] at u
      rw [h.f22_2]
      refine o_add (c := 32) h h25 (by omega) (fun l M1 h1 f1 => two _ M1 _ h1 (ag_up (by decide)) (up_s _ _ _) (f1.wide (by omega) (by omega)) ?_) (fun l => ht ?_)
      · rw [if_pos (by omega)]
      · rw [if_pos (by omega)]; simp only [List.length_append, List.length_singleton]; omega
theorem u_echo (h : RX b M R) (h23 : R 23 = vR fs sp) (h25 : R 25 = vT o) (hq : o.length + (ecL fs (fs.length - 1) 1).length ≤ 240 → ∀ M' R', RX b M' R' → ag [25] R R' → R' 25 = vT (o ++ ecL fs (fs.length - 1) 1) → fr M M' b (b + 369) → Q (.inl (some (.int (I 0)))) M') (ht : 240 < o.length + (ecL fs (fs.length - 1) 1).length → TH E b M R Q) : mC E 95 [.ref (b + 258)] M Q :=
  w95_0 (u_echo_l _ 1 o M R rfl (by omega) (by omega) h h23 h25 hq ht)
theorem u_cat_l {fl : eL} (n : Nat) : ∀ (i st : Nat) (o : List Nat) (M : mM) (R : RT) (d3 : Option Value), n = fs.length - i → st ≤ 1 → i ≤ 1000 → RX b M R → R 23 = vR fs sp → R 25 = vT o → (R 15).1 = fl →
    (o.length + (ctL fl fs n i).length ≤ 240 → ∀ M' R', RX b M' R' → ag [25] R R' → R' 25 = vT (o ++ ctL fl fs n i) → fr M M' b (b + 369) → Q (.inl (some (.int (I (ctS fl fs n i st))))) M') → (240 < o.length + (ctL fl fs n i).length → TH E b M R Q) →
    mX E 96 2 [some (.ref (b + 258)), some (.int (I st)), some (.int (I i)), d3] [] M Q := by
  induction n with
  | zero =>
    intro i st o M R d3 hn hs hi h h23 h25 h15 hq ht
    have r23 := h.r23 h23
    have l23 := r23.len
    refine w96_2 ⟨h.k22, nz h.f22_0 h.1, by rw [h.f22_0]; exact r23.1.1, fun _ => hq ?_ M R h (ag.refl _ _) ?_ (fr.refl _ _ _), fun c => ?_⟩
    · have := (h.t25 h25).len; unfold ctL; simp; omega
    · unfold ctL; rw [List.append_nil]; exact h25
    · rw [h.f22_0, r23.2.1, I_le (by omega) (by omega) (by omega) (by omega)] at c; omega
  | succ n ih =>
    intro i st o M R d3 hn hs hi h h23 h25 h15 hq ht
    have hb := h.1
    have r23 := h.r23 h23
    have l23 := r23.len
    have e15 := h.c15
    rw [h15] at e15
    have l15 := e15.len
    have fd := fdT_r fl (fs.getD i []) 0
    unfold ctL ctS at hq
    unfold ctL at ht
    refine w96_2 ⟨h.k22, nz h.f22_0 h.1, by rw [h.f22_0]; exact r23.1.1, fun c => ?_, fun c => ⟨nz h.f22_4 h.1, by rw [h.f22_4]; exact h.k12, nz2 h.f22_4 h.f12_2 h.1, ?_⟩⟩
    · rw [h.f22_0, r23.2.1, I_le (by omega) (by omega) (by omega) (by omega)] at c; omega
    · rw [h.f22_0, h.f22_4, h.f12_2]
      refine r_at r23 (by omega) (by omega) (fun p cap' tp p1 p2 p3 => ⟨e15.1.1, ?_⟩)
      rw [atL_nat] at tp
      refine tb_find e15 tp ⟨h.k22, nz h.f22_2 h.1, nz h.f22_4 h.1, by rw [h.f22_4]; exact h.k12, nz2 h.f22_4 h.f12_2 h.1, by rw [h.f22_4, h.f12_2]; exact e15.1.1, ?_⟩
      rw [h.f22_4, h.f12_2, h.f22_2]
      refine tb_textAt e15 (by omega) (by omega) (fun q cap1 tq q1 q2 q3 _ => ⟨h.k22, nz h.f22_4 h.1, by rw [h.f22_4]; exact h.k12, nz2 h.f22_4 h.f12_2 h.1, by rw [h.f22_4, h.f12_2]; exact e15.1.1, ?_⟩)
      rw [h.f22_4, h.f12_2]
      refine tb_textAt e15 (by omega) (by omega) (fun q' cap2 tq' q1' q2' q3' _ => ⟨tq'.1, h.c25.1, ?_⟩)
      rw [tq'.2.2.2.2.1]
      have tl := tq.len
      refine o_range (f := 0) h h25 tq (by omega) (by omega) (by omega) (fun l M2 h2 f2 => ?_) (fun l => ht ?_)
      · rw [seg_all] at l h2
        have f2' := f2.wide (l := b) (u := b + 369) (by omega) (by omega)
        have go : ∀ st1 : Nat, st1 = (if 0 ≤ fdT fl (fs.getD i []) 0 then st else 1) → mX E 96 2 [some (.ref (b + 258)), some (.int (I st1)), some (.int (I i + I 1)), some (.int (I (fdT fl (fs.getD i []) 0)))] [] M2 Q := by
          intro st1 es
          rw [I_add]
          refine ih (i + 1) st1 _ M2 _ _ (by omega) (by rw [es]; split <;> omega) (by omega) h2 (by rw [up_n (by decide)]; exact h23) (up_s _ _ _) (by rw [up_n (by decide)]; exact h15) (fun l3 M' R' j1 j2 j3 j4 => ?_) (fun l3 => (ht ?_).st f2' ((ag_up (S := [25]) (by decide)).lo (by decide)))
          · rw [es]
            refine hq ?_ M' R' j1 ((ag_up (by decide)).trans j2) ?_ (f2'.then j4)
            · simp only [List.length_append] at l3 ⊢; omega
            · rw [j3]; simp
          · simp only [List.length_append] at l3 ⊢; omega
        refine ⟨fun u => go st ?_, fun u => go 1 ?_⟩
        · rw [I_le (by omega) (by omega) (by omega) (by omega)] at u; rw [if_pos u]
        · rw [I_le (by omega) (by omega) (by omega) (by omega)] at u; rw [if_neg u]
      · rw [seg_all] at l
        simp only [List.length_append]; omega
/-- what cat puts out -/
def catO (fl : eL) (fs : List (List Nat)) (inp : List Nat) : List Nat := (if fs.length = 1 then inp else []) ++ ctL fl fs (fs.length - 1) 1
theorem u_cat (h : RX b M R) (h23 : R 23 = vR fs sp) (h25 : R 25 = vT o) (hq : o.length + (catO (R 15).1 fs (R 24).2.2.1).length ≤ 240 → ∀ M' R', RX b M' R' → ag [25] R R' → R' 25 = vT (o ++ catO (R 15).1 fs (R 24).2.2.1) → fr M M' b (b + 369) → Q (.inl (some (.int (I (ctS (R 15).1 fs (fs.length - 1) 1 0))))) M') (ht : 240 < o.length + (catO (R 15).1 fs (R 24).2.2.1).length → TH E b M R Q) : mC E 96 [.ref (b + 258)] M Q := by
  have hb := h.1
  have r23 := h.r23 h23
  have l23 := r23.len
  have t24 := h.c24
  have l24 := t24.len
  unfold catO at hq ht
  refine w96_0 ⟨h.k22, nz h.f22_0 h.1, by rw [h.f22_0]; exact r23.1.1, fun c => ?_, fun c => ⟨nz h.f22_2 h.1, nz h.f22_1 h.1, by rw [h.f22_1]; exact t24.1, by rw [h.f22_2]; exact h.c25.1, ?_⟩⟩
  · rw [h.f22_0, r23.2.1, I_eq (by omega) (by omega) (by omega) (by omega)] at c
    rw [if_neg (by omega), List.nil_append] at hq ht
    exact u_cat_l (fl := (R 15).1) _ 1 0 o M R none rfl (by omega) (by omega) h h23 h25 rfl hq ht
  · rw [h.f22_0, r23.2.1, I_eq (by omega) (by omega) (by omega) (by omega)] at c
    rw [if_pos (by omega)] at hq ht
    rw [h.f22_2, h.f22_1, t24.2.2.2.2.1]
    refine o_range (f := 0) h h25 t24 (by omega) (by omega) (by omega) (fun l M2 h2 f2 => ?_) (fun l => ht ?_)
    · rw [seg_all] at l h2
      have f2' := f2.wide (l := b) (u := b + 369) (by omega) (by omega)
      refine u_cat_l (fl := (R 15).1) _ 1 0 _ M2 _ none rfl (by omega) (by omega) h2 (by rw [up_n (by decide)]; exact h23) (up_s _ _ _) (by rw [up_n (by decide)]) (fun l3 M' R' j1 j2 j3 j4 => hq ?_ M' R' j1 ((ag_up (by decide)).trans j2) ?_ (f2'.then j4)) (fun l3 => (ht ?_).st f2' ((ag_up (S := [25]) (by decide)).lo (by decide)))
      · simp only [List.length_append] at l3 ⊢; omega
      · rw [j3]; simp
      · simp only [List.length_append] at l3 ⊢; omega
    · rw [seg_all] at l
      simp only [List.length_append]; omega
end TOOLS
