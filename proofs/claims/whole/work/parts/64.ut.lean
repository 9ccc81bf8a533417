/-! THE UTILITIES TOGETHER (the call itself is still owed); what a command's redirections and assignments do -/
def utW : List (List Nat) := [[101, 99, 104, 111], [99, 97, 116], [116, 114, 117, 101], [102, 97, 108, 115, 101], [115, 101, 116], [117, 110, 115, 101, 116], [114, 109], [119, 99], [104, 101, 97, 100], [114, 101, 118], [115, 111, 114, 116], [117, 110, 105, 113], [103, 114, 101, 112], [116, 114], [116, 101, 115, 116], [101, 120, 105, 116]]
def utMin : List Nat := [0, 0, 0, 0, 0, 0, 0, 0, 1, 0, 0, 0, 1, 2, 1, 0, 0]
def utMax : List Nat := [16, 16, 0, 0, 16, 16, 16, 0, 1, 0, 0, 0, 1, 2, 3, 1, 16]
/-- where a word stands among the names; 16 when it is none -/
def utI (w : List Nat) : List (List Nat) → Nat → Nat
  | [], k => k
  | x :: xs, k => if w = x then k else utI w xs (k + 1)
def utD (w : List Nat) : Nat := utI w utW 0
/-- test: 0, 1 or 2 -/
def tsS (fs : List (List Nat)) (fl : eL) : Nat :=
  if fs.length = 2 then (if (fs.getD 1 []).length = 0 then 1 else 0)
  else if fs.length = 3 ∧ fs.getD 1 [] = [45, 101] then (if 0 ≤ fdT fl (fs.getD 2 []) 0 then 0 else 1)
  else if fs.length = 4 ∧ fs.getD 2 [] = [61] then (if fs.getD 1 [] = fs.getD 3 [] then 0 else 1)
  else if fs.length = 4 ∧ fs.getD 2 [] = [33, 61] then (if fs.getD 1 [] = fs.getD 3 [] then 1 else 0)
  else 2
abbrev uR : Type := (Nat × List Nat) × (eL × List (List Nat) × eL) × Bool
/-- what is put out has its limit -/
def lim (r : uR) : Option uR := if r.1.2.length ≤ 240 then some r else none
def ut (fs : List (List Nat)) (inp : List Nat) (vs : eL) (po : List (List Nat)) (fl : eL) (stt : Nat) : Option uR :=
  if ¬ (utMin.getD (utD (fs.getD 0 [])) 0 ≤ fs.length - 1 ∧ fs.length - 1 ≤ utMax.getD (utD (fs.getD 0 [])) 0) then some ((2, []), (vs, po, fl), false)
  else match utD (fs.getD 0 []) with
  | 0 => lim ((0, ecL fs (fs.length - 1) 1), (vs, po, fl), false)
  | 1 => lim ((ctS fl fs (fs.length - 1) 1 0, catO fl fs inp), (vs, po, fl), false)
  | 2 => some ((0, []), (vs, po, fl), false)
  | 3 => some ((1, []), (vs, po, fl), false)
  | 4 => if fs.length ≤ 10 then some ((0, []), (vs, fs.drop 1, fl), false) else none
  | 5 => some ((0, []), (unL fs (fs.length - 1) 1 vs, po, fl), false)
  | 6 => some (((rmL fs (fs.length - 1) 1 fl 0).2, []), (vs, po, (rmL fs (fs.length - 1) 1 fl 0).1), false)
  | 7 => lim ((0, wcO inp), (vs, po, fl), false)
  | 8 => lim ((hdS fs, hdO fs inp (lnL inp 240 0)), (vs, po, fl), false)
  | 9 => lim ((0, rvL inp (lnL inp 240 0)), (vs, po, fl), false)
  | 10 => lim ((0, ptL inp (srN inp ((lnL inp 240 0).length - 1) 1 (lnL inp 240 0))), (vs, po, fl), false)
  | 11 => lim ((0, chL inp (lnL inp 240 0) (lnL inp 240 0).length 0), (vs, po, fl), false)
  | 12 => lim ((grS inp (fs.getD 1 []) (lnL inp 240 0) 1, grL inp (fs.getD 1 []) (lnL inp 240 0)), (vs, po, fl), false)
  | 13 => lim ((trS fs, trO fs inp), (vs, po, fl), false)
  | 14 => some ((tsS fs fl, []), (vs, po, fl), false)
  | 15 => if exV fs stt < 0 ∨ 255 < exV fs stt then some ((2, []), (vs, po, fl), false) else some (((exV fs stt).toNat, []), (vs, po, fl), true)
  | _ => some ((127, []), (vs, po, fl), false)
section CALL
variable {E : mE} {M : mM} {Q : mQ} {b : Nat} {R : RT} {fs : List (List Nat)} {sp inp : List Nat} {vs fl : eL} {po : List (List Nat)} {stt : Nat}
theorem utW_k : ∀ k, k < 16 → utW.getD k [] = kWs.getD k [] := by decide
theorem utI_le (w : List Nat) : ∀ (l : List (List Nat)) (k : Nat), utI w l k ≤ k + l.length
  | [], k => Nat.le_refl k
  | x :: l, k => by
    unfold utI
    split
    · omega
    · have := utI_le w l (k + 1)
      simp only [List.length_cons]; omega
theorem utD_le (w : List Nat) : utD w ≤ 16 := by
  have := utI_le w utW 0
  have e : utW.length = 16 := rfl
  unfold utD; omega
theorem u_called {a cap : Nat} {w : List Nat} (t : tX M a cap w) (hq : Q (.inl (some (.ref (E.2 (300 + utD w))))) M) : mC E 115 [.ref a] M Q := by
  have e16 : utW.length = 16 := rfl
  have go : ∀ (n k : Nat), n = 17 - k → k ≤ 17 → (k ≤ 16 → Q (.inl (some (.ref (E.2 (300 + utI w (utW.drop k) k))))) M) → (17 ≤ k → Q (.inl (some (.ref (E.2 316)))) M) → mX E 115 1 [some (.ref a), some (.int (I k))] [] M Q := by
    intro n
    induction n with
    | zero =>
      intro k hn hk h1 h2
      refine w115_1 ⟨0, by omega, rfl, fun _ => h2 (by omega), fun z => ?_⟩
      rw [I_nI, I_le (by omega) (by omega) (by omega) (by omega)] at z; omega
    | succ n ih =>
      intro k hn hk h1 h2
      have h1' := h1 (by omega)
      refine w115_1 ⟨0, by omega, rfl, fun z => ?_, fun _ => ⟨0, by omega, rfl, I_in (by omega) (by omega) (by omega), k, by omega, by rw [I_ntn (by omega)], t.1, t_is t (by omega) ⟨fun z => ?_, fun z => ⟨0, by omega, rfl, I_in (by omega) (by omega) (by omega), ?_⟩⟩⟩⟩
      · rw [I_nI, I_le (by omega) (by omega) (by omega) (by omega)] at z; omega
      · rw [bI_0, decide_eq_false_iff_not] at z
        rw [I_add]
        refine ih (k + 1) (by omega) (by omega) (fun k16 => ?_) (fun k17 => ?_)
        · rw [drop_getL (d := []) (by omega), utW_k k (by omega)] at h1'
          unfold utI at h1'
          rw [if_neg z] at h1'; exact h1'
        · have e : k = 16 := by omega
          subst e
          rw [List.drop_eq_nil_of_le (by omega)] at h1'
          exact h1'
      · rw [bI_0, Bool.not_eq_false, decide_eq_true_eq] at z
        rw [I_ntn (by omega)]
        by_cases k16 : k = 16
        · subst k16
          rw [List.drop_eq_nil_of_le (by omega)] at h1'
          exact h1'
        · rw [drop_getL (d := []) (by omega), utW_k k (by omega)] at h1'
          unfold utI at h1'
          rw [if_pos z] at h1'; exact h1'
  exact w115_0 (go _ 0 rfl (by omega) (fun _ => hq) (fun z => absurd z (by decide)))
theorem u_takes {i : Nat} {n : Int} (hi : i < 17) (h1 : -1000 ≤ n) (h2 : n ≤ 1000) (hq : Q (.inl (some (.int (I (bI (decide ((kMin i : Int) ≤ n ∧ n ≤ kMax i))))))) M) : mC E 116 [.ref (E.2 (300 + i)), .int (I n)] M Q := by
  have b1 : ∀ i, i < 17 → kMin i ≤ 16 ∧ kMax i ≤ 16 := by decide
  have b2 := b1 i hi
  refine w116_0 ⟨i, hi, rfl, fun z => ?_, fun z => ⟨i, hi, rfl, fun z2 => ?_, fun z2 => ?_⟩⟩
  · rw [I_nI, I_lt (by omega) (by omega) (by omega) (by omega)] at z
    rw [decide_eq_false (fun y => by omega)] at hq; exact hq
  · rw [I_nI, I_lt (by omega) (by omega) (by omega) (by omega)] at z2
    rw [decide_eq_false (fun y => by omega)] at hq; exact hq
  · rw [I_nI, I_lt (by omega) (by omega) (by omega) (by omega)] at z z2
    rw [decide_eq_true (by omega)] at hq; exact hq
theorem u_test (h : RX b M R) (h23 : R 23 = vR fs sp) (h15 : (R 15).1 = fl) (hq : Q (.inl (some (.int (I (tsS fs fl))))) M) : mC E 102 [.ref (b + 258)] M Q := by
  have hb := h.1
  have r23 := h.r23 h23
  have l23 := r23.len
  have t15 := h.g15 h15
  have fr15 := fdT_r fl (fs.getD 2 []) 0
  have l15 := t15.len
  unfold tsS at hq
  refine w102_0 ⟨h.k22, nz h.f22_0 h.1, by rw [h.f22_0]; exact r23.1.1, ?_⟩
  rw [h.f22_0]
  refine r_at (k := 1) r23 (by omega) (by omega) (fun p cap' tp p1 p2 p3 => ⟨h.k22, nz h.f22_0 h.1, by rw [h.f22_0]; exact r23.1.1, ?_⟩)
  rw [show atL fs 1 = fs.getD 1 [] from atL_nat fs 1] at tp
  have lp := tp.len
  rw [h.f22_0]
  refine r_at (k := 2) r23 (by omega) (by omega) (fun q cap2 tq q1 q2 q3 => ⟨h.k22, nz h.f22_0 h.1, by rw [h.f22_0]; exact r23.1.1, ?_⟩)
  rw [show atL fs 2 = fs.getD 2 [] from atL_nat fs 2] at tq
  -- the fourth field
  have nine : ¬ fs.length = 2 → ¬ (fs.length = 3 ∧ fs.getD 1 [] = [45, 101]) → ¬ (fs.length = 4 ∧ fs.getD 2 [] = [61]) → mX E 102 9 [some (.ref (b + 258)), some (.ref p), some (.ref q), none] [] M Q := by
    intro n2 n3 n4
    rw [if_neg n2, if_neg n3, if_neg n4] at hq
    refine w102_9 ⟨h.k22, nz h.f22_0 h.1, by rw [h.f22_0]; exact r23.1.1, fun z => ?_, fun z => ⟨tq.1, t_is tq (i := 19) (by omega) ⟨fun z2 => ?_, fun z2 => ⟨h.k22, nz h.f22_0 h.1, by rw [h.f22_0]; exact r23.1.1, ?_⟩⟩⟩⟩
    · rw [h.f22_0, r23.2.1, I_eq (by omega) (by omega) (by omega) (by omega)] at z
      rw [if_neg (fun y => by omega)] at hq; exact hq
    · rw [h.f22_0, r23.2.1, I_eq (by omega) (by omega) (by omega) (by omega)] at z
      rw [bI_0, decide_eq_false_iff_not] at z2
      rw [if_neg (fun y => z2 y.2)] at hq; exact hq
    · rw [h.f22_0, r23.2.1, I_eq (by omega) (by omega) (by omega) (by omega)] at z
      rw [bI_0, Bool.not_eq_false, decide_eq_true_eq] at z2
      rw [if_pos ⟨by omega, z2⟩] at hq
      rw [h.f22_0]
      refine r_at (k := 3) r23 (by omega) (by omega) (fun x cap3 tx x1 x2 x3 => ⟨tp.1, t_order tp tx ?_⟩)
      rw [show atL fs 3 = fs.getD 3 [] from atL_nat fs 3] at tx ⊢
      have bd := ordS_bd (fs.getD 1 []) (fs.getD 3 []) tp.2.2.2.2.2.2.2.2 tx.2.2.2.2.2.2.2.2 (by omega) (by have := tx.len; omega)
      have o0 := ordS_0 (fs.getD 1 []) (fs.getD 3 [])
      refine ⟨fun y => ?_, fun y => ?_⟩
      · rw [I_eq (by omega) (by omega) (by omega) (by omega)] at y
        rw [if_pos (o0.mp y)] at hq
        exact w102_11 ⟨fun _ => hq, fun w => absurd rfl w⟩
      · rw [I_eq (by omega) (by omega) (by omega) (by omega)] at y
        rw [if_neg (fun w => y (o0.mpr w))] at hq
        exact w102_11 ⟨fun w => absurd w (by decide), fun _ => hq⟩
  have six : ¬ fs.length = 2 → ¬ (fs.length = 3 ∧ fs.getD 1 [] = [45, 101]) → mX E 102 6 [some (.ref (b + 258)), some (.ref p), some (.ref q), none] [] M Q := by
    intro n2 n3
    refine w102_6 ⟨h.k22, nz h.f22_0 h.1, by rw [h.f22_0]; exact r23.1.1, fun z => nine n2 n3 (fun y => ?_), fun z => ⟨tq.1, t_is tq (i := 18) (by omega) ⟨fun z2 => nine n2 n3 (fun y => ?_), fun z2 => ⟨h.k22, nz h.f22_0 h.1, by rw [h.f22_0]; exact r23.1.1, ?_⟩⟩⟩⟩
    · rw [h.f22_0, r23.2.1, I_eq (by omega) (by omega) (by omega) (by omega)] at z; omega
    · rw [bI_0, decide_eq_false_iff_not] at z2
      exact z2 y.2
    · rw [h.f22_0, r23.2.1, I_eq (by omega) (by omega) (by omega) (by omega)] at z
      rw [bI_0, Bool.not_eq_false, decide_eq_true_eq] at z2
      rw [if_neg n2, if_neg n3, if_pos ⟨by omega, z2⟩] at hq
      rw [h.f22_0]
      refine r_at (k := 3) r23 (by omega) (by omega) (fun x cap3 tx x1 x2 x3 => ⟨tp.1, t_order tp tx ?_⟩)
      rw [show atL fs 3 = fs.getD 3 [] from atL_nat fs 3] at tx ⊢
      have bd := ordS_bd (fs.getD 1 []) (fs.getD 3 []) tp.2.2.2.2.2.2.2.2 tx.2.2.2.2.2.2.2.2 (by omega) (by have := tx.len; omega)
      have o0 := ordS_0 (fs.getD 1 []) (fs.getD 3 [])
      refine ⟨fun y => ?_, fun y => ?_⟩
      · rw [I_eq (by omega) (by omega) (by omega) (by omega)] at y
        rw [if_neg (fun w => y (o0.mpr w))] at hq
        exact w102_8 ⟨fun _ => hq, fun w => absurd rfl w⟩
      · rw [I_eq (by omega) (by omega) (by omega) (by omega)] at y
        rw [if_pos (o0.mp y)] at hq
        exact w102_8 ⟨fun w => absurd w (by decide), fun _ => hq⟩
  rw [h.f22_0, r23.2.1]
  refine ⟨fun n2 => ⟨fun n3 => six ?_ (fun y => ?_), fun e3 => ⟨tp.1, t_is tp (i := 17) (by omega) ⟨fun z => six ?_ (fun y => ?_), fun z => ⟨h.k22, nz h.f22_4 h.1, by rw [h.f22_4]; exact h.k12, nz2 h.f22_4 h.f12_2 h.1, by rw [h.f22_4, h.f12_2]; exact t15.1.1, ?_⟩⟩⟩⟩, fun e2 => ⟨tp.1, fun z => ?_, fun z => ?_⟩⟩
  · rw [I_eq (by omega) (by omega) (by omega) (by omega)] at n2; omega
  · rw [I_eq (by omega) (by omega) (by omega) (by omega)] at n3; omega
  · rw [I_eq (by omega) (by omega) (by omega) (by omega)] at n2; omega
  · rw [bI_0, decide_eq_false_iff_not] at z
    exact z y.2
  · rw [I_eq (by omega) (by omega) (by omega) (by omega)] at n2 e3
    rw [bI_0, Bool.not_eq_false, decide_eq_true_eq] at z
    rw [if_neg (by omega), if_pos ⟨by omega, z⟩] at hq
    rw [h.f22_4, h.f12_2]
    refine tb_find t15 tq ⟨fun y => ?_, fun y => ?_⟩
    · rw [I_lt (by omega) (by omega) (by omega) (by omega)] at y
      rw [if_neg (by omega)] at hq
      exact w102_5 ⟨fun _ => hq, fun w => absurd rfl w⟩
    · rw [I_lt (by omega) (by omega) (by omega) (by omega)] at y
      rw [if_pos (by omega)] at hq
      exact w102_5 ⟨fun w => absurd w (by decide), fun _ => hq⟩
  · rw [I_eq (by omega) (by omega) (by omega) (by omega)] at e2
    rw [tp.2.2.2.2.1, I_le (by omega) (by omega) (by omega) (by omega)] at z
    rw [if_pos (by omega), if_pos (by omega)] at hq
    exact w102_2 ⟨fun _ => hq, fun w => absurd rfl w⟩
  · rw [I_eq (by omega) (by omega) (by omega) (by omega)] at e2
    rw [tp.2.2.2.2.1, I_le (by omega) (by omega) (by omega) (by omega)] at z
    rw [if_pos (by omega), if_neg (by omega)] at hq
    exact w102_2 ⟨fun w => absurd w (by decide), fun _ => hq⟩
theorem u_call (h : RX b M R) (h23 : R 23 = vR fs sp) (h24 : (R 24).2.2.1 = inp) (h25 : R 25 = vT []) (h22 : R 22 = vI [0]) (h13 : (R 13).1 = vs) (h14 : (R 14).2.1 = po) (h15 : (R 15).1 = fl) (h12 : R 12 = vI [(stt : Int)]) (hst : stt ≤ 255) (hfs : 1 ≤ fs.length)
    (hq : ∀ r, ut fs inp vs po fl stt = some r → ∀ M' R', RX b M' R' → ag [13, 14, 15, 22, 25, 27] R R' → R' 25 = vT r.1.2 → (R' 13).1 = r.2.1.1 → (R' 14).2.1 = r.2.1.2.1 → (R' 15).1 = r.2.1.2.2 → R' 22 = vI [bI r.2.2] → fr M M' b (b + 369) → Q (.inl (some (.int (I r.1.1)))) M') (ht : ut fs inp vs po fl stt = none → TH E b M R Q) : mC E 94 [.ref (b + 258)] M Q := by
  have hb := h.1
  have r23 := h.r23 h23
  have l23 := r23.len
  have dl := utD_le (fs.getD 0 [])
  refine w94_0 ⟨h.k22, nz h.f22_0 h.1, by rw [h.f22_0]; exact r23.1.1, ?_⟩
  rw [h.f22_0]
  refine r_at (k := 0) r23 (by omega) (by omega) (fun p cap' tp p1 p2 p3 => ?_)
  rw [show atL fs 0 = fs.getD 0 [] from atL_nat fs 0] at tp
  refine u_called tp ⟨h.k22, nz h.f22_0 h.1, by rw [h.f22_0]; exact r23.1.1, utD (fs.getD 0 []), by omega, rfl, ?_⟩
  rw [h.f22_0, r23.2.1, I_sub]
  have mm : ∀ d, d ≤ 16 → utMin.getD d 0 = kMin d ∧ utMax.getD d 0 = kMax d := by decide
  have md := mm _ dl
  have ud : ut fs inp vs po fl stt = ut fs inp vs po fl stt := rfl
  conv at ud => rhs; unfold ut
  generalize hd : utD (fs.getD 0 []) = d at *
  refine u_takes (by omega) (by omega) (by omega) ⟨fun z => ⟨h.k22, nz h.f22_5 h.1, by rw [h.f22_5]; exact h.c26.1, ?_⟩, fun z => ?_⟩
  · have tk : (kMin d : Int) ≤ (fs.length : Int) - 1 ∧ (fs.length : Int) - 1 ≤ kMax d := by
      by_cases y : (kMin d : Int) ≤ (fs.length : Int) - 1 ∧ (fs.length : Int) - 1 ≤ kMax d
      · exact y
      · rw [decide_eq_false y] at z; exact absurd rfl z
    rw [if_neg (fun y => y ⟨by rw [md.1]; omega, by rw [md.2]; omega⟩)] at ud
    rw [h.f22_5]
    refine l_read h (fun M1 R1 h1 a1 e27 f1 => ⟨d, by omega, rfl, k_ordinal (by omega) ⟨0, by omega, rfl, I_in (by omega) (by omega) (by omega), ?_⟩⟩)
    have e25 : R1 25 = vT [] := by rw [a1 25 (by decide)]; exact h25
    have e24 : R1 24 = R 24 := a1 24 (by decide)
    have e23 : R1 23 = vR fs sp := by rw [a1 23 (by decide)]; exact h23
    have e15 : (R1 15).1 = fl := by rw [a1 15 (by decide)]; exact h15
    have e13 : (R1 13).1 = vs := by rw [a1 13 (by decide)]; exact h13
    have e14 : (R1 14).2.1 = po := by rw [a1 14 (by decide)]; exact h14
    have e22 : R1 22 = vI [0] := by rw [a1 22 (by decide)]; exact h22
    have e12 : R1 12 = vI [(stt : Int)] := by rw [a1 12 (by decide)]; exact h12
    have e24' : (R1 24).2.2.1 = inp := by rw [e24]; exact h24
    have i24 : (R 24).2.2.1 = inp := h24
    rw [i24] at e27
    have hw : ∀ r ∈ lnL inp 240 0, lnW (R1 24).2.2.1 r := by rw [e24']; exact lnL_w inp 240 0
    -- how an output ends
    have out : ∀ (k : Nat) (X : List Nat), ut fs inp vs po fl stt = lim ((k, X), (vs, po, fl), false) → (([] : List Nat).length + X.length ≤ 240 → ∀ M' R', RX b M' R' → ag [25, 27] R1 R' → R' 25 = vT ([] ++ X) → fr M1 M' b (b + 369) → Q (.inl (some (.int (I k)))) M') ∧ (240 < ([] : List Nat).length + X.length → TH E b M1 R1 Q) := by
      intro k X e
      unfold lim at e
      refine ⟨fun le M' R' g1 g2 g3 g4 => ?_, fun gt => ?_⟩
      · rw [if_pos (by simpa using le)] at e
        have rr : ∀ j, ([25, 27] : List Nat).contains j = false → ([27] : List Nat).contains j = false → R' j = R j := fun j q1 q2 => (g2 j q1).trans (a1 j q2)
        refine hq _ e M' R' g1 (fun j hj => ?_) (by simpa using g3) (by rw [rr 13 (by decide) (by decide)]; exact h13) (by rw [rr 14 (by decide) (by decide)]; exact h14) (by rw [rr 15 (by decide) (by decide)]; exact h15) (by rw [rr 22 (by decide) (by decide)]; exact h22) (f1.then g4)
        simp only [List.contains_cons, List.contains_nil, Bool.or_false, Bool.or_eq_false_iff] at hj
        exact rr j (by simp only [List.contains_cons, List.contains_nil, Bool.or_false, Bool.or_eq_false_iff]; exact ⟨hj.2.2.2.2.1, hj.2.2.2.2.2⟩) (by simp only [List.contains_cons, List.contains_nil, Bool.or_false]; exact hj.2.2.2.2.2)
      · rw [if_neg (by simpa using gt)] at e
        exact (ht e).st f1 (fun j hj => a1 j (by
          simp only [List.contains_cons, List.contains_nil, Bool.or_false]
          exact beq_false_of_ne (by omega)))
    -- an end without an output
    have fin : ∀ (k : Nat), ut fs inp vs po fl stt = some ((k, []), (vs, po, fl), false) → Q (.inl (some (.int (I k)))) M1 := by
      intro k e
      refine hq _ e M1 R1 h1 (fun j hj => a1 j ?_) e25 e13 e14 e15 e22 f1
      simp only [List.contains_cons, List.contains_nil, Bool.or_false, Bool.or_eq_false_iff] at hj ⊢
      exact hj.2.2.2.2.2
    have w25 : ∀ {R' : RT}, ag [25] R1 R' → ag [25, 27] R1 R' := fun g => fun j hj => g j (by
      simp only [List.contains_cons, List.contains_nil, Bool.or_false, Bool.or_eq_false_iff] at hj ⊢
      exact hj.1)
    have ag6 : ∀ {R' : RT} {c : Nat}, ag [c] R1 R' → ([13, 14, 15, 22, 25, 27] : List Nat).contains c = true → ag [13, 14, 15, 22, 25, 27] R R' := fun {R' c} g hc j hj => by
      have nc : ¬ j = c := fun y => by rw [y, hc] at hj; cases hj
      refine (g j ?_).trans (a1 j ?_)
      · simp only [List.contains_cons, List.contains_nil, Bool.or_false]
        exact beq_false_of_ne nc
      · simp only [List.contains_cons, List.contains_nil, Bool.or_false, Bool.or_eq_false_iff] at hj ⊢
        exact hj.2.2.2.2.2
    rw [I_ntn (by omega), I_nI]
    match d, dl, ud, md with
    | 0, _, ud, _ =>
      show mX E 94 2 _ [] M1 Q
      obtain ⟨o1, o2⟩ := out _ _ ud
      exact w94_2 ⟨h1.k22, u_echo h1 e23 e25 (fun le M' R' g1 g2 g3 g4 => o1 le M' R' g1 (w25 g2) g3 g4) o2⟩
    | 1, _, ud, _ =>
      show mX E 94 3 _ [] M1 Q
      rw [← e15, ← e24'] at ud
      obtain ⟨o1, o2⟩ := out _ _ (by rw [← e15, ← e24']; exact ud)
      exact w94_3 ⟨h1.k22, u_cat h1 e23 e25 (fun le M' R' g1 g2 g3 g4 => o1 le M' R' g1 (w25 g2) g3 g4) o2⟩
    | 2, _, ud, _ => exact w94_4 (fin _ ud)
    | 3, _, ud, _ => exact w94_5 (fin _ ud)
    | 4, _, ud, _ =>
      show mX E 94 6 _ [] M1 Q
      refine w94_6 ⟨h1.k22, u_set h1 e23 hfs (fun le M' R' g1 g2 g3 g4 => ?_) (fun gt => ?_)⟩
      · rw [if_pos le] at ud
        exact hq _ ud M' R' g1 (ag6 g2 (by decide)) (by rw [g2 25 (by decide)]; exact e25) (by rw [g2 13 (by decide)]; exact e13) (by rw [g3]; rfl) (by rw [g2 15 (by decide)]; exact e15) (by rw [g2 22 (by decide)]; exact e22) (f1.then g4)
      · rw [if_neg (by omega)] at ud
        exact (ht ud).st f1 (fun j hj => a1 j (by
          simp only [List.contains_cons, List.contains_nil, Bool.or_false]
          exact beq_false_of_ne (by omega)))
    | 5, _, ud, _ =>
      show mX E 94 7 _ [] M1 Q
      refine w94_7 ⟨h1.k22, u_unset h1 e23 (fun M' R' g1 g2 g3 g4 => ?_)⟩
      exact hq _ ud M' R' g1 (ag6 g2 (by decide)) (by rw [g2 25 (by decide)]; exact e25) (by rw [g3, e13]) (by rw [g2 14 (by decide)]; exact e14) (by rw [g2 15 (by decide)]; exact e15) (by rw [g2 22 (by decide)]; exact e22) (f1.then g4)
    | 6, _, ud, _ =>
      show mX E 94 8 _ [] M1 Q
      refine w94_8 ⟨h1.k22, u_rm h1 e23 (fun M' R' g1 g2 g3 g4 => ?_)⟩
      rw [e15] at g3 ⊢
      exact hq _ ud M' R' g1 (ag6 g2 (by decide)) (by rw [g2 25 (by decide)]; exact e25) (by rw [g2 13 (by decide)]; exact e13) (by rw [g2 14 (by decide)]; exact e14) g3 (by rw [g2 22 (by decide)]; exact e22) (f1.then g4)
    | 7, _, ud, _ =>
      show mX E 94 9 _ [] M1 Q
      obtain ⟨o1, o2⟩ := out _ _ ud
      rw [← e24'] at o1 o2
      exact w94_9 ⟨h1.k22, u_wc h1 e25 (fun le M' R' g1 g2 g3 g4 => o1 le M' R' g1 (w25 g2) g3 g4) o2⟩
    | 8, _, ud, _ =>
      show mX E 94 10 _ [] M1 Q
      obtain ⟨o1, o2⟩ := out _ _ ud
      have hh := u_head (E := E) (Q := kI Q fun x M1 => Q (.inl (some (.int x))) M1) h1 e23 e27 e25
      rw [e24'] at hh
      exact w94_10 ⟨h1.k22, hh (fun le M' R' g1 g2 g3 g4 => o1 le M' R' g1 (w25 g2) g3 g4) o2⟩
    | 9, _, ud, _ =>
      show mX E 94 11 _ [] M1 Q
      obtain ⟨o1, o2⟩ := out _ _ ud
      have hh := l_rev (E := E) (Q := kI Q fun x M1 => Q (.inl (some (.int x))) M1) h1 e27 e25 hw
      rw [e24'] at hh
      refine w94_11 ⟨h1.k22, nz h1.f22_5 h1.1, by rw [h1.f22_5]; exact h1.c26.1, ?_⟩
      rw [h1.f22_5]
      exact hh (fun le M' R' g1 g2 g3 g4 => o1 le M' R' g1 (w25 g2) g3 g4) o2
    | 10, _, ud, _ =>
      show mX E 94 12 _ [] M1 Q
      obtain ⟨o1, o2⟩ := out _ _ ud
      have hh := l_sort (E := E) (Q := kI Q fun x M1 => Q (.inl (some (.int x))) M1) h1 e27 e25 hw
      rw [e24'] at hh
      refine w94_12 ⟨h1.k22, nz h1.f22_5 h1.1, by rw [h1.f22_5]; exact h1.c26.1, ?_⟩
      rw [h1.f22_5]
      exact hh o1 o2
    | 11, _, ud, _ =>
      show mX E 94 13 _ [] M1 Q
      obtain ⟨o1, o2⟩ := out _ _ ud
      have hh := l_uniq (E := E) (Q := kI Q fun x M1 => Q (.inl (some (.int x))) M1) h1 e27 e25 hw
      rw [e24'] at hh
      refine w94_13 ⟨h1.k22, nz h1.f22_5 h1.1, by rw [h1.f22_5]; exact h1.c26.1, ?_⟩
      rw [h1.f22_5]
      exact hh (fun le M' R' g1 g2 g3 g4 => o1 le M' R' g1 (w25 g2) g3 g4) o2
    | 12, _, ud, _ =>
      show mX E 94 14 _ [] M1 Q
      obtain ⟨o1, o2⟩ := out _ _ ud
      have r23' := h1.r23 e23
      refine w94_14 ⟨h1.k22, nz h1.f22_5 h1.1, nz h1.f22_0 h1.1, by rw [h1.f22_0]; exact r23'.1.1, ?_⟩
      rw [h1.f22_0]
      refine r_at (k := 1) r23' (by omega) (by omega) (fun x cap3 tx x1 x2 x3 => ⟨by rw [h1.f22_5]; exact h1.c26.1, ?_⟩)
      rw [show atL fs 1 = fs.getD 1 [] from atL_nat fs 1] at tx
      rw [h1.f22_5]
      have hh := l_grep (E := E) (Q := kI Q fun x M1 => Q (.inl (some (.int x))) M1) h1 e27 e25 tx (by omega) hw
      rw [e24'] at hh
      exact hh (fun le M' R' g1 g2 g3 g4 => o1 le M' R' g1 (w25 g2) g3 g4) o2
    | 13, _, ud, _ =>
      show mX E 94 15 _ [] M1 Q
      obtain ⟨o1, o2⟩ := out _ _ ud
      have hh := u_tr (E := E) (Q := kI Q fun x M1 => Q (.inl (some (.int x))) M1) h1 e23 e25
      rw [e24'] at hh
      exact w94_15 ⟨h1.k22, hh (fun le M' R' g1 g2 g3 g4 => o1 le M' R' g1 (w25 g2) g3 g4) o2⟩
    | 14, _, ud, _ =>
      show mX E 94 16 _ [] M1 Q
      exact w94_16 ⟨h1.k22, u_test h1 e23 e15 (fin _ ud)⟩
    | 15, _, ud, _ =>
      show mX E 94 17 _ [] M1 Q
      refine w94_17 ⟨h1.k22, u_exit h1 e23 e12 (by omega) (fun y => ?_) (fun y1 y2 M' R' g1 g2 g3 g4 => ?_)⟩
      · rw [if_pos y] at ud
        exact fin _ ud
      · rw [if_neg (show ¬ (exV fs stt < 0 ∨ 255 < exV fs stt) by omega)] at ud
        have := hq _ ud M' R' g1 (ag6 g2 (by decide)) (by rw [g2 25 (by decide)]; exact e25) (by rw [g2 13 (by decide)]; exact e13) (by rw [g2 14 (by decide)]; exact e14) (by rw [g2 15 (by decide)]; exact e15) (by rw [g3]; rfl) (f1.then g4)
        dsimp only at this
        rw [show (((exV fs stt).toNat : Nat) : Int) = exV fs stt by omega] at this
        exact this
    | 16, _, ud, _ =>
      show mX E 94 18 _ [] M1 Q
      exact w94_18 (fin _ ud)
    | n + 17, dl, _, _ => omega
  · have tk : ¬ ((kMin d : Int) ≤ (fs.length : Int) - 1 ∧ (fs.length : Int) - 1 ≤ kMax d) := fun y => by rw [decide_eq_true y] at z; exact absurd z (by decide)
    rw [if_pos (fun y => tk ⟨by have := y.1; rw [md.1] at this; omega, by have := y.2; rw [md.2] at this; omega⟩)] at ud
    exact hq _ ud M R h (ag.refl _ _) h25 h13 h14 h15 h22 (fr.refl _ _ _)
end CALL
/-- a name put into a table, unless it is there; its limits -/
def opT (n cn : Nat) (es : eL) (u : List Nat) : Option eL := if 0 ≤ fdT es u 0 then some es else if es.length < n ∧ u.length ≤ cn then some (insT es u []) else none
/-- the text at k written over -/
def stT (es : eL) (k : Nat) (u : List Nat) : eL := es.set k ((es.getD k ([], [])).1, u)
/-- redirections: whether all could be done, the files, the input's and the output's name -/
def rdL (s : List Nat) (vs : eL) (po : List (List Nat)) (stt : Nat) (ps is : List (List Nat)) : Nat → Nat → eL → List Nat → List Nat → Option (Bool × eL × List Nat × List Nat)
  | 0, _, fl, i, o => some (true, fl, i, o)
  | n + 1, it, fl, i, o =>
    if (is.getD it []).getD 0 0 = 0 ∨ (is.getD it []).getD 0 0 = 1 then rdL s vs po stt ps is n (it + 1) fl i o
    else (exW s vs po stt ps (is.getD it [])).bind fun u =>
      if 8 < u.length then none
      else if u = [] ∨ ((is.getD it []).getD 0 0 = 2 ∧ fdT fl u 0 < 0) then some (false, fl, i, o)
      else if (is.getD it []).getD 0 0 = 2 then rdL s vs po stt ps is n (it + 1) fl u o
      else (opT 8 8 fl u).bind fun fl1 => rdL s vs po stt ps is n (it + 1) (if (is.getD it []).getD 0 0 = 3 then stT fl1 (fdT fl1 u 0).toNat [] else fl1) i u
/-- assignments: all are expanded; the variables change if there are no fields -/
def asL (s : List Nat) (po : List (List Nat)) (stt : Nat) (ps is : List (List Nat)) (e0 : Bool) : Nat → Nat → eL → Option eL
  | 0, _, vs => some vs
  | n + 1, it, vs =>
    if (is.getD it []).getD 0 0 = 1 then (exW s vs po stt ps (is.getD it [])).bind fun u =>
      if e0 = true then ((opT 8 6 vs (seg s ((is.getD it []).getD 3 0) ((is.getD it []).getD 4 0))).bind fun v1 => asL s po stt ps is e0 n (it + 1) (stT v1 (fdT v1 (seg s ((is.getD it []).getD 3 0) ((is.getD it []).getD 4 0)) 0).toNat u))
      else asL s po stt ps is e0 n (it + 1) vs
    else asL s po stt ps is e0 n (it + 1) vs
theorem fdT_ins (es : eL) (u tx : List Nat) : ∀ k, k ≤ es.length → ∀ j : Nat, 0 ≤ fdT (es.take k ++ (u, tx) :: es.drop k) u j := by
  induction es with
  | nil => intro k hk j; simp [fdT]
  | cons e es ih =>
    intro k hk j
    cases k with
    | zero => simp [fdT]
    | succ k =>
      show 0 ≤ fdT (e :: (es.take k ++ (u, tx) :: es.drop k)) u j
      unfold fdT
      split
      · omega
      · exact ih k (by simpa using hk) (j + 1)
theorem opT_fd {n cn : Nat} {es es' : eL} {u : List Nat} (h : opT n cn es u = some es') : 0 ≤ fdT es' u 0 := by
  unfold opT at h
  split at h
  · cases h; assumption
  · split at h
    · cases h; exact fdT_ins es u [] _ (slT_le es u es.length) 0
    · cases h
theorem ok1_seg {s : List Nat} {f e : Nat} (h : ok1 s) : ok1 (seg s f e) := fun c hc => h c (seg_mem hc)
theorem okE_ins {es : eL} {u tx : List Nat} (h : okE es) (hu : ok1 u) (ht : ok1 tx) : okE (insT es u tx) := by
  intro e he
  unfold insT at he
  rcases List.mem_append.mp he with q | q
  · exact h e (List.mem_of_mem_take q)
  · rcases List.mem_cons.mp q with q | q
    · rw [q]; exact ⟨hu, ht⟩
    · exact h e (List.mem_of_mem_drop q)
theorem okE_opT {n cn : Nat} {es es' : eL} {u : List Nat} (h : okE es) (hu : ok1 u) (e : opT n cn es u = some es') : okE es' := by
  unfold opT at e
  split at e
  · cases e; exact h
  · split at e
    · cases e; exact okE_ins h hu (fun c hc => absurd hc List.not_mem_nil)
    · cases e
theorem okE_stT {es : eL} {k : Nat} {u : List Nat} (h : okE es) (hu : ok1 u) : okE (stT es k u) := by
  intro e he
  unfold stT at he
  rcases List.mem_or_eq_of_mem_set he with q | q
  · exact h e q
  · rw [q]
    refine ⟨?_, hu⟩
    rw [List.getD_eq_getElem?_getD]
    cases z : es[k]? with
    | none => intro c hc; simp at hc
    | some x => exact (h x (List.mem_of_getElem? z)).1
theorem ok1_unm {u : List Nat} (h : ok2 u) : ok1 (u.map unm) := by
  intro c hc
  obtain ⟨x, hx, rfl⟩ := List.mem_map.mp hc
  have := h x hx
  unfold unm; split <;> omega
theorem exW_ok {s : List Nat} {vs : eL} {po : List (List Nat)} {stt : Nat} {ps : List (List Nat)} {it u : List Nat} (hs : ok1 s) (hv : okE vs) (hp : okL po) (e : exW s vs po stt ps it = some u) : ok1 u := by
  unfold exW at e
  cases g : exI s vs po stt false ps it [] [] with
  | none => rw [g] at e; cases e
  | some x =>
    rw [g] at e
    cases e
    unfold exI at g
    exact ok1_unm (exN_ok hs hv hp _ _ _ _ ⟨fun t ht => absurd ht List.not_mem_nil, fun t ht => absurd ht List.not_mem_nil⟩ g).2
