/-! type: the eight bytes of a long -/
def tyC (v : Int64) (i : Nat) : Int32 := Int64.toInt32 (lushr v (I (56 - 8 * (i : Int)))) &&& I 255
def tyB (v : Int64) (i : Nat) : Nat := (Int64.toInt32 (lushr v (I (56 - 8 * (i : Int))))).toBitVec.toNat &&& 255
theorem tyB_lt (v : Int64) (i : Nat) : tyB v i < 256 := Nat.lt_of_le_of_lt Nat.and_le_right (by omega)
theorem and255 (x : Int32) : x &&& I 255 = I ((x.toBitVec.toNat &&& 255 : Nat) : Int) := by
  apply Int32.toBitVec_inj.mp
  apply BitVec.eq_of_toNat_eq
  have e : (I ((x.toBitVec.toNat &&& 255 : Nat) : Int)).toBitVec.toNat = x.toBitVec.toNat &&& 255 := by
    have hl : x.toBitVec.toNat &&& 255 < 256 := Nat.lt_of_le_of_lt Nat.and_le_right (by omega)
    generalize x.toBitVec.toNat &&& 255 = n at hl
    show (BitVec.ofInt 32 (n : Int)).toNat = n
    rw [BitVec.toNat_ofInt]; omega
  rw [e]
  show (x.toBitVec &&& (I 255).toBitVec).toNat = _
  rw [BitVec.toNat_and]; rfl
theorem tyC_I (v : Int64) (i : Nat) : tyC v i = I (tyB v i : Int) := and255 _
def okTy (c : Nat) : Prop := c = 0 ∨ c = 10 ∨ (32 ≤ c ∧ c ≤ 126)
def okTyB (c : Nat) : Bool := Nat.beq c 0 || Nat.beq c 10 || (Nat.ble 32 c && Nat.ble c 126)
theorem okTyB_iff {c : Nat} : okTyB c = true ↔ okTy c := by
  unfold okTyB okTy
  constructor
  · intro h
    rcases (Bool.or_eq_true _ _).mp h with h | h
    · rcases (Bool.or_eq_true _ _).mp h with h | h
      · exact Or.inl (Nat.eq_of_beq_eq_true h)
      · exact Or.inr (Or.inl (Nat.eq_of_beq_eq_true h))
    · have := (Bool.and_eq_true _ _).mp h
      exact Or.inr (Or.inr ⟨Nat.le_of_ble_eq_true this.1, Nat.le_of_ble_eq_true this.2⟩)
  · intro h
    rcases h with h | h | h
    · rw [h]; rfl
    · rw [h]; rfl
    · rw [Nat.ble_eq_true_of_le h.1, Nat.ble_eq_true_of_le h.2]; simp
def tyR (v : Int64) : Nat → Nat → List Nat
  | 0, _ => []
  | n + 1, i => tyB v i :: tyR v n (i + 1)
def nzL (l : List Nat) : List Nat := l.filter fun c => !Nat.beq c 0
/-- type's answer, and the script behind it -/
def tyS (s : List Nat) (v : Int64) : Bool × List Nat := if (tyR v 8 0).all okTyB = true ∧ s.length + (nzL (tyR v 8 0)).length ≤ 240 then (true, s ++ nzL (tyR v 8 0)) else (false, s)
theorem nzL_cons (c : Nat) (l : List Nat) : nzL (c :: l) = if c = 0 then nzL l else c :: nzL l := by
  unfold nzL
  by_cases q : c = 0
  · subst q; rfl
  · rw [if_neg q, List.filter_cons, if_pos]
    cases z : Nat.beq c 0 with
    | false => rfl
    | true => exact absurd (Nat.eq_of_beq_eq_true z) q
theorem sh_next (i : Nat) : I (56 - 8 * (i : Int)) + I (-8) = I (56 - 8 * ((i + 1 : Nat) : Int)) := by rw [I_add]; congr 1; omega
section TYPE
variable {E : mE} {M : mM} {Q : mQ} {b : Nat} {s : List Nat} {vs fl : eL} {po : List (List Nat)} {st pl : Nat} {o : List Nat}
/-- what type does with the script's text -/
theorem x_type8 {v : Int64} {v3 : Int32} (hk : mkd M b = 100) (hr : mr M b 0 = b + 1) (n : Nat) : ∀ (i : Nat) (s : List Nat) (M' : mM) (d5 : Option Value), i + n = 8 → fr M M' (b + 1) (b + 1 + 2) → tX M' (b + 1) 240 s → s.length + (nzL (tyR v n i)).length ≤ 240 →
    (∀ M2, tX M2 (b + 1) 240 (s ++ nzL (tyR v n i)) → fr M M2 (b + 1) (b + 1 + 2) → Q (.inl (some (.int (I 1)))) M2) →
    mX E 3 8 [some (.ref b), some (.long v), none, some (.int v3), some (.int (I (56 - 8 * (i : Int)))), d5] [] M' Q := by
  induction n with
  | zero =>
    intro i s M' d5 hi f t hl hq
    refine w3_8 ⟨fun _ => hq M' (by simpa [tyR, nzL] using t) f, fun c => ?_⟩
    rw [I_lt (by omega) (by omega) (by omega) (by omega)] at c; omega
  | succ n ih =>
    intro i s M' d5 hi f t hl hq
    have tb := tyB_lt v i
    unfold tyR at hl hq
    rw [nzL_cons] at hl hq
    have ec : Int64.toInt32 (lushr v (I (56 - 8 * (i : Int)))) &&& I 255 = I (tyB v i : Int) := tyC_I v i
    refine w3_8 ⟨fun c => ?_, fun _ => ⟨fun c => ?_, fun c => ⟨by rw [(f.2.2 b (by omega)).1]; exact hk, by rw [(f.2.2 b (by omega)).2.2.2.1, hr]; omega, by rw [(f.2.2 b (by omega)).2.2.2.1, hr]; exact t.1, ?_⟩⟩⟩
    · rw [I_lt (by omega) (by omega) (by omega) (by omega)] at c; omega
    · rw [ec, I_eq (by omega) (by omega) (by omega) (by omega)] at c
      rw [if_pos (by omega)] at hl hq
      rw [sh_next]
      exact ih (i + 1) s M' _ (by omega) f t hl hq
    · rw [ec, I_eq (by omega) (by omega) (by omega) (by omega)] at c
      rw [if_neg (by omega)] at hl hq
      rw [(f.2.2 b (by omega)).2.2.2.1, hr, ec, I_i2c (by omega) (by omega)]
      simp only [List.length_cons] at hl
      refine t_add t (by omega) (fun l M2 t2 f2 => ?_) (fun l => absurd l (by omega))
      show mX E 3 8 _ [] M2 Q
      rw [sh_next]
      refine ih (i + 1) _ M2 _ (by omega) (f.then f2) t2 (by rw [List.length_append, List.length_singleton]; omega) (fun M3 t3 f3 => hq M3 ?_ f3)
      rw [List.append_assoc] at t3; exact t3
theorem x_type1 {v : Int64} (hk : mkd M b = 100) (hr : mr M b 0 = b + 1) (t : tX M (b + 1) 240 s) (hq1 : (tyR v 8 0).all okTyB = true → s.length + (nzL (tyR v 8 0)).length ≤ 240 → ∀ M2, tX M2 (b + 1) 240 (s ++ nzL (tyR v 8 0)) → fr M M2 (b + 1) (b + 1 + 2) → Q (.inl (some (.int (I 1)))) M2) (hq0 : ¬ ((tyR v 8 0).all okTyB = true ∧ s.length + (nzL (tyR v 8 0)).length ≤ 240) → Q (.inl (some (.int (I 0)))) M) (n : Nat) : ∀ (i m : Nat) (d5 : Option Value), i + n = 8 → m ≤ i → ((tyR v 8 0).all okTyB = (tyR v n i).all okTyB) → (nzL (tyR v 8 0)).length = m + (nzL (tyR v n i)).length →
    mX E 3 1 [some (.ref b), some (.long v), none, some (.int (I m)), some (.int (I (56 - 8 * (i : Int)))), d5] [] M Q := by
  have tl := t.len
  induction n with
  | zero =>
    intro i m d5 hi hm ha hc
    have ha' : (tyR v 8 0).all okTyB = true := ha
    have hc' : (nzL (tyR v 8 0)).length = m := hc
    refine w3_1 ⟨fun _ => ⟨hk, by rw [hr]; omega, by rw [hr]; exact t.1, fun c => ?_, fun c => ?_⟩, fun c => ?_⟩
    · rw [hr, t.2.2.2.2.1, I_add, I_le (by omega) (by omega) (by omega) (by omega)] at c
      exact x_type8 hk hr 8 0 s M _ rfl (fr.refl _ _ _) t (by omega) (hq1 ha' (by omega))
    · rw [hr, t.2.2.2.2.1, I_add, I_le (by omega) (by omega) (by omega) (by omega)] at c
      exact hq0 (fun z => by omega)
    · rw [I_lt (by omega) (by omega) (by omega) (by omega)] at c; omega
  | succ n ih =>
    intro i m d5 hi hm ha hc
    have tb := tyB_lt v i
    have ec : Int64.toInt32 (lushr v (I (56 - 8 * (i : Int)))) &&& I 255 = I (tyB v i : Int) := tyC_I v i
    have ha2 : (tyR v 8 0).all okTyB = (okTyB (tyB v i) && (tyR v n (i + 1)).all okTyB) := ha
    have hc2 : (nzL (tyR v 8 0)).length = m + (nzL (tyB v i :: tyR v n (i + 1))).length := hc
    rw [nzL_cons] at hc2
    have three : okTy (tyB v i) → mX E 3 3 [some (.ref b), some (.long v), none, some (.int (I m)), some (.int (I (56 - 8 * (i : Int)))), some (.int (I (tyB v i : Int)))] [] M Q := by
      intro g
      rw [okTyB_iff.mpr g, Bool.true_and] at ha2
      refine w3_3 ⟨fun c => ?_, fun c => ?_⟩
      · rw [I_eq (by omega) (by omega) (by omega) (by omega)] at c
        rw [if_neg (by omega), List.length_cons] at hc2
        rw [I_add, sh_next]
        exact ih (i + 1) (m + 1) _ (by omega) (by omega) ha2 (by omega)
      · rw [I_eq (by omega) (by omega) (by omega) (by omega)] at c
        rw [if_pos (by omega)] at hc2
        rw [I_add, Int.add_zero, sh_next]
        exact ih (i + 1) m _ (by omega) (by omega) ha2 hc2
    have bad : ¬ okTy (tyB v i) → Q (.inl (some (.int (I 0)))) M := by
      intro g
      refine hq0 (fun z => g (okTyB_iff.mp ?_))
      rw [ha2] at z
      exact ((Bool.and_eq_true _ _).mp z.1).1
    refine w3_1 ⟨fun c => ?_, fun _ => ?_⟩
    · rw [I_lt (by omega) (by omega) (by omega) (by omega)] at c; omega
    · rw [ec]
      unfold okTy at three bad
      refine ⟨fun c => three ?_, fun c0 => ⟨fun c => three ?_, fun c1 => ⟨fun c => bad ?_, fun c2 => ⟨fun c => three ?_, fun c => bad ?_⟩⟩⟩⟩
      · rw [I_eq (by omega) (by omega) (by omega) (by omega)] at c; omega
      · rw [I_eq (by omega) (by omega) (by omega) (by omega)] at c; omega
      · rw [I_eq (by omega) (by omega) (by omega) (by omega)] at c0 c1; rw [I_lt (by omega) (by omega) (by omega) (by omega)] at c; omega
      · rw [I_eq (by omega) (by omega) (by omega) (by omega)] at c0 c1; rw [I_lt (by omega) (by omega) (by omega) (by omega)] at c2; rw [I_le (by omega) (by omega) (by omega) (by omega)] at c; omega
      · rw [I_eq (by omega) (by omega) (by omega) (by omega)] at c0 c1; rw [I_lt (by omega) (by omega) (by omega) (by omega)] at c2; rw [I_le (by omega) (by omega) (by omega) (by omega)] at c; omega
theorem tyR_ok {v : Int64} : ∀ (n i : Nat), (tyR v n i).all okTyB = true → okSc (nzL (tyR v n i))
  | 0, i, _ => fun c hc => absurd hc List.not_mem_nil
  | n + 1, i, h => by
    unfold tyR at h ⊢
    rw [List.all_cons, Bool.and_eq_true] at h
    have g := okTyB_iff.mp h.1
    unfold okTy at g
    rw [nzL_cons]
    split
    · exact tyR_ok n (i + 1) h.2
    · intro c hc
      rcases List.mem_cons.mp hc with q | q
      · rw [q]; omega
      · exact tyR_ok n (i + 1) h.2 c q
theorem x_type {v : Int64} (h : clI b M s vs po fl st o pl) (hq : ∀ M', clI b M' (tyS s v).2 vs po fl st o pl → fr M M' b (b + 369) → Q (.inl (some (.int (I (bI (tyS s v).1))))) M') : mC E 3 [.ref b, .long v] M Q := by
  obtain ⟨R, h, h0, ⟨p, aw, jn, rd, ws, h2⟩, hk, hsc, hv, hp, hn, hst⟩ := id h
  have t := h.c0
  rw [h0] at t
  unfold tyS at hq
  refine w3_0 (x_type1 h.k1 h.f1_0 t (fun g1 g2 M2 t2 f2 => ?_) (fun g => ?_) 8 0 0 none rfl (by omega) rfl (by omega))
  · rw [if_pos ⟨g1, g2⟩] at hq
    have z := clI.chg h h0 h2 hk hv hp hn hst t2 f2 (fun c hc => by
      rcases List.mem_append.mp hc with q | q
      · exact hsc c q
      · exact tyR_ok 8 0 g1 c q)
    exact hq M2 z.1 z.2
  · rw [if_neg g] at hq
    exact hq M ‹_› (fr.refl _ _ _)
end TYPE
