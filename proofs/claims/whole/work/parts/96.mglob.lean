/-! THE REFERENCE: patterns -/
section MGLOB
variable {E : mE} {M M' : mM} {Q : mQ} {m : Nat} {sp : List Nat} {S : List Nat}
theorem mkX.c (h : mkX M m sp) (k : Nat) : sp.getD k 0 < 256 := getD_lt h.2.2.2 (by omega) k
theorem unm_lt {c : Nat} (h : c < 256) : unm c < 128 := by unfold unm; split <;> omega
theorem unm_id {c : Nat} (h : c < 128) : unm c = c := by unfold unm; rw [if_pos h]
theorem blt_t {a b : Nat} : Nat.blt a b = true ↔ a < b := by unfold Nat.blt; rw [Nat.ble_eq]; omega
theorem m_stars_l (h : mS M m) (k : mkX M m sp) {v1 : Int64} (hq : ∀ v', (∀ p, p ≤ sp.length → b6 v' p = stF sp (b6 v1) p) → Q (.inl (some (.long v'))) M) (n : Nat) : ∀ (j : Nat) (v3 : Int64), n = sp.length - j → j ≤ sp.length → (∀ p, p ≤ j → b6 v3 p = stF sp (b6 v1) p) → (∀ p, j < p → p ≤ sp.length → b6 v3 p = b6 v1 p) →
    mX E 156 1 [some (.ref m), some (.long v1), none, some (.long v3), none, some (.int (I j))] [] M Q := by
  have k2 := k.2.1
  induction n with
  | zero =>
    intro j v3 hn hj a b
    refine w156_1 ⟨h.k0, fun _ => hq v3 (fun p hp => a p (by omega)), fun c => ?_⟩
    rw [k.1, I_le (by omega) (by omega) (by omega) (by omega)] at c; omega
  | succ n ih =>
    intro j v3 hn hj a b
    have kj := k.2.2.1 j (by omega)
    have cj := k.c j
    have ul := unm_lt cj
    have bj : lg_cmp ((lshr v3 (I j)) &&& Int64.ofNat 1) (Int64.ofNat 1) = I 0 ↔ b6 v3 j = true := by rw [b6_cmp, b6_shr (by omega)]
    have st : stF sp (b6 v1) (j + 1) = (b6 v1 (j + 1) || (decide (sp.getD j 0 = 42) && stF sp (b6 v1) j)) := rfl
    have same : ¬ (b6 v3 j = true ∧ sp.getD j 0 = 42) → mX E 156 1 [some (.ref m), some (.long v1), none, some (.long v3), none, some (.int (I j + I 1))] [] M Q := by
      intro q
      rw [I_add]
      refine ih (j + 1) v3 (by omega) (by omega) (fun p hp => ?_) (fun p p1 p2 => b p (by omega) p2)
      by_cases z : p = j + 1
      · subst z
        have : (decide (sp.getD j 0 = 42) && stF sp (b6 v1) j) = false := by
          rw [Bool.eq_false_iff, ← a j (Nat.le_refl _)]
          intro e
          rw [Bool.and_eq_true] at e
          exact q ⟨e.2, of_decide_eq_true e.1⟩
        rw [st, this, Bool.or_false]; exact b (j + 1) (by omega) (by omega)
      · exact a p (by omega)
    refine w156_1 ⟨h.k0, fun c => ?_, fun c => ⟨fun z => same (fun y => z (bj.mpr y.1)), fun z => ⟨h.n29, by rw [h.f29]; exact h.k22, by rw [h.f29, h.l22]; exact I_in (by omega) (by omega) (by omega), fun y => same (fun x => ?_), fun y => ⟨h.n28, by rw [h.f28]; exact h.k21, by rw [h.f28, h.l21]; exact I_in (by omega) (by omega) (by omega), fun x => same (fun w => ?_), fun x => ?_⟩⟩⟩⟩
    · rw [k.1, I_le (by omega) (by omega) (by omega) (by omega)] at c; omega
    · rw [h.f29, I_ntn (by omega), kj.2, bI_0] at y
      rw [x.2] at y; exact absurd y (by decide)
    · rw [h.f28, I_ntn (by omega), kj.1, I_eq (by omega) (by omega) (by omega) (by omega), w.2] at x
      exact x rfl
    · rw [h.f29, I_ntn (by omega), kj.2, bI_0, Bool.not_eq_false, blt_t] at y
      rw [h.f28, I_ntn (by omega), kj.1, I_eq (by omega) (by omega) (by omega) (by omega), unm_id y] at x
      have c42 : sp.getD j 0 = 42 := by omega
      have bt := bj.mp z
      rw [I_add]
      refine ih (j + 1) _ (by omega) (by omega) (fun p hp => ?_) (fun p p1 p2 => ?_)
      · rw [b6_or, show ((j : Int) + 1) = ((j + 1 : Nat) : Int) by omega, b6_shl (by omega) (by omega)]
        by_cases z : p = j + 1
        · subst z
          rw [decide_eq_true rfl, Bool.or_true, st, decide_eq_true c42, Bool.true_and, ← a j (Nat.le_refl _), bt, Bool.or_true]
        · rw [decide_eq_false z, Bool.or_false]; exact a p (by omega)
      · rw [b6_or, show ((j : Int) + 1) = ((j + 1 : Nat) : Int) by omega, b6_shl (by omega) (by omega), decide_eq_false (by omega), Bool.or_false]
        exact b p (by omega) p2
theorem m_stars (h : mS M m) (k : mkX M m sp) {v1 : Int64} (hq : ∀ v', (∀ p, p ≤ sp.length → b6 v' p = stF sp (b6 v1) p) → Q (.inl (some (.long v'))) M) : mC E 156 [.ref m, .long v1] M Q := by
  refine w156_0 (m_stars_l h k hq _ 0 v1 rfl (by omega) (fun p hp => ?_) (fun p _ _ => rfl))
  rw [show p = 0 by omega]; rfl
theorem m_mat2 {i x : Nat} (h : mS M m) (k : mkX M m sp) (hx : x < 65536) {v2 : Int64} {v4 : Int32}
    (hq : ∀ v6 v8 d9 d10, (∀ p, p ≤ sp.length → b6 v6 p = nxM sp x (b6 v2) sp.length p) → mC E 156 [.ref m, .long v6] M (kJ Q fun x4 M2 => mX E 155 1 [some (.ref m), some (.int (I i)), some (.long x4), none, some (.int (v4 + I 1)), some (.int (I x)), some (.long v6), none, some (.int v8), d9, d10] [] M2 Q)) (n : Nat) : ∀ (j : Nat) (v6 : Int64) (d9 d10 : Option Value), n = sp.length - j → j ≤ sp.length → (∀ p, p ≤ sp.length → b6 v6 p = nxM sp x (b6 v2) j p) →
    mX E 155 2 [some (.ref m), some (.int (I i)), some (.long v2), none, some (.int v4), some (.int (I x)), some (.long v6), none, some (.int (I j)), d9, d10] [] M Q := by
  have k2 := k.2.1
  induction n with
  | zero =>
    intro j v6 d9 d10 hn hj a
    refine w155_2 ⟨h.k0, fun _ => hq v6 _ d9 d10 (fun p hp => by rw [a p hp, show j = sp.length by omega]), fun c => ?_⟩
    rw [k.1, I_le (by omega) (by omega) (by omega) (by omega)] at c; omega
  | succ n ih =>
    intro j v6 d9 d10 hn hj a
    have kj := k.2.2.1 j (by omega)
    have cj := k.c j
    have ul := unm_lt cj
    have bj : lg_cmp ((lshr v2 (I j)) &&& Int64.ofNat 1) (Int64.ofNat 1) = I 0 ↔ b6 v2 j = true := by rw [b6_cmp, b6_shr (by omega)]
    -- one more place looked at
    have nx : ∀ p, nxM sp x (b6 v2) (j + 1) p = (nxM sp x (b6 v2) j p || (decide (p = j) && (b6 v2 j && decide (sp.getD j 0 = 42))) || (decide (p = j + 1) && (b6 v2 j && fitM (sp.getD j 0) x))) := by
      intro p
      unfold nxM
      by_cases z : p = j
      · subst z
        rw [decide_eq_true (show p < p + 1 by omega), decide_eq_false (show ¬ p < p by omega), decide_eq_true (show p = p from rfl), decide_eq_false (show ¬ p = p + 1 by omega)]
        by_cases z2 : 1 ≤ p
        · rw [decide_eq_true (show 1 ≤ p ∧ p ≤ p + 1 by omega), decide_eq_true (show 1 ≤ p ∧ p ≤ p by omega)]
          simp only [Bool.true_and, Bool.false_and, Bool.false_or, Bool.or_false]
          rw [Bool.or_comm]
        · rw [decide_eq_false (show ¬ (1 ≤ p ∧ p ≤ p + 1) by omega), decide_eq_false (show ¬ (1 ≤ p ∧ p ≤ p) by omega)]
          simp only [Bool.true_and, Bool.false_and, Bool.false_or, Bool.or_false]
      · rw [decide_eq_false z]
        by_cases y : p = j + 1
        · subst y
          rw [decide_eq_false (show ¬ j + 1 < j + 1 by omega), decide_eq_false (show ¬ j + 1 < j by omega), decide_eq_true (show 1 ≤ j + 1 ∧ j + 1 ≤ j + 1 by omega), decide_eq_false (show ¬ (1 ≤ j + 1 ∧ j + 1 ≤ j) by omega), decide_eq_true (show j + 1 = j + 1 from rfl), Nat.add_sub_cancel]
          simp only [Bool.true_and, Bool.false_and, Bool.false_or, Bool.or_false]
        · rw [decide_eq_false y]
          by_cases w : p < j
          · rw [decide_eq_true (show p < j + 1 by omega), decide_eq_true w]
            by_cases w2 : 1 ≤ p
            · rw [decide_eq_true (show 1 ≤ p ∧ p ≤ j + 1 by omega), decide_eq_true (show 1 ≤ p ∧ p ≤ j by omega)]
              simp only [Bool.true_and, Bool.false_and, Bool.false_or, Bool.or_false]
            · rw [decide_eq_false (show ¬ (1 ≤ p ∧ p ≤ j + 1) by omega), decide_eq_false (show ¬ (1 ≤ p ∧ p ≤ j) by omega)]
              simp only [Bool.true_and, Bool.false_and, Bool.false_or, Bool.or_false]
          · rw [decide_eq_false (show ¬ p < j + 1 by omega), decide_eq_false w, decide_eq_false (show ¬ (1 ≤ p ∧ p ≤ j + 1) by omega), decide_eq_false (show ¬ (1 ≤ p ∧ p ≤ j) by omega)]
            simp only [Bool.true_and, Bool.false_and, Bool.false_or, Bool.or_false]
    have eight : ∀ (a9 s0 : Bool) (d10 : Option Value), b6 v2 j = true → (a9 = true ↔ sp.getD j 0 = 42) → (a9 = false → s0 = fitM (sp.getD j 0) x) → mX E 155 8 [some (.ref m), some (.int (I i)), some (.long v2), none, some (.int v4), some (.int (I x)), some (.long v6), none, some (.int (I j)), some (.int (I (bI a9))), d10] [.int (I (bI s0))] M Q := by
      intro a9 s0 d10 bt e9 es
      refine w155_8 ⟨fun z => ⟨fun y => ?_, fun y => ?_⟩, fun z => ?_⟩
      · rw [bI_0] at z y
        rw [I_add]
        refine ih (j + 1) v6 _ _ (by omega) (by omega) (fun p hp => ?_)
        have ns : ¬ sp.getD j 0 = 42 := fun w => by rw [e9.mpr w] at z; exact absurd z (by decide)
        rw [nx p, a p hp, bt, decide_eq_false ns, ← es z, y]
        simp
      · rw [bI_0] at z
        rw [bI_0, Bool.not_eq_false] at y
        rw [I_add]
        refine ih (j + 1) _ _ _ (by omega) (by omega) (fun p hp => ?_)
        have ns : ¬ sp.getD j 0 = 42 := fun w => by rw [e9.mpr w] at z; exact absurd z (by decide)
        rw [nx p, b6_or, a p hp, bt, decide_eq_false ns, ← es z, y, show ((j : Int) + 1) = ((j + 1 : Nat) : Int) by omega, b6_shl (by omega) (by omega)]
        simp
      · rw [bI_0, Bool.not_eq_false] at z
        rw [I_add]
        refine ih (j + 1) _ _ _ (by omega) (by omega) (fun p hp => ?_)
        have ys := e9.mp z
        have fm0 : fitM (sp.getD j 0) x = false := by unfold fitM; rw [decide_eq_false (fun w => w ys), Bool.false_and]
        rw [nx p, b6_or, a p hp, bt, decide_eq_true ys, fm0, b6_shl (by omega) (by omega)]
        simp
    have k29 : mi M (m + 22) j = I (bI (Nat.blt (sp.getD j 0) 128)) := kj.2
    have k28 : mi M (m + 21) j = I (unm (sp.getD j 0)) := kj.1
    have l29 : vp_in (I j) (mln M (m + 22)) := by rw [h.l22]; exact I_in (by omega) (by omega) (by omega)
    have l28 : vp_in (I j) (mln M (m + 21)) := by rw [h.l21]; exact I_in (by omega) (by omega) (by omega)
    have five : ∀ (a9 : Bool) (d10 : Option Value), b6 v2 j = true → (a9 = true ↔ sp.getD j 0 = 42) → ¬ sp.getD j 0 = 63 → mX E 155 5 [some (.ref m), some (.int (I i)), some (.long v2), none, some (.int v4), some (.int (I x)), some (.long v6), none, some (.int (I j)), some (.int (I (bI a9))), d10] [] M Q := by
      intro a9 d10 bt e9 n63
      refine w155_5 ⟨fun z => w155_7 (eight a9 false d10 bt e9 (fun y => ?_)), fun z => ⟨h.k0, h.n28, by rw [h.f28]; exact h.k21, by rw [h.f28]; exact l28, fun y => w155_7 (eight a9 false d10 bt e9 (fun _ => ?_)), fun y => w155_6 (eight a9 true d10 bt e9 (fun _ => ?_))⟩⟩
      · rw [y] at z; exact absurd rfl z
      · rw [h.f28, I_ntn (by omega), k28, I_eq (by omega) (by omega) (by omega) (by omega)] at y
        unfold fitM fitB
        rw [decide_eq_false (show ¬ (sp.getD j 0 = 63 ∨ unm (sp.getD j 0) = x) by omega), Bool.and_false]
      · rw [h.f28, I_ntn (by omega), k28, I_eq (by omega) (by omega) (by omega) (by omega)] at y
        rw [bI_0] at z
        have ns : ¬ sp.getD j 0 = 42 := fun w => by rw [e9.mpr w] at z; exact absurd z (by decide)
        unfold fitM fitB
        rw [decide_eq_true (show sp.getD j 0 = 63 ∨ unm (sp.getD j 0) = x by omega), decide_eq_true ns]; rfl
    have four : ∀ (a9 : Bool) (d9 d10 : Option Value), b6 v2 j = true → (a9 = true ↔ sp.getD j 0 = 42) → mX E 155 4 [some (.ref m), some (.int (I i)), some (.long v2), none, some (.int v4), some (.int (I x)), some (.long v6), none, some (.int (I j)), d9, d10] [.int (I (bI a9))] M Q := by
      intro a9 d9 d10 bt e9
      refine w155_4 ⟨h.k0, h.n29, by rw [h.f29]; exact h.k22, by rw [h.f29]; exact l29, fun z => five a9 d10 bt e9 (fun y => ?_), fun z => ⟨h.n28, by rw [h.f28]; exact h.k21, by rw [h.f28]; exact l28, fun y => w155_6 (eight a9 true d10 bt e9 (fun _ => ?_)), fun y => five a9 d10 bt e9 (fun w => ?_)⟩⟩
      · rw [h.f29, I_ntn (by omega), k29, y] at z; exact absurd z (by decide)
      · rw [h.f29, I_ntn (by omega), k29, bI_0, Bool.not_eq_false, blt_t] at z
        rw [h.f28, I_ntn (by omega), k28, I_eq (by omega) (by omega) (by omega) (by omega), unm_id z] at y
        have c63 : sp.getD j 0 = 63 := by omega
        unfold fitM fitB
        rw [decide_eq_true (show sp.getD j 0 = 63 ∨ unm (sp.getD j 0) = x from Or.inl c63), c63]; rfl
      · rw [h.f28, I_ntn (by omega), k28, I_eq (by omega) (by omega) (by omega) (by omega), w] at y; exact y rfl
    refine w155_2 ⟨h.k0, fun c => ?_, fun c => ⟨fun z => ?_, fun z => ⟨h.n29, by rw [h.f29]; exact h.k22, by rw [h.f29]; exact l29, fun y => w155_3 (four false _ _ (bj.mp z) ⟨fun w => absurd w (by decide), fun w => ?_⟩), fun y => ⟨h.n28, by rw [h.f28]; exact h.k21, by rw [h.f28]; exact l28, fun w => w155_3 (four false _ _ (bj.mp z) ⟨fun v => absurd v (by decide), fun v => ?_⟩), fun w => four true _ _ (bj.mp z) ⟨fun _ => ?_, fun _ => rfl⟩⟩⟩⟩⟩
    · rw [k.1, I_le (by omega) (by omega) (by omega) (by omega)] at c; omega
    · have b0 : b6 v2 j = false := by rw [← Bool.not_eq_true]; exact fun y => z (bj.mpr y)
      rw [I_add]
      refine ih (j + 1) v6 _ _ (by omega) (by omega) (fun p hp => ?_)
      rw [nx p, a p hp, b0]
      simp
    · rw [h.f29, I_ntn (by omega), k29, w] at y; exact absurd y (by decide)
    · rw [h.f28, I_ntn (by omega), k28, I_eq (by omega) (by omega) (by omega) (by omega), v] at w; exact absurd rfl w
    · rw [h.f29, I_ntn (by omega), k29, bI_0, Bool.not_eq_false, blt_t] at y
      rw [h.f28, I_ntn (by omega), k28, I_eq (by omega) (by omega) (by omega) (by omega), unm_id y] at w; omega
theorem m_mat1 {i : Nat} {nm : List Nat} (h : mS M m) (k : mkX M m sp) (r : nmR M (m + 14) (m + 15) 8 (8 + i) nm) (hi : i < 8) (hq : Q (.inl (some (.int (I (bI (mt sp nm)))))) M) (n : Nat) : ∀ (l : Nat) (v2 : Int64) (d5 d6 d8 d9 d10 : Option Value), n = nm.length - l → l ≤ nm.length → (∀ p, p ≤ sp.length → b6 v2 p = gM sp nm p l) →
    mX E 155 1 [some (.ref m), some (.int (I i)), some (.long v2), none, some (.int (I l)), d5, d6, none, d8, d9, d10] [] M Q := by
  have k2 := k.2.1
  have rl := r.2.1
  have e1 : nt (I 8 + I (i : Int)) = 8 + i := by
    rw [I_add, show (8 : Int) + (i : Int) = ((8 + i : Nat) : Int) by omega, I_ntn (by omega)]
  induction n with
  | zero =>
    intro l v2 d5 d6 d8 d9 d10 hn hl a
    have le : l = nm.length := by omega
    have fin : b6 v2 sp.length = mt sp nm := by
      rw [a _ (Nat.le_refl _), mt_D rl, le]
      unfold gM; rw [if_neg (fun z => by omega)]
    have bj : lg_cmp ((lshr v2 (I sp.length)) &&& Int64.ofNat 1) (Int64.ofNat 1) = I 0 ↔ b6 v2 sp.length = true := by rw [b6_cmp, b6_shr (by omega)]
    refine w155_1 ⟨h.k0, h.n19, by rw [h.f19]; exact h.k15, by rw [h.f19, h.l15, I_add]; exact I_in (by omega) (by omega) (by omega), fun _ => ⟨fun z => ?_, fun z => ?_⟩, fun c => ?_⟩
    · rw [k.1, bj, fin] at z
      rw [Bool.not_eq_true] at z
      rw [z] at hq; exact hq
    · rw [k.1, bj, fin] at z
      rw [z] at hq; exact hq
    · rw [h.f19, e1, r.1, I_le (by omega) (by omega) (by omega) (by omega)] at c; omega
  | succ n ih =>
    intro l v2 d5 d6 d8 d9 d10 hn hl a
    have e2 : nt (I 8 * (I 8 + I (i : Int)) + I (l : Int)) = 8 * (8 + i) + l := by
      rw [I_add, I_mul, I_add, show (8 : Int) * (8 + (i : Int)) + (l : Int) = ((8 * (8 + i) + l : Nat) : Int) by omega, I_ntn (by omega)]
    refine w155_1 ⟨h.k0, h.n19, by rw [h.f19]; exact h.k15, by rw [h.f19, h.l15, I_add]; exact I_in (by omega) (by omega) (by omega), fun c => ?_, fun c => ⟨h.n18, by rw [h.f18]; exact h.k14, by rw [h.f18, h.l14, I_add, I_mul, I_add]; exact I_in (by omega) (by omega) (by omega), ?_⟩⟩
    · rw [h.f19, e1, r.1, I_le (by omega) (by omega) (by omega) (by omega)] at c; omega
    · rw [h.f18, e2, r.2.2.1 l (by omega)]
      refine m_mat2 h k (r.ch l) (fun v6 v8 d9 d10 a6 => m_stars h k (fun v' a' => ?_)) _ 0 _ _ _ rfl (by omega) (fun p hp => ?_)
      · show mX E 155 1 _ [] M Q
        rw [I_add]
        refine ih (l + 1) v' _ _ _ _ _ (by omega) (by omega) (fun p hp => ?_)
        rw [a' p hp, stF_cong a6 p hp, ← gM_s sp nm l p hp]
        refine stF_cong (n := sp.length) (fun q hq2 => ?_) p hp
        unfold nxM
        rw [a q hq2]
        by_cases z : 1 ≤ q
        · rw [a (q - 1) (by omega)]
        · rw [decide_eq_false (show ¬ (1 ≤ q ∧ q ≤ sp.length) by omega), Bool.false_and, Bool.false_and]
      · have z : b6 (Int64.ofNat 0) p = false := by
          have : ∀ j : Nat, j < 64 → b6 (Int64.ofNat 0) j = false := by decide
          exact this p (by omega)
        rw [z]
        unfold nxM
        rw [decide_eq_false (show ¬ p < 0 by omega), decide_eq_false (show ¬ (1 ≤ p ∧ p ≤ 0) by omega)]; rfl
/-- the pattern fits the file's name -/
theorem m_matches {i : Nat} {nm : List Nat} (h : mS M m) (k : mkX M m sp) (r : nmR M (m + 14) (m + 15) 8 (8 + i) nm) (hi : i < 8) (hq : Q (.inl (some (.int (I (bI (mt sp nm)))))) M) : mC E 155 [.ref m, .int (I i)] M Q := by
  have k2 := k.2.1
  refine w155_0 ⟨h.k0, m_stars h k (fun v' a' => ?_)⟩
  refine m_mat1 h k r hi hq _ 0 v' none none none none none rfl (by omega) (fun p hp => ?_)
  rw [a' p hp, ← gM_0 sp nm p hp]
  refine stF_cong (n := sp.length) (fun q hq2 => ?_) p hp
  have : ∀ j : Nat, j < 64 → b6 (Int64.ofNat 1) j = d0 j := by decide
  exact this q (by omega)
end MGLOB
