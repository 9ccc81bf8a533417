/-! PATTERNS: the bits of both programs are one table -/
def b6 (v : Int64) (k : Nat) : Bool := v.toBitVec.getLsbD k
def b3 (v : Int32) (k : Nat) : Bool := v.toBitVec.getLsbD k
/-- the shift's number -/
theorem sh6 {k : Nat} (h : k < 64) : ((I k).toInt64 &&& 63).toBitVec.smod 64 = BitVec.ofNat 64 k := by
  have : ∀ j : Nat, j < 64 → ((I j).toInt64 &&& 63).toBitVec.smod 64 = BitVec.ofNat 64 j := by decide
  exact this k h
theorem sh3 {k : Nat} (h : k < 32) : ((I k) &&& 31).toBitVec.smod 32 = BitVec.ofNat 32 k := by
  have : ∀ j : Nat, j < 32 → ((I j) &&& 31).toBitVec.smod 32 = BitVec.ofNat 32 j := by decide
  exact this k h
theorem b6_shr {v : Int64} {k : Nat} (h : k < 64) : b6 (lshr v (I k)) 0 = b6 v k := by
  unfold b6 lshr
  show (v.toBitVec.sshiftRight' (((I k).toInt64 &&& 63).toBitVec.smod 64)).getLsbD 0 = _
  rw [sh6 h, BitVec.sshiftRight', BitVec.getLsbD_sshiftRight]
  have e : (BitVec.ofNat 64 k).toNat = k := by simp; omega
  rw [e]
  simp [h]
theorem b6_shl {k j : Nat} (h : k < 64) (hj : j < 64) : b6 (lshl (Int64.ofNat 1) (I k)) j = decide (j = k) := by
  have : ∀ k : Nat, k < 64 → ∀ j : Nat, j < 64 → b6 (lshl (Int64.ofNat 1) (I k)) j = decide (j = k) := by decide
  exact this k h j hj
theorem b6_or {v w : Int64} {j : Nat} : b6 (v ||| w) j = (b6 v j || b6 w j) := by
  unfold b6; rw [Int64.toBitVec_or, BitVec.getLsbD_or]
theorem b6_cmp {v : Int64} : lg_cmp (v &&& Int64.ofNat 1) (Int64.ofNat 1) = I 0 ↔ b6 v 0 = true := by
  have e : (v &&& Int64.ofNat 1) = if b6 v 0 = true then Int64.ofNat 1 else Int64.ofNat 0 := by
    apply Int64.toBitVec_inj.mp
    rw [Int64.toBitVec_and]
    apply BitVec.eq_of_getLsbD_eq
    intro i hi
    have o : ∀ i, i < 64 → (Int64.ofNat 1).toBitVec.getLsbD i = decide (i = 0) := by decide
    rw [BitVec.getLsbD_and, o i hi]
    by_cases q : i = 0
    · subst q
      unfold b6
      cases z : v.toBitVec.getLsbD 0 <;> decide
    · rw [decide_eq_false q, Bool.and_false]
      split
      · rw [o i hi, decide_eq_false q]
      · have : ∀ i, i < 64 → (Int64.ofNat 0).toBitVec.getLsbD i = false := by decide
        rw [this i hi]
  rw [e]
  cases b6 v 0 <;> decide
theorem b3_shr {v : Int32} {k : Nat} (h : k < 32) : b3 (ishr v (I k)) 0 = b3 v k := by
  unfold b3 ishr
  show (v.toBitVec.sshiftRight' (((I k) &&& 31).toBitVec.smod 32)).getLsbD 0 = _
  rw [sh3 h, BitVec.sshiftRight', BitVec.getLsbD_sshiftRight]
  have e : (BitVec.ofNat 32 k).toNat = k := by simp; omega
  rw [e]
  simp [h]
theorem b3_shl {k j : Nat} (h : k < 31) (hj : j < 32) : b3 (ishl (I 2) (I k)) j = decide (j = k + 1) := by
  have : ∀ k : Nat, k < 31 → ∀ j : Nat, j < 32 → b3 (ishl (I 2) (I k)) j = decide (j = k + 1) := by decide
  exact this k h j hj
theorem b3_or {v w : Int32} {j : Nat} : b3 (v ||| w) j = (b3 v j || b3 w j) := by
  unfold b3; rw [Int32.toBitVec_or, BitVec.getLsbD_or]
theorem b3_one {v : Int32} : v &&& I 1 = I 1 ↔ b3 v 0 = true := by
  have e : (v &&& I 1) = if b3 v 0 = true then I 1 else I 0 := by
    apply Int32.toBitVec_inj.mp
    rw [Int32.toBitVec_and]
    apply BitVec.eq_of_getLsbD_eq
    intro i hi
    have o : ∀ i, i < 32 → (I 1).toBitVec.getLsbD i = decide (i = 0) := by decide
    rw [BitVec.getLsbD_and, o i hi]
    by_cases q : i = 0
    · subst q
      unfold b3
      cases z : v.toBitVec.getLsbD 0 <;> decide
    · rw [decide_eq_false q, Bool.and_false]
      split
      · rw [o i hi, decide_eq_false q]
      · have : ∀ i, i < 32 → (I 0).toBitVec.getLsbD i = false := by decide
        rw [this i hi]
  rw [e]
  cases b3 v 0 <;> decide
theorem b3_star {v : Int32} {k : Nat} (h : k < 32) : b3 (-(v &&& -v)) k = true ↔ ∃ j, j ≤ k ∧ b3 v j = true := by
  unfold b3
  rw [Int32.toBitVec_neg, BitVec.getLsbD_neg, Int32.toBitVec_and]
  have y : ∀ i, i < 32 → ((v.toBitVec &&& (-v).toBitVec).getLsbD i = true ↔ v.toBitVec.getLsbD i = true ∧ ¬ ∃ j, j < i ∧ v.toBitVec.getLsbD j = true) := by
    intro i hi
    rw [BitVec.getLsbD_and, Int32.toBitVec_neg, BitVec.getLsbD_neg]
    by_cases q : ∃ j, j < i ∧ v.toBitVec.getLsbD j = true
    · rw [decide_eq_true (show i < 32 from hi), decide_eq_true q]
      simp [q]
    · rw [decide_eq_false q]
      simp [q]
  constructor
  · intro hh
    by_cases q : (v.toBitVec &&& (-v).toBitVec).getLsbD k = true
    · exact ⟨k, Nat.le_refl _, ((y k h).mp q).1⟩
    · rw [Bool.not_eq_true] at q
      rw [q, Bool.false_xor, Bool.and_eq_true, decide_eq_true_eq, decide_eq_true_eq] at hh
      obtain ⟨_, j, hj, e⟩ := hh
      exact ⟨j, by omega, ((y j (by omega)).mp e).1⟩
  · intro hh
    -- the lowest
    have low : ∀ n, (∃ j, j ≤ n ∧ v.toBitVec.getLsbD j = true) → ∃ j, j ≤ n ∧ v.toBitVec.getLsbD j = true ∧ ¬ ∃ i, i < j ∧ v.toBitVec.getLsbD i = true := by
      intro n
      induction n with
      | zero =>
        intro ⟨j, hj, e⟩
        exact ⟨j, hj, e, fun ⟨i, hi, _⟩ => by omega⟩
      | succ n ih =>
        intro ⟨j, hj, e⟩
        by_cases q : ∃ j, j ≤ n ∧ v.toBitVec.getLsbD j = true
        · obtain ⟨j, a, b, c⟩ := ih q
          exact ⟨j, by omega, b, c⟩
        · exact ⟨j, hj, e, fun ⟨i, hi, e2⟩ => q ⟨i, by omega, e2⟩⟩
    obtain ⟨j, hj, e, no⟩ := low k hh
    have yj := (y j (by omega)).mpr ⟨e, no⟩
    by_cases q : j = k
    · subst q
      rw [yj, Bool.true_xor]
      have : ¬ ∃ i, i < j ∧ (v.toBitVec &&& (-v).toBitVec).getLsbD i = true := fun ⟨i, hi, e2⟩ => no ⟨i, hi, ((y i (by omega)).mp e2).1⟩
      rw [decide_eq_false this, Bool.and_false]; rfl
    · have yk : (v.toBitVec &&& (-v).toBitVec).getLsbD k = false := by
        rw [← Bool.not_eq_true, y k h]
        exact fun z => z.2 ⟨j, by omega, e⟩
      rw [yk, Bool.false_xor, Bool.and_eq_true, decide_eq_true_eq, decide_eq_true_eq]
      exact ⟨h, j, by omega, yj⟩

/-- a character that is no star fits -/
def fitB (c x : Nat) : Bool := decide (c = 63 ∨ unm c = x)
/-- the table's next row -/
def gN (c : Nat) (nm : List Nat) (pr : Nat → Bool) : Nat → Bool
  | 0 => decide (c = 42) && pr 0
  | i + 1 => if c = 42 then pr (i + 1) || gN c nm pr i else fitB c (nm.getD i 0) && pr i
def gF (nm : List Nat) : List Nat → (Nat → Bool) → Nat → Bool
  | [], pr => pr
  | c :: u, pr => gF nm u (gN c nm pr)
def d0 (i : Nat) : Bool := decide (i = 0)
def gD (u nm : List Nat) (p : Nat) : Nat → Bool := gF nm (u.take p) d0
theorem gF_sn (nm : List Nat) (c : Nat) : ∀ (l : List Nat) (pr : Nat → Bool), gF nm (l ++ [c]) pr = gN c nm (gF nm l pr)
  | [], _ => rfl
  | x :: l, pr => gF_sn nm c l (gN x nm pr)
theorem gD_s {u nm : List Nat} {p : Nat} (h : p < u.length) : gD u nm (p + 1) = gN (u.getD p 0) nm (gD u nm p) := by
  unfold gD
  rw [take_snoc h, gF_sn]
theorem gN_cong {c : Nat} {nm : List Nat} {f g : Nat → Bool} {n : Nat} (h : ∀ i, i ≤ n → f i = g i) : ∀ i, i ≤ n → gN c nm f i = gN c nm g i
  | 0, hi => by unfold gN; rw [h 0 hi]
  | i + 1, hi => by unfold gN; rw [h (i + 1) hi, h i (by omega), gN_cong h i (by omega)]
theorem gF_cong {nm : List Nat} {n : Nat} : ∀ (u : List Nat) {f g : Nat → Bool}, (∀ i, i ≤ n → f i = g i) → ∀ i, i ≤ n → gF nm u f i = gF nm u g i
  | [], _, _, h, i, hi => h i hi
  | c :: u, _, _, h, i, hi => gF_cong u (gN_cong h) i hi
theorem gN_star {nm : List Nat} {pr : Nat → Bool} : ∀ i, gN 42 nm pr i = true ↔ ∃ j, j ≤ i ∧ pr j = true
  | 0 => by
    unfold gN
    rw [decide_eq_true rfl, Bool.true_and]
    exact ⟨fun h => ⟨0, Nat.le_refl _, h⟩, fun ⟨j, hj, e⟩ => by rw [show j = 0 by omega] at e; exact e⟩
  | i + 1 => by
    unfold gN
    rw [if_pos rfl, Bool.or_eq_true, gN_star i]
    constructor
    · rintro (h | ⟨j, hj, e⟩)
      · exact ⟨i + 1, Nat.le_refl _, h⟩
      · exact ⟨j, by omega, e⟩
    · intro ⟨j, hj, e⟩
      by_cases q : j = i + 1
      · subst q; exact Or.inl e
      · exact Or.inr ⟨j, by omega, e⟩
theorem b3_nx (nm : List Nat) (c : Nat) (x : Int32) : ∀ (n k : Nat) (y : Int32) (j : Nat), k + n ≤ 30 → j ≤ 30 → b3 (nxC nm c x n k y) j = (b3 y j || (decide (k < j ∧ j ≤ k + n) && (b3 x (j - 1) && fitB c (nm.getD (j - 1) 0))))
  | 0, k, y, j, _, _ => by unfold nxC; rw [decide_eq_false (by omega), Bool.false_and, Bool.or_false]
  | n + 1, k, y, j, h1, h2 => by
    unfold nxC
    have bx : ishr x (I k) &&& I 1 = I 1 ↔ b3 x k = true := by rw [b3_one, b3_shr (by omega)]
    by_cases q : ishr x (I k) &&& I 1 = I 1 ∧ (c = 63 ∨ unm c = nm.getD k 0)
    · rw [if_pos q, b3_nx nm c x n (k + 1) _ j (by omega) h2, b3_or, b3_shl (by omega) (by omega)]
      by_cases z : j = k + 1
      · subst z
        have f1 : b3 x (k + 1 - 1) = true := bx.mp q.1
        have f2 : fitB c (nm.getD (k + 1 - 1) 0) = true := decide_eq_true q.2
        rw [f1, f2, decide_eq_true (show k < k + 1 ∧ k + 1 ≤ k + (n + 1) by omega), decide_eq_true (show k + 1 = k + 1 from rfl)]
        simp
      · rw [decide_eq_false z, Bool.or_false]
        by_cases z2 : k + 1 < j ∧ j ≤ k + 1 + n
        · rw [decide_eq_true z2, decide_eq_true (show k < j ∧ j ≤ k + (n + 1) by omega)]
        · rw [decide_eq_false z2, decide_eq_false (show ¬ (k < j ∧ j ≤ k + (n + 1)) by omega)]
    · rw [if_neg q, b3_nx nm c x n (k + 1) _ j (by omega) h2]
      by_cases z : j = k + 1
      · subst z
        have f : (b3 x (k + 1 - 1) && fitB c (nm.getD (k + 1 - 1) 0)) = false := by
          rw [Bool.eq_false_iff]
          intro e
          rw [Bool.and_eq_true] at e
          exact q ⟨bx.mpr e.1, of_decide_eq_true e.2⟩
        rw [f, Bool.and_false, Bool.and_false]
      · by_cases z2 : k + 1 < j ∧ j ≤ k + 1 + n
        · rw [decide_eq_true z2, decide_eq_true (show k < j ∧ j ≤ k + (n + 1) by omega)]
        · rw [decide_eq_false z2, decide_eq_false (show ¬ (k < j ∧ j ≤ k + (n + 1)) by omega)]
theorem b3_mt (nm : List Nat) (hn : nm.length ≤ 8) : ∀ (u : List Nat) (x : Int32) (i : Nat), i ≤ nm.length → b3 (mtC nm u x) i = gF nm u (b3 x) i
  | [], x, i, _ => rfl
  | c :: u, x, i, hi => by
    unfold mtC gF
    by_cases q : c = 42
    · rw [if_pos q, b3_mt nm hn u _ i hi]
      refine gF_cong (n := nm.length) u (fun j hj => ?_) i hi
      subst q
      rw [Bool.eq_iff_iff, b3_star (by omega), gN_star]
    · rw [if_neg q, b3_mt nm hn u _ i hi]
      refine gF_cong (n := nm.length) u (fun j hj => ?_) i hi
      have z : b3 (I 0) j = false := by
        have : ∀ j : Nat, j < 32 → b3 (I 0) j = false := by decide
        exact this j (by omega)
      rw [b3_nx nm c x _ 0 _ j (by omega) (by omega), z, Bool.false_or]
      cases j with
      | zero => unfold gN; rw [decide_eq_false (by omega), decide_eq_false q, Bool.false_and, Bool.false_and]
      | succ j =>
        unfold gN
        rw [if_neg q, decide_eq_true (show 0 < j + 1 ∧ j + 1 ≤ 0 + nm.length by omega), Bool.true_and, Bool.and_comm]; rfl
theorem mt_D {u nm : List Nat} (hn : nm.length ≤ 8) : mt u nm = gD u nm u.length nm.length := by
  unfold mt gD
  rw [List.take_length]
  have e : (ishr (mtC nm u (I 1)) (I nm.length) &&& I 1 = I 1) ↔ b3 (mtC nm u (I 1)) nm.length = true := by rw [b3_one, b3_shr (by omega)]
  rw [Bool.eq_iff_iff, decide_eq_true_eq, e, b3_mt nm hn u (I 1) nm.length (Nat.le_refl _)]
  rw [gF_cong (n := nm.length) u (g := d0) (fun j hj => ?_) nm.length (Nat.le_refl _)]
  have : ∀ j : Nat, j < 32 → b3 (I 1) j = d0 j := by decide
  exact this j (by omega)
/-- the reference's places: a star's place stays -/
def gM (u nm : List Nat) (p i : Nat) : Bool := if p < u.length ∧ u.getD p 0 = 42 then gD u nm (p + 1) i else gD u nm p i
def stF (sp : List Nat) (f : Nat → Bool) : Nat → Bool
  | 0 => f 0
  | p + 1 => f (p + 1) || (decide (sp.getD p 0 = 42) && stF sp f p)
def fitM (c x : Nat) : Bool := decide (¬ c = 42) && fitB c x
/-- the next places, up to j of them looked at -/
def nxM (sp : List Nat) (x : Nat) (f : Nat → Bool) (j p : Nat) : Bool := (decide (p < j) && (f p && decide (sp.getD p 0 = 42))) || (decide (1 ≤ p ∧ p ≤ j) && (f (p - 1) && fitM (sp.getD (p - 1) 0) x))
theorem stF_cong {sp : List Nat} {f g : Nat → Bool} {n : Nat} (h : ∀ p, p ≤ n → f p = g p) : ∀ p, p ≤ n → stF sp f p = stF sp g p
  | 0, hp => h 0 hp
  | p + 1, hp => by unfold stF; rw [h (p + 1) hp, stF_cong h p (by omega)]
theorem gN_s {c : Nat} {nm : List Nat} {pr : Nat → Bool} {i : Nat} : gN c nm pr (i + 1) = if c = 42 then pr (i + 1) || gN c nm pr i else fitB c (nm.getD i 0) && pr i := rfl
theorem gM_0 (u nm : List Nat) : ∀ p, p ≤ u.length → stF u d0 p = gM u nm p 0
  | 0, hp => by
    unfold gM stF
    by_cases q : 0 < u.length ∧ u.getD 0 0 = 42
    · rw [if_pos q, gD_s q.1, q.2]; rfl
    · rw [if_neg q]; rfl
  | p + 1, hp => by
    unfold stF
    rw [gM_0 u nm p (by omega)]
    have e0 : d0 (p + 1) = false := rfl
    rw [e0, Bool.false_or]
    have ds : gD u nm (p + 1) 0 = (decide (u.getD p 0 = 42) && gD u nm p 0) := by rw [gD_s (by omega)]; rfl
    by_cases q : u.getD p 0 = 42
    · have m1 : gM u nm p 0 = gD u nm (p + 1) 0 := by unfold gM; rw [if_pos ⟨by omega, q⟩]
      rw [decide_eq_true q, Bool.true_and, m1]
      unfold gM
      by_cases q2 : p + 1 < u.length ∧ u.getD (p + 1) 0 = 42
      · rw [if_pos q2, gD_s (p := p + 1) q2.1, q2.2]
        show _ = (decide (42 = 42) && gD u nm (p + 1) 0)
        rw [decide_eq_true rfl, Bool.true_and]
      · rw [if_neg q2]
    · rw [decide_eq_false q, Bool.false_and] at ds ⊢
      unfold gM
      by_cases q2 : p + 1 < u.length ∧ u.getD (p + 1) 0 = 42
      · rw [if_pos q2, gD_s (p := p + 1) q2.1]
        show _ = (decide (u.getD (p + 1) 0 = 42) && gD u nm (p + 1) 0)
        rw [ds, Bool.and_false]
      · rw [if_neg q2, ds]
theorem gM_s (u nm : List Nat) (i : Nat) : ∀ p, p ≤ u.length → stF u (nxM u (nm.getD i 0) (fun q => gM u nm q i) u.length) p = gM u nm p (i + 1)
  | 0, hp => by
    unfold stF nxM
    rw [decide_eq_false (show ¬ (1 ≤ 0 ∧ 0 ≤ u.length) by omega), Bool.false_and, Bool.or_false]
    show (decide (0 < u.length) && (gM u nm 0 i && decide (u.getD 0 0 = 42))) = _
    unfold gM
    by_cases q : 0 < u.length ∧ u.getD 0 0 = 42
    · rw [if_pos q, if_pos q, decide_eq_true q.1, decide_eq_true q.2, Bool.true_and, Bool.and_true, gD_s q.1, q.2, gN_s, if_pos rfl]
      have : gD u nm 0 (i + 1) = false := rfl
      rw [this, Bool.false_or]
    · rw [if_neg q, if_neg q]
      have : gD u nm 0 (i + 1) = false := rfl
      rw [this, Bool.eq_false_iff]
      intro z
      rw [Bool.and_eq_true, Bool.and_eq_true] at z
      exact q ⟨of_decide_eq_true z.1, of_decide_eq_true z.2.2⟩
  | p + 1, hp => by
    unfold stF
    rw [gM_s u nm i p (by omega)]
    have ds : gD u nm (p + 1) (i + 1) = if u.getD p 0 = 42 then gD u nm p (i + 1) || gD u nm (p + 1) i else fitB (u.getD p 0) (nm.getD i 0) && gD u nm p i := by rw [gD_s (by omega)]; rfl
    -- what comes of a star at p + 1
    have fst : (decide (p + 1 < u.length) && (gM u nm (p + 1) i && decide (u.getD (p + 1) 0 = 42))) = (decide (p + 1 < u.length ∧ u.getD (p + 1) 0 = 42) && gD u nm (p + 2) i) := by
      unfold gM
      by_cases q : p + 1 < u.length ∧ u.getD (p + 1) 0 = 42
      · rw [if_pos q, decide_eq_true q, decide_eq_true q.1, decide_eq_true q.2, Bool.true_and, Bool.and_true, Bool.true_and]
      · rw [decide_eq_false q, Bool.false_and, Bool.eq_false_iff]
        intro z
        rw [Bool.and_eq_true, Bool.and_eq_true] at z
        exact q ⟨of_decide_eq_true z.1, of_decide_eq_true z.2.2⟩
    have fin : gM u nm (p + 1) (i + 1) = ((decide (p + 1 < u.length ∧ u.getD (p + 1) 0 = 42) && gD u nm (p + 2) i) || gD u nm (p + 1) (i + 1)) := by
      unfold gM
      by_cases q : p + 1 < u.length ∧ u.getD (p + 1) 0 = 42
      · rw [if_pos q, decide_eq_true q, Bool.true_and, gD_s (p := p + 1) q.1, q.2, gN_s, if_pos rfl, Bool.or_comm]
      · rw [if_neg q, decide_eq_false q, Bool.false_and, Bool.false_or]
    rw [fin]
    unfold nxM
    rw [fst, decide_eq_true (show 1 ≤ p + 1 ∧ p + 1 ≤ u.length by omega), Bool.true_and, Nat.add_sub_cancel]
    unfold fitM
    by_cases q : u.getD p 0 = 42
    · have m1 : gM u nm p (i + 1) = gD u nm (p + 1) (i + 1) := by unfold gM; rw [if_pos ⟨by omega, q⟩]
      rw [decide_eq_true q, Bool.true_and, m1, decide_eq_false (show ¬ ¬ u.getD p 0 = 42 from fun z => z q), Bool.false_and, Bool.and_false, Bool.or_false]
    · have m1 : gM u nm p i = gD u nm p i := by unfold gM; rw [if_neg (fun z => q z.2)]
      rw [if_neg q] at ds
      rw [decide_eq_false q, Bool.false_and, Bool.or_false, decide_eq_true (show ¬ u.getD p 0 = 42 from q), Bool.true_and, ds]
      show ((decide _ && _) || (gM u nm p i && _)) = _
      rw [m1, Bool.and_comm (gD u nm p i)]
