/-! HOW THE CLASS READS A SCRIPT, as functions; the methods of Syntax that look ahead -/
def isL (c : Nat) : Bool := (Nat.ble 97 c && Nat.ble c 122) || (Nat.ble 65 c && Nat.ble c 90) || Nat.beq c 95
def isD (c : Nat) : Bool := Nat.ble 48 c && Nat.ble c 57
theorem isL_iff {c : Nat} : isL c = true ↔ (97 ≤ c ∧ c ≤ 122) ∨ (65 ≤ c ∧ c ≤ 90) ∨ c = 95 := by
  simp [isL, or_assoc]
theorem isD_iff {c : Nat} : isD c = true ↔ 48 ≤ c ∧ c ≤ 57 := by simp [isD]
/-- the end of the longest name that begins at f, looked for from e -/
def nmE (s : List Nat) (f : Nat) : Nat → Nat → Nat
  | 0, e => e
  | n + 1, e => if e < s.length ∧ (isL (s.getD e 0) = true ∨ (isD (s.getD e 0) = true ∧ f < e)) then nmE s f n (e + 1) else e
def nE (s : List Nat) (f : Nat) : Nat := nmE s f s.length f
theorem nmE_ge (s : List Nat) (f : Nat) : ∀ n e, e ≤ nmE s f n e
  | 0, e => Nat.le_refl e
  | n + 1, e => by
    unfold nmE; split
    · have := nmE_ge s f n (e + 1); omega
    · omega
theorem nmE_le (s : List Nat) (f : Nat) : ∀ n e, e ≤ s.length → nmE s f n e ≤ s.length
  | 0, e, h => h
  | n + 1, e, h => by
    unfold nmE; split
    · exact nmE_le s f n (e + 1) (by omega)
    · exact h
theorem nmE_out (s : List Nat) (f n e : Nat) (h : s.length ≤ e) : nmE s f n e = e := by
  cases n with
  | zero => rfl
  | succ n => unfold nmE; rw [if_neg (by omega)]
theorem nE_ge (s : List Nat) (f : Nat) : f ≤ nE s f := nmE_ge _ _ _ _
theorem nE_le {s : List Nat} {f : Nat} (h : f ≤ s.length) : nE s f ≤ s.length := nmE_le _ _ _ _ h
theorem nE_bd (s : List Nat) (f : Nat) : nE s f ≤ max f s.length := by
  by_cases h : f ≤ s.length
  · have := nE_le h; omega
  · have := nmE_out s f s.length f (by omega); unfold nE; omega
/-- the end of a TEXT -/
def inT (c : Nat) : Prop := ¬ c = 125 ∧ ¬ c = 10 ∧ ¬ c = 39 ∧ ¬ c = 34 ∧ ¬ c = 92 ∧ ¬ c = 36
def txE (s : List Nat) : Nat → Nat → Nat
  | 0, e => e
  | n + 1, e => if e < s.length ∧ ¬ s.getD e 0 = 125 ∧ ¬ s.getD e 0 = 10 ∧ ¬ s.getD e 0 = 39 ∧ ¬ s.getD e 0 = 34 ∧ ¬ s.getD e 0 = 92 ∧ ¬ s.getD e 0 = 36 then txE s n (e + 1) else e
def tE (s : List Nat) (f : Nat) : Nat := txE s s.length f
theorem txE_ge (s : List Nat) : ∀ n e, e ≤ txE s n e
  | 0, e => Nat.le_refl e
  | n + 1, e => by
    unfold txE; split
    · have := txE_ge s n (e + 1); omega
    · omega
theorem txE_le (s : List Nat) : ∀ n e, e ≤ s.length → txE s n e ≤ s.length
  | 0, e, h => h
  | n + 1, e, h => by
    unfold txE; split
    · exact txE_le s n (e + 1) (by omega)
    · exact h
theorem txE_out (s : List Nat) (n e : Nat) (h : s.length ≤ e) : txE s n e = e := by
  cases n with
  | zero => rfl
  | succ n => unfold txE; rw [if_neg (by omega)]
theorem tE_ge (s : List Nat) (f : Nat) : f ≤ tE s f := txE_ge _ _ _
theorem tE_bd (s : List Nat) (f : Nat) : tE s f ≤ max f s.length := by
  by_cases h : f ≤ s.length
  · have := txE_le s s.length f h; unfold tE; omega
  · have := txE_out s s.length f (by omega); unfold tE; omega
/-- the next token: over blanks and comments -/
def fT (s : List Nat) : Nat → Bool → Nat → Bool × Nat
  | 0, _, e => (false, e)
  | n + 1, cm, e => if e < s.length then (if s.getD e 0 = 35 ∨ (cm = true ∧ ¬ s.getD e 0 = 10) then fT s n true (e + 1) else if s.getD e 0 = 32 then fT s n false (e + 1) else (true, e)) else (false, e)
theorem fT_r (s : List Nat) : ∀ n cm e, e ≤ s.length → e ≤ (fT s n cm e).2 ∧ (fT s n cm e).2 ≤ s.length ∧ ((fT s n cm e).1 = true → (fT s n cm e).2 < s.length)
  | 0, cm, e, h => by unfold fT; simp; exact h
  | n + 1, cm, e, h => by
    unfold fT; split
    · split
      · have := fT_r s n true (e + 1) (by omega); exact ⟨by omega, this.2.1, this.2.2⟩
      · split
        · have := fT_r s n false (e + 1) (by omega); exact ⟨by omega, this.2.1, this.2.2⟩
        · simp; omega
    · simp; exact h
/-- the syntax's cell: place, at, awaited, join, redirection, wordSeen -/
def yC (b : Nat) (M : mM) (pl p aw jn rd : Nat) (ws : Bool) : Prop := cX b M (vI [pl, p, aw, jn, rd, bI ws]) 2
/-- the syntax in memory -/
def sy (b : Nat) (M : mM) (s : List Nat) (pl p aw jn rd : Nat) (ws : Bool) (cs is ps : List (List Nat)) : Prop := 0 < b ∧ tX M (b + 1) 240 s ∧ yC b M pl p aw jn rd ws ∧ shX M (b + 4) 240 cs ∧ shX M (b + 6) 240 is ∧ shX M (b + 8) 240 ps
theorem sy.cell {b : Nat} {M : mM} {s : List Nat} {pl p aw jn rd : Nat} {ws : Bool} {cs is ps : List (List Nat)} (h : sy b M s pl p aw jn rd ws cs is ps) : mkd M (b + 3) = 106 ∧ mr M (b + 3) 0 = b + 4 ∧ mr M (b + 3) 1 = b + 6 ∧ mr M (b + 3) 2 = b + 8 ∧ mr M (b + 3) 4 = b + 1 ∧ mi M (b + 3) 3 = I pl ∧ mi M (b + 3) 5 = I p ∧ mi M (b + 3) 6 = I aw ∧ mi M (b + 3) 7 = I jn ∧ mi M (b + 3) 8 = I rd ∧ mi M (b + 3) 9 = I (bI ws) := h.2.2.1
/-- one number of the syntax's cell has changed -/
theorem sy.seti {b : Nat} {M M' : mM} {s : List Nat} {pl p aw jn rd : Nat} {ws : Bool} {cs is ps : List (List Nat)} (h : sy b M s pl p aw jn rd ws cs is ps) {k : Nat} {v : Int32} (q : M' = msi M (b + 3) k v) {pl' p' aw' jn' rd' : Nat} {ws' : Bool} (g3 : (if 3 = k then v else I pl) = I pl') (g5 : (if 5 = k then v else I p) = I p') (g6 : (if 6 = k then v else I aw) = I aw') (g7 : (if 7 = k then v else I jn) = I jn') (g8 : (if 8 = k then v else I rd) = I rd') (g9 : (if 9 = k then v else I (bI ws)) = I (bI ws')) : sy b M' s pl' p' aw' jn' rd' ws' cs is ps ∧ fr M M' (b + 3) (b + 10) := by
  obtain ⟨c1, c2, c3, c4, c5, c6, c7, c8, c9, c10, c11⟩ := h.cell
  have f : fr M M' (b + 3) (b + 4) := by rw [q]; exact fr_i (by omega) (by omega)
  have e : ∀ j, mi M' (b + 3) j = if j = k then v else mi M (b + 3) j := fun j => by rw [q, i_i]; simp
  refine ⟨⟨h.1, h.2.1.mv f (by omega), ⟨by rw [q]; exact c1, by rw [q]; exact c2, by rw [q]; exact c3, by rw [q]; exact c4, by rw [q]; exact c5, ?_, ?_, ?_, ?_, ?_, ?_⟩, h.2.2.2.1.mv f (by omega), h.2.2.2.2.1.mv f (by omega), h.2.2.2.2.2.mv f (by omega)⟩, f.wide (by omega) (by omega)⟩
  · rw [e, c6]; exact g3
  · rw [e, c7]; exact g5
  · rw [e, c8]; exact g6
  · rw [e, c9]; exact g7
  · rw [e, c10]; exact g8
  · rw [e, c11]; exact g9
section LEX
variable {E : mE} {M : mM} {Q : mQ} {b : Nat} {s : List Nat} {pl p aw jn rd : Nat} {ws : Bool} {cs is ps : List (List Nat)}
theorem ch_at {k : Nat} (h : tX M (b + 1) 240 s) (hk : k < 100000) (hq : Q (.inl (some (.int (I (s.getD k 0 : Nat))))) M) : mC E 15 [.ref (b + 1), .int (I k)] M Q := by
  refine t_at h (by omega) (by omega) ?_
  rw [if_pos (by omega), show ((k : Int).toNat) = k by omega]; exact hq
theorem tX.ch {a cap : Nat} (h : tX M a cap s) (k : Nat) : s.getD k 0 < 65536 := getD_lt h.2.2.2.2.2.2.2.2 (by omega) k
theorem y_begins {c : Nat} (hc : c < 65536) (hq : Q (.inl (some (.int (I (bI (isL c)))))) M) : mC E 61 [.int (I c)] M Q := by
  have y : ((97 ≤ c ∧ c ≤ 122) ∨ (65 ≤ c ∧ c ≤ 90) ∨ c = 95) → Q (.inl (some (.int (I 1)))) M := fun h => by rw [isL_iff.mpr h] at hq; exact hq
  have n : ¬ ((97 ≤ c ∧ c ≤ 122) ∨ (65 ≤ c ∧ c ≤ 90) ∨ c = 95) → Q (.inl (some (.int (I 0)))) M := fun h => by
    have e : isL c = false := by
      cases q : isL c with
      | false => rfl
      | true => exact absurd (isL_iff.mp q) h
    rw [e] at hq; exact hq
  have go : ¬ (97 ≤ c ∧ c ≤ 122) → mX E 61 1 [some (.int (I c))] [] M Q := by
    intro h
    refine w61_1 ⟨fun c1 => ⟨fun c2 => n ?_, fun c2 => y ?_⟩, fun c1 => ⟨fun c2 => y ?_, fun c2 => ⟨fun c3 => n ?_, fun c3 => y ?_⟩⟩⟩
    · rw [I_lt (by omega) (by omega) (by omega) (by omega)] at c1; rw [I_eq (by omega) (by omega) (by omega) (by omega)] at c2; omega
    · rw [I_eq (by omega) (by omega) (by omega) (by omega)] at c2; omega
    · rw [I_lt (by omega) (by omega) (by omega) (by omega)] at c1; rw [I_le (by omega) (by omega) (by omega) (by omega)] at c2; omega
    · rw [I_lt (by omega) (by omega) (by omega) (by omega)] at c1; rw [I_le (by omega) (by omega) (by omega) (by omega)] at c2; rw [I_eq (by omega) (by omega) (by omega) (by omega)] at c3; omega
    · rw [I_eq (by omega) (by omega) (by omega) (by omega)] at c3; omega
  refine w61_0 ⟨fun c1 => go ?_, fun c1 => ⟨fun c2 => y ?_, fun c2 => go ?_⟩⟩
  · rw [I_lt (by omega) (by omega) (by omega) (by omega)] at c1; omega
  · rw [I_lt (by omega) (by omega) (by omega) (by omega)] at c1; rw [I_le (by omega) (by omega) (by omega) (by omega)] at c2; omega
  · rw [I_le (by omega) (by omega) (by omega) (by omega)] at c2; omega
theorem y_nameEnd_l (h : sy b M s pl p aw jn rd ws cs is ps) {f : Nat} (n : Nat) : ∀ (e : Nat) (d3 d4 : Option Value), f ≤ e → e ≤ 1000 → s.length - e ≤ n → Q (.inl (some (.int (I (nmE s f n e))))) M →
    mX E 60 1 [some (.ref (b + 3)), some (.int (I f)), some (.int (I e)), d3, d4] [] M Q := by
  have hb := h.1
  have hl := h.2.1.len
  have h5 := h.2.1.2.2.2.2.1
  obtain ⟨c1, c2, c3, c4, c5, c6, c7, c8, c9, c10, c11⟩ := h.cell
  induction n with
  | zero =>
    intro e d3 d4 hf he hm hq
    refine w60_1 ⟨c1, by rw [c5]; omega, by rw [c5]; exact h.2.1.1, fun _ => hq, fun q => ?_⟩
    rw [c5, h5, I_le (by omega) (by omega) (by omega) (by omega)] at q; omega
  | succ n ih =>
    intro e d3 d4 hf he hm hq
    have hc := h.2.1.ch e
    unfold nmE at hq
    refine w60_1 ⟨c1, by rw [c5]; omega, by rw [c5]; exact h.2.1.1, fun q => ?_, fun q => ?_⟩
    · rw [c5, h5, I_le (by omega) (by omega) (by omega) (by omega)] at q
      rw [if_neg (by omega)] at hq; exact hq
    · rw [c5, h5, I_le (by omega) (by omega) (by omega) (by omega)] at q
      rw [c5]
      have fin : ∀ (z : Bool) (d : Option Value), (z = true ↔ (isD (s.getD e 0) = true ∧ f < e)) → mX E 60 3 [some (.ref (b + 3)), some (.int (I f)), some (.int (I e)), some (.int (I (s.getD e 0 : Nat))), d] [.int (I (bI z))] M Q := by
        intro z d hz
        refine w60_3 (y_begins hc ⟨fun r => ?_, fun r => ⟨fun u => ?_, fun u => ?_⟩⟩)
        · rw [bI_0] at r
          rw [if_pos (by refine ⟨by omega, Or.inl ?_⟩; cases g : isL (s.getD e 0) with | true => rfl | false => exact absurd g r)] at hq
          rw [I_add]; exact ih (e + 1) _ _ (by omega) (by omega) (by omega) hq
        · rw [bI_0] at u
          rw [if_pos (by refine ⟨by omega, Or.inr (hz.mp ?_)⟩; cases z with | true => rfl | false => exact absurd rfl u)] at hq
          rw [I_add]; exact ih (e + 1) _ _ (by omega) (by omega) (by omega) hq
        · rw [bI_0] at r u
          rw [if_neg (fun g => by
            rcases g.2 with g | g
            · rw [r] at g; exact absurd g (by decide)
            · rw [hz.mpr g] at u; exact absurd u (by decide))] at hq
          exact hq
      refine ch_at h.2.1 (by omega) ⟨fun r => ?_, fun r => ⟨fun u => ?_, fun u => ⟨fun w => ?_, fun w => ?_⟩⟩⟩
      · rw [I_lt (by omega) (by omega) (by omega) (by omega)] at r
        exact w60_2 (fin false _ ⟨fun g => absurd g (by decide), fun g => by have := isD_iff.mp g.1; omega⟩)
      · rw [I_lt (by omega) (by omega) (by omega) (by omega)] at u
        exact w60_2 (fin false _ ⟨fun g => absurd g (by decide), fun g => by have := isD_iff.mp g.1; omega⟩)
      · rw [I_le (by omega) (by omega) (by omega) (by omega)] at w
        exact w60_2 (fin false _ ⟨fun g => absurd g (by decide), fun g => by omega⟩)
      · rw [I_lt (by omega) (by omega) (by omega) (by omega)] at r u
        rw [I_le (by omega) (by omega) (by omega) (by omega)] at w
        exact fin true _ ⟨fun _ => ⟨isD_iff.mpr (by omega), by omega⟩, fun _ => rfl⟩
theorem y_nameEnd (h : sy b M s pl p aw jn rd ws cs is ps) {f : Nat} (hf : f ≤ 1000) (hq : Q (.inl (some (.int (I (nE s f))))) M) : mC E 60 [.ref (b + 3), .int (I f)] M Q :=
  w60_0 (y_nameEnd_l h s.length f none none (Nat.le_refl _) hf (by omega) hq)
theorem y_textEnd_l (h : sy b M s pl p aw jn rd ws cs is ps) {f : Nat} (n : Nat) : ∀ (e : Nat) (d3 : Option Value), e ≤ 1000 → s.length - e ≤ n → Q (.inl (some (.int (I (txE s n e))))) M →
    mX E 69 1 [some (.ref (b + 3)), some (.int (I f)), some (.int (I e)), d3] [] M Q := by
  have hb := h.1
  have hl := h.2.1.len
  have h5 := h.2.1.2.2.2.2.1
  obtain ⟨c1, c2, c3, c4, c5, c6, c7, c8, c9, c10, c11⟩ := h.cell
  induction n with
  | zero =>
    intro e d3 he hm hq
    refine w69_1 ⟨c1, by rw [c5]; omega, by rw [c5]; exact h.2.1.1, fun _ => hq, fun q => ?_⟩
    rw [c5, h5, I_le (by omega) (by omega) (by omega) (by omega)] at q; omega
  | succ n ih =>
    intro e d3 he hm hq
    have hc := h.2.1.ch e
    unfold txE at hq
    refine w69_1 ⟨c1, by rw [c5]; omega, by rw [c5]; exact h.2.1.1, fun q => ?_, fun q => ?_⟩
    · rw [c5, h5, I_le (by omega) (by omega) (by omega) (by omega)] at q
      rw [if_neg (by omega)] at hq; exact hq
    · rw [c5, h5, I_le (by omega) (by omega) (by omega) (by omega)] at q
      rw [c5]
      have no : ¬ (e < s.length ∧ ¬ s.getD e 0 = 125 ∧ ¬ s.getD e 0 = 10 ∧ ¬ s.getD e 0 = 39 ∧ ¬ s.getD e 0 = 34 ∧ ¬ s.getD e 0 = 92 ∧ ¬ s.getD e 0 = 36) → Q (.inl (some (.int (I e)))) M := fun g => by rw [if_neg g] at hq; exact hq
      refine ch_at h.2.1 (by omega) ⟨fun r => no ?_, fun r1 => ⟨fun r => no ?_, fun r2 => ⟨fun r => no ?_, fun r3 => ⟨fun r => no ?_, fun r4 => ⟨fun r => no ?_, fun r5 => ⟨fun r => ?_, fun r => no ?_⟩⟩⟩⟩⟩⟩
      · rw [I_eq (by omega) (by omega) (by omega) (by omega)] at r; omega
      · rw [I_eq (by omega) (by omega) (by omega) (by omega)] at r; omega
      · rw [I_eq (by omega) (by omega) (by omega) (by omega)] at r; omega
      · rw [I_eq (by omega) (by omega) (by omega) (by omega)] at r; omega
      · rw [I_eq (by omega) (by omega) (by omega) (by omega)] at r; omega
      · rw [I_eq (by omega) (by omega) (by omega) (by omega)] at r r1 r2 r3 r4 r5
        rw [if_pos (by omega)] at hq
        rw [I_add]; exact ih (e + 1) _ (by omega) (by omega) hq
      · rw [I_eq (by omega) (by omega) (by omega) (by omega)] at r; omega
theorem y_textEnd (h : sy b M s pl p aw jn rd ws cs is ps) {f : Nat} (hf : f ≤ 1000) (hq : Q (.inl (some (.int (I (tE s f))))) M) : mC E 69 [.ref (b + 3), .int (I f)] M Q :=
  w69_0 (y_textEnd_l h s.length f none hf (by omega) hq)
theorem y_find_l (n : Nat) : ∀ (cm : Bool) (p : Nat) (M : mM) (d2 : Option Value), sy b M s pl p aw jn rd ws cs is ps → p ≤ s.length → s.length - p ≤ n → (∀ M', sy b M' s pl (fT s n cm p).2 aw jn rd ws cs is ps → fr M M' (b + 3) (b + 10) → Q (.inl (some (.int (I (bI (fT s n cm p).1))))) M') →
    mX E 53 1 [some (.ref (b + 3)), some (.int (I (bI cm))), d2] [] M Q := by
  induction n with
  | zero =>
    intro cm p M d2 h hp hm hq
    have hb := h.1
    have hl := h.2.1.len
    have h5 := h.2.1.2.2.2.2.1
    obtain ⟨c1, c2, c3, c4, c5, c6, c7, c8, c9, c10, c11⟩ := h.cell
    refine w53_1 ⟨c1, by rw [c5]; omega, by rw [c5]; exact h.2.1.1, fun _ => hq M h (fr.refl _ _ _), fun q => ?_⟩
    rw [c5, h5, c7, I_le (by omega) (by omega) (by omega) (by omega)] at q; omega
  | succ n ih =>
    intro cm p M d2 h hp hm hq
    have hb := h.1
    have hl := h.2.1.len
    have h5 := h.2.1.2.2.2.2.1
    obtain ⟨c1, c2, c3, c4, c5, c6, c7, c8, c9, c10, c11⟩ := h.cell
    have hc := h.2.1.ch p
    unfold fT at hq
    refine w53_1 ⟨c1, by rw [c5]; omega, by rw [c5]; exact h.2.1.1, fun q => ?_, fun q => ?_⟩
    · rw [c5, h5, c7, I_le (by omega) (by omega) (by omega) (by omega)] at q
      rw [if_neg (by omega)] at hq; exact hq M h (fr.refl _ _ _)
    · rw [c5, h5, c7, I_le (by omega) (by omega) (by omega) (by omega)] at q
      rw [if_pos (by omega)] at hq
      rw [c5, c7]
      have inc : ∀ M2, M2 = msi M (b + 3) 5 (mi M (b + 3) 5 + I 1) → sy b M2 s pl (p + 1) aw jn rd ws cs is ps ∧ fr M M2 (b + 3) (b + 10) := fun M2 q2 => h.seti q2 (by simp) (by rw [if_pos rfl, c7, I_add]; rfl) (by simp) (by simp) (by simp) (by simp)
      have com : (s.getD p 0 = 35 ∨ (cm = true ∧ ¬ s.getD p 0 = 10)) → mX E 53 2 [some (.ref (b + 3)), some (.int (I (bI cm))), some (.int (I (s.getD p 0 : Nat)))] [] M Q := by
        intro g
        rw [if_pos g] at hq
        refine w53_2 (w53_4 ⟨fun _ => ⟨c1, fun M2 q2 => ?_⟩, fun r => absurd r (by decide)⟩)
        exact ih true (p + 1) M2 _ (inc M2 q2).1 (by omega) (by omega) (fun M' g1 g2 => hq M' g1 ((inc M2 q2).2.then g2))
      have noc : ¬ (s.getD p 0 = 35 ∨ (cm = true ∧ ¬ s.getD p 0 = 10)) → mX E 53 3 [some (.ref (b + 3)), some (.int (I (bI cm))), some (.int (I (s.getD p 0 : Nat)))] [] M Q := by
        intro g
        rw [if_neg g] at hq
        refine w53_3 (w53_4 ⟨fun r => absurd rfl r, fun _ => ⟨fun r => ⟨c1, fun M2 q2 => ?_⟩, fun r => ?_⟩⟩)
        · rw [I_eq (by omega) (by omega) (by omega) (by omega)] at r
          rw [if_pos (by omega)] at hq
          exact ih false (p + 1) M2 _ (inc M2 q2).1 (by omega) (by omega) (fun M' g1 g2 => hq M' g1 ((inc M2 q2).2.then g2))
        · rw [I_eq (by omega) (by omega) (by omega) (by omega)] at r
          rw [if_neg (by omega)] at hq
          exact hq M h (fr.refl _ _ _)
      refine ch_at h.2.1 (by omega) ⟨fun r => com (Or.inl ?_), fun r => ⟨fun u => noc ?_, fun u => ⟨fun w => noc ?_, fun w => com (Or.inr ⟨?_, ?_⟩)⟩⟩⟩
      · rw [I_eq (by omega) (by omega) (by omega) (by omega)] at r; omega
      · rw [I_eq (by omega) (by omega) (by omega) (by omega)] at r; rw [bI_0] at u; exact fun z => by
          rcases z with z | z
          · omega
          · rw [u] at z; exact absurd z.1 (by decide)
      · rw [I_eq (by omega) (by omega) (by omega) (by omega)] at r w; omega
      · rw [bI_0] at u; cases cm with | true => rfl | false => exact absurd rfl u
      · rw [I_eq (by omega) (by omega) (by omega) (by omega)] at w; omega
theorem y_find (h : sy b M s pl p aw jn rd ws cs is ps) (hp : p ≤ s.length) (hq : ∀ M', sy b M' s pl (fT s s.length false p).2 aw jn rd ws cs is ps → fr M M' (b + 3) (b + 10) → Q (.inl (some (.int (I (bI (fT s s.length false p).1))))) M') : mC E 53 [.ref (b + 3)] M Q :=
  w53_0 (y_find_l s.length false p M none h hp (by omega) hq)
end LEX
