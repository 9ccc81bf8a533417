/-! THE EXPANDER: marks taken off, patterns, fields -/
def ok2 (s : List Nat) : Prop := ∀ c ∈ s, c < 256
def isPat (u : List Nat) : Bool := Nat.blt (findS u 42 0) u.length || Nat.blt (findS u 63 0) u.length
/-- the bits of the places in a name that are reached behind a character c that is no star -/
def nxC (nm : List Nat) (c : Nat) (x : Int32) : Nat → Nat → Int32 → Int32
  | 0, _, y => y
  | n + 1, k, y => if ishr x (I k) &&& I 1 = I 1 ∧ (c = 63 ∨ unm c = nm.getD k 0) then nxC nm c x n (k + 1) (y ||| ishl (I 2) (I k)) else nxC nm c x n (k + 1) y
def mtC (nm : List Nat) : List Nat → Int32 → Int32
  | [], x => x
  | c :: u, x => if c = 42 then mtC nm u (-(x &&& -x)) else mtC nm u (nxC nm c x nm.length 0 (I 0))
def mt (u nm : List Nat) : Bool := decide (ishr (mtC nm u (I 1)) (I nm.length) &&& I 1 = I 1)
def glL (u : List Nat) : eL → List (List Nat) → Bool → Option (List (List Nat) × Bool)
  | [], fs, f => some (fs, f)
  | e :: es, fs, f => if mt u e.1 = true then (if fs.length < 16 then glL u es (fs ++ [e.1]) true else none) else glL u es fs f
def addF (fl : eL) (u : List Nat) (fs : List (List Nat)) : Option (List (List Nat)) :=
  (if isPat u = true then glL u fl fs false else some (fs, false)).bind fun x => if x.2 = true then some x.1 else if x.1.length < 16 then some (x.1 ++ [u.map unm]) else none
section EXP
variable {E : mE} {M : mM} {Q : mQ} {b : Nat} {R : RT}
theorem ok2.get {s : List Nat} (h : ok2 s) (k : Nat) : s.getD k 0 < 256 := getD_lt h (by omega) k
theorem take_snoc {u : List Nat} {k : Nat} (h : k < u.length) : u.take (k + 1) = u.take k ++ [u.getD k 0] := by
  rw [List.take_succ, List.getD_eq_getElem?_getD, List.getElem?_eq_getElem h]; rfl
theorem e_unmark_l {q cap : Nat} {u : List Nat} (hq1 : q + 2 ≤ b + 256 ∨ b + 258 ≤ q) (hu : ok2 u) (hl : u.length ≤ 40) (n : Nat) : ∀ (k : Nat) (M : mM) (R : RT), u.length - k ≤ n → k ≤ u.length → RX b M R → tX M q cap u → (R 21).2.2.1 = (u.take k).map unm →
    (∀ M' R', RX b M' R' → ag [21] R R' → R' 21 = vT (u.map unm) → fr M M' (b + 256) (b + 258) → Q (.inl (some (.ref (b + 256)))) M') →
    mX E 78 1 [some (.ref (b + 213)), some (.ref q), some (.int (I k))] [] M Q := by
  have fin : ∀ (k : Nat) (M : mM) (R : RT), k = u.length → RX b M R → (R 21).2.2.1 = (u.take k).map unm →
    (∀ M' R', RX b M' R' → ag [21] R R' → R' 21 = vT (u.map unm) → fr M M' (b + 256) (b + 258) → Q (.inl (some (.ref (b + 256)))) M') → mkd M (b + 213) = 107 ∧ ¬ mr M (b + 213) 6 = 0 ∧ Q (.inl (some (.ref (mr M (b + 213) 6)))) M := by
    intro k M R hk h e hq
    refine ⟨h.k17, nz h.f17_6 h.1, ?_⟩
    rw [h.f17_6]
    have t21 := h.c21
    rw [e, hk, List.take_length] at t21
    have h1 := h.u21 t21 (fr.refl _ _ _)
    exact hq M _ h1.1 (ag_up (by decide)) (up_s _ _ _) (fr.refl _ _ _)
  induction n with
  | zero =>
    intro k M R hn hk h t e hq
    have tl := t.len
    refine w78_1 ⟨t.1, fun _ => fin k M R (by omega) h e hq, fun c => ?_⟩
    rw [t.2.2.2.2.1, I_le (by omega) (by omega) (by omega) (by omega)] at c; omega
  | succ n ih =>
    intro k M R hn hk h t e hq
    have tl := t.len
    have hb := h.1
    refine w78_1 ⟨t.1, fun c => fin k M R ?_ h e hq, fun c => ⟨h.k17, nz h.f17_6 h.1, ?_⟩⟩
    · rw [t.2.2.2.2.1, I_le (by omega) (by omega) (by omega) (by omega)] at c; omega
    · rw [t.2.2.2.2.1, I_le (by omega) (by omega) (by omega) (by omega)] at c
      have hc := hu.get k
      have un : unm (u.getD k 0) < 256 := by unfold unm; split <;> omega
      have t21 := h.c21
      rw [h.f17_6]
      refine t_at t (by omega) (by omega) ⟨t21.1, ?_⟩
      rw [if_pos (by omega), show ((k : Int).toNat) = k by omega, andq hc, I_i2c (by omega) (by omega)]
      refine t_add t21 (by omega) (fun _ M1 t1 f1 => ?_) (fun l1 => ?_)
      · have h1 := h.u21 t1 f1
        show mX E 78 1 _ [] M1 Q
        rw [I_add]
        refine ih (k + 1) M1 _ (by omega) (by omega) h1.1 (t.mv f1 (by omega)) ?_ (fun M' R' j1 j2 j3 j4 => hq M' R' j1 ((ag_up (by decide)).trans j2) j3 ((f1.wide (by omega) (by omega)).then j4))
        rw [up_s, take_snoc (by omega), List.map_append, ← e]; rfl
      · rw [e, List.length_map, List.length_take] at l1; omega
theorem e_unmark {q cap : Nat} {u : List Nat} (h : RX b M R) (t : tX M q cap u) (hq1 : q + 2 ≤ b + 256 ∨ b + 258 ≤ q) (hu : ok2 u) (hl : u.length ≤ 40)
    (hq : ∀ M' R', RX b M' R' → ag [21] R R' → R' 21 = vT (u.map unm) → fr M M' (b + 256) (b + 258) → Q (.inl (some (.ref (b + 256)))) M') : mC E 78 [.ref (b + 213), .ref q] M Q := by
  refine w78_0 ⟨h.k17, nz h.f17_6 h.1, by rw [h.f17_6]; exact h.c21.1, fun M1 q1 => ?_⟩
  rw [h.f17_6] at q1
  have k1 := h.c21.clr q1
  have h1 := h.u21 k1.1 k1.2
  exact e_unmark_l hq1 hu hl u.length 0 M1 _ (by omega) (by omega) h1.1 (t.mv k1.2 (by omega)) (by rw [up_s]; rfl) (fun M' R' j1 j2 j3 j4 => hq M' R' j1 ((ag_up (by decide)).trans j2) j3 ((k1.2.wide (by omega) (by omega)).then j4))
theorem e_isPat {q cap : Nat} {u : List Nat} (t : tX M q cap u) (hq : Q (.inl (some (.int (I (bI (isPat u)))))) M) : mC E 79 [.ref q] M Q := by
  have tl := t.len
  have f1 := findS_le u 42 0
  have f2 := findS_le u 63 0
  have yes : (findS u 42 0 < u.length ∨ findS u 63 0 < u.length) → Q (.inl (some (.int (I 1)))) M := by
    intro g
    have : isPat u = true := by unfold isPat; simp [Nat.blt_eq]; exact g
    rw [this] at hq; exact hq
  have no : ¬ (findS u 42 0 < u.length ∨ findS u 63 0 < u.length) → Q (.inl (some (.int (I 0)))) M := by
    intro g
    have : isPat u = false := by
      cases z : isPat u with
      | false => rfl
      | true => unfold isPat at z; simp [Nat.blt_eq] at z; exact absurd z g
    rw [this] at hq; exact hq
  refine w79_0 ⟨t.1, t_find (c := 42) (f := 0) (by omega) (by omega) t ⟨t.1, fun c => yes (Or.inl ?_), fun c => t_find (c := 63) (f := 0) (by omega) (by omega) t ⟨t.1, fun c2 => no ?_, fun c2 => yes (Or.inr ?_)⟩⟩⟩
  · rw [t.2.2.2.2.1, I_lt (by omega) (by omega) (by omega) (by omega)] at c; omega
  · rw [t.2.2.2.2.1, I_lt (by omega) (by omega) (by omega) (by omega)] at c
    rw [t.2.2.2.2.1, I_le (by omega) (by omega) (by omega) (by omega)] at c2
    omega
  · rw [t.2.2.2.2.1, I_le (by omega) (by omega) (by omega) (by omega)] at c2; omega
theorem e_match3 {q a cap cap' : Nat} {u nm : List Nat} (t : tX M q cap u) (t' : tX M a cap' nm) (hu : ok2 u) {p : Nat} {x : Int32} (n : Nat) : ∀ (k : Nat) (y : Int32), n = nm.length - k → k ≤ nm.length → mX E 80 1 [some (.ref q), some (.ref a), some (.int (nxC nm (u.getD p 0) x n k y)), some (.int (I p + I 1)), some (.int (I (u.getD p 0 : Nat))), some (.int (nxC nm (u.getD p 0) x n k y)), some (.int (I nm.length))] [] M Q →
    mX E 80 3 [some (.ref q), some (.ref a), some (.int x), some (.int (I p)), some (.int (I (u.getD p 0 : Nat))), some (.int y), some (.int (I k))] [] M Q := by
  have tl := t'.len
  have hc := hu.get p
  have un : unm (u.getD p 0) < 256 := by unfold unm; split <;> omega
  induction n with
  | zero =>
    intro k y hn hk hq
    have ek : k = nm.length := by omega
    refine w80_3 ⟨t'.1, fun _ => by rw [ek]; exact hq, fun c => ?_⟩
    rw [t'.2.2.2.2.1, I_le (by omega) (by omega) (by omega) (by omega)] at c; omega
  | succ n ih =>
    intro k y hn hk hq
    have hk' := t'.ch k
    unfold nxC at hq
    have skip : ¬ (ishr x (I k) &&& I 1 = I 1 ∧ (u.getD p 0 = 63 ∨ unm (u.getD p 0) = nm.getD k 0)) → mX E 80 3 [some (.ref q), some (.ref a), some (.int x), some (.int (I p)), some (.int (I (u.getD p 0 : Nat))), some (.int y), some (.int (I k + I 1))] [] M Q := by
      intro g
      rw [if_neg g] at hq
      rw [I_add]; exact ih (k + 1) y (by omega) (by omega) hq
    have take : (ishr x (I k) &&& I 1 = I 1 ∧ (u.getD p 0 = 63 ∨ unm (u.getD p 0) = nm.getD k 0)) → mX E 80 4 [some (.ref q), some (.ref a), some (.int x), some (.int (I p)), some (.int (I (u.getD p 0 : Nat))), some (.int y), some (.int (I k))] [] M Q := by
      intro g
      rw [if_pos g] at hq
      refine w80_4 ?_
      rw [I_add]; exact ih (k + 1) _ (by omega) (by omega) hq
    refine w80_3 ⟨t'.1, fun c => ?_, fun c => ⟨fun c1 => skip (fun g => c1 g.1), fun c1 => ⟨fun c2 => take ⟨c1, Or.inl ?_⟩, fun c2 => ?_⟩⟩⟩
    · rw [t'.2.2.2.2.1, I_le (by omega) (by omega) (by omega) (by omega)] at c; omega
    · rw [I_eq (by omega) (by omega) (by omega) (by omega)] at c2; omega
    · rw [I_eq (by omega) (by omega) (by omega) (by omega)] at c2
      refine t_at t' (by omega) (by omega) ?_
      rw [if_pos (by omega), show ((k : Int).toNat) = k by omega]
      refine ⟨fun c3 => skip (fun g => ?_), fun c3 => take ⟨c1, Or.inr ?_⟩⟩
      · rw [andq hc, I_eq (by omega) (by omega) (by omega) (by omega)] at c3
        rcases g.2 with g | g <;> omega
      · rw [andq hc, I_eq (by omega) (by omega) (by omega) (by omega)] at c3; omega
theorem e_match_l {q a cap cap' : Nat} {u nm : List Nat} (t : tX M q cap u) (t' : tX M a cap' nm) (hu : ok2 u) (n : Nat) : ∀ (p : Nat) (x : Int32) (d4 d5 d6 : Option Value), u.length - p ≤ n → p ≤ u.length → Q (.inl (some (.int (I (bI (decide (ishr (mtC nm (u.drop p) x) (I nm.length) &&& I 1 = I 1))))))) M →
    mX E 80 1 [some (.ref q), some (.ref a), some (.int x), some (.int (I p)), d4, d5, d6] [] M Q := by
  have tl := t.len
  have fin : ∀ (x : Int32), Q (.inl (some (.int (I (bI (decide (ishr x (I nm.length) &&& I 1 = I 1))))))) M → mkd M a = 101 ∧ (¬ ((ishr x (mi M a 1)) &&& (I 1)) = (I 1) → Q (.inl (some (.int (I 0)))) M) ∧ (((ishr x (mi M a 1)) &&& (I 1)) = (I 1) → Q (.inl (some (.int (I 1)))) M) := by
    intro x hq
    rw [t'.2.2.2.2.1]
    refine ⟨t'.1, fun c => ?_, fun c => ?_⟩
    · rw [decide_eq_false c] at hq; exact hq
    · rw [decide_eq_true c] at hq; exact hq
  induction n with
  | zero =>
    intro p x d4 d5 d6 hn hp hq
    rw [List.drop_eq_nil_of_le (by omega)] at hq
    refine w80_1 ⟨t.1, fun _ => fin x hq, fun c => ?_⟩
    rw [t.2.2.2.2.1, I_le (by omega) (by omega) (by omega) (by omega)] at c; omega
  | succ n ih =>
    intro p x d4 d5 d6 hn hp hq
    refine w80_1 ⟨t.1, fun c => ?_, fun c => ?_⟩
    · rw [t.2.2.2.2.1, I_le (by omega) (by omega) (by omega) (by omega)] at c
      rw [List.drop_eq_nil_of_le (by omega)] at hq
      exact fin x hq
    · rw [t.2.2.2.2.1, I_le (by omega) (by omega) (by omega) (by omega)] at c
      have hc := hu.get p
      rw [drop_getD (by omega)] at hq
      unfold mtC at hq
      refine t_at t (by omega) (by omega) ?_
      rw [if_pos (by omega), show ((p : Int).toNat) = p by omega]
      refine ⟨fun c1 => ?_, fun c1 => ?_⟩
      · rw [I_eq (by omega) (by omega) (by omega) (by omega)] at c1
        rw [if_neg (by omega)] at hq
        refine e_match3 t t' hu nm.length 0 (I 0) (by omega) (by omega) ?_
        rw [I_add]; exact ih (p + 1) _ _ _ _ (by omega) (by omega) hq
      · rw [I_eq (by omega) (by omega) (by omega) (by omega)] at c1
        rw [if_pos (by omega)] at hq
        rw [I_add]; exact ih (p + 1) _ _ _ _ (by omega) (by omega) hq
theorem e_match {q a cap cap' : Nat} {u nm : List Nat} (t : tX M q cap u) (t' : tX M a cap' nm) (hu : ok2 u) (hq : Q (.inl (some (.int (I (bI (mt u nm)))))) M) : mC E 80 [.ref q, .ref a] M Q :=
  w80_0 (e_match_l t t' hu u.length 0 (I 1) none none none (by omega) (by omega) hq)
theorem RX.r23 (h : RX b M R) {ts : List (List Nat)} {sp : List Nat} (e : R 23 = vR ts sp) : rX M (b + 259) 16 40 ts sp := by
  have := h.c23
  rw [e] at this; exact this
/-- fields that end in an unmarked word, or not -/
theorem e_addF3 {q cap : Nat} {u : List Nat} {fs : List (List Nat)} {f : Bool} {d4 : Option Value} (h : RX b M R) (h23 : R 23 = vR fs []) (t : tX M q cap u) (hq1 : q + 2 ≤ b + 256) (hu : ok2 u) (hl : u.length ≤ 40)
    (hq : ∀ fs', (if f = true then some fs else if fs.length < 16 then some (fs ++ [u.map unm]) else none) = some fs' → ∀ M' R', RX b M' R' → ag [21, 23] R R' → R' 23 = vR fs' [] → fr M M' (b + 256) (b + 297) → Q (.inl none) M')
    (ht : (if f = true then some fs else if fs.length < 16 then some (fs ++ [u.map unm]) else none) = none → TH E b M R Q) :
    mX E 77 3 [some (.ref (b + 213)), some (.ref q), some (.ref (b + 259)), some (.int (I (bI f))), d4] [] M Q := by
  refine w77_3 ⟨fun c => ?_, fun c => ⟨h.c17.1, e_unmark h t (by omega) hu hl (fun M1 R1 h1 a1 e1 f1 => ?_)⟩⟩
  · rw [bI_0] at c
    have ft : f = true := by cases f with | true => rfl | false => exact absurd rfl c
    rw [if_pos ft] at hq
    exact hq fs rfl M R h (ag.refl _ _) h23 (fr.refl _ _ _)
  · rw [bI_0] at c
    rw [if_neg (by rw [c]; decide)] at hq ht
    have e23 : R1 23 = vR fs [] := by rw [a1 23 (by decide)]; exact h23
    have r23 := h1.r23 e23
    have t21 := h1.c21
    rw [e1] at t21
    refine ⟨r23.1.1, r_add r23 t21 (by omega) (fun _ hn M2 k2 f2 => ?_) (fun hx M2 sp k2 f2 => ?_)⟩
    · rw [if_pos hn] at hq
      have h2 := h1.u23 k2 f2
      exact hq _ rfl M2 _ h2.1 ((a1.w (by decide)).trans (ag_up (by decide))) (up_s _ _ _) ((f1.wide (by omega) (by omega)).then (f2.wide (by omega) (by omega)))
    · have l21 := t21.len
      rcases hx with hx | hx
      · simp [vT] at hx; omega
      · rw [if_neg (by omega)] at ht
        have h2 := h1.u23 k2 f2
        exact ht rfl M2 _ h2.1 (((a1.w (by decide)).trans (ag_up (S := [21, 23]) (by decide))).lo (by decide)) ((f1.wide (by omega) (by omega)).then (f2.wide (by omega) (by omega)))
theorem e_addF1 {q cap : Nat} {u : List Nat} (hq1 : q + 2 ≤ b + 256) (hq2 : b + 214 ≤ q) (hu : ok2 u) (hl : u.length ≤ 40) {fl : eL} (n : Nat) : ∀ (k : Nat) (fs : List (List Nat)) (f : Bool) (M : mM) (R : RT), n = fl.length - k → k ≤ fl.length → RX b M R → (R 15).1 = fl → R 23 = vR fs [] → tX M q cap u →
    (∀ fs', ((glL u (fl.drop k) fs f).bind fun x => if x.2 = true then some x.1 else if x.1.length < 16 then some (x.1 ++ [u.map unm]) else none) = some fs' → ∀ M' R', RX b M' R' → ag [21, 23] R R' → R' 23 = vR fs' [] → fr M M' (b + 256) (b + 297) → Q (.inl none) M') →
    (((glL u (fl.drop k) fs f).bind fun x => if x.2 = true then some x.1 else if x.1.length < 16 then some (x.1 ++ [u.map unm]) else none) = none → TH E b M R Q) →
    mX E 77 1 [some (.ref (b + 213)), some (.ref q), some (.ref (b + 259)), some (.int (I (bI f))), some (.int (I k))] [] M Q := by
  induction n with
  | zero =>
    intro k fs f M R hn hk h h15 h23 t hq ht
    have hb := h.1
    have e15 := h.c15
    rw [h15] at e15
    have l15 := e15.len
    rw [List.drop_eq_nil_of_le (by omega)] at hq ht
    refine w77_1 ⟨h.k17, nz h.f17_2 h.1, by rw [h.f17_2]; exact h.k12, nz2 h.f17_2 h.f12_2 h.1, by rw [h.f17_2, h.f12_2]; exact e15.1.1, fun _ => e_addF3 h h23 t hq1 hu hl hq ht, fun c => ?_⟩
    rw [h.f17_2, h.f12_2, e15.2.1, I_le (by omega) (by omega) (by omega) (by omega)] at c; omega
  | succ n ih =>
    intro k fs f M R hn hk h h15 h23 t hq ht
    have hb := h.1
    have e15 := h.c15
    rw [h15] at e15
    have l15 := e15.len
    have dr : fl.drop k = fl.getD k ([], []) :: fl.drop (k + 1) := by
      rw [List.getD_eq_getElem?_getD, List.getElem?_eq_getElem (show k < fl.length by omega)]; exact List.drop_eq_getElem_cons (by omega)
    have nk : nmL fl (k : Int) = (fl.getD k ([], [])).1 := by unfold nmL; rw [if_pos (by omega), show ((k : Int).toNat) = k by omega]
    rw [dr] at hq ht
    unfold glL at hq ht
    refine w77_1 ⟨h.k17, nz h.f17_2 h.1, by rw [h.f17_2]; exact h.k12, nz2 h.f17_2 h.f12_2 h.1, by rw [h.f17_2, h.f12_2]; exact e15.1.1, fun c => ?_, fun c => ?_⟩
    · rw [h.f17_2, h.f12_2, e15.2.1, I_le (by omega) (by omega) (by omega) (by omega)] at c; omega
    · rw [h.f17_2, h.f12_2]
      refine tb_nameAt e15 (by omega) (by omega) (fun p cap' tp p1 p2 p3 => ?_)
      rw [nk] at tp
      refine e_match t tp hu ⟨fun c1' => ?_, fun c1' => ⟨h.k17, nz h.f17_2 h.1, by rw [h.f17_2]; exact h.k12, nz2 h.f17_2 h.f12_2 h.1, by rw [h.f17_2, h.f12_2]; exact e15.1.1, ?_⟩⟩
      · rw [bI_0] at c1'
        rw [if_neg (by rw [c1']; decide)] at hq ht
        rw [I_add]
        exact ih (k + 1) fs f M R (by omega) (by omega) h h15 h23 t hq ht
      · rw [bI_0] at c1'
        have mt1 : mt u (fl.getD k ([], [])).1 = true := by cases z : mt u (fl.getD k ([], [])).1 with | true => rfl | false => exact absurd z c1'
        rw [if_pos mt1] at hq ht
        rw [h.f17_2, h.f12_2]
        refine tb_nameAt e15 (by omega) (by omega) (fun p' cap'' tp' p1' p2' p3' => ?_)
        rw [nk] at tp'
        have r23 := h.r23 h23
        have tl := tp'.len
        refine ⟨r23.1.1, r_add r23 tp' (by omega) (fun _ hn2 M2 k2 f2 => ?_) (fun hx M2 sp k2 f2 => ?_)⟩
        · rw [if_pos hn2] at hq ht
          have h2 := h.u23 k2 f2
          show mX E 77 1 _ [] M2 Q
          rw [I_add]
          exact ih (k + 1) _ true M2 _ (by omega) (by omega) h2.1 (by rw [up_n (by decide)]; exact h15) (up_s _ _ _) (t.mv f2 (by omega)) (fun fs' e M' R' j1 j2 j3 j4 => hq fs' e M' R' j1 ((ag_up (by decide)).trans j2) j3 ((f2.wide (by omega) (by omega)).then j4)) (fun e => (ht e).st h2.2 ((ag_up (S := [23]) (by decide)).lo (by decide)))
        · rcases hx with hx | hx
          · omega
          · rw [if_neg (by omega)] at ht
            have h2 := h.u23 k2 f2
            exact ht rfl M2 _ h2.1 ((ag_up (S := [23]) (by decide)).lo (by decide)) h2.2
theorem e_addF {q cap : Nat} {u : List Nat} {fs : List (List Nat)} (h : RX b M R) (h23 : R 23 = vR fs []) (t : tX M q cap u) (hq1 : q + 2 ≤ b + 256) (hq2 : b + 214 ≤ q) (hu : ok2 u) (hl : u.length ≤ 40)
    (hq : ∀ fs', addF (R 15).1 u fs = some fs' → ∀ M' R', RX b M' R' → ag [21, 23] R R' → R' 23 = vR fs' [] → fr M M' (b + 256) (b + 297) → Q (.inl none) M')
    (ht : addF (R 15).1 u fs = none → TH E b M R Q) : mC E 77 [.ref (b + 213), .ref q, .ref (b + 259)] M Q := by
  unfold addF at hq ht
  refine w77_0 (e_isPat t ⟨fun c => ?_, fun c => ?_⟩)
  · rw [bI_0] at c
    rw [if_neg (by rw [c]; decide)] at hq ht
    exact e_addF3 (f := false) h h23 t hq1 hu hl hq ht
  · rw [bI_0] at c
    rw [if_pos (by cases z : isPat u with | true => rfl | false => exact absurd z c)] at hq ht
    exact e_addF1 hq1 hq2 hu hl _ 0 fs false M R rfl (by omega) h rfl h23 t hq ht
end EXP
