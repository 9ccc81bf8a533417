/-! THE REFERENCE: looking up, assigning, making and dropping -/
/-- what is made of a word: marked characters -/
def mkX (M : mM) (m : Nat) (sp : List Nat) : Prop := mi M m 27 = I sp.length ∧ sp.length ≤ 40 ∧ (∀ k, k < sp.length → mi M (m + 21) k = I (unm (sp.getD k 0)) ∧ mi M (m + 22) k = I (bI (Nat.blt (sp.getD k 0) 128))) ∧ ∀ c ∈ sp, c < 256
theorem fdT_d {es : eL} {nm : List Nat} {k : Nat} (h : k < es.length) : fdT (es.drop k) nm k = if (es.getD k ([], [])).1 = nm then (k : Int) else fdT (es.drop (k + 1)) nm (k + 1) := by
  rw [drop_getL (d := ([], [])) h]; rfl
/-- the place of one that was put in -/
theorem fdT_at (es : eL) (u tx : List Nat) : ∀ k, k ≤ es.length → ∀ j : Nat, fdT es u j < 0 → fdT (es.take k ++ (u, tx) :: es.drop k) u j = ((j + k : Nat) : Int) := by
  induction es with
  | nil => intro k hk j _; have : k = 0 := by simpa using hk
           subst this; simp [fdT]
  | cons e es ih =>
    intro k hk j hf
    cases k with
    | zero => simp [fdT]
    | succ k =>
      unfold fdT at hf
      show fdT (e :: (es.take k ++ (u, tx) :: es.drop k)) u j = _
      unfold fdT
      split at hf
      · omega
      · next q =>
        rw [if_neg q, ih k (by simpa using hk) (j + 1) hf]; congr 1; omega
/-- the place of another one, when one is put in -/
theorem fdT_oth (es : eL) (u w tx : List Nat) (hw : ¬ u = w) : ∀ k, k ≤ es.length → ∀ j : Nat, fdT (es.take k ++ (u, tx) :: es.drop k) w j = if ((j + k : Nat) : Int) ≤ fdT es w j then fdT es w j + 1 else fdT es w j := by
  have shift : ∀ (l : eL) (j : Nat), fdT l w (j + 1) = if 0 ≤ fdT l w j then fdT l w j + 1 else fdT l w j := by
    intro l
    induction l with
    | nil => intro j; simp [fdT]
    | cons e l ih =>
      intro j
      unfold fdT
      by_cases q : e.1 = w
      · rw [if_pos q, if_pos q, if_pos (by omega)]; omega
      · rw [if_neg q, if_neg q, ih (j + 1)]
  induction es with
  | nil =>
    intro k hk j
    have : k = 0 := by simpa using hk
    subst this
    show fdT [(u, tx)] w j = _
    unfold fdT
    rw [if_neg hw]
    unfold fdT
    rw [if_neg (by omega)]
  | cons e es ih =>
    intro k hk j
    cases k with
    | zero =>
      show fdT ((u, tx) :: e :: es) w j = _
      have r := fdT_r (e :: es) w j
      have st : fdT ((u, tx) :: e :: es) w j = fdT (e :: es) w (j + 1) := by
        show (if u = w then (j : Int) else fdT (e :: es) w (j + 1)) = _
        rw [if_neg hw]
      rw [st, shift]
      by_cases q : 0 ≤ fdT (e :: es) w j
      · rw [if_pos q, if_pos (by omega)]
      · rw [if_neg q, if_neg (by omega)]
    | succ k =>
      show fdT (e :: (es.take k ++ (u, tx) :: es.drop k)) w j = _
      unfold fdT
      by_cases q : e.1 = w
      · rw [if_pos q, if_pos q, if_neg (by omega)]
      · rw [if_neg q, if_neg q, ih k (by simpa using hk) (j + 1), show j + 1 + k = j + (k + 1) by omega]
section MTAB
variable {E : mE} {M M' : mM} {Q : mQ} {m : Nat} {s w : List Nat} {es vs fl : eL} {fs : List (List Nat)} {S : List Nat}
theorem mkX.mv {sp : List Nat} (h : mkX M m sp) (f : fm m S M M') (h1 : S.contains 60 = false) (h2 : S.contains 127 = false) : mkX M' m sp :=
  ⟨by rw [f.fld h2]; exact h.1, h.2.1, fun k hk => by rw [f.2.2 21 k (by omega) h1, f.2.2 22 k (by omega) h1]; exact h.2.2.1 k hk, h.2.2.2⟩
theorem fdX.row (h : fdX M m fs) {f : Nat} (hf : f < fs.length) : nmR M (m + 23) (m + 24) 40 f (fs.getD f []) := by
  obtain ⟨a1, a2, a3⟩ := h.2.2.1 f hf
  exact ⟨a1, a2, a3, fun c hc => by have := h.2.2.2 _ (getL_mem hf) c hc; omega⟩
theorem m_findV_l {p n : Nat} (h : mS M m) (v : vrX M m 1 es) (t : mdT M m s) (hp : p + n ≤ s.length) (z : Nat) : ∀ (i : Nat), z = es.length - i → i ≤ es.length → Q (.inl (some (.int (I (fdT (es.drop i) (seg s p (p + n)) i))))) M →
    mX E 137 1 [some (.ref m), some (.int (I p)), some (.int (I n)), some (.int (I i))] [] M Q := by
  have hl := v.2.1
  have hs := t.2.1
  have n1 : nt (I 1) = 1 := by decide
  induction z with
  | zero =>
    intro i hn hi hq
    rw [List.drop_eq_nil_of_le (by omega)] at hq
    refine w137_1 ⟨h.k0, h.n9, by rw [h.f9]; exact h.k5, by rw [h.f9, h.l5]; exact I_in (by omega) (by omega) (by omega), fun _ => hq, fun c => ?_⟩
    rw [h.f9, n1, v.1, I_le (by omega) (by omega) (by omega) (by omega)] at c; omega
  | succ z ih =>
    intro i hn hi hq
    have r := v.2.2 i (by omega)
    have bd := ord_bd (s := (es.getD i ([], [])).1) (u := seg s p (p + n)) r.1.2.2.2 (fun c hc => by have := t.2.2.2 c (seg_mem hc); omega) (by have := r.1.2.1; omega) (by rw [seg_len]; omega)
    rw [fdT_d (by omega)] at hq
    refine w137_1 ⟨h.k0, h.n9, by rw [h.f9]; exact h.k5, by rw [h.f9, h.l5]; exact I_in (by omega) (by omega) (by omega), fun c => ?_, fun c => m_cmpV h r.1 (by omega) t hp ⟨fun z => ?_, fun z => ?_⟩⟩
    · rw [h.f9, n1, v.1, I_le (by omega) (by omega) (by omega) (by omega)] at c; omega
    · rw [I_eq (by omega) (by omega) (by omega) (by omega), ordS_0] at z
      rw [if_neg z] at hq
      rw [I_add]
      exact ih (i + 1) (by omega) (by omega) hq
    · rw [I_eq (by omega) (by omega) (by omega) (by omega), ordS_0] at z
      rw [if_pos z] at hq; exact hq
theorem m_findV {p n : Nat} (h : mS M m) (v : vrX M m 1 es) (t : mdT M m s) (hp : p + n ≤ s.length) (hq : Q (.inl (some (.int (I (fdT es (seg s p (p + n)) 0))))) M) : mC E 137 [.ref m, .int (I p), .int (I n)] M Q :=
  w137_0 (m_findV_l h v t hp _ 0 rfl (by omega) hq)
theorem m_findF_l {f : Nat} (h : mS M m) (v : flX M m 1 es) (t : nmR M (m + 23) (m + 24) 40 f w) (hf : f ≤ 16) (z : Nat) : ∀ (i : Nat), z = es.length - i → i ≤ es.length → Q (.inl (some (.int (I (fdT (es.drop i) w i))))) M →
    mX E 142 1 [some (.ref m), some (.int (I f)), some (.int (I i))] [] M Q := by
  have hl := v.2.1
  have n1 : nt (I 1) = 1 := by decide
  induction z with
  | zero =>
    intro i hn hi hq
    rw [List.drop_eq_nil_of_le (by omega)] at hq
    refine w142_1 ⟨h.k0, h.n17, by rw [h.f17]; exact h.k13, by rw [h.f17, h.l13]; exact I_in (by omega) (by omega) (by omega), fun _ => hq, fun c => ?_⟩
    rw [h.f17, n1, v.1, I_le (by omega) (by omega) (by omega) (by omega)] at c; omega
  | succ z ih =>
    intro i hn hi hq
    have r := v.2.2 i (by omega)
    have bd := ord_bd (s := (es.getD i ([], [])).1) (u := w) r.1.2.2.2 t.2.2.2 (by have := r.1.2.1; omega) (by have := t.2.1; omega)
    rw [fdT_d (by omega)] at hq
    refine w142_1 ⟨h.k0, h.n17, by rw [h.f17]; exact h.k13, by rw [h.f17, h.l13]; exact I_in (by omega) (by omega) (by omega), fun c => ?_, fun c => m_cmpF h r.1 (by omega) t hf ⟨fun z => ?_, fun z => ?_⟩⟩
    · rw [h.f17, n1, v.1, I_le (by omega) (by omega) (by omega) (by omega)] at c; omega
    · rw [I_eq (by omega) (by omega) (by omega) (by omega), ordS_0] at z
      rw [if_neg z] at hq
      rw [I_add]
      exact ih (i + 1) (by omega) (by omega) hq
    · rw [I_eq (by omega) (by omega) (by omega) (by omega), ordS_0] at z
      rw [if_pos z] at hq; exact hq
theorem m_findF {f : Nat} (h : mS M m) (v : flX M m 1 es) (t : nmR M (m + 23) (m + 24) 40 f w) (hf : f ≤ 16) (hq : Q (.inl (some (.int (I (fdT es w 0))))) M) : mC E 142 [.ref m, .int (I f)] M Q :=
  w142_0 (m_findF_l h v t hf _ 0 rfl (by omega) hq)
/-- a row whose value is to be set -/
def vrP (M : mM) (m : Nat) (L : eL) (i : Nat) : Prop := mi M (m + 5) 1 = I L.length ∧ L.length ≤ 8 ∧ i < L.length ∧ (∀ j, j < L.length → ¬ j = i → vrR M m (8 + j) (L.getD j ([], []))) ∧ nmR M (m + 6) (m + 7) 6 (8 + i) (L.getD i ([], [])).1
theorem stT_get {es : eL} {k j : Nat} {u : List Nat} (hk : k < es.length) : (stT es k u).getD j ([], []) = if j = k then ((es.getD k ([], [])).1, u) else es.getD j ([], []) := by
  unfold stT
  rw [List.getD_eq_getElem?_getD (l := es.set _ _), List.getElem?_set]
  by_cases q : k = j
  · rw [if_pos q, if_pos hk, if_pos q.symm]; rfl
  · rw [if_neg q, if_neg (fun z => q z.symm), ← List.getD_eq_getElem?_getD]
theorem m_val {sp : List Nat} {v1 v2 : Int32} {L : eL} {i : Nat} (h : mS M m) (k : mkX M m sp) (v : vrP M m L i) (hq : ∀ M', vrX M' m 1 (stT L i (sp.map unm)) → fm m [11] M M' → Q (.inl none) M') :
    mX E 139 8 [some (.ref m), some (.int v1), some (.int v2), some (.int (I i)), some (.int (I 0))] [] M Q := by
  obtain ⟨a1, a2, a3, a4, a5⟩ := v
  have k2 := k.2.1
  have ml : (sp.map unm).length = sp.length := List.length_map ..
  have mg : ∀ j, j < sp.length → (sp.map unm).getD j 0 = unm (sp.getD j 0) := fun j hj => by
    rw [List.getD_eq_getElem?_getD, List.getElem?_map, List.getD_eq_getElem?_getD, List.getElem?_eq_getElem hj]; rfl
  have ub : ∀ j, unm (sp.getD j 0) < 256 := fun j => by
    have := getD_lt k.2.2.2 (by omega) j
    unfold unm; split <;> omega
  refine cp_loop (L := fun x => [some (.ref m), some (.int v1), some (.int v2), some (.int (I i)), some (.int x)]) (A := m + 8) (t := 40 * (8 + i)) (N := sp.length) (g := fun k => I (unm (sp.getD k 0))) (fun j M1 hj c1 cont => ?_) (fun M1 c1 => ?_)
  · have h1 := h.mv c1.1
    have e2 : nt (I 40 * (I 8 + I (i : Int)) + I (j : Int)) = 40 * (8 + i) + j := by
      rw [I_add, I_mul, I_add, show (40 : Int) * (8 + (i : Int)) + (j : Int) = ((40 * (8 + i) + j : Nat) : Int) by omega, I_ntn (by omega)]
    have w27 : mi M1 m 27 = I sp.length := by rw [c1.2.1 _ (by omega)]; exact k.1
    refine w139_8 ⟨h1.k0, fun q => ?_, fun q => ⟨h1.n12, h1.n28, by rw [h1.f28]; exact h1.k21, by rw [h1.f28, h1.l21]; exact I_in (by omega) (by omega) (by omega), by rw [h1.f12]; exact h1.k8, by rw [h1.f12, h1.l8, I_add, I_mul, I_add]; exact I_in (by omega) (by omega) (by omega), fun M2 q2 => ?_⟩⟩
    · rw [w27, I_le (by omega) (by omega) (by omega) (by omega)] at q; omega
    · have ubj := ub j
      rw [h1.f12, h1.f28, e2, I_ntn (n := j) (by omega), c1.2.1 (m + 21) (by omega), (k.2.2.1 j hj).1, I_cN (by omega) (by omega)] at q2
      rw [I_add]; exact cont M2 q2
  · have h1 := h.mv c1.1
    have w27 : mi M1 m 27 = I sp.length := by rw [c1.2.1 _ (by omega)]; exact k.1
    have e2 : nt (I 8 + I (i : Int)) = 8 + i := by
      rw [I_add, show (8 : Int) + (i : Int) = ((8 + i : Nat) : Int) by omega, I_ntn (by omega)]
    refine w139_8 ⟨h1.k0, fun q => ⟨h1.n13, by rw [h1.f13]; exact h1.k9, by rw [h1.f13, h1.l9, I_add]; exact I_in (by omega) (by omega) (by omega), fun M2 q2 => ?_⟩, fun q => ?_⟩
    · rw [h1.f13, w27, e2, ← ml] at q2
      have f1 : fm m [11] M M1 := c1.fm (by omega) (fun j j1 j2 => by show [11].contains (10 + j / 320) = true; rw [show j / 320 = 1 by omega]; decide)
      have f2 : fm m [11] M1 M2 := fm_i (a := 9) q2 (by omega) (by show [11].contains (10 + (8 + i) / 8) = true; rw [show (8 + i) / 8 = 1 by omega]; decide)
      refine hq M2 ⟨?_, by unfold stT; rw [List.length_set]; exact a2, fun j hj => ?_⟩ (f1.trans f2)
      · unfold stT; rw [List.length_set, q2, i_ia (by omega), c1.2.1 _ (by omega)]; exact a1
      · have hj' : j < L.length := by unfold stT at hj; rw [List.length_set] at hj; exact hj
        rw [stT_get a3]
        by_cases q : j = i
        · subst q
          rw [if_pos rfl]
          refine ⟨(a5.oth c1 (by omega) (by omega)).oth1 q2 (by omega) (by omega), nmR.mk' (s := sp.map unm) c1 (by rw [ml]; exact Nat.le_refl _) (fun k hk => by rw [mg k (by omega)]) (by omega) (fun c hc => ?_) q2 (by omega)⟩
          obtain ⟨x, hx, rfl⟩ := List.mem_map.mp hc
          have := k.2.2.2 x hx
          unfold unm; split <;> omega
        · rw [if_neg q]
          have r := a4 j hj' q
          exact ⟨(r.1.oth c1 (by omega) (by omega)).oth1 q2 (by omega) (by omega), (r.2.row c1 (by omega) (by omega) (by omega)).row1 q2 (by omega) (by omega)⟩
    · rw [w27, I_le (by omega) (by omega) (by omega) (by omega)] at q; omega
theorem m_asg3 {sp : List Nat} {p n : Nat} (t0 : okSc s) (hp : p + n ≤ s.length) (hn6 : n ≤ 6) (i : Nat) : ∀ (M : mM), mS M m → mdT M m s → mkX M m sp → vrH M m es i → (∀ M', vrX M' m 1 (stT (es.take (slT es (seg s p (p + n)) i) ++ (seg s p (p + n), []) :: es.drop (slT es (seg s p (p + n)) i)) (slT es (seg s p (p + n)) i) (sp.map unm)) → fm m [11] M M' → Q (.inl none) M') →
    mX E 139 3 [some (.ref m), some (.int (I p)), some (.int (I n)), some (.int (I i)), none] [] M Q := by
  have sl : (seg s p (p + n)).length = n := by rw [seg_len]; omega
  have n1 : nt (I 1) = 1 := by decide
  -- the place is found
  have four : ∀ (i : Nat) (M : mM), mS M m → mdT M m s → mkX M m sp → vrH M m es i → (∀ M', vrX M' m 1 (stT (es.take i ++ (seg s p (p + n), []) :: es.drop i) i (sp.map unm)) → fm m [11] M M' → Q (.inl none) M') → mX E 139 4 [some (.ref m), some (.int (I p)), some (.int (I n)), some (.int (I i)), none] [] M Q := by
    intro i M h t k v hq
    obtain ⟨a1, a2, a3, a4, a5⟩ := id v
    have hs := t.2.1
    have e2 : nt (I 8 + I (i : Int)) = 8 + i := by
      rw [I_add, show (8 : Int) + (i : Int) = ((8 + i : Nat) : Int) by omega, I_ntn (by omega)]
    refine w139_4 ⟨h.k0, h.n9, by rw [h.f9]; exact h.k5, by rw [h.f9, h.l5]; exact I_in (by omega) (by omega) (by omega), fun M1 q1 => ?_⟩
    rw [h.f9, n1, a1, I_add] at q1
    have f1 : fm m [11] M M1 := fm_i (a := 5) q1 (by omega) (by decide)
    have h1 := h.mv f1.1
    have t1 := t.mv f1 (by decide) (by decide)
    have k1 := k.mv f1 (by decide) (by decide)
    refine cp_loop (L := fun x => [some (.ref m), some (.int (I p)), some (.int (I n)), some (.int (I i)), some (.int x)]) (A := m + 6) (t := 6 * (8 + i)) (N := n) (g := fun j => I (s.getD (p + j) 0)) (fun j M2 hj c2 cont => ?_) (fun M2 c2 => ?_)
    · have h2 := h1.mv c2.1
      have e3 : nt (I 6 * (I 8 + I (i : Int)) + I (j : Int)) = 6 * (8 + i) + j := by
        rw [I_add, I_mul, I_add, show (6 : Int) * (8 + (i : Int)) + (j : Int) = ((6 * (8 + i) + j : Nat) : Int) by omega, I_ntn (by omega)]
      have e4 : nt (I (p : Int) + I (j : Int)) = p + j := by
        rw [I_add, show (p : Int) + (j : Int) = ((p + j : Nat) : Int) by omega, I_ntn (by omega)]
      refine w139_5 ⟨fun q => ?_, fun _ => ⟨h2.k0, h2.n10, h2.n3, by rw [h2.f3]; exact h2.k1, by rw [h2.f3, h2.l1, I_add]; exact I_in (by omega) (by omega) (by omega), by rw [h2.f10]; exact h2.k6, by rw [h2.f10, h2.l6, I_add, I_mul, I_add]; exact I_in (by omega) (by omega) (by omega), fun M3 q3 => ?_⟩⟩
      · rw [I_le (by omega) (by omega) (by omega) (by omega)] at q; omega
      · have cc := t.ch (p + j)
        rw [h2.f10, h2.f3, e3, e4, c2.2.1 (m + 1) (by omega), t1.2.2.1 _ (by omega), I_cN (by omega) (by omega)] at q3
        rw [I_add]; exact cont M3 q3
    · have h2 := h1.mv c2.1
      refine w139_5 ⟨fun _ => ⟨h2.k0, h2.n11, by rw [h2.f11]; exact h2.k7, by rw [h2.f11, h2.l7, I_add]; exact I_in (by omega) (by omega) (by omega), fun M3 q3 => ?_⟩, fun q => ?_⟩
      · rw [h2.f11, e2] at q3
        have f2 : fm m [11] M1 M2 := c2.fm (by omega) (fun j j1 j2 => by show [11].contains (10 + j / 48) = true; rw [show j / 48 = 1 by omega]; decide)
        have f3 : fm m [11] M2 M3 := fm_i (a := 7) q3 (by omega) (by show [11].contains (10 + (8 + i) / 8) = true; rw [show (8 + i) / 8 = 1 by omega]; decide)
        have f := (f1.trans f2).trans f3
        have keep : ∀ j e, ¬ j = 8 + i → vrR M m j e → vrR M3 m j e := fun j e hj r => ⟨(((r.1.oth1 q1 (by omega) (by omega)).row c2 hn6 hj (by omega)).row1 q3 hj (by omega)), ((r.2.oth1 q1 (by omega) (by omega)).oth c2 (by omega) (by omega)).oth1 q3 (by omega) (by omega)⟩
        have len : (es.take i ++ (seg s p (p + n), []) :: es.drop i).length = es.length + 1 := by simp; omega
        refine m_val (h.mv f.1) (k.mv f (by decide) (by decide)) ⟨?_, by omega, by omega, fun j hj hji => ?_, ?_⟩ (fun M' g1 g2 => hq M' g1 (f.trans g2))
        · rw [len, q3, i_ia (by omega), c2.2.1 _ (by omega), q1, i_is]; rfl
        · rw [len] at hj
          rw [ins_get a2]
          by_cases q : j < i
          · rw [if_pos q]; exact keep _ _ (by omega) (a4 j q)
          · rw [if_neg q, if_neg hji, show 8 + j = 8 + (j - 1 + 1) by omega]
            exact keep _ _ (by omega) (a5 (j - 1) (by omega) (by omega))
        · rw [ins_get a2, if_neg (by omega), if_pos rfl]
          refine nmR.mk' (s := seg s p (p + n)) c2 (by rw [sl]; exact Nat.le_refl _) (fun k hk => by rw [seg_get (by omega)]) (by rw [sl]; exact hn6) (fun c hc => by have := t0 c (seg_mem hc); omega) (by rw [sl]; exact q3) (by omega)
      · rw [I_le (by omega) (by omega) (by omega) (by omega)] at q; omega
  induction i with
  | zero =>
    intro M h t k v hq
    exact w139_3 ⟨fun _ => four 0 M h t k v hq, fun q => absurd (by decide) q⟩
  | succ i ih =>
    intro M h t k v hq
    obtain ⟨a1, a2, a3, a4, a5⟩ := id v
    have hs := t.2.1
    have r := a4 i (by omega)
    have bd := ord_bd (s := (es.getD i ([], [])).1) (u := seg s p (p + n)) r.1.2.2.2 (fun c hc => by have := t.2.2.2 c (seg_mem hc); omega) (by have := r.1.2.1; omega) (by rw [seg_len]; omega)
    have e1 : (I ((i + 1 : Nat) : Int) - I 1) = I (i : Int) := by rw [I_sub]; congr 1; omega
    unfold slT at hq
    refine w139_3 ⟨fun q => ?_, fun q => ⟨h.k0, ?_⟩⟩
    · rw [I_le (by omega) (by omega) (by omega) (by omega)] at q; omega
    · rw [e1]
      refine m_cmpV h r.1 (by omega) t hp ⟨fun z => ?_, fun z => ⟨h.k0, m_mvvr h (by omega) (by omega) (by omega) (fun M1 v1 f1 => ?_)⟩⟩
      · rw [I_le (by omega) (by omega) (by omega) (by omega)] at z
        rw [if_neg (by omega)] at hq
        exact four (i + 1) M h t k v hq
      · rw [I_le (by omega) (by omega) (by omega) (by omega)] at z
        rw [if_pos (by omega)] at hq
        show mX E 139 3 _ [] M1 Q
        rw [I_add, show (((i + 1 : Nat) : Int) + -1) = (i : Int) by omega]
        exact ih M1 (h.mv f1.1) (t.mv f1 (by decide) (by decide)) (k.mv f1 (by decide) (by decide)) (v.step v1) (fun M' g1 g2 => hq M' g1 (f1.trans g2))
/-- a name gets a value -/
theorem m_assign {sp : List Nat} {p n : Nat} (h : mS M m) (t : mdT M m s) (k : mkX M m sp) (v : vrX M m 1 vs) (hp : p + n ≤ s.length)
    (hq : ∀ v1, opT 8 6 vs (seg s p (p + n)) = some v1 → ∀ M', vrX M' m 1 (stT v1 (fdT v1 (seg s p (p + n)) 0).toNat (sp.map unm)) → fm m [11, 125] M M' → Q (.inl none) M')
    (hd : opT 8 6 vs (seg s p (p + n)) = none → ∀ M', mi M' m 25 = I 1 → fm m [11, 125] M M' → Q (.inl none) M') : mC E 139 [.ref m, .int (I p), .int (I n)] M Q := by
  have hl := v.2.1
  have hs := t.2.1
  have sl : (seg s p (p + n)).length = n := by rw [seg_len]; omega
  have n1 : nt (I 1) = 1 := by decide
  have fr := fdT_r vs (seg s p (p + n)) 0
  unfold opT at hq hd
  refine w139_0 ⟨h.k0, m_findV h v t hp ⟨fun c => ?_, fun c => ⟨fun q => ⟨h.k0, fun M1 q1 => ?_⟩, fun q => ⟨h.k0, h.n9, by rw [h.f9]; exact h.k5, by rw [h.f9, h.l5]; exact I_in (by omega) (by omega) (by omega), fun q2 => ?_, fun q2 M1 q1 => ?_⟩⟩⟩⟩
  · rw [I_le (by omega) (by omega) (by omega) (by omega)] at c
    have hv := hq vs (by rw [if_pos c])
    show mX E 139 8 _ [] M Q
    rw [show fdT vs (seg s p (p + n)) 0 = (((fdT vs (seg s p (p + n)) 0).toNat : Nat) : Int) by omega]
    have fi : (fdT vs (seg s p (p + n)) 0).toNat < vs.length := by omega
    exact m_val h k ⟨v.1, hl, fi, fun j hj _ => v.2.2 j hj, (v.2.2 _ fi).1⟩ (fun M' g1 g2 => hv M' g1 (g2.w (by decide)))
  · rw [I_le (by omega) (by omega) (by omega) (by omega)] at c
    rw [I_lt (by omega) (by omega) (by omega) (by omega)] at q
    rw [if_neg c, if_neg (by omega)] at hd
    exact hd rfl M1 (by rw [q1, i_is]) (fm_o q1 (by decide))
  · rw [I_le (by omega) (by omega) (by omega) (by omega)] at c
    rw [I_lt (by omega) (by omega) (by omega) (by omega)] at q
    rw [h.f9, n1, v.1, I_eq (by omega) (by omega) (by omega) (by omega)] at q2
    rw [if_neg c, if_pos (by omega)] at hq
    have hv := hq _ rfl
    rw [h.f9, n1, v.1]
    unfold insT at hv
    have at' := fdT_at vs (seg s p (p + n)) [] (slT vs (seg s p (p + n)) vs.length) (slT_le _ _ _) 0 (by omega)
    rw [at'] at hv
    exact m_asg3 t.2.2.2 hp (by omega) vs.length M h t k (v.hole (by omega)) (fun M' g1 g2 => hv M' (by simpa using g1) (g2.w (by decide)))
  · rw [I_le (by omega) (by omega) (by omega) (by omega)] at c
    rw [I_lt (by omega) (by omega) (by omega) (by omega)] at q
    rw [h.f9, n1, v.1, I_eq (by omega) (by omega) (by omega) (by omega)] at q2
    rw [if_neg c, if_neg (by omega)] at hd
    exact hd rfl M1 (by rw [q1, i_is]) (fm_o q1 (by decide))
end MTAB
