/-! THE REFERENCE: is, test, exit, cat, set -/
/-- copy c of the positions -/
def poX (M : mM) (m c : Nat) (po : List (List Nat)) : Prop := mi M (m + 10) c = I po.length ∧ po.length ≤ 9 ∧ ∀ i, i < po.length → nmR M (m + 11) (m + 12) 40 (9 * c + i) (po.getD i [])
theorem list_eq {e w : List Nat} (hel : e.length = w.length) (hj : ∀ j, j < w.length → e.getD j 0 = w.getD j 0) : e = w := by
  apply List.ext_getElem hel
  intro j j1 j2
  have := hj j (by omega)
  rw [List.getD_eq_getElem?_getD, List.getElem?_eq_getElem j1, List.getD_eq_getElem?_getD, List.getElem?_eq_getElem j2] at this
  exact this
section MUT
variable {E : mE} {M M' : mM} {Q : mQ} {m c : Nat} {V u w : List Nat} {fs po : List (List Nat)} {fl : eL} {S : List Nat}
theorem poX.mv (h : poX M m c po) (f : fm m S M M') (hS : S.contains (20 + c) = false) : poX M' m c po := by
  have h1 := h.2.1
  refine ⟨by rw [f.2.2 10 c (by omega) hS]; exact h.1, h.2.1, fun i hi => ?_⟩
  obtain ⟨a1, a2, a3, a4⟩ := h.2.2 i hi
  refine ⟨?_, a2, fun k hk => ?_, a4⟩
  · rw [f.2.2 12 (9 * c + i) (by omega) (by show S.contains (20 + (9 * c + i) / 9) = false; rw [show (9 * c + i) / 9 = c by omega]; exact hS)]; exact a1
  · rw [f.2.2 11 (40 * (9 * c + i) + k) (by omega) (by show S.contains (20 + (40 * (9 * c + i) + k) / 360) = false; rw [show (40 * (9 * c + i) + k) / 360 = c by omega]; exact hS)]; exact a3 k hk
theorem m_is {f : Nat} {x : Int64} {n : Nat} {W : List Nat} (h : mS M m) (t : nmR M (m + 23) (m + 24) 40 f w) (hf : f ≤ 16) (hn : n = W.length) (hn5 : n ≤ 5) (hx : ∀ k, k < W.length → ((Int64.toInt32 (lushr x ((I 8) * ((I n - (I 1)) - I k)))) &&& (I 255)) = I (W.getD k 0)) (hW : ∀ c ∈ W, c < 65536) (h1 : w = W → Q (.inl (some (.int (I 1)))) M) (h0 : ¬ w = W → Q (.inl (some (.int (I 0)))) M) : mC E 164 [.ref m, .int (I f), .long x, .int (I n)] M Q := by
  have hl := t.2.1
  have three0 : ∀ k : Nat, ¬ w = W → mX E 164 3 [some (.ref m), some (.int (I f)), some (.long x), none, some (.int (I n)), some (.int (I 0)), some (.int (I k))] [] M Q := fun k q => w164_3 ⟨fun _ => ⟨Or.inl rfl, h0 q⟩, fun _ => ⟨fun _ => ⟨Or.inl rfl, h0 q⟩, fun z => absurd rfl z⟩⟩
  have three : ∀ z k : Nat, z = n - k → k ≤ n → w.length = n → (∀ j, j < k → w.getD j 0 = W.getD j 0) → mX E 164 3 [some (.ref m), some (.int (I f)), some (.long x), none, some (.int (I n)), some (.int (I 1)), some (.int (I k))] [] M Q := by
    intro z
    induction z with
    | zero =>
      intro k hz hk hel hj
      have eq : w = W := list_eq (by omega) (fun j hj2 => hj j (by omega))
      refine w164_3 ⟨fun _ => ⟨Or.inr rfl, h1 eq⟩, fun c => ?_⟩
      rw [I_le (by omega) (by omega) (by omega) (by omega)] at c; omega
    | succ z ih =>
      intro k hz hk hel hj
      have c1 := t.ch k
      have c2 := getD_lt hW (by omega) k
      refine w164_3 ⟨fun c => ?_, fun c => ⟨fun z => absurd z (by decide), fun _ => ⟨h.k0, h.n34, by rw [h.f34]; exact h.k23, ?_⟩⟩⟩
      · rw [I_le (by omega) (by omega) (by omega) (by omega)] at c; omega
      · have e2 : nt (I 40 * I (f : Int) + I (k : Int)) = 40 * f + k := by
          rw [I_mul, I_add, show (40 : Int) * (f : Int) + (k : Int) = ((40 * f + k : Nat) : Int) by omega, I_ntn (by omega)]
        rw [h.f34, e2, t.2.2.1 _ (by omega), hx k (by omega)]
        refine ⟨by rw [h.l23, I_mul, I_add]; exact I_in (by omega) (by omega) (by omega), fun z => ?_, fun z => ?_⟩
        · rw [I_eq (by omega) (by omega) (by omega) (by omega)] at z
          rw [I_add]
          exact three0 (k + 1) (fun y => by rw [y] at z; omega)
        · rw [I_eq (by omega) (by omega) (by omega) (by omega)] at z
          rw [I_add]
          refine ih (k + 1) (by omega) (by omega) hel (fun j hj2 => ?_)
          by_cases y : j = k
          · subst y; omega
          · exact hj j (by omega)
  refine w164_0 ⟨h.k0, h.n35, by rw [h.f35]; exact h.k24, by rw [h.f35, h.l24]; exact I_in (by omega) (by omega) (by omega), fun z => ?_, fun z => ?_⟩
  · rw [h.f35, I_ntn (by omega), t.1, I_eq (by omega) (by omega) (by omega) (by omega)] at z
    exact three0 0 (fun y => by rw [y] at z; omega)
  · rw [h.f35, I_ntn (by omega), t.1, I_eq (by omega) (by omega) (by omega) (by omega)] at z
    exact three _ 0 rfl (by omega) (by omega) (fun j hj => absurd hj (Nat.not_lt_zero j))
theorem m_same {f g : Nat} {e : List Nat} (h : mS M m) (r : nmR M (m + 23) (m + 24) 40 f e) (t : nmR M (m + 23) (m + 24) 40 g w) (hf : f ≤ 16) (hg : g ≤ 16) (h1 : e = w → Q (.inl (some (.int (I 1)))) M) (h0 : ¬ e = w → Q (.inl (some (.int (I 0)))) M) : mC E 171 [.ref m, .int (I f), .int (I g)] M Q := by
  have hl := t.2.1
  have he := r.2.1
  have lf : vp_in (I f) (mln M (mr M m 35)) := by rw [h.f35, h.l24]; exact I_in (by omega) (by omega) (by omega)
  have three0 : ∀ k : Nat, ¬ e = w → mX E 171 3 [some (.ref m), some (.int (I f)), some (.int (I g)), some (.int (I 0)), some (.int (I k))] [] M Q := fun k q => w171_3 ⟨h.k0, h.n35, by rw [h.f35]; exact h.k24, lf, fun _ => ⟨Or.inl rfl, h0 q⟩, fun _ => ⟨fun _ => ⟨Or.inl rfl, h0 q⟩, fun z => absurd rfl z⟩⟩
  have three : ∀ z k : Nat, z = e.length - k → k ≤ e.length → e.length = w.length → (∀ j, j < k → e.getD j 0 = w.getD j 0) → mX E 171 3 [some (.ref m), some (.int (I f)), some (.int (I g)), some (.int (I 1)), some (.int (I k))] [] M Q := by
    intro z
    induction z with
    | zero =>
      intro k hn hk hel hj
      have eq : e = w := list_eq hel (fun j hj2 => hj j (by omega))
      refine w171_3 ⟨h.k0, h.n35, by rw [h.f35]; exact h.k24, lf, fun _ => ⟨Or.inr rfl, h1 eq⟩, fun c => ?_⟩
      rw [h.f35, I_ntn (by omega), r.1, I_le (by omega) (by omega) (by omega) (by omega)] at c; omega
    | succ z ih =>
      intro k hn hk hel hj
      have c1 := r.ch k
      have c2 := t.ch k
      refine w171_3 ⟨h.k0, h.n35, by rw [h.f35]; exact h.k24, lf, fun c => ?_, fun c => ⟨fun z => absurd z (by decide), fun _ => ⟨h.n34, by rw [h.f34]; exact h.k23, by rw [h.f34, h.l23, I_mul, I_add]; exact I_in (by omega) (by omega) (by omega), by rw [h.f34, h.l23, I_mul, I_add]; exact I_in (by omega) (by omega) (by omega), ?_⟩⟩⟩
      · rw [h.f35, I_ntn (by omega), r.1, I_le (by omega) (by omega) (by omega) (by omega)] at c; omega
      · have e1 : nt (I 40 * I (f : Int) + I (k : Int)) = 40 * f + k := by
          rw [I_mul, I_add, show (40 : Int) * (f : Int) + (k : Int) = ((40 * f + k : Nat) : Int) by omega, I_ntn (by omega)]
        have e2 : nt (I 40 * I (g : Int) + I (k : Int)) = 40 * g + k := by
          rw [I_mul, I_add, show (40 : Int) * (g : Int) + (k : Int) = ((40 * g + k : Nat) : Int) by omega, I_ntn (by omega)]
        rw [h.f34, e1, e2, r.2.2.1 k (by omega), t.2.2.1 _ (by omega)]
        refine ⟨fun z => ?_, fun z => ?_⟩
        · rw [I_eq (by omega) (by omega) (by omega) (by omega)] at z
          rw [I_add]
          exact three0 (k + 1) (fun y => by rw [y] at z; omega)
        · rw [I_eq (by omega) (by omega) (by omega) (by omega)] at z
          rw [I_add]
          refine ih (k + 1) (by omega) (by omega) hel (fun j hj2 => ?_)
          by_cases y : j = k
          · subst y; omega
          · exact hj j (by omega)
  refine w171_0 ⟨h.k0, h.n35, by rw [h.f35]; exact h.k24, lf, by rw [h.f35, h.l24]; exact I_in (by omega) (by omega) (by omega), fun z => ?_, fun z => ?_⟩
  · rw [h.f35, I_ntn (by omega), I_ntn (n := g) (by omega), r.1, t.1, I_eq (by omega) (by omega) (by omega) (by omega)] at z
    exact three0 0 (fun y => by rw [y] at z; omega)
  · rw [h.f35, I_ntn (by omega), I_ntn (n := g) (by omega), r.1, t.1, I_eq (by omega) (by omega) (by omega) (by omega)] at z
    exact three _ 0 rfl (by omega) (by omega) (fun j hj => absurd hj (Nat.not_lt_zero j))
theorem m_test (h : mS M m) (hf : fdX M m fs) (v : flX M m 1 fl) (hq : Q (.inl (some (.int (I (tsS fs fl))))) M) : mC E 172 [.ref m] M Q := by
  have hl := hf.2.1
  have n1 : nt (I 1) = 1 := by decide
  unfold tsS at hq
  have ten : ∀ (a b : Bool), (a = true ↔ fs.length = 4 ∧ fs.getD 2 [] = [61]) → (b = true ↔ fs.length = 4 ∧ fs.getD 2 [] = [33, 61]) → ¬ fs.length = 2 → ¬ (fs.length = 3 ∧ fs.getD 1 [] = [45, 101]) → mX E 172 10 [some (.ref m), some (.int (I (bI a))), none] [.int (I (bI b))] M Q := by
    intro a b ha hb g2 g3
    rw [if_neg g2, if_neg g3] at hq
    have el : ∀ v2, (a = true ∨ b = true) → mX E 172 11 [some (.ref m), some (.int (I (bI a))), some (.int v2)] [] M Q := by
      intro v2 hab
      have l4 : fs.length = 4 := by
        rcases hab with q | q
        · exact (ha.mp q).1
        · exact (hb.mp q).1
      refine w172_11 ⟨h.k0, m_same (f := 1) (g := 3) h (hf.row (by omega)) (hf.row (by omega)) (by omega) (by omega) (fun e => ?_) (fun e => ?_)⟩
      · rw [if_pos e, if_pos e] at hq
        refine ⟨fun z => ?_, fun z => ?_⟩
        · have a0 : ¬ a = true := fun y => z (by rw [y]; rfl)
          rw [if_neg (fun y => a0 (ha.mpr y)), if_pos (hb.mp (by rcases hab with q | q; exact absurd q a0; exact q))] at hq
          exact hq
        · have a1 : a = true := by
            cases a with
            | true => rfl
            | false => exact absurd z (by decide)
          rw [if_pos (ha.mp a1)] at hq; exact hq
      · rw [if_neg e, if_neg e] at hq
        refine ⟨fun z => ?_, fun z => ?_⟩
        · have a1 : a = true := by
            cases a with
            | true => rfl
            | false => exact absurd rfl z
          rw [if_pos (ha.mp a1)] at hq; exact hq
        · have a0 : ¬ a = true := fun y => by rw [y] at z; exact absurd z (by decide)
          rw [if_neg (fun y => a0 (ha.mpr y)), if_pos (hb.mp (by rcases hab with q | q; exact absurd q a0; exact q))] at hq
          exact hq
    refine w172_10 ⟨fun z => el _ (Or.inl ?_), fun z => ⟨fun y => el _ (Or.inr ?_), fun y => ?_⟩⟩
    · rw [bI_0, Bool.not_eq_false] at z; exact z
    · rw [bI_0, Bool.not_eq_false] at y; exact y
    · rw [bI_0] at z y
      rw [if_neg (fun x => by rw [ha.mpr x] at z; exact absurd z (by decide)), if_neg (fun x => by rw [hb.mpr x] at y; exact absurd y (by decide))] at hq
      exact hq
  have six : ¬ fs.length = 2 → ¬ (fs.length = 3 ∧ fs.getD 1 [] = [45, 101]) → mX E 172 6 [some (.ref m), none, none] [] M Q := by
    intro g2 g3
    have eight : ∀ a : Bool, (a = true ↔ fs.length = 4 ∧ fs.getD 2 [] = [61]) → mX E 172 8 [some (.ref m), none, none] [.int (I (bI a))] M Q := by
      intro a ha
      refine w172_8 ⟨h.k0, fun c => w172_9 (ten a false ha ⟨fun z => absurd z (by decide), fun z => ?_⟩ g2 g3), fun c => ?_⟩
      · rw [hf.1, I_eq (by omega) (by omega) (by omega) (by omega)] at c; omega
      · rw [hf.1, I_eq (by omega) (by omega) (by omega) (by omega)] at c
        refine m_is (f := 2) (n := 2) (W := [33, 61]) h (hf.row (by omega)) (by omega) rfl (by omega) (by decide) (by decide) (fun e => ⟨fun z => absurd z (by decide), fun _ => ten a true ha ⟨fun _ => ⟨by omega, e⟩, fun _ => rfl⟩ g2 g3⟩) (fun e => ⟨fun _ => w172_9 (ten a false ha ⟨fun z => absurd z (by decide), fun z => absurd z.2 e⟩ g2 g3), fun z => absurd rfl z⟩)
    refine w172_6 ⟨h.k0, fun c => w172_7 (eight false ⟨fun z => absurd z (by decide), fun z => ?_⟩), fun c => ?_⟩
    · rw [hf.1, I_eq (by omega) (by omega) (by omega) (by omega)] at c; omega
    · rw [hf.1, I_eq (by omega) (by omega) (by omega) (by omega)] at c
      refine m_is (f := 2) (n := 1) (W := [61]) h (hf.row (by omega)) (by omega) rfl (by omega) (by decide) (by decide) (fun e => ⟨fun z => absurd z (by decide), fun _ => eight true ⟨fun _ => ⟨by omega, e⟩, fun _ => rfl⟩⟩) (fun e => ⟨fun _ => w172_7 (eight false ⟨fun z => absurd z (by decide), fun z => absurd z.2 e⟩), fun z => absurd rfl z⟩)
  refine w172_0 ⟨h.k0, fun c => ⟨fun c2 => six ?_ ?_, fun c2 => ?_⟩, fun c => ⟨h.n35, by rw [h.f35]; exact h.k24, by rw [h.f35, h.l24]; exact I_in (by omega) (by omega) (by omega), fun z => ?_, fun z => ?_⟩⟩
  · rw [hf.1, I_eq (by omega) (by omega) (by omega) (by omega)] at c; omega
  · rw [hf.1, I_eq (by omega) (by omega) (by omega) (by omega)] at c2; omega
  · rw [hf.1, I_eq (by omega) (by omega) (by omega) (by omega)] at c c2
    refine m_is (f := 1) (n := 2) (W := [45, 101]) h (hf.row (by omega)) (by omega) rfl (by omega) (by decide) (by decide) (fun e => ⟨fun z => absurd z (by decide), fun _ => ⟨h.k0, ?_⟩⟩) (fun e => ⟨fun _ => six (by omega) (fun y => e y.2), fun z => absurd rfl z⟩)
    rw [if_neg (by omega), if_pos ⟨by omega, e⟩] at hq
    have fr := fdT_r fl (fs.getD 2 []) 0
    have vl := v.2.1
    refine m_findF (f := 2) h v (hf.row (by omega)) (by omega) ⟨fun z => ?_, fun z => ?_⟩
    · rw [I_lt (by omega) (by omega) (by omega) (by omega)] at z
      rw [if_neg (by omega)] at hq; exact hq
    · rw [I_lt (by omega) (by omega) (by omega) (by omega)] at z
      rw [if_pos (by omega)] at hq; exact hq
  · rw [hf.1, I_eq (by omega) (by omega) (by omega) (by omega)] at c
    have r := hf.row (show 1 < fs.length by omega)
    have rl := r.2.1
    rw [h.f35, n1, r.1, I_le (by omega) (by omega) (by omega) (by omega)] at z
    rw [if_pos (by omega), if_pos (by omega)] at hq; exact hq
  · rw [hf.1, I_eq (by omega) (by omega) (by omega) (by omega)] at c
    have r := hf.row (show 1 < fs.length by omega)
    have rl := r.2.1
    rw [h.f35, n1, r.1, I_le (by omega) (by omega) (by omega) (by omega)] at z
    rw [if_pos (by omega), if_neg (by omega)] at hq; exact hq
theorem m_exit {al : Bool} {stt : Nat} (h : mS M m) (hf : fdX M m fs) (hst : mi M (m + 18) 1 = I stt) (hst2 : stt ≤ 255) (h26 : mi M m 26 = I 0)
    (hq0 : ¬ ((fs.length = 1 ∨ fs.length = 2) ∧ 0 ≤ exV fs stt ∧ exV fs stt ≤ 255) → Q (.inl (some (.int (I 2)))) M) (hq : ((fs.length = 1 ∨ fs.length = 2) ∧ 0 ≤ exV fs stt ∧ exV fs stt ≤ 255) → ∀ M', mi M' m 26 = I (bI al) → fm m [126] M M' → Q (.inl (some (.int (I (exV fs stt))))) M') : mC E 174 [.ref m, .int (I (bI al))] M Q := by
  have hl := hf.2.1
  have n1 : nt (I 1) = 1 := by decide
  have three : ∀ x : Int, -2 < x → x < 1000 → (fs.length = 1 ∨ fs.length = 2) → x = exV fs stt → mX E 174 3 [some (.ref m), some (.int (I (bI al))), none] [.int (I x)] M Q := by
    intro x x1 x2 g e
    subst e
    have set : ∀ (M' : mM) (y : Int32), M' = msi M m 26 y → y = I (bI al) → (0 ≤ exV fs stt ∧ exV fs stt ≤ 255) → Q (.inl (some (.int (I (exV fs stt))))) M' := fun M' y q1 q2 q3 => hq ⟨g, q3⟩ M' (by rw [q1, i_is, q2]) (fm_o q1 (by decide))
    refine w174_3 ⟨fun c => hq0 ?_, fun c => ⟨fun c2 => ⟨h.k0, fun z => absurd h26 z, fun _ => ⟨fun z M' q => ?_, fun z M' q => ?_⟩⟩, fun c2 => hq0 ?_⟩⟩
    · rw [I_lt (by omega) (by omega) (by omega) (by omega)] at c; omega
    · rw [I_lt (by omega) (by omega) (by omega) (by omega)] at c
      rw [I_le (by omega) (by omega) (by omega) (by omega)] at c2
      rw [bI_0] at z
      exact set M' _ q (by rw [z]; rfl) (by omega)
    · rw [I_lt (by omega) (by omega) (by omega) (by omega)] at c
      rw [I_le (by omega) (by omega) (by omega) (by omega)] at c2
      rw [bI_0, Bool.not_eq_false] at z
      exact set M' _ q (by rw [z]; rfl) (by omega)
    · rw [I_le (by omega) (by omega) (by omega) (by omega)] at c2; omega
  have ev : exV fs stt = if fs.length = 1 then (stt : Int) else numV (fs.getD 1 []) 3 := rfl
  refine w174_0 ⟨h.k0, fun c => ⟨fun c2 => ?_, fun c2 => ?_⟩, fun c => ⟨h.n22, by rw [h.f22]; exact h.k18, by rw [h.f22, h.l18]; exact I_in (by omega) (by omega) (by omega), ?_⟩⟩
  · rw [hf.1, I_eq (by omega) (by omega) (by omega) (by omega)] at c c2
    have q0 := hq0 (by omega)
    exact w174_3 ⟨fun _ => q0, fun z => absurd (by decide) z⟩
  · rw [hf.1, I_eq (by omega) (by omega) (by omega) (by omega)] at c c2
    have nr := numV_r (fs.getD 1 []) 3 (by omega)
    rw [if_neg (by omega)] at ev
    exact m_number (f := 1) (d := 3) (by omega) h hf (by omega) (three _ (by omega) (by omega) (by omega) ev.symm)
  · rw [hf.1, I_eq (by omega) (by omega) (by omega) (by omega)] at c
    rw [h.f22, n1, hst]
    rw [if_pos (by omega)] at ev
    exact three _ (by omega) (by omega) (by omega) ev.symm
theorem m_cat6 {i : Nat} (hi : i < fl.length) {v1 v2 : Int32} (n : Nat) : ∀ (k : Nat) (V : List Nat) (M : mM), n = (fl.getD i ([], [])).2.length - k → k ≤ (fl.getD i ([], [])).2.length → mS M m → flX M m 1 fl → puX M m V → (∀ M' d3 d4, puX M' m (V ++ (fl.getD i ([], [])).2.drop k) → fm m [64, 138, 125] M M' → mX E 167 3 [some (.ref m), some (.int v1), some (.int (v2 + I 1)), d3, d4] [] M' Q) →
    mX E 167 6 [some (.ref m), some (.int v1), some (.int v2), some (.int (I i)), some (.int (I k))] [] M Q := by
  induction n with
  | zero =>
    intro k V M hn hk h v p hq
    have vl := v.2.1
    have r := (v.2.2 i hi).2
    have rl := r.2.1
    have e2 : nt (I 8 + I (i : Int)) = 8 * 1 + i := by
      rw [I_add, show (8 : Int) + (i : Int) = ((8 * 1 + i : Nat) : Int) by omega, I_ntn (by omega)]
    rw [List.drop_eq_nil_of_le (by omega), List.append_nil] at hq
    refine w167_6 ⟨fun c => ?_, fun _ => ⟨h.k0, h.n21, by rw [h.f21]; exact h.k17, by rw [h.f21, h.l17, I_add]; exact I_in (by omega) (by omega) (by omega), fun _ => hq M _ _ p (fm.refl _ _ _), fun c => ?_⟩⟩
    · rw [I_lt (by omega) (by omega) (by omega) (by omega)] at c; omega
    · rw [h.f21, e2, r.1, I_le (by omega) (by omega) (by omega) (by omega)] at c; omega
  | succ n ih =>
    intro k V M hn hk h v p hq
    have vl := v.2.1
    have r := (v.2.2 i hi).2
    have rl := r.2.1
    have e2 : nt (I 8 + I (i : Int)) = 8 * 1 + i := by
      rw [I_add, show (8 : Int) + (i : Int) = ((8 * 1 + i : Nat) : Int) by omega, I_ntn (by omega)]
    have e3 : nt (I 80 * (I 8 + I (i : Int)) + I (k : Int)) = 80 * (8 * 1 + i) + k := by
      rw [I_add, I_mul, I_add, show (80 : Int) * (8 + (i : Int)) + (k : Int) = ((80 * (8 * 1 + i) + k : Nat) : Int) by omega, I_ntn (by omega)]
    refine w167_6 ⟨fun c => ?_, fun _ => ⟨h.k0, h.n21, by rw [h.f21]; exact h.k17, by rw [h.f21, h.l17, I_add]; exact I_in (by omega) (by omega) (by omega), fun c => ?_, fun c => ⟨h.n20, by rw [h.f20]; exact h.k16, by rw [h.f20, h.l16, I_add, I_mul, I_add]; exact I_in (by omega) (by omega) (by omega), ?_⟩⟩⟩
    · rw [I_lt (by omega) (by omega) (by omega) (by omega)] at c; omega
    · rw [h.f21, e2, r.1, I_le (by omega) (by omega) (by omega) (by omega)] at c; omega
    · rw [h.f20, e3, r.2.2.1 k (by omega)]
      refine m_out h p (r.ch k) (fun M1 p1 f1 => ?_)
      show mX E 167 6 _ [] M1 Q
      rw [I_add]
      refine ih (k + 1) _ M1 (by omega) (by omega) (h.mv f1.1) (v.mv f1 (by decide)) p1 (fun M' d3 d4 g1 g2 => hq M' d3 d4 ?_ (f1.trans g2))
      rw [drop_getD (by omega)]
      rw [List.append_assoc] at g1; exact g1
theorem m_cat3 (n : Nat) : ∀ (i st : Nat) (V : List Nat) (M : mM) (d3 d4 : Option Value), n = fs.length - i → 1 ≤ i → i ≤ 1000 → mS M m → fdX M m fs → flX M m 1 fl → puX M m V → (∀ M', puX M' m (V ++ ctL fl fs n i) → fm m [64, 138, 125] M M' → Q (.inl (some (.int (I (ctS fl fs n i st))))) M') →
    mX E 167 3 [some (.ref m), some (.int (I st)), some (.int (I i)), d3, d4] [] M Q := by
  induction n with
  | zero =>
    intro i st V M d3 d4 hn h1 h2 h hf v p hq
    have hl := hf.2.1
    refine w167_3 ⟨h.k0, fun _ => hq M (by simpa [ctL] using p) (fm.refl _ _ _), fun c => ?_⟩
    rw [hf.1, I_le (by omega) (by omega) (by omega) (by omega)] at c; omega
  | succ n ih =>
    intro i st V M d3 d4 hn h1 h2 h hf v p hq
    have hl := hf.2.1
    have vl := v.2.1
    have fr := fdT_r fl (fs.getD i []) 0
    unfold ctL ctS at hq
    refine w167_3 ⟨h.k0, fun c => ?_, fun c => m_findF h v (hf.row (show i < fs.length by omega)) (by omega) ⟨fun z => ?_, fun z => ?_⟩⟩
    · rw [hf.1, I_le (by omega) (by omega) (by omega) (by omega)] at c; omega
    · rw [I_le (by omega) (by omega) (by omega) (by omega)] at z
      rw [if_pos z] at hq
      show mX E 167 6 _ [] M Q
      have et : txL fl (fdT fl (fs.getD i []) 0) = (fl.getD (fdT fl (fs.getD i []) 0).toNat ([], [])).2 := by unfold txL; rw [if_pos z]
      rw [et] at hq
      rw [show fdT fl (fs.getD i []) 0 = (((fdT fl (fs.getD i []) 0).toNat : Nat) : Int) by omega]
      refine m_cat6 (by omega) _ 0 V M rfl (by omega) h v p (fun M1 d3 d4 p1 f1 => ?_)
      rw [I_add]
      refine ih (i + 1) st _ M1 _ _ (by omega) (by omega) (by omega) (h.mv f1.1) (hf.mv f1 (by decide) (by decide)) (v.mv f1 (by decide)) p1 (fun M' g1 g2 => hq M' ?_ (f1.trans g2))
      rw [List.append_assoc, List.drop_zero] at g1; exact g1
    · rw [I_le (by omega) (by omega) (by omega) (by omega)] at z
      rw [if_neg z] at hq
      have et : txL fl (fdT fl (fs.getD i []) 0) = [] := by unfold txL; rw [if_neg z]
      rw [et, List.nil_append] at hq
      refine w167_6 ⟨fun _ => ?_, fun c => ?_⟩
      · rw [I_add]
        exact ih (i + 1) 1 V M _ _ (by omega) (by omega) (by omega) h hf v p hq
      · rw [I_lt (by omega) (by omega) (by omega) (by omega)] at c; omega
theorem m_cat1 (hq1 : fs.length = 1) (n : Nat) : ∀ (k : Nat) (V : List Nat) (M : mM), n = u.length - k → k ≤ u.length → mS M m → fdX M m fs → inX M m u → puX M m V → (∀ M', puX M' m (V ++ u.drop k) → fm m [64, 138, 125] M M' → mX E 167 3 [some (.ref m), some (.int (I 0)), some (.int (I 1)), none, none] [] M' Q) →
    mX E 167 1 [some (.ref m), some (.int (I k)), none, none, none] [] M Q := by
  induction n with
  | zero =>
    intro k V M hn hk h hf hi p hq
    have hu := hi.2.1
    rw [List.drop_eq_nil_of_le (by omega), List.append_nil] at hq
    refine w167_1 ⟨h.k0, fun _ => hq M p (fm.refl _ _ _), fun c => ?_⟩
    rw [hi.1, I_le (by omega) (by omega) (by omega) (by omega)] at c; omega
  | succ n ih =>
    intro k V M hn hk h hf hi p hq
    have hu := hi.2.1
    refine w167_1 ⟨h.k0, fun c => ?_, fun c => ⟨fun c2 => ?_, fun c2 => ⟨h.n37, by rw [h.f37]; exact h.k25, by rw [h.f37, h.l25]; exact I_in (by omega) (by omega) (by omega), ?_⟩⟩⟩
    · rw [hi.1, I_le (by omega) (by omega) (by omega) (by omega)] at c; omega
    · rw [hf.1, hq1] at c2; exact absurd rfl c2
    · rw [h.f37, I_ntn (by omega), hi.2.2.1 k (by omega)]
      refine m_out h p (hi.ch k) (fun M1 p1 f1 => ?_)
      show mX E 167 1 _ [] M1 Q
      rw [I_add]
      refine ih (k + 1) _ M1 (by omega) (by omega) (h.mv f1.1) (hf.mv f1 (by decide) (by decide)) (hi.mv f1 (by decide) (by decide)) p1 (fun M' g1 g2 => hq M' ?_ (f1.trans g2))
      rw [drop_getD (by omega)]
      rw [List.append_assoc] at g1; exact g1
theorem m_catU (h : mS M m) (hf : fdX M m fs) (hi : inX M m u) (v : flX M m 1 fl) (p : puX M m V) (hq : ∀ M', puX M' m (V ++ catO fl fs u) → fm m [64, 138, 125] M M' → Q (.inl (some (.int (I (ctS fl fs (fs.length - 1) 1 0))))) M') : mC E 167 [.ref m] M Q := by
  have hl := hf.2.1
  unfold catO at hq
  refine w167_0 ?_
  by_cases q : fs.length = 1
  · rw [if_pos q] at hq
    refine m_cat1 q _ 0 V M rfl (by omega) h hf hi p (fun M1 p1 f1 => ?_)
    refine m_cat3 _ 1 0 _ M1 none none rfl (by omega) (by omega) (h.mv f1.1) (hf.mv f1 (by decide) (by decide)) (v.mv f1 (by decide)) p1 (fun M' g1 g2 => hq M' ?_ (f1.trans g2))
    rw [List.drop_zero, List.append_assoc] at g1; exact g1
  · rw [if_neg q, List.nil_append] at hq
    have three := m_cat3 (E := E) (Q := Q) _ 1 0 V M none none rfl (by omega) (by omega) h hf v p hq
    refine w167_1 ⟨h.k0, fun _ => three, fun c => ⟨fun _ => three, fun c2 => ?_⟩⟩
    rw [hf.1, I_eq (by omega) (by omega) (by omega) (by omega)] at c2; omega
/-- set: the fields behind the first become the positions -/
theorem m_set2 (h10 : fs.length ≤ 10) (n : Nat) : ∀ (i : Nat) (M : mM) (d : Option Value), n = fs.length - i → 1 ≤ i → i ≤ fs.length → mS M m → fdX M m fs → mi M (m + 10) 1 = I ((fs.length - 1 : Nat) : Int) → (∀ j, j + 1 < i → nmR M (m + 11) (m + 12) 40 (9 + j) (fs.getD (j + 1) [])) → (∀ M', poX M' m 1 (fs.drop 1) → fm m [21] M M' → Q (.inl (some (.int (I 0)))) M') →
    mX E 168 2 [some (.ref m), some (.int (I i)), d] [] M Q := by
  induction n with
  | zero =>
    intro i M d hn h1 h2 h hf q10 rows hq
    have hl := hf.2.1
    refine w168_2 ⟨h.k0, fun _ => hq M ⟨by rw [List.length_drop]; exact q10, by rw [List.length_drop]; omega, fun j hj => ?_⟩ (fm.refl _ _ _), fun c => ?_⟩
    · rw [List.length_drop] at hj
      have := rows j (by omega)
      rw [List.getD_eq_getElem?_getD, List.getElem?_drop, ← List.getD_eq_getElem?_getD, Nat.add_comm 1 j]; exact this
    · rw [hf.1, I_le (by omega) (by omega) (by omega) (by omega)] at c; omega
  | succ n ih =>
    intro i M d hn h1 h2 h hf q10 rows hq
    have hl := hf.2.1
    have r := hf.row (show i < fs.length by omega)
    have rl := r.2.1
    refine w168_2 ⟨h.k0, fun c => ?_, fun c => ?_⟩
    · rw [hf.1, I_le (by omega) (by omega) (by omega) (by omega)] at c; omega
    · refine cp_loop (L := fun x => [some (.ref m), some (.int (I i)), some (.int x)]) (A := m + 11) (t := 40 * (9 + i - 1)) (N := (fs.getD i []).length) (g := fun k => I ((fs.getD i []).getD k 0)) (fun k M1 hk c1 cont => ?_) (fun M1 c1 => ?_)
      · have h1' := h.mv c1.1
        have r1 := r.oth c1 (by omega) (by omega)
        have e1 : nt (I 40 * (I 9 + I (i : Int) - I 1) + I (k : Int)) = 40 * (9 + i - 1) + k := by
          rw [I_add, I_sub, I_mul, I_add, show (40 : Int) * (9 + (i : Int) - 1) + (k : Int) = ((40 * (9 + i - 1) + k : Nat) : Int) by omega, I_ntn (by omega)]
        have e2 : nt (I 40 * I (i : Int) + I (k : Int)) = 40 * i + k := by
          rw [I_mul, I_add, show (40 : Int) * (i : Int) + (k : Int) = ((40 * i + k : Nat) : Int) by omega, I_ntn (by omega)]
        refine w168_3 ⟨h1'.k0, h1'.n35, by rw [h1'.f35]; exact h1'.k24, by rw [h1'.f35, h1'.l24]; exact I_in (by omega) (by omega) (by omega), fun q => ?_, fun _ => ⟨h1'.n15, h1'.n34, by rw [h1'.f34]; exact h1'.k23, by rw [h1'.f34, h1'.l23, I_mul, I_add]; exact I_in (by omega) (by omega) (by omega), by rw [h1'.f15]; exact h1'.k11, by rw [h1'.f15, h1'.l11, I_add, I_sub, I_mul, I_add]; exact I_in (by omega) (by omega) (by omega), fun M2 q2 => ?_⟩⟩
        · rw [h1'.f35, I_ntn (by omega), r1.1, I_le (by omega) (by omega) (by omega) (by omega)] at q; omega
        · have cc := r1.ch k
          rw [h1'.f15, h1'.f34, e1, e2, r1.2.2.1 k hk, I_cN (by omega) (by omega)] at q2
          rw [I_add]; exact cont M2 q2
      · have h1' := h.mv c1.1
        have r1 := r.oth c1 (by omega) (by omega)
        have e1 : nt (I 9 + I (i : Int) - I 1) = 9 + i - 1 := by
          rw [I_add, I_sub, show (9 : Int) + (i : Int) - 1 = ((9 + i - 1 : Nat) : Int) by omega, I_ntn (by omega)]
        refine w168_3 ⟨h1'.k0, h1'.n35, by rw [h1'.f35]; exact h1'.k24, by rw [h1'.f35, h1'.l24]; exact I_in (by omega) (by omega) (by omega), fun _ => ⟨h1'.n16, by rw [h1'.f16]; exact h1'.k12, by rw [h1'.f16, h1'.l12, I_add, I_sub]; exact I_in (by omega) (by omega) (by omega), fun M2 q2 => ?_⟩, fun q => ?_⟩
        · rw [h1'.f16, h1'.f35, e1, I_ntn (by omega), r1.1] at q2
          have f1 : fm m [21] M M1 := c1.fm (by omega) (fun j j1 j2 => by show [21].contains (20 + j / 360) = true; rw [show j / 360 = 1 by omega]; decide)
          have f2 : fm m [21] M1 M2 := fm_i (a := 12) q2 (by omega) (by show [21].contains (20 + (9 + i - 1) / 9) = true; rw [show (9 + i - 1) / 9 = 1 by omega]; decide)
          have f := f1.trans f2
          rw [I_add]
          refine ih (i + 1) M2 _ (by omega) (by omega) (by omega) (h.mv f.1) (hf.mv f (by decide) (by decide)) (by rw [q2, i_ia (by omega), c1.2.1 _ (by omega)]; exact q10) (fun j hj => ?_) (fun M' g1 g2 => hq M' g1 (f.trans g2))
          by_cases y : j + 1 = i
          · subst y
            have := nmR.mk' (s := fs.getD (j + 1) []) c1 (Nat.le_refl _) (fun k hk => rfl) rl r.2.2.2 q2 (by omega)
            rw [show 9 + (j + 1) - 1 = 9 + j by omega] at this; exact this
          · exact ((rows j (by omega)).row c1 (by omega) (by omega) (by omega)).row1 q2 (by omega) (by omega)
        · rw [h1'.f35, I_ntn (by omega), r1.1, I_le (by omega) (by omega) (by omega) (by omega)] at q; omega
theorem m_setU (h : mS M m) (hf : fdX M m fs) (h1 : 1 ≤ fs.length) (hq : fs.length ≤ 10 → ∀ M', poX M' m 1 (fs.drop 1) → fm m [21] M M' → Q (.inl (some (.int (I 0)))) M') (hd : 10 < fs.length → ∀ M', mi M' m 25 = I 1 → fm m [125] M M' → Q (.inl (some (.int (I 0)))) M') : mC E 168 [.ref m] M Q := by
  have hl := hf.2.1
  have n1 : nt (I 1) = 1 := by decide
  refine w168_0 ⟨h.k0, fun c => ⟨h.n14, by rw [h.f14]; exact h.k10, by rw [h.f14, h.l10]; exact I_in (by omega) (by omega) (by omega), fun M1 q1 => ?_⟩, fun c M1 q1 => ?_⟩
  · rw [hf.1, I_le (by omega) (by omega) (by omega) (by omega)] at c
    rw [h.f14, n1, hf.1, I_sub] at q1
    have f1 : fm m [21] M M1 := fm_i (a := 10) q1 (by omega) (by decide)
    exact m_set2 (by omega) _ 1 M1 none rfl (by omega) (by omega) (h.mv f1.1) (hf.mv f1 (by decide) (by decide)) (by rw [q1, i_is]; congr 1; omega) (fun j hj => by omega) (fun M' g1 g2 => hq (by omega) M' g1 (f1.trans g2))
  · rw [hf.1, I_le (by omega) (by omega) (by omega) (by omega)] at c
    exact hd (by omega) M1 (by rw [q1, i_is]) (fm_o q1 (by decide))
end MUT
