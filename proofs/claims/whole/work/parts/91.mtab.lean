/-! THE REFERENCE: making and dropping files, unset, rm -/
/-- the indices look, from the last on, and every one of that name goes -/
def unI (w : List Nat) : Nat → eL → eL
  | 0, vs => vs
  | k + 1, vs => if (vs.getD k ([], [])).1 = w then unI w k (vs.eraseIdx k) else unI w k vs
def unM (fs : List (List Nat)) : Nat → Nat → eL → eL
  | 0, _, vs => vs
  | n + 1, i, vs => unM fs n (i + 1) (unI (fs.getD i []) vs.length vs)
/-- the file written to, by its place -/
def oAd (b i : Int) : Int := if b = i then -2 else if i < b then b - 1 else b
def rmM (fs : List (List Nat)) : Nat → Nat → eL → Nat → Int → eL × Nat × Int
  | 0, _, fl, st, b => (fl, st, b)
  | n + 1, i, fl, st, b => if 0 ≤ fdT fl (fs.getD i []) 0 then rmM fs n (i + 1) (fl.eraseIdx (fdT fl (fs.getD i []) 0).toNat) st (oAd b (fdT fl (fs.getD i []) 0)) else rmM fs n (i + 1) fl 1 b
section MTAB
variable {E : mE} {M M' : mM} {Q : mQ} {m : Nat} {s w : List Nat} {es vs fl : eL} {fs : List (List Nat)} {S : List Nat}
theorem m_make3 {f : Nat} (hf : f ≤ 16) (hw8 : w.length ≤ 8) {a b : Int} (ha : -3 < a) (ha2 : a < 100) (hb : -3 < b) (hb2 : b < 100) (i : Nat) : ∀ (M : mM), mS M m → nmR M (m + 23) (m + 24) 40 f w → mi M m 43 = I a → mi M m 44 = I b → flH M m es i → (∀ M', flX M' m 1 (es.take (slT es w i) ++ (w, []) :: es.drop (slT es w i)) → mi M' m 43 = I (if (slT es w i : Int) ≤ a then a + 1 else a) → mi M' m 44 = I (if (slT es w i : Int) ≤ b then b + 1 else b) → fm m [31, 143, 144] M M' → Q (.inl (some (.int (I (slT es w i))))) M') →
    mX E 144 3 [some (.ref m), some (.int (I f)), some (.int (I i)), none] [] M Q := by
  have n1 : nt (I 1) = 1 := by decide
  have four : ∀ (i : Nat) (M : mM), mS M m → nmR M (m + 23) (m + 24) 40 f w → mi M m 43 = I a → mi M m 44 = I b → flH M m es i → (∀ M', flX M' m 1 (es.take i ++ (w, []) :: es.drop i) → mi M' m 43 = I (if (i : Int) ≤ a then a + 1 else a) → mi M' m 44 = I (if (i : Int) ≤ b then b + 1 else b) → fm m [31, 143, 144] M M' → Q (.inl (some (.int (I i)))) M') → mX E 144 4 [some (.ref m), some (.int (I f)), some (.int (I i)), none] [] M Q := by
    intro i M h t qa qb v hq
    obtain ⟨a1, a2, a3, a4, a5⟩ := id v
    have e2 : nt (I 8 + I (i : Int)) = 8 + i := by
      rw [I_add, show (8 : Int) + (i : Int) = ((8 + i : Nat) : Int) by omega, I_ntn (by omega)]
    have nine : ∀ (M2 : mM), mS M2 m → nmR M2 (m + 23) (m + 24) 40 f w → (∀ j e, flR M m j e → flR M2 m j e) → mi M2 (m + 13) 1 = I ((es.length + 1 : Nat) : Int) → mi M2 m 43 = I (if (i : Int) ≤ a then a + 1 else a) → mi M2 m 44 = I (if (i : Int) ≤ b then b + 1 else b) → fm m [31, 143, 144] M M2 → mX E 144 9 [some (.ref m), some (.int (I f)), some (.int (I i)), some (.int (I 0))] [] M2 Q := by
      intro M2 h2 t2 kp q13 q43 q44 f2
      refine cp_loop (L := fun x => [some (.ref m), some (.int (I f)), some (.int (I i)), some (.int x)]) (A := m + 14) (t := 8 * (8 + i)) (N := w.length) (g := fun j => I (w.getD j 0)) (fun j M3 hj c3 cont => ?_) (fun M3 c3 => ?_)
      · have h3 := h2.mv c3.1
        have t3 := t2.oth c3 (by omega) (by omega)
        have e3 : nt (I 8 * (I 8 + I (i : Int)) + I (j : Int)) = 8 * (8 + i) + j := by
          rw [I_add, I_mul, I_add, show (8 : Int) * (8 + (i : Int)) + (j : Int) = ((8 * (8 + i) + j : Nat) : Int) by omega, I_ntn (by omega)]
        have e4 : nt (I 40 * I (f : Int) + I (j : Int)) = 40 * f + j := by
          rw [I_mul, I_add, show (40 : Int) * (f : Int) + (j : Int) = ((40 * f + j : Nat) : Int) by omega, I_ntn (by omega)]
        refine w144_9 ⟨h3.k0, h3.n35, by rw [h3.f35]; exact h3.k24, by rw [h3.f35, h3.l24]; exact I_in (by omega) (by omega) (by omega), fun q => ?_, fun _ => ⟨h3.n18, h3.n34, by rw [h3.f34]; exact h3.k23, by rw [h3.f34, h3.l23, I_mul, I_add]; exact I_in (by omega) (by omega) (by omega), by rw [h3.f18]; exact h3.k14, by rw [h3.f18, h3.l14, I_add, I_mul, I_add]; exact I_in (by omega) (by omega) (by omega), fun M4 q4 => ?_⟩⟩
        · rw [h3.f35, I_ntn (by omega), t3.1, I_le (by omega) (by omega) (by omega) (by omega)] at q; omega
        · have cc := t3.ch j
          rw [h3.f18, h3.f34, e3, e4, t3.2.2.1 j hj, I_cN (by omega) (by omega)] at q4
          rw [I_add]; exact cont M4 q4
      · have h3 := h2.mv c3.1
        have t3 := t2.oth c3 (by omega) (by omega)
        refine w144_9 ⟨h3.k0, h3.n35, by rw [h3.f35]; exact h3.k24, by rw [h3.f35, h3.l24]; exact I_in (by omega) (by omega) (by omega), fun _ => ⟨h3.n19, by rw [h3.f19]; exact h3.k15, by rw [h3.f19, h3.l15, I_add]; exact I_in (by omega) (by omega) (by omega), fun M4 q4 => ⟨h3.n21, by rw [h3.f21]; exact h3.k17, by rw [h3.f21, h3.l17, I_add]; exact I_in (by omega) (by omega) (by omega), fun M5 q5 => ?_⟩⟩, fun q => ?_⟩
        · rw [h3.f19, h3.f35, e2, I_ntn (by omega), t3.1] at q4
          rw [h3.f21, e2] at q5
          have f3 : fm m [31, 143, 144] M2 M3 := c3.fm (by omega) (fun j j1 j2 => by show [31, 143, 144].contains (30 + j / 64) = true; rw [show j / 64 = 1 by omega]; decide)
          have f4 : fm m [31, 143, 144] M3 M4 := fm_i (a := 15) q4 (by omega) (by show [31, 143, 144].contains (30 + (8 + i) / 8) = true; rw [show (8 + i) / 8 = 1 by omega]; decide)
          have f5 : fm m [31, 143, 144] M4 M5 := fm_i (a := 17) q5 (by omega) (by show [31, 143, 144].contains (30 + (8 + i) / 8) = true; rw [show (8 + i) / 8 = 1 by omega]; decide)
          have sc : ∀ x k, ¬ x = m + 14 → ¬ x = m + 15 → ¬ x = m + 17 → mi M5 x k = mi M2 x k := fun x k x1 x2 x3 => by rw [q5, i_ia x3, q4, i_ia x2, c3.2.1 x x1]
          refine hq M5 (v.fill (by rw [sc _ _ (by omega) (by omega) (by omega)]; exact q13) (fun j e hj r0 => ?_) ⟨?_, ?_⟩) (by rw [sc _ _ (by omega) (by omega) (by omega)]; exact q43) (by rw [sc _ _ (by omega) (by omega) (by omega)]; exact q44) (((f2.trans f3).trans f4).trans f5)
          · have r := kp j e r0
            exact ⟨((r.1.row c3 hw8 hj (by omega)).row1 q4 hj (by omega)).oth1 q5 (by omega) (by omega), ((r.2.oth c3 (by omega) (by omega)).oth1 q4 (by omega) (by omega)).row1 q5 hj (by omega)⟩
          · exact (nmR.mk' (s := w) c3 (Nat.le_refl _) (fun k hk => rfl) hw8 t.2.2.2 q4 (by omega)).oth1 q5 (by omega) (by omega)
          · refine ⟨by rw [q5, i_is]; rfl, by simp, fun k hk => absurd hk (Nat.not_lt_zero k), fun c hc => absurd hc List.not_mem_nil⟩
        · rw [h3.f35, I_ntn (by omega), t3.1, I_le (by omega) (by omega) (by omega) (by omega)] at q; omega
    have eight : ∀ (M1 : mM) (z : Int), mS M1 m → nmR M1 (m + 23) (m + 24) 40 f w → (∀ j e, flR M m j e → flR M1 m j e) → mi M1 (m + 13) 1 = I es.length → mi M1 m 43 = I (if (i : Int) ≤ a then a + 1 else a) → z = (if (i : Int) ≤ b then b + 1 else b) → fm m [31, 143, 144] M M1 → mX E 144 8 [some (.ref m), some (.int (I f)), some (.int (I i)), none] [.int (I z), .ref m] M1 Q := by
      intro M1 z h1 t1 kp q13 q43 hz f1
      refine w144_8 ⟨h1.k0, fun M2 q2 => ⟨h1.k0, h1.n17, by rw [h1.f17]; exact h1.k13, by rw [h1.f17, h1.l13]; exact I_in (by omega) (by omega) (by omega), fun M3 q3 => ?_⟩⟩
      rw [h1.f17, n1, q2, i_ia (by omega), ← q2, q13, I_add] at q3
      have f2 : fm m [31, 143, 144] M1 M2 := fm_o q2 (by decide)
      have f3 : fm m [31, 143, 144] M2 M3 := fm_i (a := 13) q3 (by omega) (by decide)
      refine nine M3 (h1.mv (f2.trans f3).1) ((t1.oth1 q2 (by omega) (by omega)).oth1 q3 (by omega) (by omega)) (fun j e r => ?_) ?_ ?_ ?_ ((f1.trans f2).trans f3)
      · have r1 := kp j e r
        exact ⟨(r1.1.oth1 q2 (by omega) (by omega)).oth1 q3 (by omega) (by omega), (r1.2.oth1 q2 (by omega) (by omega)).oth1 q3 (by omega) (by omega)⟩
      · rw [q3, i_is]; rfl
      · rw [q3, i_ia (by omega), q2, i_ik (by omega)]; exact q43
      · rw [q3, i_ia (by omega), q2, i_is, hz]
    have six : ∀ (z : Int), z = (if (i : Int) ≤ a then a + 1 else a) → mX E 144 6 [some (.ref m), some (.int (I f)), some (.int (I i)), none] [.int (I z), .ref m] M Q := by
      intro z hz
      refine w144_6 ⟨h.k0, fun M1 q1 => ⟨h.k0, ?_⟩⟩
      have f1 : fm m [31, 143, 144] M M1 := fm_o q1 (by decide)
      have q44 : mi M1 m 44 = I b := by rw [q1, i_ik (by omega)]; exact qb
      have q43 : mi M1 m 43 = I (if (i : Int) ≤ a then a + 1 else a) := by rw [q1, i_is, hz]
      have q13 : mi M1 (m + 13) 1 = I es.length := by rw [q1, i_ia (by omega)]; exact a1
      have kp : ∀ j e, flR M m j e → flR M1 m j e := fun j e r => ⟨r.1.oth1 q1 (by omega) (by omega), r.2.oth1 q1 (by omega) (by omega)⟩
      have t1 := t.oth1 q1 (by omega) (by omega)
      rw [q44]
      refine ⟨fun c => ?_, fun c => ?_⟩
      · rw [I_lt (by omega) (by omega) (by omega) (by omega)] at c
        exact eight M1 b (h.mv f1.1) t1 kp q13 q43 (by rw [if_neg (by omega)]) f1
      · rw [I_lt (by omega) (by omega) (by omega) (by omega)] at c
        rw [I_add]
        exact eight M1 (b + 1) (h.mv f1.1) t1 kp q13 q43 (by rw [if_pos (by omega)]) f1
    refine w144_4 ⟨h.k0, fun c => ?_, fun c => ?_⟩
    · rw [qa, I_lt (by omega) (by omega) (by omega) (by omega)] at c
      rw [qa]; exact six a (by rw [if_neg (by omega)])
    · rw [qa, I_lt (by omega) (by omega) (by omega) (by omega)] at c
      rw [qa, I_add]; exact six (a + 1) (by rw [if_pos (by omega)])
  induction i with
  | zero =>
    intro M h t qa qb v hq
    exact w144_3 ⟨fun _ => four 0 M h t qa qb v hq, fun q => absurd (by decide) q⟩
  | succ i ih =>
    intro M h t qa qb v hq
    obtain ⟨a1, a2, a3, a4, a5⟩ := id v
    have r := a4 i (by omega)
    have bd := ord_bd (s := (es.getD i ([], [])).1) (u := w) r.1.2.2.2 t.2.2.2 (by have := r.1.2.1; omega) (by omega)
    have e1 : (I ((i + 1 : Nat) : Int) - I 1) = I (i : Int) := by rw [I_sub]; congr 1; omega
    unfold slT at hq
    refine w144_3 ⟨fun q => ?_, fun q => ⟨h.k0, ?_⟩⟩
    · rw [I_le (by omega) (by omega) (by omega) (by omega)] at q; omega
    · rw [e1]
      refine m_cmpF h r.1 (by omega) t hf ⟨fun z => ?_, fun z => ⟨h.k0, m_mvfl h (by omega) (by omega) (by omega) (fun M1 v1 f1 => ?_)⟩⟩
      · rw [I_le (by omega) (by omega) (by omega) (by omega)] at z
        rw [if_neg (by omega)] at hq
        exact four (i + 1) M h t qa qb v hq
      · rw [I_le (by omega) (by omega) (by omega) (by omega)] at z
        rw [if_pos (by omega)] at hq
        show mX E 144 3 _ [] M1 Q
        rw [I_add, show (((i + 1 : Nat) : Int) + -1) = (i : Int) by omega]
        have t1 : nmR M1 (m + 23) (m + 24) 40 f w := by
          have l40 := t.2.1
          refine ⟨?_, t.2.1, fun k hk => ?_, t.2.2.2⟩
          · rw [f1.2.2 24 f (by omega) (by show [30 + 1].contains (61 + f / 16) = false; rcases (show f / 16 = 0 ∨ f / 16 = 1 by omega) with y | y <;> rw [y] <;> decide)]; exact t.1
          · rw [f1.2.2 23 (40 * f + k) (by omega) (by show [30 + 1].contains (61 + (40 * f + k) / 640) = false; rcases (show (40 * f + k) / 640 = 0 ∨ (40 * f + k) / 640 = 1 by omega) with y | y <;> rw [y] <;> decide)]; exact t.2.2.1 k hk
        exact ih M1 (h.mv f1.1) t1 (by rw [f1.fld (by decide)]; exact qa) (by rw [f1.fld (by decide)]; exact qb) (v.step v1) (fun M' g1 g2 g3 g4 => hq M' g1 g2 g3 ((f1.w (by decide)).trans g4))
/-- a file is made -/
theorem m_make {f : Nat} {a b : Int} (h : mS M m) (hf : f ≤ 16) (t : nmR M (m + 23) (m + 24) 40 f w) (hw8 : w.length ≤ 8) (ha : -3 < a) (ha2 : a < 100) (hb : -3 < b) (hb2 : b < 100) (qa : mi M m 43 = I a) (qb : mi M m 44 = I b) (v : flX M m 1 fl)
    (hq : fl.length < 8 → ∀ M', flX M' m 1 (insT fl w []) → mi M' m 43 = I (if (slT fl w fl.length : Int) ≤ a then a + 1 else a) → mi M' m 44 = I (if (slT fl w fl.length : Int) ≤ b then b + 1 else b) → fm m [31, 143, 144] M M' → Q (.inl (some (.int (I (slT fl w fl.length))))) M')
    (hd : fl.length = 8 → ∀ M', mi M' m 25 = I 1 → fm m [125] M M' → Q (.inl (some (.int (I (-1))))) M') : mC E 144 [.ref m, .int (I f)] M Q := by
  have hl := v.2.1
  have n1 : nt (I 1) = 1 := by decide
  refine w144_0 ⟨h.k0, h.n35, by rw [h.f35]; exact h.k24, by rw [h.f35, h.l24]; exact I_in (by omega) (by omega) (by omega), fun c => ?_, fun c => ⟨h.n17, by rw [h.f17]; exact h.k13, by rw [h.f17, h.l13]; exact I_in (by omega) (by omega) (by omega), fun c2 => ?_, fun c2 M1 q1 => ?_⟩⟩
  · rw [h.f35, I_ntn (by omega), t.1, I_lt (by omega) (by omega) (by omega) (by omega)] at c; omega
  · rw [h.f17, n1, v.1, I_eq (by omega) (by omega) (by omega) (by omega)] at c2
    rw [h.f17, n1, v.1]
    exact m_make3 hf hw8 ha ha2 hb hb2 fl.length M h t qa qb (v.hole (by omega)) (hq (by omega))
  · rw [h.f17, n1, v.1, I_eq (by omega) (by omega) (by omega) (by omega)] at c2
    exact hd (by omega) M1 (by rw [q1, i_is]) (fm_o q1 (by decide))
theorem m_drop_l {i : Nat} (z : Nat) : ∀ (k : Nat) (M : mM), z = es.length - 1 - k → mS M m → flG M m es i k → (∀ M', flX M' m 1 (es.eraseIdx i) → fm m [31] M M' → Q (.inl none) M') →
    mX E 145 1 [some (.ref m), some (.int (I i)), some (.int (I k))] [] M Q := by
  have n1 : nt (I 1) = 1 := by decide
  induction z with
  | zero =>
    intro k M hz h g hq
    obtain ⟨a1, a2, a3, a4, a5⟩ := id g
    refine w145_1 ⟨h.k0, h.n17, by rw [h.f17]; exact h.k13, by rw [h.f17, h.l13]; exact I_in (by omega) (by omega) (by omega), fun _ => hq M (g.fin (by omega)) (fm.refl _ _ _), fun c => ?_⟩
    rw [h.f17, n1, a1, I_le (by omega) (by omega) (by omega) (by omega)] at c; omega
  | succ z ih =>
    intro k M hz h g hq
    obtain ⟨a1, a2, a3, a4, a5⟩ := id g
    refine w145_1 ⟨h.k0, h.n17, by rw [h.f17]; exact h.k13, by rw [h.f17, h.l13]; exact I_in (by omega) (by omega) (by omega), fun c => ?_, fun c => ?_⟩
    · rw [h.f17, n1, a1, I_le (by omega) (by omega) (by omega) (by omega)] at c; omega
    · rw [I_add, show (k : Int) + 1 = ((k + 1 : Nat) : Int) by omega]
      exact m_mvfl h (by omega) (by omega) (by omega) (fun M1 v1 f1 => ih (k + 1) M1 (by omega) (h.mv f1.1) (g.step (by omega) v1) (fun M' g1 g2 => hq M' g1 (f1.trans g2)))
theorem m_drop {i : Nat} (h : mS M m) (v : flX M m 1 fl) (hi : i < fl.length) (hq : ∀ M', flX M' m 1 (fl.eraseIdx i) → fm m [31] M M' → Q (.inl none) M') : mC E 145 [.ref m, .int (I i)] M Q := by
  have n1 : nt (I 1) = 1 := by decide
  refine w145_0 ⟨h.k0, h.n17, by rw [h.f17]; exact h.k13, by rw [h.f17, h.l13]; exact I_in (by omega) (by omega) (by omega), fun M1 q1 => ?_⟩
  rw [h.f17, n1, v.1] at q1
  obtain ⟨g, f1⟩ := v.gone hi q1
  exact m_drop_l _ i M1 rfl (h.mv f1.1) g (fun M' g1 g2 => hq M' g1 (f1.trans g2))
theorem m_uns3 {i f : Nat} (z : Nat) : ∀ (k : Nat) (M : mM), z = es.length - 1 - k → mS M m → vrG M m es i k → (∀ M' d3, vrX M' m 1 (es.eraseIdx i) → fm m [11] M M' → mX E 169 2 [some (.ref m), some (.int (I f)), some (.int (I i + I (-1))), d3] [] M' Q) →
    mX E 169 3 [some (.ref m), some (.int (I f)), some (.int (I i)), some (.int (I k))] [] M Q := by
  have n1 : nt (I 1) = 1 := by decide
  induction z with
  | zero =>
    intro k M hz h g hq
    obtain ⟨a1, a2, a3, a4, a5⟩ := id g
    refine w169_3 ⟨h.k0, h.n9, by rw [h.f9]; exact h.k5, by rw [h.f9, h.l5]; exact I_in (by omega) (by omega) (by omega), fun _ => hq M _ (g.fin (by omega)) (fm.refl _ _ _), fun c => ?_⟩
    rw [h.f9, n1, a1, I_le (by omega) (by omega) (by omega) (by omega)] at c; omega
  | succ z ih =>
    intro k M hz h g hq
    obtain ⟨a1, a2, a3, a4, a5⟩ := id g
    refine w169_3 ⟨h.k0, h.n9, by rw [h.f9]; exact h.k5, by rw [h.f9, h.l5]; exact I_in (by omega) (by omega) (by omega), fun c => ?_, fun c => ?_⟩
    · rw [h.f9, n1, a1, I_le (by omega) (by omega) (by omega) (by omega)] at c; omega
    · rw [I_add, show (k : Int) + 1 = ((k + 1 : Nat) : Int) by omega]
      exact m_mvvr h (by omega) (by omega) (by omega) (fun M1 v1 f1 => ih (k + 1) M1 (by omega) (h.mv f1.1) (g.step (by omega) v1) (fun M' d3 g1 g2 => hq M' d3 g1 (f1.trans g2)))
theorem m_uns2 {f : Nat} (hf : f < fs.length) (k : Nat) : ∀ (vs : eL) (M : mM) (d3 : Option Value), k ≤ vs.length → mS M m → fdX M m fs → vrX M m 1 vs → (∀ M' d2 d3, vrX M' m 1 (unI (fs.getD f []) k vs) → fm m [11] M M' → mX E 169 1 [some (.ref m), some (.int (I f + I 1)), d2, d3] [] M' Q) →
    mX E 169 2 [some (.ref m), some (.int (I f)), some (.int (I ((k : Int) - 1))), d3] [] M Q := by
  induction k with
  | zero =>
    intro vs M d3 hk h hfd v hq
    exact w169_2 ⟨fun _ => hq M _ _ v (fm.refl _ _ _), fun c => absurd (by decide) c⟩
  | succ k ih =>
    intro vs M d3 hk h hfd v hq
    have hl := v.2.1
    have hfl := hfd.2.1
    have n1 : nt (I 1) = 1 := by decide
    unfold unI at hq
    rw [show (((k + 1 : Nat) : Int) - 1) = (k : Int) by omega]
    refine w169_2 ⟨fun c => ?_, fun c => ⟨h.k0, m_varIs h (v.2.2 k (by omega)).1 (by omega) (hfd.row hf) (by omega) (fun e => ⟨fun z => absurd z (by decide), fun _ => ⟨h.k0, h.n9, by rw [h.f9]; exact h.k5, by rw [h.f9, h.l5]; exact I_in (by omega) (by omega) (by omega), fun M1 q1 => ?_⟩⟩) (fun e => ⟨fun _ => ?_, fun z => absurd rfl z⟩)⟩⟩
    · rw [I_lt (by omega) (by omega) (by omega) (by omega)] at c; omega
    · rw [if_pos e] at hq
      rw [h.f9, n1, v.1] at q1
      obtain ⟨g, f1⟩ := v.gone (show k < vs.length by omega) q1
      refine m_uns3 _ k M1 rfl (h.mv f1.1) g (fun M2 d3 g1 g2 => ?_)
      have f12 := f1.trans g2
      rw [I_add]
      exact ih _ M2 d3 (by rw [List.length_eraseIdx, if_pos (by omega)]; omega) (h.mv f12.1) (hfd.mv f12 (by decide) (by decide)) g1 (fun M' d2 d3 j1 j2 => hq M' d2 d3 j1 (f12.trans j2))
    · rw [if_neg e] at hq
      rw [I_add]
      exact ih vs M _ (by omega) h hfd v hq
theorem m_uns1 (n : Nat) : ∀ (i : Nat) (vs : eL) (M : mM) (d2 d3 : Option Value), n = fs.length - i → 1 ≤ i → i ≤ 1000 → mS M m → fdX M m fs → vrX M m 1 vs → (∀ M', vrX M' m 1 (unM fs n i vs) → fm m [11] M M' → Q (.inl (some (.int (I 0)))) M') →
    mX E 169 1 [some (.ref m), some (.int (I i)), d2, d3] [] M Q := by
  induction n with
  | zero =>
    intro i vs M d2 d3 hn h1 h2 h hfd v hq
    have hfl := hfd.2.1
    refine w169_1 ⟨h.k0, fun _ => hq M v (fm.refl _ _ _), fun c => ?_⟩
    rw [hfd.1, I_le (by omega) (by omega) (by omega) (by omega)] at c; omega
  | succ n ih =>
    intro i vs M d2 d3 hn h1 h2 h hfd v hq
    have hfl := hfd.2.1
    have n1 : nt (I 1) = 1 := by decide
    refine w169_1 ⟨h.k0, fun c => ?_, fun c => ⟨h.n9, by rw [h.f9]; exact h.k5, by rw [h.f9, h.l5]; exact I_in (by omega) (by omega) (by omega), ?_⟩⟩
    · rw [hfd.1, I_le (by omega) (by omega) (by omega) (by omega)] at c; omega
    · rw [h.f9, n1, v.1, I_sub]
      refine m_uns2 (by omega) vs.length vs M _ (Nat.le_refl _) h hfd v (fun M1 d2 d3 g1 g2 => ?_)
      rw [I_add]
      exact ih (i + 1) _ M1 _ _ (by omega) (by omega) (by omega) (h.mv g2.1) (hfd.mv g2 (by decide) (by decide)) g1 (fun M' j1 j2 => hq M' j1 (g2.trans j2))
theorem m_unset (h : mS M m) (hfd : fdX M m fs) (v : vrX M m 1 vs) (hq : ∀ M', vrX M' m 1 (unM fs (fs.length - 1) 1 vs) → fm m [11] M M' → Q (.inl (some (.int (I 0)))) M') : mC E 169 [.ref m] M Q :=
  w169_0 (m_uns1 _ 1 vs M none none rfl (by omega) (by omega) h hfd v hq)
theorem m_rm_l (n : Nat) : ∀ (i st : Nat) (b : Int) (fl : eL) (M : mM) (d : Option Value), n = fs.length - i → 1 ≤ i → i ≤ 1000 → -3 < b → b < 100 → mS M m → fdX M m fs → flX M m 1 fl → mi M m 44 = I b → (∀ M', flX M' m 1 (rmM fs n i fl st b).1 → mi M' m 44 = I (rmM fs n i fl st b).2.2 → fm m [31, 144] M M' → Q (.inl (some (.int (I (rmM fs n i fl st b).2.1)))) M') →
    mX E 170 1 [some (.ref m), some (.int (I st)), some (.int (I i)), d] [] M Q := by
  induction n with
  | zero =>
    intro i st b fl M d hn h1 h2 b1 b2 h hfd v qb hq
    have hfl := hfd.2.1
    refine w170_1 ⟨h.k0, fun _ => hq M v qb (fm.refl _ _ _), fun c => ?_⟩
    rw [hfd.1, I_le (by omega) (by omega) (by omega) (by omega)] at c; omega
  | succ n ih =>
    intro i st b fl M d hn h1 h2 b1 b2 h hfd v qb hq
    have hfl := hfd.2.1
    have hl := v.2.1
    have fr := fdT_r fl (fs.getD i []) 0
    unfold rmM at hq
    refine w170_1 ⟨h.k0, fun c => ?_, fun c => m_findF h v (hfd.row (show i < fs.length by omega)) (by omega) ⟨fun z => ?_, fun z => ?_⟩⟩
    · rw [hfd.1, I_le (by omega) (by omega) (by omega) (by omega)] at c; omega
    · rw [I_le (by omega) (by omega) (by omega) (by omega)] at z
      rw [if_pos z] at hq
      generalize hx : fdT fl (fs.getD i []) 0 = x at *
      have six : ∀ y : Int, y = oAd b x → mX E 170 6 [some (.ref m), some (.int (I st)), some (.int (I i)), some (.int (I x))] [.int (I y), .ref m] M Q := by
        intro y hy
        refine w170_6 ⟨h.k0, fun M1 q1 => ⟨h.k0, ?_⟩⟩
        have f1 : fm m [31, 144] M M1 := fm_o q1 (by decide)
        rw [show x = ((x.toNat : Nat) : Int) by omega]
        refine m_drop (h.mv f1.1) (v.mv (fm_o (S := [144]) q1 (by decide)) (by decide)) (by omega) (fun M2 g1 g2 => ?_)
        have f2 := f1.trans (g2.w (S' := [31, 144]) (by decide))
        show mX E 170 1 _ [] M2 Q
        rw [I_add]
        have qb2 : mi M2 m 44 = I (oAd b x) := by rw [g2.fld (by decide), q1, i_is, hy]
        refine ih (i + 1) st (oAd b x) _ M2 _ (by omega) (by omega) (by omega) ?_ ?_ (h.mv f2.1) (hfd.mv f2 (by decide) (by decide)) g1 qb2 (fun M' j1 j2 j3 => hq M' j1 j2 (f2.trans j3))
        · unfold oAd; split
          · omega
          · split <;> omega
        · unfold oAd; split
          · omega
          · split <;> omega
      refine w170_3 ⟨fun c2 => ?_, fun c2 => ⟨h.k0, fun c3 => ⟨fun c4 => ?_, fun c4 => ?_⟩, fun c3 => ?_⟩⟩
      · rw [I_lt (by omega) (by omega) (by omega) (by omega)] at c2; omega
      · rw [qb, I_eq (by omega) (by omega) (by omega) (by omega)] at c3
        rw [qb, I_le (by omega) (by omega) (by omega) (by omega)] at c4
        rw [qb]; exact six b (by unfold oAd; rw [if_neg c3, if_neg (by omega)])
      · rw [qb, I_eq (by omega) (by omega) (by omega) (by omega)] at c3
        rw [qb, I_le (by omega) (by omega) (by omega) (by omega)] at c4
        rw [qb, I_sub]; exact six (b - 1) (by unfold oAd; rw [if_neg c3, if_pos (by omega)])
      · rw [qb, I_eq (by omega) (by omega) (by omega) (by omega)] at c3
        exact six (-2) (by unfold oAd; rw [if_pos c3])
    · rw [I_le (by omega) (by omega) (by omega) (by omega)] at z
      rw [if_neg z] at hq
      refine w170_3 ⟨fun c2 => ?_, fun c2 => ?_⟩
      · rw [I_add]
        exact ih (i + 1) 1 b fl M _ (by omega) (by omega) (by omega) b1 b2 h hfd v qb hq
      · rw [I_lt (by omega) (by omega) (by omega) (by omega)] at c2; omega
theorem m_remove {b : Int} (b1 : -3 < b) (b2 : b < 100) (h : mS M m) (hfd : fdX M m fs) (v : flX M m 1 fl) (qb : mi M m 44 = I b) (hq : ∀ M', flX M' m 1 (rmM fs (fs.length - 1) 1 fl 0 b).1 → mi M' m 44 = I (rmM fs (fs.length - 1) 1 fl 0 b).2.2 → fm m [31, 144] M M' → Q (.inl (some (.int (I (rmM fs (fs.length - 1) 1 fl 0 b).2.1)))) M') : mC E 170 [.ref m] M Q :=
  w170_0 (m_rm_l _ 1 0 b fl M none rfl (by omega) (by omega) b1 b2 h hfd v qb hq)
end MTAB
