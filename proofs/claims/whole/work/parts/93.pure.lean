/-! NAMES THAT ARE ALL DIFFERENT; what becomes of places when an entry goes -/
def ndE (es : eL) : Prop := ∀ i j, i < es.length → j < es.length → (es.getD i ([], [])).1 = (es.getD j ([], [])).1 → i = j
theorem fdT_no : ∀ (es : eL) (w : List Nat) (k : Nat), (∀ j, j < es.length → ¬ (es.getD j ([], [])).1 = w) → fdT es w k = -1
  | [], _, _, _ => rfl
  | e :: es, w, k, h => by
    unfold fdT
    rw [if_neg (show ¬ e.1 = w from h 0 (by simp))]
    exact fdT_no es w (k + 1) (fun j hj => h (j + 1) (by simpa using hj))
theorem fdT_sp : ∀ (es : eL) (w : List Nat) (k : Nat), (fdT es w k = -1 ∧ ∀ j, j < es.length → ¬ (es.getD j ([], [])).1 = w) ∨ ∃ i, i < es.length ∧ fdT es w k = ((k + i : Nat) : Int) ∧ (es.getD i ([], [])).1 = w
  | [], _, _ => Or.inl ⟨rfl, fun j hj => absurd hj (Nat.not_lt_zero j)⟩
  | e :: es, w, k => by
    unfold fdT
    by_cases q : e.1 = w
    · rw [if_pos q]
      exact Or.inr ⟨0, by simp, rfl, q⟩
    · rw [if_neg q]
      rcases fdT_sp es w (k + 1) with ⟨h1, h2⟩ | ⟨i, h1, h2, h3⟩
      · refine Or.inl ⟨h1, fun j hj => ?_⟩
        cases j with
        | zero => exact q
        | succ j => exact h2 j (by simpa using hj)
      · exact Or.inr ⟨i + 1, by simpa using h1, by rw [h2]; congr 1; omega, h3⟩
theorem er_get {es : eL} {i j : Nat} : (es.eraseIdx i).getD j ([], []) = if j < i then es.getD j ([], []) else es.getD (j + 1) ([], []) := by
  rw [List.getD_eq_getElem?_getD, List.getElem?_eraseIdx]
  by_cases q : j < i
  · rw [if_pos q, if_pos q, ← List.getD_eq_getElem?_getD]
  · rw [if_neg q, if_neg q, ← List.getD_eq_getElem?_getD]
theorem er_len {es : eL} {i : Nat} (h : i < es.length) : (es.eraseIdx i).length = es.length - 1 := by rw [List.length_eraseIdx, if_pos h]
theorem ndE.er {es : eL} (h : ndE es) {k : Nat} (hk : k < es.length) : ndE (es.eraseIdx k) := by
  intro i j hi hj e
  rw [er_len hk] at hi hj
  rw [er_get, er_get] at e
  by_cases q1 : i < k
  · rw [if_pos q1] at e
    by_cases q2 : j < k
    · rw [if_pos q2] at e; exact h i j (by omega) (by omega) e
    · rw [if_neg q2] at e; have := h i (j + 1) (by omega) (by omega) e; omega
  · rw [if_neg q1] at e
    by_cases q2 : j < k
    · rw [if_pos q2] at e; have := h (i + 1) j (by omega) (by omega) e; omega
    · rw [if_neg q2] at e; have := h (i + 1) (j + 1) (by omega) (by omega) e; omega
theorem ndE.del {es : eL} (h : ndE es) (w : List Nat) : ndE (delT es (fdT es w 0)) := by
  unfold delT
  have := fdT_r es w 0
  split
  · exact h.er (by omega)
  · exact h
theorem ndE.ins {es : eL} (h : ndE es) {w tx : List Nat} (hw : fdT es w 0 < 0) : ndE (insT es w tx) := by
  have no : ∀ j, j < es.length → ¬ (es.getD j ([], [])).1 = w := by
    rcases fdT_sp es w 0 with ⟨_, h2⟩ | ⟨i, _, h2, _⟩
    · exact h2
    · omega
  have hs := slT_le es w es.length
  intro i j hi hj e
  unfold insT at hi hj e
  rw [ins_get hs, ins_get hs] at e
  have len : (es.take (slT es w es.length) ++ (w, tx) :: es.drop (slT es w es.length)).length = es.length + 1 := by simp; omega
  rw [len] at hi hj
  generalize slT es w es.length = k at *
  by_cases a1 : i < k
  · rw [if_pos a1] at e
    by_cases b1 : j < k
    · rw [if_pos b1] at e; exact h i j (by omega) (by omega) e
    · rw [if_neg b1] at e
      by_cases b2 : j = k
      · rw [if_pos b2] at e; exact absurd e (no i (by omega))
      · rw [if_neg b2] at e; have := h i (j - 1) (by omega) (by omega) e; omega
  · rw [if_neg a1] at e
    by_cases a2 : i = k
    · rw [if_pos a2] at e
      by_cases b1 : j < k
      · rw [if_pos b1] at e; exact absurd e.symm (no j (by omega))
      · rw [if_neg b1] at e
        by_cases b2 : j = k
        · omega
        · rw [if_neg b2] at e; exact absurd e.symm (no (j - 1) (by omega))
    · rw [if_neg a2] at e
      by_cases b1 : j < k
      · rw [if_pos b1] at e; have := h (i - 1) j (by omega) (by omega) e; omega
      · rw [if_neg b1] at e
        by_cases b2 : j = k
        · rw [if_pos b2] at e; exact absurd e (no (i - 1) (by omega))
        · rw [if_neg b2] at e; have := h (i - 1) (j - 1) (by omega) (by omega) e; omega
theorem ndE.st {es : eL} (h : ndE es) {k : Nat} {u : List Nat} (hk : k < es.length) : ndE (stT es k u) := by
  intro i j hi hj e
  have len : (stT es k u).length = es.length := by unfold stT; rw [List.length_set]
  rw [len] at hi hj
  have g : ∀ x, ((stT es k u).getD x ([], [])).1 = (es.getD x ([], [])).1 := by
    intro x
    rw [stT_get hk]
    by_cases q : x = k
    · rw [if_pos q, q]
    · rw [if_neg q]
  rw [g, g] at e
  exact h i j hi hj e
theorem ndE.op {es es' : eL} {n cn : Nat} {u : List Nat} (h : ndE es) (e : opT n cn es u = some es') : ndE es' := by
  unfold opT at e
  split at e
  · cases e; exact h
  · next q =>
    split at e
    · cases e; exact h.ins (by omega)
    · cases e
theorem unI_no {w : List Nat} : ∀ (k : Nat) (vs : eL), (∀ j, j < k → ¬ (vs.getD j ([], [])).1 = w) → unI w k vs = vs
  | 0, _, _ => rfl
  | k + 1, vs, h => by
    unfold unI
    rw [if_neg (h k (by omega))]
    exact unI_no k vs (fun j hj => h j (by omega))
theorem unI_one {w : List Nat} {vs : eL} (h : ndE vs) {i : Nat} (hi : i < vs.length) (hw : (vs.getD i ([], [])).1 = w) : ∀ (k : Nat), i < k → k ≤ vs.length → unI w k vs = vs.eraseIdx i
  | 0, h1, _ => absurd h1 (Nat.not_lt_zero i)
  | k + 1, h1, h2 => by
    unfold unI
    by_cases q : i = k
    · subst q
      rw [if_pos hw]
      refine unI_no i _ (fun j hj e => ?_)
      rw [er_get, if_pos hj] at e
      have := h j i (by omega) hi (e.trans hw.symm)
      omega
    · rw [if_neg (fun e => q (h i k hi (by omega) (hw.trans e.symm)))]
      exact unI_one h hi hw k (by omega) (by omega)
theorem unI_del {vs : eL} (h : ndE vs) (w : List Nat) : unI w vs.length vs = delT vs (fdT vs w 0) := by
  rcases fdT_sp vs w 0 with ⟨h1, h2⟩ | ⟨i, h1, h2, h3⟩
  · unfold delT
    rw [h1, if_neg (by omega)]
    exact unI_no _ _ h2
  · unfold delT
    rw [h2, if_pos (by omega), show (((0 + i : Nat) : Int).toNat) = i by omega]
    exact unI_one h h1 h3 _ h1 (Nat.le_refl _)
theorem unM_L (fs : List (List Nat)) : ∀ (n i : Nat) (vs : eL), ndE vs → unM fs n i vs = unL fs n i vs ∧ ndE (unL fs n i vs)
  | 0, _, _, h => ⟨rfl, h⟩
  | n + 1, i, vs, h => by
    unfold unM unL
    rw [unI_del h]
    exact unM_L fs n (i + 1) _ (h.del _)
/-- the place that goes on standing for a name -/
def oRl (fl : eL) (nm : List Nat) (b : Int) : Prop := (nm = [] ∧ b = -1) ∨ (¬ nm = [] ∧ ((0 ≤ fdT fl nm 0 ∧ b = fdT fl nm 0) ∨ (fdT fl nm 0 < 0 ∧ b = -2)))
theorem fdT_sh (l : eL) (w : List Nat) : ∀ (j : Nat), fdT l w (j + 1) = if 0 ≤ fdT l w j then fdT l w j + 1 else fdT l w j := by
  induction l with
  | nil => intro j; simp [fdT]
  | cons e l ih =>
    intro j
    unfold fdT
    by_cases q : e.1 = w
    · rw [if_pos q, if_pos q, if_pos (by omega)]; omega
    · rw [if_neg q, if_neg q, ih (j + 1)]
theorem fdT_er (es : eL) (w : List Nat) : ∀ (k j : Nat), k < es.length → ¬ (es.getD k ([], [])).1 = w → fdT (es.eraseIdx k) w j = if ((j + k : Nat) : Int) < fdT es w j then fdT es w j - 1 else fdT es w j := by
  induction es with
  | nil => intro k j hk; exact absurd hk (Nat.not_lt_zero k)
  | cons e es ih =>
    intro k j hk hw
    cases k with
    | zero =>
      show fdT es w j = _
      have r := fdT_r es w j
      have st : fdT (e :: es) w j = fdT es w (j + 1) := by
        show (if e.1 = w then (j : Int) else fdT es w (j + 1)) = _
        rw [if_neg (show ¬ e.1 = w from hw)]
      rw [st, fdT_sh]
      by_cases q : 0 ≤ fdT es w j
      · rw [if_pos q, if_pos (by omega)]; omega
      · rw [if_neg q, if_neg (by omega)]
    | succ k =>
      show fdT (e :: es.eraseIdx k) w j = _
      unfold fdT
      by_cases q : e.1 = w
      · rw [if_pos q, if_pos q, if_neg (by omega)]
      · rw [if_neg q, if_neg q, ih k (j + 1) (by simpa using hk) hw, show j + 1 + k = j + (k + 1) by omega]
theorem oRl.er {fl : eL} {nm w : List Nat} {b : Int} (h : oRl fl nm b) (hn : ndE fl) (hx : 0 ≤ fdT fl w 0) : oRl (fl.eraseIdx (fdT fl w 0).toNat) nm (oAd b (fdT fl w 0)) := by
  rcases fdT_sp fl w 0 with ⟨h1, h2⟩ | ⟨i, h1, h2, h3⟩
  · omega
  · rw [h2, show (((0 + i : Nat) : Int).toNat) = i by omega]
    rcases h with ⟨e1, e2⟩ | ⟨e1, e2⟩
    · refine Or.inl ⟨e1, ?_⟩
      unfold oAd; rw [if_neg (by omega), if_neg (by omega)]; exact e2
    · refine Or.inr ⟨e1, ?_⟩
      by_cases q : nm = w
      · subst q
        have gone : fdT (fl.eraseIdx i) nm 0 = -1 := by
          refine fdT_no _ _ _ (fun j hj e => ?_)
          rw [er_len h1] at hj
          rw [er_get] at e
          by_cases q : j < i
          · rw [if_pos q] at e; have := hn j i (by omega) h1 (e.trans h3.symm); omega
          · rw [if_neg q] at e; have := hn (j + 1) i (by omega) h1 (e.trans h3.symm); omega
        refine Or.inr ⟨by omega, ?_⟩
        unfold oAd; rw [if_pos (by omega)]
      · have er := fdT_er fl nm i 0 h1 (fun e => q (by rw [← e, h3]))
        have ne : ¬ fdT fl nm 0 = (i : Int) := by
          intro e
          rcases fdT_sp fl nm 0 with ⟨g1, g2⟩ | ⟨j, g1, g2, g3⟩
          · omega
          · have : j = i := by omega
            subst this
            exact q (by rw [← g3, h3])
        rw [er]
        unfold oAd
        rcases e2 with ⟨y1, y2⟩ | ⟨y1, y2⟩
        · left
          by_cases z : (i : Int) < fdT fl nm 0
          · rw [if_pos (by omega), if_neg (by omega), if_pos (by omega)]; omega
          · rw [if_neg (by omega), if_neg (by omega), if_neg (by omega)]; omega
        · right
          rw [if_neg (by omega), if_neg (by omega), if_neg (by omega)]; exact ⟨y1, y2⟩
theorem rmM_L (fs : List (List Nat)) (nm : List Nat) : ∀ (n i : Nat) (fl : eL) (st : Nat) (b : Int), ndE fl → oRl fl nm b → (rmM fs n i fl st b).1 = (rmL fs n i fl st).1 ∧ (rmM fs n i fl st b).2.1 = (rmL fs n i fl st).2 ∧ oRl (rmL fs n i fl st).1 nm (rmM fs n i fl st b).2.2 ∧ ndE (rmL fs n i fl st).1
  | 0, _, _, _, _, h, o => ⟨rfl, rfl, o, h⟩
  | n + 1, i, fl, st, b, h, o => by
    have hr := fdT_r fl (fs.getD i []) 0
    unfold rmM rmL delT
    by_cases q : 0 ≤ fdT fl (fs.getD i []) 0
    · rw [if_pos q, if_pos q, if_pos q]
      exact rmM_L fs nm n (i + 1) _ st _ (h.er (by omega)) (o.er h q)
    · rw [if_neg q, if_neg q, if_neg q]
      exact rmM_L fs nm n (i + 1) fl 1 b h o
theorem oRl.r {fl : eL} {nm : List Nat} {b : Int} (h : oRl fl nm b) (hl : fl.length ≤ 8) : -3 < b ∧ b < 100 := by
  have := fdT_r fl nm 0
  rcases h with ⟨_, e⟩ | ⟨_, ⟨_, e⟩ | ⟨_, e⟩⟩ <;> omega
