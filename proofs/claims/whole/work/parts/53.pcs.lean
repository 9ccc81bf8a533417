/-! THE PIECES OF A WORD, as the class reads them -/
def eW (c : Nat) : Prop := c = 32 ∨ c = 10 ∨ c = 124 ∨ c = 38 ∨ c = 59 ∨ c = 60 ∨ c = 62 ∨ c = 40 ∨ c = 41
def kP (q : Bool) : Nat := if q = true then 4 else 3
/-- the step at a brace -/
def brS (s : List Nat) (q : Bool) (p : Nat) : (List Nat × Nat × Bool) ⊕ Option Nat :=
  if nE s (p + 2) = p + 2 then .inr (some (p + 2))
  else if s.getD (nE s (p + 2)) 0 = 58 then
    (if s.getD (nE s (p + 2) + 1) 0 = 45 then
      (if s.getD (tE s (nE s (p + 2) + 2)) 0 = 125 then .inl ([kP q, p + 2, nE s (p + 2), nE s (p + 2) + 2, tE s (nE s (p + 2) + 2)], tE s (nE s (p + 2) + 2) + 1, q) else .inr (some (tE s (nE s (p + 2) + 2))))
    else .inr (some (nE s (p + 2) + 1)))
  else if s.getD (nE s (p + 2)) 0 = 125 then .inl ([kP q, p + 2, nE s (p + 2), nE s (p + 2), nE s (p + 2)], nE s (p + 2) + 1, q) else .inr (some (nE s (p + 2)))
/-- the step at a dollar -/
def doS (s : List Nat) (q : Bool) (p : Nat) : List Nat × Nat × Bool :=
  if isL (s.getD (p + 1) 0) = true then ([kP q, p + 1, nE s (p + 1), 0, 0], nE s (p + 1), q)
  else if (49 ≤ s.getD (p + 1) 0 ∧ s.getD (p + 1) 0 ≤ 57) ∨ s.getD (p + 1) 0 = 35 ∨ s.getD (p + 1) 0 = 63 then ([kP q, p + 1, p + 1 + 1, 0, 0], p + 1 + 1, q)
  else ([if q = true then 1 else 0, p, p + 1, 0, 0], p + 1, q)
/-- the step at a backslash -/
def esS (s : List Nat) (q : Bool) (p : Nat) : (List Nat × Nat × Bool) ⊕ Option Nat :=
  if s.getD (p + 1) 0 = 0 ∨ s.getD (p + 1) 0 = 10 then .inr (some (p + 1))
  else .inl ([1, if q = true ∧ ¬ s.getD (p + 1) 0 = 36 ∧ ¬ s.getD (p + 1) 0 = 34 ∧ ¬ s.getD (p + 1) 0 = 92 then p else p + 1, p + 2, 0, 0], p + 2, q)
def sqS (s : List Nat) (q : Bool) (p : Nat) : (List Nat × Nat × Bool) ⊕ Option Nat :=
  if findS s 39 (p + 1) < s.length then .inl ([2, p + 1, findS s 39 (p + 1), 0, 0], findS s 39 (p + 1) + 1, q) else .inr (some s.length)
/-- one step: a piece, where it goes on, whether in quotes; or the word's end (none), or a bad place -/
def pS (s : List Nat) (q : Bool) (p : Nat) : (List Nat × Nat × Bool) ⊕ Option Nat :=
  if s.getD p 0 = 34 then .inl ([2, p + 1, p + 1, 0, 0], p + 1, !q)
  else if s.getD p 0 = 92 then esS s q p
  else if s.getD p 0 = 36 then (if s.getD (p + 1) 0 = 123 then brS s q p else .inl (doS s q p))
  else if q = true then .inl ([1, p, p + 1, 0, 0], p + 1, q)
  else if s.getD p 0 = 39 then sqS s q p
  else if s.getD p 0 = 32 ∨ s.getD p 0 = 10 ∨ s.getD p 0 = 124 ∨ s.getD p 0 = 38 ∨ s.getD p 0 = 59 ∨ s.getD p 0 = 60 ∨ s.getD p 0 = 62 ∨ s.getD p 0 = 40 ∨ s.getD p 0 = 41 then .inr none
  else .inl ([0, p, p + 1, 0, 0], p + 1, q)
def pL (s : List Nat) : Nat → Bool → Nat → List (List Nat) → (Nat × List (List Nat)) ⊕ Nat
  | 0, q, p, ps => if q = true then .inr s.length else .inl (p, ps)
  | n + 1, q, p, ps => if p < s.length then (match pS s q p with
      | .inl (r, p', q') => pL s n q' p' (ps ++ [r])
      | .inr none => .inl (p, ps)
      | .inr (some e) => .inr e) else if q = true then .inr s.length else .inl (p, ps)
theorem getD_pos {s : List Nat} {k : Nat} (h : ¬ s.getD k 0 = 0) : k < s.length := by
  by_cases q : k < s.length
  · exact q
  · exfalso; apply h; rw [List.getD_eq_getElem?_getD, List.getElem?_eq_none (by omega)]; rfl
/-- a step goes on, within the script -/
theorem pS_r {s : List Nat} {q q' : Bool} {p p' : Nat} {r : List Nat} (hp : p < s.length) (h : pS s q p = .inl (r, p', q')) : p < p' ∧ p' ≤ s.length ∧ r.length = 5 ∧ (∀ x ∈ r, x ≤ s.length + 4) := by
  unfold pS at h
  split at h
  · cases h; refine ⟨by omega, by omega, rfl, fun x hx => ?_⟩; simp at hx; omega
  · split at h
    · unfold esS at h
      split at h
      · cases h
      · next q1 =>
        have := getD_pos (s := s) (k := p + 1) (by omega)
        cases h; refine ⟨by omega, by omega, rfl, fun x hx => ?_⟩
        simp only [List.mem_cons, List.not_mem_nil, or_false] at hx
        rcases hx with hx | hx | hx | hx | hx
        · omega
        · split at hx <;> omega
        · omega
        · omega
        · omega
    · split at h
      · split at h
        · next q1 =>
          have l1 := getD_pos (s := s) (k := p + 1) (by omega)
          have b1 := nE_ge s (p + 2)
          have b2 := nE_bd s (p + 2)
          have b3 := tE_ge s (nE s (p + 2) + 2)
          have b4 := tE_bd s (nE s (p + 2) + 2)
          have kq : kP q ≤ 4 := by unfold kP; split <;> omega
          unfold brS at h
          split at h
          · cases h
          · split at h
            · split at h
              · split at h
                · next q2 q3 q4 =>
                  have := getD_pos (s := s) (k := tE s (nE s (p + 2) + 2)) (by omega)
                  cases h; refine ⟨by omega, by omega, rfl, fun x hx => ?_⟩
                  simp only [List.mem_cons, List.not_mem_nil, or_false] at hx
                  omega
                · cases h
              · cases h
            · split at h
              · next q2 q3 =>
                have := getD_pos (s := s) (k := nE s (p + 2)) (by omega)
                cases h; refine ⟨by omega, by omega, rfl, fun x hx => ?_⟩
                simp only [List.mem_cons, List.not_mem_nil, or_false] at hx
                omega
              · cases h
        · have b1 := nE_ge s (p + 1)
          have b2 := nE_le (s := s) (f := p + 1) (by omega)
          have kq : kP q ≤ 4 := by unfold kP; split <;> omega
          simp only [doS] at h
          split at h
          · next q1 =>
            have b3 : p + 1 < nE s (p + 1) := by
              have l1 : p + 1 < s.length := getD_pos (fun g => by rw [g] at q1; exact absurd q1 (by decide))
              unfold nE
              obtain ⟨n, hn⟩ : ∃ n, s.length = n + 1 := ⟨s.length - 1, by omega⟩
              rw [hn]; unfold nmE; rw [if_pos ⟨l1, Or.inl q1⟩]
              have := nmE_ge s (p + 1) n (p + 1 + 1); omega
            cases h; refine ⟨by omega, by omega, rfl, fun x hx => ?_⟩
            simp only [List.mem_cons, List.not_mem_nil, or_false] at hx
            omega
          · split at h
            · next q1 =>
              have := getD_pos (s := s) (k := p + 1) (by omega)
              cases h; refine ⟨by omega, by omega, rfl, fun x hx => ?_⟩
              simp only [List.mem_cons, List.not_mem_nil, or_false] at hx
              omega
            · cases h; refine ⟨by omega, by omega, rfl, fun x hx => ?_⟩
              simp only [List.mem_cons, List.not_mem_nil, or_false] at hx
              rcases hx with hx | hx | hx | hx | hx
              · split at hx <;> omega
              · omega
              · omega
              · omega
              · omega
      · split at h
        · cases h; refine ⟨by omega, by omega, rfl, fun x hx => ?_⟩; simp at hx; omega
        · split at h
          · unfold sqS at h
            have := findS_le s 39 (p + 1)
            split at h
            · have g : p + 1 ≤ findS s 39 (p + 1) := by
                unfold findS; split
                · omega
                · omega
              cases h; refine ⟨by omega, by omega, rfl, fun x hx => ?_⟩; simp at hx; omega
            · cases h
          · split at h
            · cases h
            · cases h; refine ⟨by omega, by omega, rfl, fun x hx => ?_⟩; simp at hx; omega
/-- a throw of kind 90 (malformed) with the bad place e -/
def BT (E : mE) (b : Nat) (M : mM) (s : List Nat) (e : Nat) (Q : mQ) : Prop := ∀ M' p aw jn rd ws cs is ps, sy b M' s e p aw jn rd ws cs is ps → fr M M' (b + 3) (b + 10) → mTh E 90 M' Q
theorem BT.st {E : mE} {b : Nat} {M M1 : mM} {s : List Nat} {e : Nat} {Q : mQ} (h : BT E b M s e Q) (f : fr M M1 (b + 3) (b + 10)) : BT E b M1 s e Q := fun M' p aw jn rd ws cs is ps g1 g2 => h M' p aw jn rd ws cs is ps g1 (f.then g2)
section PCS
variable {E : mE} {M : mM} {Q : mQ} {b : Nat} {s : List Nat} {pl p aw jn rd : Nat} {ws : Bool} {cs is ps : List (List Nat)}
theorem sy.sp {M' : mM} {ps' : List (List Nat)} (h : sy b M s pl p aw jn rd ws cs is ps) (t : shX M' (b + 8) 240 ps') (f : fr M M' (b + 8) (b + 8 + 2)) : sy b M' s pl p aw jn rd ws cs is ps' ∧ fr M M' (b + 3) (b + 10) :=
  ⟨⟨h.1, h.2.1.mv f (by omega), cX_mc2 h.2.2.1 (fun x q1 q2 => f.2.2 x (by omega)), h.2.2.2.1.mv f (by omega), h.2.2.2.2.1.mv f (by omega), t⟩, f.wide (by omega) (by omega)⟩
theorem sy.si {M' : mM} {is' : List (List Nat)} (h : sy b M s pl p aw jn rd ws cs is ps) (t : shX M' (b + 6) 240 is') (f : fr M M' (b + 6) (b + 6 + 2)) : sy b M' s pl p aw jn rd ws cs is' ps ∧ fr M M' (b + 3) (b + 10) :=
  ⟨⟨h.1, h.2.1.mv f (by omega), cX_mc2 h.2.2.1 (fun x q1 q2 => f.2.2 x (by omega)), h.2.2.2.1.mv f (by omega), t, h.2.2.2.2.2.mv f (by omega)⟩, f.wide (by omega) (by omega)⟩
theorem sy.sc {M' : mM} {cs' : List (List Nat)} (h : sy b M s pl p aw jn rd ws cs is ps) (t : shX M' (b + 4) 240 cs') (f : fr M M' (b + 4) (b + 4 + 2)) : sy b M' s pl p aw jn rd ws cs' is ps ∧ fr M M' (b + 3) (b + 10) :=
  ⟨⟨h.1, h.2.1.mv f (by omega), cX_mc2 h.2.2.1 (fun x q1 q2 => f.2.2 x (by omega)), t, h.2.2.2.2.1.mv f (by omega), h.2.2.2.2.2.mv f (by omega)⟩, f.wide (by omega) (by omega)⟩
theorem sy.at' {M' : mM} {p' : Nat} {v : Int32} (h : sy b M s pl p aw jn rd ws cs is ps) (q : M' = msi M (b + 3) 5 v) (e : v = I p') : sy b M' s pl p' aw jn rd ws cs is ps ∧ fr M M' (b + 3) (b + 10) := h.seti q rfl (by rw [if_pos rfl, e]) rfl rfl rfl rfl
theorem y_refuse {e : Nat} (h : sy b M s pl p aw jn rd ws cs is ps) (hb : BT E b M s e Q) : mC E 52 [.ref (b + 3), .int (I e)] M Q := by
  refine w52_0 ⟨h.cell.1, fun M1 q1 => ?_⟩
  have g := h.seti q1 (pl' := e) rfl rfl rfl rfl rfl rfl
  exact hb M1 _ _ _ _ _ _ _ _ g.1 g.2
theorem y_addC {k f e : Nat} (h : sy b M s pl p aw jn rd ws cs is ps) (hk : k < 100000) (hf : f < 100000) (he : e < 100000) (hn : ps.length < 240) (hq : ∀ M', sy b M' s pl e aw jn rd ws cs is (ps ++ [[k, f, e, 0, 0]]) → fr M M' (b + 3) (b + 10) → Q (.inl none) M') : mC E 64 [.ref (b + 3), .int (I k), .int (I f), .int (I e)] M Q := by
  obtain ⟨c1, c2, c3, c4, c5, c6, c7, c8, c9, c10, c11⟩ := h.cell
  refine w64_0 ⟨c1, by rw [c4]; omega, by rw [c4]; exact h.2.2.2.2.2.1, ?_⟩
  rw [c4]
  refine sh_add (v3 := 0) (v4 := 0) h.2.2.2.2.2 hn hk hf he (by omega) (by omega) (fun M1 t1 f1 => ?_)
  have g1 := h.sp t1 f1
  refine ⟨g1.1.cell.1, fun M2 q2 => ?_⟩
  have g2 := g1.1.at' q2 rfl
  exact hq M2 g2.1 (g1.2.then g2.2)
theorem y_ends {c : Nat} (hc : c < 65536) (h1 : (c = 32 ∨ c = 10 ∨ c = 124 ∨ c = 38 ∨ c = 59 ∨ c = 60 ∨ c = 62 ∨ c = 40 ∨ c = 41) → Q (.inl (some (.int (I 1)))) M) (h0 : ¬ (c = 32 ∨ c = 10 ∨ c = 124 ∨ c = 38 ∨ c = 59 ∨ c = 60 ∨ c = 62 ∨ c = 40 ∨ c = 41) → Q (.inl (some (.int (I 0)))) M) : mC E 63 [.int (I c)] M Q := by
  refine w63_0 ⟨fun r => h1 ?_, fun r1 => ⟨fun r => h1 ?_, fun r2 => ⟨fun r => h1 ?_, fun r3 => ⟨fun r => h1 ?_, fun r4 => ⟨fun r => h1 ?_, fun r5 => ⟨fun r => h1 ?_, fun r6 => ⟨fun r => h1 ?_, fun r7 => ⟨fun r => h1 ?_, fun r8 => ⟨fun r => h0 ?_, fun r => h1 ?_⟩⟩⟩⟩⟩⟩⟩⟩⟩
  all_goals first
    | (rw [I_eq (by omega) (by omega) (by omega) (by omega)] at r; omega)
    | (rw [I_eq (by omega) (by omega) (by omega) (by omega)] at r r1 r2 r3 r4 r5 r6 r7 r8; omega)
theorem y_single (h : sy b M s pl p aw jn rd ws cs is ps) (hp : p < s.length) (hn : ps.length ≤ p) (q : Bool) (hq : ∀ r p', sqS s q p = .inl (r, p', q) → ∀ M', sy b M' s pl p' aw jn rd ws cs is (ps ++ [r]) → fr M M' (b + 3) (b + 10) → Q (.inl none) M') (hb : ∀ e, sqS s q p = .inr (some e) → BT E b M s e Q) : mC E 65 [.ref (b + 3)] M Q := by
  have hl := h.2.1.len
  obtain ⟨c1, c2, c3, c4, c5, c6, c7, c8, c9, c10, c11⟩ := h.cell
  have e1 : I (p : Int) + I 1 = I ((p + 1 : Nat) : Int) := by rw [I_add]; rfl
  have fl := findS_le s 39 (p + 1)
  refine w65_0 ⟨c1, by rw [c5]; omega, by rw [c5]; exact h.2.1.1, ?_⟩
  rw [c5, c7, e1]
  refine t_find (c := 39) (f := p + 1) (by omega) (by omega) h.2.1 ⟨c1, by rw [c5]; omega, by rw [c5]; exact h.2.1.1, fun r => ?_, fun r => ?_⟩
  · rw [c5, h.2.1.2.2.2.2.1, I_lt (by omega) (by omega) (by omega) (by omega)] at r
    unfold sqS at hq
    rw [if_pos (by omega)] at hq
    refine w65_1 ⟨c1, ?_⟩
    rw [c7, e1]
    refine y_addC (k := 2) h (by omega) (by omega) (by omega) (by omega) (fun M1 g1 f1 => ⟨g1.cell.1, fun M2 q2 => ?_⟩)
    have g2 := g1.at' q2 (p' := findS s 39 (p + 1) + 1) (by rw [I_add]; rfl)
    exact hq _ _ rfl M2 g2.1 (f1.then g2.2)
  · rw [c5, h.2.1.2.2.2.2.1, I_lt (by omega) (by omega) (by omega) (by omega)] at r
    unfold sqS at hb
    rw [if_neg (by omega)] at hb
    rw [c5, h.2.1.2.2.2.2.1]
    exact y_refuse h (hb _ rfl)
theorem y_escape (h : sy b M s pl p aw jn rd ws cs is ps) (hp : p < s.length) (hn : ps.length ≤ p) (q : Bool) (hq : ∀ r p', esS s q p = .inl (r, p', q) → ∀ M', sy b M' s pl p' aw jn rd ws cs is (ps ++ [r]) → fr M M' (b + 3) (b + 10) → Q (.inl none) M') (hb : ∀ e, esS s q p = .inr (some e) → BT E b M s e Q) : mC E 66 [.ref (b + 3), .int (I (bI q))] M Q := by
  have hl := h.2.1.len
  obtain ⟨c1, c2, c3, c4, c5, c6, c7, c8, c9, c10, c11⟩ := h.cell
  have e1 : I (p : Int) + I 1 = I ((p + 1 : Nat) : Int) := by rw [I_add]; rfl
  have e2 : I (p : Int) + I 2 = I ((p + 2 : Nat) : Int) := by rw [I_add]; rfl
  have hc := h.2.1.ch (p + 1)
  have bad : (s.getD (p + 1) 0 = 0 ∨ s.getD (p + 1) 0 = 10) → mX E 66 1 [some (.ref (b + 3)), some (.int (I (bI q))), some (.int (I (s.getD (p + 1) 0 : Nat))), none] [] M Q := by
    intro g
    unfold esS at hb
    rw [if_pos g] at hb
    refine w66_1 ⟨c1, ?_⟩
    rw [c7, e1]
    exact y_refuse h (hb _ rfl)
  have fin : ∀ z : Nat, (z = 0 ∨ z = 1) → ¬ (s.getD (p + 1) 0 = 0 ∨ s.getD (p + 1) 0 = 10) → (z = 1 ↔ (q = true ∧ ¬ s.getD (p + 1) 0 = 36 ∧ ¬ s.getD (p + 1) 0 = 34 ∧ ¬ s.getD (p + 1) 0 = 92)) → mX E 66 4 [some (.ref (b + 3)), some (.int (I (bI q))), some (.int (I (s.getD (p + 1) 0 : Nat))), none] [.int (I z)] M Q := by
    intro z hz g gz
    unfold esS at hq
    rw [if_neg g] at hq
    refine w66_4 ⟨fun r => ⟨c1, w66_6 ⟨c1, c1, ?_⟩⟩, fun r => ⟨c1, w66_6 ⟨c1, c1, ?_⟩⟩⟩
    · rw [I_eq (by omega) (by omega) (by omega) (by omega)] at r
      rw [if_neg (fun u => by have := gz.mpr u; omega)] at hq
      rw [c7, e1, e2]
      exact y_addC (k := 1) h (by omega) (by omega) (by omega) (by omega) (fun M1 g1 f1 => hq _ _ rfl M1 g1 f1)
    · rw [I_eq (by omega) (by omega) (by omega) (by omega)] at r
      rw [if_pos (gz.mp (by omega))] at hq
      rw [c7, e2]
      exact y_addC (k := 1) h (by omega) (by omega) (by omega) (by omega) (fun M1 g1 f1 => hq _ _ rfl M1 g1 f1)
  refine w66_0 ⟨c1, by rw [c5]; omega, by rw [c5]; exact h.2.1.1, ?_⟩
  rw [c5, c7, e1]
  refine ch_at h.2.1 (by omega) ⟨fun r => bad ?_, fun r1 => ⟨fun r2 => w66_2 ⟨fun r => w66_3 (fin 0 (by omega) ?_ ?_), fun r3 => ⟨fun r => w66_3 (fin 0 (by omega) ?_ ?_), fun r4 => ⟨fun r => w66_3 (fin 0 (by omega) ?_ ?_), fun r5 => ⟨fun r => w66_3 (fin 0 (by omega) ?_ ?_), fun r6 => fin 1 (by omega) ?_ ?_⟩⟩⟩⟩, fun r => bad ?_⟩⟩
  · rw [I_eq (by omega) (by omega) (by omega) (by omega)] at r; omega
  · rw [I_eq (by omega) (by omega) (by omega) (by omega)] at r1 r2; omega
  · rw [bI_0] at r; rw [r]; simp
  · rw [I_eq (by omega) (by omega) (by omega) (by omega)] at r1 r2; omega
  · rw [I_eq (by omega) (by omega) (by omega) (by omega)] at r; constructor
    · omega
    · intro u; omega
  · rw [I_eq (by omega) (by omega) (by omega) (by omega)] at r1 r2; omega
  · rw [I_eq (by omega) (by omega) (by omega) (by omega)] at r; constructor
    · omega
    · intro u; omega
  · rw [I_eq (by omega) (by omega) (by omega) (by omega)] at r1 r2; omega
  · rw [I_eq (by omega) (by omega) (by omega) (by omega)] at r; constructor
    · omega
    · intro u; omega
  · rw [I_eq (by omega) (by omega) (by omega) (by omega)] at r1 r2; omega
  · rw [bI_0] at r3
    rw [I_eq (by omega) (by omega) (by omega) (by omega)] at r4 r5 r6
    refine ⟨fun _ => ⟨?_, by omega, by omega, by omega⟩, fun _ => rfl⟩
    cases q with | true => rfl | false => exact absurd rfl r3
  · rw [I_eq (by omega) (by omega) (by omega) (by omega)] at r; omega
theorem y_dollar (h : sy b M s pl p aw jn rd ws cs is ps) (hp : p < s.length) (hn : ps.length ≤ p) (q : Bool) (hq : ∀ r p', doS s q p = (r, p', q) → ∀ M', sy b M' s pl p' aw jn rd ws cs is (ps ++ [r]) → fr M M' (b + 3) (b + 10) → Q (.inl none) M') : mC E 67 [.ref (b + 3), .int (I (bI q))] M Q := by
  have hl := h.2.1.len
  obtain ⟨c1, c2, c3, c4, c5, c6, c7, c8, c9, c10, c11⟩ := h.cell
  have e1 : I (p : Int) + I 1 = I ((p + 1 : Nat) : Int) := by rw [I_add]; rfl
  have hc := h.2.1.ch (p + 1)
  have b1 := nE_bd s (p + 1)
  have kq : kP q ≤ 4 := by unfold kP; split <;> omega
  have dig : ∀ M1, M1 = M → ¬ isL (s.getD (p + 1) 0) = true → ((49 ≤ s.getD (p + 1) 0 ∧ s.getD (p + 1) 0 ≤ 57) ∨ s.getD (p + 1) 0 = 35 ∨ s.getD (p + 1) 0 = 63) → mX E 67 5 [some (.ref (b + 3)), some (.int (I (bI q))), some (.int (I (p + 1 : Nat))), some (.int (I (s.getD (p + 1) 0 : Nat))), some (.int (I (kP q)))] [] M1 Q := by
    intro M1 e g1 g2
    subst e
    unfold doS at hq
    rw [if_neg g1, if_pos g2] at hq
    refine w67_5 ⟨c1, ?_⟩
    rw [show I ((p + 1 : Nat) : Int) + I 1 = I ((p + 1 + 1 : Nat) : Int) by rw [I_add]; rfl]
    exact y_addC h (by omega) (by omega) (by omega) (by omega) (fun M2 g1 f1 => hq _ _ rfl M2 g1 f1)
  have oth : ¬ isL (s.getD (p + 1) 0) = true → ¬ (49 ≤ s.getD (p + 1) 0 ∧ s.getD (p + 1) 0 ≤ 57) → mX E 67 4 [some (.ref (b + 3)), some (.int (I (bI q))), some (.int (I (p + 1 : Nat))), some (.int (I (s.getD (p + 1) 0 : Nat))), some (.int (I (kP q)))] [] M Q := by
    intro g1 g2
    refine w67_4 ⟨fun r => dig M rfl g1 ?_, fun r => ⟨fun u => ?_, fun u => dig M rfl g1 ?_⟩⟩
    · rw [I_eq (by omega) (by omega) (by omega) (by omega)] at r; omega
    · rw [I_eq (by omega) (by omega) (by omega) (by omega)] at r u
      unfold doS at hq
      rw [if_neg g1, if_neg (by omega)] at hq
      refine ⟨fun w => w67_8 ⟨c1, c1, ?_⟩, fun w => w67_8 ⟨c1, c1, ?_⟩⟩
      · rw [bI_0] at w
        rw [w] at hq
        rw [c7, e1]
        exact y_addC (k := 0) h (by omega) (by omega) (by omega) (by omega) (fun M2 g1 f1 => hq _ _ rfl M2 g1 f1)
      · rw [bI_0] at w
        have qt : q = true := by cases q with | true => rfl | false => exact absurd rfl w
        rw [qt] at hq
        rw [c7, e1]
        exact y_addC (k := 1) h (by omega) (by omega) (by omega) (by omega) (fun M2 g1 f1 => hq _ _ rfl M2 g1 f1)
    · rw [I_eq (by omega) (by omega) (by omega) (by omega)] at u; omega
  have go : mX E 67 2 [some (.ref (b + 3)), some (.int (I (bI q))), some (.int (I (p + 1 : Nat))), some (.int (I (s.getD (p + 1) 0 : Nat))), none] [.int (I (kP q))] M Q := by
    refine w67_2 (y_begins hc ⟨fun r => ⟨fun u => oth ?_ ?_, fun u => ⟨fun w => dig M rfl ?_ ?_, fun w => oth ?_ ?_⟩⟩, fun r => ⟨c1, y_nameEnd h (by omega) ⟨c1, ?_⟩⟩⟩)
    · rw [bI_0] at r; rw [r]; decide
    · rw [I_lt (by omega) (by omega) (by omega) (by omega)] at u; omega
    · rw [bI_0] at r; rw [r]; decide
    · rw [I_lt (by omega) (by omega) (by omega) (by omega)] at u; rw [I_le (by omega) (by omega) (by omega) (by omega)] at w; omega
    · rw [bI_0] at r; rw [r]; decide
    · rw [I_le (by omega) (by omega) (by omega) (by omega)] at w; omega
    · rw [bI_0] at r
      have g : isL (s.getD (p + 1) 0) = true := by cases g : isL (s.getD (p + 1) 0) with | true => rfl | false => exact absurd g r
      unfold doS at hq
      rw [if_pos g] at hq
      exact y_addC h (by omega) (by omega) (by omega) (by omega) (fun M2 g1 f1 => hq _ _ rfl M2 g1 f1)
  refine w67_0 ⟨c1, by rw [c5]; omega, by rw [c5]; exact h.2.1.1, ?_⟩
  rw [c5, c7, e1]
  refine ch_at h.2.1 (by omega) ⟨fun r => ?_, fun r => ?_⟩
  · rw [bI_0] at r
    unfold kP at go; rw [if_neg (by rw [r]; decide)] at go; exact go
  · rw [bI_0] at r
    unfold kP at go; rw [if_pos (by cases q with | true => rfl | false => exact absurd rfl r)] at go; exact go
theorem y_braces (h : sy b M s pl p aw jn rd ws cs is ps) (hp : p + 1 < s.length) (hn : ps.length ≤ p) (q : Bool) (hq : ∀ r p', brS s q p = .inl (r, p', q) → ∀ M', sy b M' s pl p' aw jn rd ws cs is (ps ++ [r]) → fr M M' (b + 3) (b + 10) → Q (.inl none) M') (hb : ∀ e, brS s q p = .inr (some e) → BT E b M s e Q) : mC E 68 [.ref (b + 3), .int (I (bI q))] M Q := by
  have hl := h.2.1.len
  obtain ⟨c1, c2, c3, c4, c5, c6, c7, c8, c9, c10, c11⟩ := h.cell
  have e2 : I (p : Int) + I 2 = I ((p + 2 : Nat) : Int) := by rw [I_add]; rfl
  have b1 := nE_ge s (p + 2)
  have b2 := nE_bd s (p + 2)
  have b3 := tE_ge s (nE s (p + 2) + 2)
  have b4 := tE_bd s (nE s (p + 2) + 2)
  have kq : kP q ≤ 4 := by unfold kP; split <;> omega
  have t1 := h.2.1.1
  have add : ∀ f e : Nat, f ≤ 1000 → e ≤ 1000 → (∀ M', sy b M' s pl (e + 1) aw jn rd ws cs is (ps ++ [[kP q, p + 2, nE s (p + 2), f, e]]) → fr M M' (b + 3) (b + 10) → Q (.inl none) M') → mX E 68 4 [some (.ref (b + 3)), some (.int (I (bI q))), some (.int (I (p + 2 : Nat))), some (.int (I (nE s (p + 2)))), some (.int (I f)), some (.int (I e))] [] M Q := by
    intro f e hf he hk
    have go : mX E 68 6 [some (.ref (b + 3)), some (.int (I (bI q))), some (.int (I (p + 2 : Nat))), some (.int (I (nE s (p + 2)))), some (.int (I f)), some (.int (I e))] [.int (I (kP q)), .ref (b + 8)] M Q := by
      refine w68_6 ⟨h.2.2.2.2.2.1, sh_add h.2.2.2.2.2 (by omega) (by omega) (by omega) (by omega) (by omega) (by omega) (fun M1 t1 f1 => ?_)⟩
      have g1 := h.sp t1 f1
      refine ⟨g1.1.cell.1, fun M2 q2 => ?_⟩
      have g2 := g1.1.at' q2 (p' := e + 1) (by rw [I_add]; rfl)
      exact hk M2 g2.1 (g1.2.then g2.2)
    refine w68_4 ⟨c1, by rw [c4]; omega, fun r => ?_, fun r => ?_⟩
    · rw [c4]; rw [bI_0] at r
      unfold kP at go; rw [if_neg (by rw [r]; decide)] at go; exact go
    · rw [c4]; rw [bI_0] at r
      unfold kP at go; rw [if_pos (by cases q with | true => rfl | false => exact absurd rfl r)] at go; exact go
  have last : ∀ f e : Nat, f ≤ 1000 → e ≤ 1000 → (s.getD e 0 = 125 → ∀ M', sy b M' s pl (e + 1) aw jn rd ws cs is (ps ++ [[kP q, p + 2, nE s (p + 2), f, e]]) → fr M M' (b + 3) (b + 10) → Q (.inl none) M') → (¬ s.getD e 0 = 125 → BT E b M s e Q) → mX E 68 3 [some (.ref (b + 3)), some (.int (I (bI q))), some (.int (I (p + 2 : Nat))), some (.int (I (nE s (p + 2)))), some (.int (I f)), some (.int (I e))] [] M Q := by
    intro f e hf he hk hbd
    have hc := h.2.1.ch e
    refine w68_3 ⟨c1, by rw [c5]; omega, by rw [c5]; exact t1, ?_⟩
    rw [c5]
    refine ch_at h.2.1 (by omega) ⟨fun r => add f e hf he (hk ?_), fun r => ⟨c1, y_refuse h (hbd ?_)⟩⟩
    · rw [I_eq (by omega) (by omega) (by omega) (by omega)] at r; omega
    · rw [I_eq (by omega) (by omega) (by omega) (by omega)] at r; omega
  refine w68_0 ⟨c1, ?_⟩
  rw [c7, e2]
  refine y_nameEnd h (by omega) ⟨fun r => ?_, fun r => ⟨c1, y_refuse h (hb _ ?_)⟩⟩
  · rw [I_eq (by omega) (by omega) (by omega) (by omega)] at r
    have hc := h.2.1.ch (nE s (p + 2))
    have hc1 := h.2.1.ch (nE s (p + 2) + 1)
    unfold brS at hq hb
    rw [if_neg (by omega)] at hq hb
    refine w68_1 ⟨c1, by rw [c5]; omega, by rw [c5]; exact t1, ?_⟩
    rw [c5]
    refine ch_at h.2.1 (by omega) ⟨fun u => ?_, fun u => ⟨c1, by rw [c5]; omega, by rw [c5]; exact t1, ?_⟩⟩
    · rw [I_eq (by omega) (by omega) (by omega) (by omega)] at u
      rw [if_neg (by omega)] at hq hb
      refine last _ _ (by omega) (by omega) (fun w => ?_) (fun w => ?_)
      · rw [if_pos w] at hq; exact hq _ _ rfl
      · rw [if_neg w] at hb; exact hb _ rfl
    · rw [I_eq (by omega) (by omega) (by omega) (by omega)] at u
      rw [if_pos (by omega)] at hq hb
      rw [c5, show I (nE s (p + 2) : Int) + I 1 = I ((nE s (p + 2) + 1 : Nat) : Int) by rw [I_add]; rfl]
      refine ch_at h.2.1 (by omega) ⟨fun w => w68_2 ⟨c1, ?_⟩, fun w => ⟨c1, y_refuse h (hb _ ?_)⟩⟩
      · rw [I_eq (by omega) (by omega) (by omega) (by omega)] at w
        rw [if_pos (by omega)] at hq hb
        rw [show I (nE s (p + 2) : Int) + I 2 = I ((nE s (p + 2) + 2 : Nat) : Int) by rw [I_add]; rfl]
        refine y_textEnd h (by omega) (last _ _ (by omega) (by omega) (fun z => ?_) (fun z => ?_))
        · rw [if_pos z] at hq; exact hq _ _ rfl
        · rw [if_neg z] at hb; exact hb _ rfl
      · rw [I_eq (by omega) (by omega) (by omega) (by omega)] at w
        rw [if_neg (by omega)]
  · rw [I_eq (by omega) (by omega) (by omega) (by omega)] at r
    unfold brS; rw [if_pos (by omega)]
theorem y_pieces_l (n : Nat) : ∀ (st : Nat) (q : Bool) (p : Nat) (ps : List (List Nat)) (M : mM) (d3 : Option Value), st + n = 240 → sy b M s pl p aw jn rd ws cs is ps → p ≤ s.length → ps.length ≤ p → (∀ p' ps', pL s n q p ps = .inl (p', ps') → ∀ M', sy b M' s pl p' aw jn rd ws cs is ps' → fr M M' (b + 3) (b + 10) → Q (.inl none) M') → (∀ e, pL s n q p ps = .inr e → BT E b M s e Q) →
    mX E 62 1 [some (.ref (b + 3)), some (.int (I (bI q))), some (.int (I st)), d3] [] M Q := by
  have last : ∀ (st : Nat) (q : Bool) (p : Nat) (ps : List (List Nat)) (M : mM) (d3 : Option Value), sy b M s pl p aw jn rd ws cs is ps → (q = false → Q (.inl none) M) → (q = true → BT E b M s s.length Q) → mX E 62 12 [some (.ref (b + 3)), some (.int (I (bI q))), some (.int (I st)), d3] [] M Q := by
    intro st q p ps M d3 h h0 h1
    obtain ⟨c1, c2, c3, c4, c5, c6, c7, c8, c9, c10, c11⟩ := h.cell
    refine w62_12 ⟨fun r => h0 ((bI_0 q).mp r), fun r => ⟨c1, by rw [c5]; omega, by rw [c5]; exact h.2.1.1, ?_⟩⟩
    rw [c5, h.2.1.2.2.2.2.1]
    exact y_refuse h (h1 (by cases q with | true => rfl | false => exact absurd rfl r))
  induction n with
  | zero =>
    intro st q p ps M d3 hst h hp hn hq hb
    refine w62_1 ⟨fun _ => last st q p ps M d3 h (fun g => hq p ps (by unfold pL; rw [if_neg (by rw [g]; decide)]) M h (fr.refl _ _ _)) (fun g => hb _ (by unfold pL; rw [if_pos g])), fun r => ?_⟩
    rw [I_le (by omega) (by omega) (by omega) (by omega)] at r; omega
  | succ n ih =>
    intro st q p ps M d3 hst h hp hn hq hb
    have hl := h.2.1.len
    have h5 := h.2.1.2.2.2.2.1
    have t1 := h.2.1.1
    have hc := h.2.1.ch p
    have hc1 := h.2.1.ch (p + 1)
    obtain ⟨c1, c2, c3, c4, c5, c6, c7, c8, c9, c10, c11⟩ := h.cell
    have e1 : I (p : Int) + I 1 = I ((p + 1 : Nat) : Int) := by rw [I_add]; rfl
    refine w62_1 ⟨fun r => ?_, fun _ => ⟨c1, by rw [c5]; omega, by rw [c5]; exact t1, fun r => last st q p ps M d3 h (fun g => hq p ps ?_ M h (fr.refl _ _ _)) (fun g => hb _ ?_), fun r => ?_⟩⟩
    · rw [I_le (by omega) (by omega) (by omega) (by omega)] at r; omega
    · rw [c5, h5, c7, I_le (by omega) (by omega) (by omega) (by omega)] at r
      unfold pL; rw [if_neg (by omega), if_neg (by rw [g]; decide)]
    · rw [c5, h5, c7, I_le (by omega) (by omega) (by omega) (by omega)] at r
      unfold pL; rw [if_neg (by omega), if_pos g]
    · rw [c5, h5, c7, I_le (by omega) (by omega) (by omega) (by omega)] at r
      have hpl : p < s.length := by omega
      have uf : pL s (n + 1) q p ps = (match pS s q p with
        | .inl (r, p', q') => pL s n q' p' (ps ++ [r])
        | .inr none => .inl (p, ps)
        | .inr (some e) => .inr e) := by rw [pL, if_pos hpl]
      rw [uf] at hq hb
      have next : ∀ r p' q', pS s q p = .inl (r, p', q') → ∀ (M1 : mM) (d : Option Value), sy b M1 s pl p' aw jn rd ws cs is (ps ++ [r]) → fr M M1 (b + 3) (b + 10) → mX E 62 1 [some (.ref (b + 3)), some (.int (I (bI q'))), some (.int (I st + I 1)), d] [] M1 Q := by
        intro r p' q' g M1 d h1 f1
        have pr := pS_r hpl g
        rw [g] at hq hb
        rw [I_add]
        exact ih (st + 1) q' p' _ M1 d (by omega) h1 pr.2.1 (by rw [List.length_append]; simp; omega) (fun p2 ps2 u M' k1 k2 => hq p2 ps2 u M' k1 (f1.then k2)) (fun e u => (hb e u).st f1)
      have bad : ∀ e, pS s q p = .inr (some e) → BT E b M s e Q := fun e g => by rw [g] at hb; exact hb e rfl
      have six : ¬ s.getD p 0 = 34 → ¬ s.getD p 0 = 92 → (s.getD p 0 = 36 → ¬ s.getD (p + 1) 0 = 123) → mX E 62 6 [some (.ref (b + 3)), some (.int (I (bI q))), some (.int (I st)), some (.int (I (s.getD p 0 : Nat)))] [] M Q := by
        intro g1 g2 g3
        unfold pS at next bad hq
        rw [if_neg g1, if_neg g2] at next bad hq
        refine w62_6 ⟨fun r1 => ⟨fun r2 => ⟨fun r3 => y_ends hc (fun r4 => ⟨fun r => absurd r (by decide), fun _ => ?_⟩) (fun r4 => ⟨fun _ => ⟨c1, ?_⟩, fun r => absurd rfl r⟩), fun r3 => ⟨c1, y_single h hpl hn q (fun r p' u M1 k1 k2 => next r p' q ?_ M1 _ k1 k2) (fun e u => bad e ?_)⟩⟩, fun r2 => ⟨c1, ?_⟩⟩, fun r1 => ⟨c1, y_dollar h hpl hn q (fun r p' u M1 k1 k2 => next r p' q ?_ M1 _ k1 k2)⟩⟩
        · rw [I_eq (by omega) (by omega) (by omega) (by omega)] at r1 r3
          rw [bI_0] at r2
          rw [if_neg (by omega), if_neg (by rw [r2]; decide), if_neg (by omega), if_pos r4] at hq
          exact hq p ps rfl M h (fr.refl _ _ _)
        · rw [I_eq (by omega) (by omega) (by omega) (by omega)] at r1 r3
          rw [bI_0] at r2
          rw [c7, e1]
          refine y_addC (k := 0) h (by omega) (by omega) (by omega) (by omega) (fun M1 k1 k2 => next _ _ _ ?_ M1 _ k1 k2)
          rw [if_neg (by omega), if_neg (by rw [r2]; decide), if_neg (by omega), if_neg r4]
        · rw [I_eq (by omega) (by omega) (by omega) (by omega)] at r1 r3
          rw [bI_0] at r2
          rw [if_neg (by omega), if_neg (by rw [r2]; decide), if_pos (by omega)]; exact u
        · rw [I_eq (by omega) (by omega) (by omega) (by omega)] at r1 r3
          rw [bI_0] at r2
          rw [if_neg (by omega), if_neg (by rw [r2]; decide), if_pos (by omega)]; exact u
        · rw [I_eq (by omega) (by omega) (by omega) (by omega)] at r1
          have qt : q = true := by
            rw [bI_0] at r2; cases q with | true => rfl | false => exact absurd rfl r2
          rw [c7, e1]
          refine y_addC (k := 1) h (by omega) (by omega) (by omega) (by omega) (fun M1 k1 k2 => next _ _ _ ?_ M1 _ k1 k2)
          rw [if_neg (by omega), if_pos qt]
        · rw [I_eq (by omega) (by omega) (by omega) (by omega)] at r1
          have q36 : s.getD p 0 = 36 := by omega
          rw [if_pos q36, if_neg (g3 q36), u]
      rw [c5, c7]
      refine ch_at h.2.1 (by omega) ⟨fun r1 => ⟨fun r2 => ⟨fun r3 => six ?_ ?_ ?_, fun r3 => ⟨c1, by rw [c5]; omega, by rw [c5]; exact t1, ?_⟩⟩, fun r2 => ⟨c1, y_escape h hpl hn q (fun r p' u M1 k1 k2 => next r p' q ?_ M1 _ k1 k2) (fun e u => bad e ?_)⟩⟩, fun r1 => ⟨fun r2 => w62_3 ⟨c1, ?_⟩, fun r2 => w62_3 ⟨c1, ?_⟩⟩⟩
      · rw [I_eq (by omega) (by omega) (by omega) (by omega)] at r1; omega
      · rw [I_eq (by omega) (by omega) (by omega) (by omega)] at r2; omega
      · rw [I_eq (by omega) (by omega) (by omega) (by omega)] at r3; omega
      · rw [I_eq (by omega) (by omega) (by omega) (by omega)] at r1 r2 r3
        rw [c5, c7, e1]
        refine ch_at h.2.1 (by omega) ⟨fun r4 => six (by omega) (by omega) (fun _ => ?_), fun r4 => ⟨c1, y_braces h ?_ hn q (fun r p' u M1 k1 k2 => next r p' q ?_ M1 _ k1 k2) (fun e u => bad e ?_)⟩⟩
        · rw [I_eq (by omega) (by omega) (by omega) (by omega)] at r4; omega
        · rw [I_eq (by omega) (by omega) (by omega) (by omega)] at r4; exact getD_pos (by omega)
        · rw [I_eq (by omega) (by omega) (by omega) (by omega)] at r4
          unfold pS; rw [if_neg (by omega), if_neg (by omega), if_pos (by omega), if_pos (by omega)]; exact u
        · rw [I_eq (by omega) (by omega) (by omega) (by omega)] at r4
          unfold pS; rw [if_neg (by omega), if_neg (by omega), if_pos (by omega), if_pos (by omega)]; exact u
      · rw [I_eq (by omega) (by omega) (by omega) (by omega)] at r1 r2
        unfold pS; rw [if_neg (by omega), if_pos (by omega)]; exact u
      · rw [I_eq (by omega) (by omega) (by omega) (by omega)] at r1 r2
        unfold pS; rw [if_neg (by omega), if_pos (by omega)]; exact u
      · rw [I_eq (by omega) (by omega) (by omega) (by omega)] at r1
        rw [c7, e1]
        have qt : q = true := by
          rw [bI_0] at r2; cases q with | true => rfl | false => exact absurd rfl r2
        refine y_addC (k := 2) h (by omega) (by omega) (by omega) (by omega) (fun M1 k1 k2 => next _ _ false ?_ M1 _ k1 k2)
        unfold pS; rw [if_pos (by omega), qt]; rfl
      · rw [I_eq (by omega) (by omega) (by omega) (by omega)] at r1
        rw [bI_0] at r2
        rw [c7, e1]
        refine y_addC (k := 2) h (by omega) (by omega) (by omega) (by omega) (fun M1 k1 k2 => next _ _ true ?_ M1 _ k1 k2)
        unfold pS; rw [if_pos (by omega), r2]; rfl
theorem y_pieces (h : sy b M s pl p aw jn rd ws cs is ps) (hp : p ≤ s.length) (hn : ps.length ≤ p) (hq : ∀ p' ps', pL s 240 false p ps = .inl (p', ps') → ∀ M', sy b M' s pl p' aw jn rd ws cs is ps' → fr M M' (b + 3) (b + 10) → Q (.inl none) M') (hb : ∀ e, pL s 240 false p ps = .inr e → BT E b M s e Q) : mC E 62 [.ref (b + 3)] M Q :=
  w62_0 (y_pieces_l 240 0 false p ps M none rfl h hp hn hq hb)
end PCS
