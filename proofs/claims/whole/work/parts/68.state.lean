/-! STATES, as a group of components -/
def stX (M : mM) (a : Nat) (vs : eL) (po : List (List Nat)) (sp : List Nat) (fl : eL) (o : List Nat) (st : Int) : Prop := mkd M a = 105 ∧ mr M a 0 = a + 1 ∧ mr M a 1 = a + 38 ∧ mr M a 2 = a + 62 ∧ mr M a 3 = a + 99 ∧ mi M a 4 = I st ∧ tbX M (a + 1) 8 6 40 vs ∧ rX M (a + 38) 9 40 po sp ∧ tbX M (a + 62) 8 8 80 fl ∧ tX M (a + 99) 240 o
section ST
variable {E : mE} {M M' : mM} {Q : mQ} {a a' b : Nat} {R : RT} {vs vs' fl fl' : eL} {po po' : List (List Nat)} {sp sp' o o' : List Nat} {st st' : Int}
theorem stX.mv (h : stX M a vs po sp fl o st) {lo hi : Nat} (f : fr M M' lo hi) (hd : a + 101 ≤ lo ∨ hi ≤ a) : stX M' a vs po sp fl o st := by
  obtain ⟨h1, h2, h3, h4, h5, h6, h7, h8, h9, h10⟩ := h
  obtain ⟨c1, c2, c3, c4, c5⟩ := f.2.2 a (by omega)
  exact ⟨by rw [c1, h1], by rw [c4, h2], by rw [c4, h3], by rw [c4, h4], by rw [c4, h5], by rw [c3, h6], h7.mv f (by omega), h8.mv f (by omega), h9.mv f (by omega), h10.mv f (by omega)⟩
theorem stX.cell (h : stX M a vs po sp fl o st) {lo hi : Nat} (f : fr M M' lo hi) (hd : a + 1 ≤ lo) : mkd M' a = 105 ∧ mr M' a 0 = a + 1 ∧ mr M' a 1 = a + 38 ∧ mr M' a 2 = a + 62 ∧ mr M' a 3 = a + 99 ∧ mi M' a 4 = I st := by
  obtain ⟨h1, h2, h3, h4, h5, h6, -⟩ := h
  obtain ⟨c1, c2, c3, c4, c5⟩ := f.2.2 a (by omega)
  exact ⟨by rw [c1, h1], by rw [c4, h2], by rw [c4, h3], by rw [c4, h4], by rw [c4, h5], by rw [c3, h6]⟩
theorem nzp {x y k : Nat} (h : x = y + (k + 1)) : ¬ x = 0 := by omega
theorem s_become (h : stX M a vs po sp fl o st) (g : stX M a' vs' po' sp' fl' o' st') (hd : a + 101 ≤ a' ∨ a' + 101 ≤ a) (hq : ∀ M', stX M' a vs' po' [] fl' o' st' → fr M M' a (a + 101) → Q (.inl none) M') : mC E 49 [.ref a, .ref a'] M Q := by
  refine w49_0 ⟨h.1, nzp h.2.1, g.1, nzp g.2.1, by rw [h.2.1]; exact h.2.2.2.2.2.2.1.1.1, ?_⟩
  rw [h.2.1, g.2.1]
  refine tb_become h.2.2.2.2.2.2.1 g.2.2.2.2.2.2.1 (by omega) (fun M1 k1 f1 => ?_)
  have c1 := h.cell f1 (by omega)
  have g1 := g.mv f1 (by omega)
  have r1 := h.2.2.2.2.2.2.2.1.mv f1 (by omega)
  have e1 := h.2.2.2.2.2.2.2.2.1.mv f1 (by omega)
  have t1 := h.2.2.2.2.2.2.2.2.2.mv f1 (by omega)
  clear h g
  refine ⟨c1.1, nzp c1.2.2.1, g1.1, nzp g1.2.2.1, by rw [c1.2.2.1]; exact r1.1.1, ?_⟩
  rw [c1.2.2.1, g1.2.2.1]
  refine r_become r1 g1.2.2.2.2.2.2.2.1 (by omega) (fun M2 k2 f2 => ?_)
  have c2 : mkd M2 a = 105 ∧ mr M2 a 0 = a + 1 ∧ mr M2 a 1 = a + 38 ∧ mr M2 a 2 = a + 62 ∧ mr M2 a 3 = a + 99 ∧ mi M2 a 4 = I st := by
    obtain ⟨d1, d2, d3, d4, d5⟩ := f2.2.2 a (by omega)
    rw [d1, d4, d4, d4, d4, d3]; exact c1
  have g2 := g1.mv f2 (by omega)
  have e2 := e1.mv f2 (by omega)
  have t2 := t1.mv f2 (by omega)
  have k1' := k1.mv f2 (by omega)
  clear g1 e1 t1 r1 c1 k1
  refine ⟨c2.1, nzp c2.2.2.2.1, g2.1, nzp g2.2.2.2.1, by rw [c2.2.2.2.1]; exact e2.1.1, ?_⟩
  rw [c2.2.2.2.1, g2.2.2.2.1]
  refine tb_become e2 g2.2.2.2.2.2.2.2.2.1 (by omega) (fun M3 k3 f3 => ?_)
  have c3 : mkd M3 a = 105 ∧ mr M3 a 0 = a + 1 ∧ mr M3 a 1 = a + 38 ∧ mr M3 a 2 = a + 62 ∧ mr M3 a 3 = a + 99 ∧ mi M3 a 4 = I st := by
    obtain ⟨d1, d2, d3, d4, d5⟩ := f3.2.2 a (by omega)
    rw [d1, d4, d4, d4, d4, d3]; exact c2
  have g3 := g2.mv f3 (by omega)
  have t3 := t2.mv f3 (by omega)
  have k1'' := k1'.mv f3 (by omega)
  have k2' := k2.mv f3 (by omega)
  clear g2 e2 t2 c2 k1' k2
  refine ⟨c3.1, nzp c3.2.2.2.2.1, g3.1, nzp g3.2.2.2.2.1, by rw [c3.2.2.2.2.1]; exact t3.1, ?_⟩
  rw [c3.2.2.2.2.1, g3.2.2.2.2.1]
  have lo := g3.2.2.2.2.2.2.2.2.2.len
  refine t_become t3 g3.2.2.2.2.2.2.2.2.2 (by unfold apart; omega) (fun _ M4 t4 f4 => ?_) (fun l => absurd l (by omega))
  have c4 : mkd M4 a = 105 ∧ mr M4 a 0 = a + 1 ∧ mr M4 a 1 = a + 38 ∧ mr M4 a 2 = a + 62 ∧ mr M4 a 3 = a + 99 ∧ mi M4 a 4 = I st := by
    obtain ⟨d1, d2, d3, d4, d5⟩ := f4.2.2 a (by omega)
    rw [d1, d4, d4, d4, d4, d3]; exact c3
  have g4 := g3.mv f4 (by omega)
  refine ⟨g4.1, c4.1, fun M5 q5 => ?_⟩
  have f5 : fr M4 M5 a (a + 1) := by rw [q5]; exact fr_i (by omega) (by omega)
  have k1x := (k1''.mv f4 (by omega)).mv f5 (by omega)
  have k2x := (k2'.mv f4 (by omega)).mv f5 (by omega)
  have k3x := (k3.mv f4 (by omega)).mv f5 (by omega)
  have t4x := t4.mv f5 (by omega)
  refine hq M5 ⟨by rw [q5]; exact c4.1, by rw [q5]; exact c4.2.1, by rw [q5]; exact c4.2.2.1, by rw [q5]; exact c4.2.2.2.1, by rw [q5]; exact c4.2.2.2.2.1, by rw [q5, i_is]; exact g4.2.2.2.2.2.1, k1x, k2x, k3x, t4x⟩ ?_
  exact (((f1.wide (by omega) (by omega)).then (f2.wide (by omega) (by omega))).then (f3.wide (by omega) (by omega))).then ((f4.wide (by omega) (by omega)).then (f5.wide (by omega) (by omega)))
/-- a group of components has changed -/
theorem RX.grp (h : RX b M R) {lo hi : Nat} (f : fr M M' (b + lo) (b + hi)) {R' : RT} (hR : ∀ k, k < 32 → cX b M' (R' k) k ∨ (R' k = R k ∧ (cHi k ≤ lo ∨ hi ≤ cLo k))) : RX b M' R' := by
  refine ⟨h.1, fun k hk => ?_⟩
  rcases hR k hk with q | q
  · exact q
  · rw [q.1]
    exact cX_mc hk (h.2 k hk) (fun x q1 q2 => f.2.2 x (by omega))
theorem RX.stR (h : RX b M R) : stX M (b + 112) (R 13).1 (R 14).2.1 (R 14).2.2.1 (R 15).1 (R 16).2.2.1 ((R 12).2.2.2.getD 0 0) :=
  ⟨h.k12, h.f12_0, h.f12_1, h.f12_2, h.f12_3, h.i12_4, h.c13, h.c14, h.c15, h.c16⟩
theorem RX.stK (h : RX b M R) : stX M (b + 10) (R 7).1 (R 8).2.1 (R 8).2.2.1 (R 9).1 (R 10).2.2.1 ((R 6).2.2.2.getD 0 0) :=
  ⟨h.k6, h.f6_0, h.f6_1, h.f6_2, h.f6_3, h.i6_4, h.c7, h.c8, h.c9, h.c10⟩
theorem cg1 : ∀ k, k < 32 → [12, 13, 14, 15, 16].contains k = true ∨ cHi k ≤ 112 ∨ 213 ≤ cLo k := by decide +kernel
theorem cg2 : ∀ k, k < 32 → [6, 7, 8, 9, 10].contains k = true ∨ cHi k ≤ 10 ∨ 111 ≤ cLo k := by decide +kernel
/-- the runner's state is another -/
def upR (R : RT) (vs : eL) (po : List (List Nat)) (sp : List Nat) (fl : eL) (o : List Nat) (st : Int) : RT := up (up (up (up (up R 12 (vI [st])) 13 (vE vs)) 14 (vR po sp)) 15 (vE fl)) 16 (vT o)
def upK (R : RT) (vs : eL) (po : List (List Nat)) (sp : List Nat) (fl : eL) (o : List Nat) (st : Int) : RT := up (up (up (up (up R 6 (vI [st])) 7 (vE vs)) 8 (vR po sp)) 9 (vE fl)) 10 (vT o)
theorem RX.setR (h : RX b M R) (g : stX M' (b + 112) vs po sp fl o st) (f : fr M M' (b + 112) (b + 112 + 101)) : RX b M' (upR R vs po sp fl o st) ∧ fr M M' b (b + 369) := by
  refine ⟨h.grp (lo := 112) (hi := 213) f (fun k hk => ?_), f.wide (by omega) (by omega)⟩
  obtain ⟨h1, h2, h3, h4, h5, h6, h7, h8, h9, h10⟩ := g
  by_cases q1 : k = 12
  · subst q1; exact Or.inl ⟨h1, h2, h3, h4, h5, h6⟩
  by_cases q2 : k = 13
  · subst q2; exact Or.inl h7
  by_cases q3 : k = 14
  · subst q3; exact Or.inl h8
  by_cases q4 : k = 15
  · subst q4; exact Or.inl h9
  by_cases q5 : k = 16
  · subst q5; exact Or.inl h10
  refine Or.inr ⟨?_, (cg1 k hk).resolve_left (fun z => by simp at z; omega)⟩
  unfold upR
  rw [up_n q5, up_n q4, up_n q3, up_n q2, up_n q1]
theorem RX.setK (h : RX b M R) (g : stX M' (b + 10) vs po sp fl o st) (f : fr M M' (b + 10) (b + 10 + 101)) : RX b M' (upK R vs po sp fl o st) ∧ fr M M' b (b + 369) := by
  refine ⟨h.grp (lo := 10) (hi := 111) f (fun k hk => ?_), f.wide (by omega) (by omega)⟩
  obtain ⟨h1, h2, h3, h4, h5, h6, h7, h8, h9, h10⟩ := g
  by_cases q1 : k = 6
  · subst q1; exact Or.inl ⟨h1, h2, h3, h4, h5, h6⟩
  by_cases q2 : k = 7
  · subst q2; exact Or.inl h7
  by_cases q3 : k = 8
  · subst q3; exact Or.inl h8
  by_cases q4 : k = 9
  · subst q4; exact Or.inl h9
  by_cases q5 : k = 10
  · subst q5; exact Or.inl h10
  refine Or.inr ⟨?_, (cg2 k hk).resolve_left (fun z => by simp at z; omega)⟩
  unfold upK
  rw [up_n q5, up_n q4, up_n q3, up_n q2, up_n q1]
end ST
