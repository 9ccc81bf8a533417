/-! THE REFERENCE IN MEMORY: its cell at m, its arrays behind it. Printed by wip/whole/gen7.py -/
def mS (M : mM) (m : Nat) : Prop := mkd M m = 111 ∧ 0 < m ∧ mr M m 3 = m + 1 ∧ mkd M (m + 1) = 2 ∧ mln M (m + 1) = 240 ∧ mr M m 5 = m + 2 ∧ mkd M (m + 2) = 1 ∧ mln M (m + 2) = 241 ∧ mr M m 6 = m + 3 ∧ mkd M (m + 3) = 1 ∧ mln M (m + 3) = 241 ∧ mr M m 7 = m + 4 ∧ mkd M (m + 4) = 1 ∧ mln M (m + 4) = 241 ∧ mr M m 9 = m + 5 ∧ mkd M (m + 5) = 1 ∧ mln M (m + 5) = 3 ∧ mr M m 10 = m + 6 ∧ mkd M (m + 6) = 2 ∧ mln M (m + 6) = 144 ∧ mr M m 11 = m + 7 ∧ mkd M (m + 7) = 1 ∧ mln M (m + 7) = 24 ∧ mr M m 12 = m + 8 ∧ mkd M (m + 8) = 2 ∧ mln M (m + 8) = 960 ∧ mr M m 13 = m + 9 ∧ mkd M (m + 9) = 1 ∧ mln M (m + 9) = 24 ∧ mr M m 14 = m + 10 ∧ mkd M (m + 10) = 1 ∧ mln M (m + 10) = 3 ∧ mr M m 15 = m + 11 ∧ mkd M (m + 11) = 2 ∧ mln M (m + 11) = 1080 ∧ mr M m 16 = m + 12 ∧ mkd M (m + 12) = 1 ∧ mln M (m + 12) = 27 ∧ mr M m 17 = m + 13 ∧ mkd M (m + 13) = 1 ∧ mln M (m + 13) = 2 ∧ mr M m 18 = m + 14 ∧ mkd M (m + 14) = 2 ∧ mln M (m + 14) = 128 ∧ mr M m 19 = m + 15 ∧ mkd M (m + 15) = 1 ∧ mln M (m + 15) = 16 ∧ mr M m 20 = m + 16 ∧ mkd M (m + 16) = 2 ∧ mln M (m + 16) = 1280 ∧ mr M m 21 = m + 17 ∧ mkd M (m + 17) = 1 ∧ mln M (m + 17) = 16 ∧ mr M m 22 = m + 18 ∧ mkd M (m + 18) = 1 ∧ mln M (m + 18) = 2 ∧ mr M m 23 = m + 19 ∧ mkd M (m + 19) = 1 ∧ mln M (m + 19) = 2 ∧ mr M m 24 = m + 20 ∧ mkd M (m + 20) = 2 ∧ mln M (m + 20) = 480 ∧ mr M m 28 = m + 21 ∧ mkd M (m + 21) = 2 ∧ mln M (m + 21) = 41 ∧ mr M m 29 = m + 22 ∧ mkd M (m + 22) = 3 ∧ mln M (m + 22) = 41 ∧ mr M m 34 = m + 23 ∧ mkd M (m + 23) = 2 ∧ mln M (m + 23) = 680 ∧ mr M m 35 = m + 24 ∧ mkd M (m + 24) = 1 ∧ mln M (m + 24) = 17 ∧ mr M m 37 = m + 25 ∧ mkd M (m + 25) = 2 ∧ mln M (m + 25) = 240 ∧ mr M m 39 = m + 26 ∧ mkd M (m + 26) = 2 ∧ mln M (m + 26) = 241 ∧ mr M m 41 = m + 27 ∧ mkd M (m + 27) = 1 ∧ mln M (m + 27) = 241 ∧ mr M m 42 = m + 28 ∧ mkd M (m + 28) = 1 ∧ mln M (m + 28) = 241
theorem mS.k0 {M : mM} {m : Nat} (h : mS M m) : mkd M m = 111 := h.1
theorem mS.p {M : mM} {m : Nat} (h : mS M m) : 0 < m := h.2.1
/-- text -/
theorem mS.f3 {M : mM} {m : Nat} (h : mS M m) : mr M m 3 = m + 1 := h.2.2.1
theorem mS.k1 {M : mM} {m : Nat} (h : mS M m) : mkd M (m + 1) = 2 := h.2.2.2.1
theorem mS.l1 {M : mM} {m : Nat} (h : mS M m) : mln M (m + 1) = 240 := h.2.2.2.2.1
theorem mS.n3 {M : mM} {m : Nat} (h : mS M m) : ¬ mr M m 3 = 0 := by rw [h.f3]; omega
/-- kind -/
theorem mS.f5 {M : mM} {m : Nat} (h : mS M m) : mr M m 5 = m + 2 := h.2.2.2.2.2.1
theorem mS.k2 {M : mM} {m : Nat} (h : mS M m) : mkd M (m + 2) = 1 := h.2.2.2.2.2.2.1
theorem mS.l2 {M : mM} {m : Nat} (h : mS M m) : mln M (m + 2) = 241 := h.2.2.2.2.2.2.2.1
theorem mS.n5 {M : mM} {m : Nat} (h : mS M m) : ¬ mr M m 5 = 0 := by rw [h.f5]; omega
/-- start -/
theorem mS.f6 {M : mM} {m : Nat} (h : mS M m) : mr M m 6 = m + 3 := h.2.2.2.2.2.2.2.2.1
theorem mS.k3 {M : mM} {m : Nat} (h : mS M m) : mkd M (m + 3) = 1 := h.2.2.2.2.2.2.2.2.2.1
theorem mS.l3 {M : mM} {m : Nat} (h : mS M m) : mln M (m + 3) = 241 := h.2.2.2.2.2.2.2.2.2.2.1
theorem mS.n6 {M : mM} {m : Nat} (h : mS M m) : ¬ mr M m 6 = 0 := by rw [h.f6]; omega
/-- end -/
theorem mS.f7 {M : mM} {m : Nat} (h : mS M m) : mr M m 7 = m + 4 := h.2.2.2.2.2.2.2.2.2.2.2.1
theorem mS.k4 {M : mM} {m : Nat} (h : mS M m) : mkd M (m + 4) = 1 := h.2.2.2.2.2.2.2.2.2.2.2.2.1
theorem mS.l4 {M : mM} {m : Nat} (h : mS M m) : mln M (m + 4) = 241 := h.2.2.2.2.2.2.2.2.2.2.2.2.2.1
theorem mS.n7 {M : mM} {m : Nat} (h : mS M m) : ¬ mr M m 7 = 0 := by rw [h.f7]; omega
/-- variables -/
theorem mS.f9 {M : mM} {m : Nat} (h : mS M m) : mr M m 9 = m + 5 := h.2.2.2.2.2.2.2.2.2.2.2.2.2.2.1
theorem mS.k5 {M : mM} {m : Nat} (h : mS M m) : mkd M (m + 5) = 1 := h.2.2.2.2.2.2.2.2.2.2.2.2.2.2.2.1
theorem mS.l5 {M : mM} {m : Nat} (h : mS M m) : mln M (m + 5) = 3 := h.2.2.2.2.2.2.2.2.2.2.2.2.2.2.2.2.1
theorem mS.n9 {M : mM} {m : Nat} (h : mS M m) : ¬ mr M m 9 = 0 := by rw [h.f9]; omega
/-- variableName -/
theorem mS.f10 {M : mM} {m : Nat} (h : mS M m) : mr M m 10 = m + 6 := h.2.2.2.2.2.2.2.2.2.2.2.2.2.2.2.2.2.1
theorem mS.k6 {M : mM} {m : Nat} (h : mS M m) : mkd M (m + 6) = 2 := h.2.2.2.2.2.2.2.2.2.2.2.2.2.2.2.2.2.2.1
theorem mS.l6 {M : mM} {m : Nat} (h : mS M m) : mln M (m + 6) = 144 := h.2.2.2.2.2.2.2.2.2.2.2.2.2.2.2.2.2.2.2.1
theorem mS.n10 {M : mM} {m : Nat} (h : mS M m) : ¬ mr M m 10 = 0 := by rw [h.f10]; omega
/-- variableNameSize -/
theorem mS.f11 {M : mM} {m : Nat} (h : mS M m) : mr M m 11 = m + 7 := h.2.2.2.2.2.2.2.2.2.2.2.2.2.2.2.2.2.2.2.2.1
theorem mS.k7 {M : mM} {m : Nat} (h : mS M m) : mkd M (m + 7) = 1 := h.2.2.2.2.2.2.2.2.2.2.2.2.2.2.2.2.2.2.2.2.2.1
theorem mS.l7 {M : mM} {m : Nat} (h : mS M m) : mln M (m + 7) = 24 := h.2.2.2.2.2.2.2.2.2.2.2.2.2.2.2.2.2.2.2.2.2.2.1
theorem mS.n11 {M : mM} {m : Nat} (h : mS M m) : ¬ mr M m 11 = 0 := by rw [h.f11]; omega
/-- variable -/
theorem mS.f12 {M : mM} {m : Nat} (h : mS M m) : mr M m 12 = m + 8 := h.2.2.2.2.2.2.2.2.2.2.2.2.2.2.2.2.2.2.2.2.2.2.2.1
theorem mS.k8 {M : mM} {m : Nat} (h : mS M m) : mkd M (m + 8) = 2 := h.2.2.2.2.2.2.2.2.2.2.2.2.2.2.2.2.2.2.2.2.2.2.2.2.1
theorem mS.l8 {M : mM} {m : Nat} (h : mS M m) : mln M (m + 8) = 960 := h.2.2.2.2.2.2.2.2.2.2.2.2.2.2.2.2.2.2.2.2.2.2.2.2.2.1
theorem mS.n12 {M : mM} {m : Nat} (h : mS M m) : ¬ mr M m 12 = 0 := by rw [h.f12]; omega
/-- variableSize -/
theorem mS.f13 {M : mM} {m : Nat} (h : mS M m) : mr M m 13 = m + 9 := h.2.2.2.2.2.2.2.2.2.2.2.2.2.2.2.2.2.2.2.2.2.2.2.2.2.2.1
theorem mS.k9 {M : mM} {m : Nat} (h : mS M m) : mkd M (m + 9) = 1 := h.2.2.2.2.2.2.2.2.2.2.2.2.2.2.2.2.2.2.2.2.2.2.2.2.2.2.2.1
theorem mS.l9 {M : mM} {m : Nat} (h : mS M m) : mln M (m + 9) = 24 := h.2.2.2.2.2.2.2.2.2.2.2.2.2.2.2.2.2.2.2.2.2.2.2.2.2.2.2.2.1
theorem mS.n13 {M : mM} {m : Nat} (h : mS M m) : ¬ mr M m 13 = 0 := by rw [h.f13]; omega
/-- positions -/
theorem mS.f14 {M : mM} {m : Nat} (h : mS M m) : mr M m 14 = m + 10 := h.2.2.2.2.2.2.2.2.2.2.2.2.2.2.2.2.2.2.2.2.2.2.2.2.2.2.2.2.2.1
theorem mS.k10 {M : mM} {m : Nat} (h : mS M m) : mkd M (m + 10) = 1 := h.2.2.2.2.2.2.2.2.2.2.2.2.2.2.2.2.2.2.2.2.2.2.2.2.2.2.2.2.2.2.1
theorem mS.l10 {M : mM} {m : Nat} (h : mS M m) : mln M (m + 10) = 3 := h.2.2.2.2.2.2.2.2.2.2.2.2.2.2.2.2.2.2.2.2.2.2.2.2.2.2.2.2.2.2.2.1
theorem mS.n14 {M : mM} {m : Nat} (h : mS M m) : ¬ mr M m 14 = 0 := by rw [h.f14]; omega
/-- position -/
theorem mS.f15 {M : mM} {m : Nat} (h : mS M m) : mr M m 15 = m + 11 := h.2.2.2.2.2.2.2.2.2.2.2.2.2.2.2.2.2.2.2.2.2.2.2.2.2.2.2.2.2.2.2.2.1
theorem mS.k11 {M : mM} {m : Nat} (h : mS M m) : mkd M (m + 11) = 2 := h.2.2.2.2.2.2.2.2.2.2.2.2.2.2.2.2.2.2.2.2.2.2.2.2.2.2.2.2.2.2.2.2.2.1
theorem mS.l11 {M : mM} {m : Nat} (h : mS M m) : mln M (m + 11) = 1080 := h.2.2.2.2.2.2.2.2.2.2.2.2.2.2.2.2.2.2.2.2.2.2.2.2.2.2.2.2.2.2.2.2.2.2.1
theorem mS.n15 {M : mM} {m : Nat} (h : mS M m) : ¬ mr M m 15 = 0 := by rw [h.f15]; omega
/-- positionSize -/
theorem mS.f16 {M : mM} {m : Nat} (h : mS M m) : mr M m 16 = m + 12 := h.2.2.2.2.2.2.2.2.2.2.2.2.2.2.2.2.2.2.2.2.2.2.2.2.2.2.2.2.2.2.2.2.2.2.2.1
theorem mS.k12 {M : mM} {m : Nat} (h : mS M m) : mkd M (m + 12) = 1 := h.2.2.2.2.2.2.2.2.2.2.2.2.2.2.2.2.2.2.2.2.2.2.2.2.2.2.2.2.2.2.2.2.2.2.2.2.1
theorem mS.l12 {M : mM} {m : Nat} (h : mS M m) : mln M (m + 12) = 27 := h.2.2.2.2.2.2.2.2.2.2.2.2.2.2.2.2.2.2.2.2.2.2.2.2.2.2.2.2.2.2.2.2.2.2.2.2.2.1
theorem mS.n16 {M : mM} {m : Nat} (h : mS M m) : ¬ mr M m 16 = 0 := by rw [h.f16]; omega
/-- files -/
theorem mS.f17 {M : mM} {m : Nat} (h : mS M m) : mr M m 17 = m + 13 := h.2.2.2.2.2.2.2.2.2.2.2.2.2.2.2.2.2.2.2.2.2.2.2.2.2.2.2.2.2.2.2.2.2.2.2.2.2.2.1
theorem mS.k13 {M : mM} {m : Nat} (h : mS M m) : mkd M (m + 13) = 1 := h.2.2.2.2.2.2.2.2.2.2.2.2.2.2.2.2.2.2.2.2.2.2.2.2.2.2.2.2.2.2.2.2.2.2.2.2.2.2.2.1
theorem mS.l13 {M : mM} {m : Nat} (h : mS M m) : mln M (m + 13) = 2 := h.2.2.2.2.2.2.2.2.2.2.2.2.2.2.2.2.2.2.2.2.2.2.2.2.2.2.2.2.2.2.2.2.2.2.2.2.2.2.2.2.1
theorem mS.n17 {M : mM} {m : Nat} (h : mS M m) : ¬ mr M m 17 = 0 := by rw [h.f17]; omega
/-- fileName -/
theorem mS.f18 {M : mM} {m : Nat} (h : mS M m) : mr M m 18 = m + 14 := h.2.2.2.2.2.2.2.2.2.2.2.2.2.2.2.2.2.2.2.2.2.2.2.2.2.2.2.2.2.2.2.2.2.2.2.2.2.2.2.2.2.1
theorem mS.k14 {M : mM} {m : Nat} (h : mS M m) : mkd M (m + 14) = 2 := h.2.2.2.2.2.2.2.2.2.2.2.2.2.2.2.2.2.2.2.2.2.2.2.2.2.2.2.2.2.2.2.2.2.2.2.2.2.2.2.2.2.2.1
theorem mS.l14 {M : mM} {m : Nat} (h : mS M m) : mln M (m + 14) = 128 := h.2.2.2.2.2.2.2.2.2.2.2.2.2.2.2.2.2.2.2.2.2.2.2.2.2.2.2.2.2.2.2.2.2.2.2.2.2.2.2.2.2.2.2.1
theorem mS.n18 {M : mM} {m : Nat} (h : mS M m) : ¬ mr M m 18 = 0 := by rw [h.f18]; omega
/-- fileNameSize -/
theorem mS.f19 {M : mM} {m : Nat} (h : mS M m) : mr M m 19 = m + 15 := h.2.2.2.2.2.2.2.2.2.2.2.2.2.2.2.2.2.2.2.2.2.2.2.2.2.2.2.2.2.2.2.2.2.2.2.2.2.2.2.2.2.2.2.2.1
theorem mS.k15 {M : mM} {m : Nat} (h : mS M m) : mkd M (m + 15) = 1 := h.2.2.2.2.2.2.2.2.2.2.2.2.2.2.2.2.2.2.2.2.2.2.2.2.2.2.2.2.2.2.2.2.2.2.2.2.2.2.2.2.2.2.2.2.2.1
theorem mS.l15 {M : mM} {m : Nat} (h : mS M m) : mln M (m + 15) = 16 := h.2.2.2.2.2.2.2.2.2.2.2.2.2.2.2.2.2.2.2.2.2.2.2.2.2.2.2.2.2.2.2.2.2.2.2.2.2.2.2.2.2.2.2.2.2.2.1
theorem mS.n19 {M : mM} {m : Nat} (h : mS M m) : ¬ mr M m 19 = 0 := by rw [h.f19]; omega
/-- file -/
theorem mS.f20 {M : mM} {m : Nat} (h : mS M m) : mr M m 20 = m + 16 := h.2.2.2.2.2.2.2.2.2.2.2.2.2.2.2.2.2.2.2.2.2.2.2.2.2.2.2.2.2.2.2.2.2.2.2.2.2.2.2.2.2.2.2.2.2.2.2.1
theorem mS.k16 {M : mM} {m : Nat} (h : mS M m) : mkd M (m + 16) = 2 := h.2.2.2.2.2.2.2.2.2.2.2.2.2.2.2.2.2.2.2.2.2.2.2.2.2.2.2.2.2.2.2.2.2.2.2.2.2.2.2.2.2.2.2.2.2.2.2.2.1
theorem mS.l16 {M : mM} {m : Nat} (h : mS M m) : mln M (m + 16) = 1280 := h.2.2.2.2.2.2.2.2.2.2.2.2.2.2.2.2.2.2.2.2.2.2.2.2.2.2.2.2.2.2.2.2.2.2.2.2.2.2.2.2.2.2.2.2.2.2.2.2.2.1
theorem mS.n20 {M : mM} {m : Nat} (h : mS M m) : ¬ mr M m 20 = 0 := by rw [h.f20]; omega
/-- fileSize -/
theorem mS.f21 {M : mM} {m : Nat} (h : mS M m) : mr M m 21 = m + 17 := h.2.2.2.2.2.2.2.2.2.2.2.2.2.2.2.2.2.2.2.2.2.2.2.2.2.2.2.2.2.2.2.2.2.2.2.2.2.2.2.2.2.2.2.2.2.2.2.2.2.2.1
theorem mS.k17 {M : mM} {m : Nat} (h : mS M m) : mkd M (m + 17) = 1 := h.2.2.2.2.2.2.2.2.2.2.2.2.2.2.2.2.2.2.2.2.2.2.2.2.2.2.2.2.2.2.2.2.2.2.2.2.2.2.2.2.2.2.2.2.2.2.2.2.2.2.2.1
theorem mS.l17 {M : mM} {m : Nat} (h : mS M m) : mln M (m + 17) = 16 := h.2.2.2.2.2.2.2.2.2.2.2.2.2.2.2.2.2.2.2.2.2.2.2.2.2.2.2.2.2.2.2.2.2.2.2.2.2.2.2.2.2.2.2.2.2.2.2.2.2.2.2.2.1
theorem mS.n21 {M : mM} {m : Nat} (h : mS M m) : ¬ mr M m 21 = 0 := by rw [h.f21]; omega
/-- status -/
theorem mS.f22 {M : mM} {m : Nat} (h : mS M m) : mr M m 22 = m + 18 := h.2.2.2.2.2.2.2.2.2.2.2.2.2.2.2.2.2.2.2.2.2.2.2.2.2.2.2.2.2.2.2.2.2.2.2.2.2.2.2.2.2.2.2.2.2.2.2.2.2.2.2.2.2.1
theorem mS.k18 {M : mM} {m : Nat} (h : mS M m) : mkd M (m + 18) = 1 := h.2.2.2.2.2.2.2.2.2.2.2.2.2.2.2.2.2.2.2.2.2.2.2.2.2.2.2.2.2.2.2.2.2.2.2.2.2.2.2.2.2.2.2.2.2.2.2.2.2.2.2.2.2.2.1
theorem mS.l18 {M : mM} {m : Nat} (h : mS M m) : mln M (m + 18) = 2 := h.2.2.2.2.2.2.2.2.2.2.2.2.2.2.2.2.2.2.2.2.2.2.2.2.2.2.2.2.2.2.2.2.2.2.2.2.2.2.2.2.2.2.2.2.2.2.2.2.2.2.2.2.2.2.2.1
theorem mS.n22 {M : mM} {m : Nat} (h : mS M m) : ¬ mr M m 22 = 0 := by rw [h.f22]; omega
/-- outputs -/
theorem mS.f23 {M : mM} {m : Nat} (h : mS M m) : mr M m 23 = m + 19 := h.2.2.2.2.2.2.2.2.2.2.2.2.2.2.2.2.2.2.2.2.2.2.2.2.2.2.2.2.2.2.2.2.2.2.2.2.2.2.2.2.2.2.2.2.2.2.2.2.2.2.2.2.2.2.2.2.1
theorem mS.k19 {M : mM} {m : Nat} (h : mS M m) : mkd M (m + 19) = 1 := h.2.2.2.2.2.2.2.2.2.2.2.2.2.2.2.2.2.2.2.2.2.2.2.2.2.2.2.2.2.2.2.2.2.2.2.2.2.2.2.2.2.2.2.2.2.2.2.2.2.2.2.2.2.2.2.2.2.1
theorem mS.l19 {M : mM} {m : Nat} (h : mS M m) : mln M (m + 19) = 2 := h.2.2.2.2.2.2.2.2.2.2.2.2.2.2.2.2.2.2.2.2.2.2.2.2.2.2.2.2.2.2.2.2.2.2.2.2.2.2.2.2.2.2.2.2.2.2.2.2.2.2.2.2.2.2.2.2.2.2.1
theorem mS.n23 {M : mM} {m : Nat} (h : mS M m) : ¬ mr M m 23 = 0 := by rw [h.f23]; omega
/-- output -/
theorem mS.f24 {M : mM} {m : Nat} (h : mS M m) : mr M m 24 = m + 20 := h.2.2.2.2.2.2.2.2.2.2.2.2.2.2.2.2.2.2.2.2.2.2.2.2.2.2.2.2.2.2.2.2.2.2.2.2.2.2.2.2.2.2.2.2.2.2.2.2.2.2.2.2.2.2.2.2.2.2.2.1
theorem mS.k20 {M : mM} {m : Nat} (h : mS M m) : mkd M (m + 20) = 2 := h.2.2.2.2.2.2.2.2.2.2.2.2.2.2.2.2.2.2.2.2.2.2.2.2.2.2.2.2.2.2.2.2.2.2.2.2.2.2.2.2.2.2.2.2.2.2.2.2.2.2.2.2.2.2.2.2.2.2.2.2.1
theorem mS.l20 {M : mM} {m : Nat} (h : mS M m) : mln M (m + 20) = 480 := h.2.2.2.2.2.2.2.2.2.2.2.2.2.2.2.2.2.2.2.2.2.2.2.2.2.2.2.2.2.2.2.2.2.2.2.2.2.2.2.2.2.2.2.2.2.2.2.2.2.2.2.2.2.2.2.2.2.2.2.2.2.1
theorem mS.n24 {M : mM} {m : Nat} (h : mS M m) : ¬ mr M m 24 = 0 := by rw [h.f24]; omega
/-- made -/
theorem mS.f28 {M : mM} {m : Nat} (h : mS M m) : mr M m 28 = m + 21 := h.2.2.2.2.2.2.2.2.2.2.2.2.2.2.2.2.2.2.2.2.2.2.2.2.2.2.2.2.2.2.2.2.2.2.2.2.2.2.2.2.2.2.2.2.2.2.2.2.2.2.2.2.2.2.2.2.2.2.2.2.2.2.1
theorem mS.k21 {M : mM} {m : Nat} (h : mS M m) : mkd M (m + 21) = 2 := h.2.2.2.2.2.2.2.2.2.2.2.2.2.2.2.2.2.2.2.2.2.2.2.2.2.2.2.2.2.2.2.2.2.2.2.2.2.2.2.2.2.2.2.2.2.2.2.2.2.2.2.2.2.2.2.2.2.2.2.2.2.2.2.1
theorem mS.l21 {M : mM} {m : Nat} (h : mS M m) : mln M (m + 21) = 41 := h.2.2.2.2.2.2.2.2.2.2.2.2.2.2.2.2.2.2.2.2.2.2.2.2.2.2.2.2.2.2.2.2.2.2.2.2.2.2.2.2.2.2.2.2.2.2.2.2.2.2.2.2.2.2.2.2.2.2.2.2.2.2.2.2.1
theorem mS.n28 {M : mM} {m : Nat} (h : mS M m) : ¬ mr M m 28 = 0 := by rw [h.f28]; omega
/-- plain -/
theorem mS.f29 {M : mM} {m : Nat} (h : mS M m) : mr M m 29 = m + 22 := h.2.2.2.2.2.2.2.2.2.2.2.2.2.2.2.2.2.2.2.2.2.2.2.2.2.2.2.2.2.2.2.2.2.2.2.2.2.2.2.2.2.2.2.2.2.2.2.2.2.2.2.2.2.2.2.2.2.2.2.2.2.2.2.2.2.1
theorem mS.k22 {M : mM} {m : Nat} (h : mS M m) : mkd M (m + 22) = 3 := h.2.2.2.2.2.2.2.2.2.2.2.2.2.2.2.2.2.2.2.2.2.2.2.2.2.2.2.2.2.2.2.2.2.2.2.2.2.2.2.2.2.2.2.2.2.2.2.2.2.2.2.2.2.2.2.2.2.2.2.2.2.2.2.2.2.2.1
theorem mS.l22 {M : mM} {m : Nat} (h : mS M m) : mln M (m + 22) = 41 := h.2.2.2.2.2.2.2.2.2.2.2.2.2.2.2.2.2.2.2.2.2.2.2.2.2.2.2.2.2.2.2.2.2.2.2.2.2.2.2.2.2.2.2.2.2.2.2.2.2.2.2.2.2.2.2.2.2.2.2.2.2.2.2.2.2.2.2.1
theorem mS.n29 {M : mM} {m : Nat} (h : mS M m) : ¬ mr M m 29 = 0 := by rw [h.f29]; omega
/-- field -/
theorem mS.f34 {M : mM} {m : Nat} (h : mS M m) : mr M m 34 = m + 23 := h.2.2.2.2.2.2.2.2.2.2.2.2.2.2.2.2.2.2.2.2.2.2.2.2.2.2.2.2.2.2.2.2.2.2.2.2.2.2.2.2.2.2.2.2.2.2.2.2.2.2.2.2.2.2.2.2.2.2.2.2.2.2.2.2.2.2.2.2.1
theorem mS.k23 {M : mM} {m : Nat} (h : mS M m) : mkd M (m + 23) = 2 := h.2.2.2.2.2.2.2.2.2.2.2.2.2.2.2.2.2.2.2.2.2.2.2.2.2.2.2.2.2.2.2.2.2.2.2.2.2.2.2.2.2.2.2.2.2.2.2.2.2.2.2.2.2.2.2.2.2.2.2.2.2.2.2.2.2.2.2.2.2.1
theorem mS.l23 {M : mM} {m : Nat} (h : mS M m) : mln M (m + 23) = 680 := h.2.2.2.2.2.2.2.2.2.2.2.2.2.2.2.2.2.2.2.2.2.2.2.2.2.2.2.2.2.2.2.2.2.2.2.2.2.2.2.2.2.2.2.2.2.2.2.2.2.2.2.2.2.2.2.2.2.2.2.2.2.2.2.2.2.2.2.2.2.2.1
theorem mS.n34 {M : mM} {m : Nat} (h : mS M m) : ¬ mr M m 34 = 0 := by rw [h.f34]; omega
/-- fieldSize -/
theorem mS.f35 {M : mM} {m : Nat} (h : mS M m) : mr M m 35 = m + 24 := h.2.2.2.2.2.2.2.2.2.2.2.2.2.2.2.2.2.2.2.2.2.2.2.2.2.2.2.2.2.2.2.2.2.2.2.2.2.2.2.2.2.2.2.2.2.2.2.2.2.2.2.2.2.2.2.2.2.2.2.2.2.2.2.2.2.2.2.2.2.2.2.1
theorem mS.k24 {M : mM} {m : Nat} (h : mS M m) : mkd M (m + 24) = 1 := h.2.2.2.2.2.2.2.2.2.2.2.2.2.2.2.2.2.2.2.2.2.2.2.2.2.2.2.2.2.2.2.2.2.2.2.2.2.2.2.2.2.2.2.2.2.2.2.2.2.2.2.2.2.2.2.2.2.2.2.2.2.2.2.2.2.2.2.2.2.2.2.2.1
theorem mS.l24 {M : mM} {m : Nat} (h : mS M m) : mln M (m + 24) = 17 := h.2.2.2.2.2.2.2.2.2.2.2.2.2.2.2.2.2.2.2.2.2.2.2.2.2.2.2.2.2.2.2.2.2.2.2.2.2.2.2.2.2.2.2.2.2.2.2.2.2.2.2.2.2.2.2.2.2.2.2.2.2.2.2.2.2.2.2.2.2.2.2.2.2.1
theorem mS.n35 {M : mM} {m : Nat} (h : mS M m) : ¬ mr M m 35 = 0 := by rw [h.f35]; omega
/-- input -/
theorem mS.f37 {M : mM} {m : Nat} (h : mS M m) : mr M m 37 = m + 25 := h.2.2.2.2.2.2.2.2.2.2.2.2.2.2.2.2.2.2.2.2.2.2.2.2.2.2.2.2.2.2.2.2.2.2.2.2.2.2.2.2.2.2.2.2.2.2.2.2.2.2.2.2.2.2.2.2.2.2.2.2.2.2.2.2.2.2.2.2.2.2.2.2.2.2.1
theorem mS.k25 {M : mM} {m : Nat} (h : mS M m) : mkd M (m + 25) = 2 := h.2.2.2.2.2.2.2.2.2.2.2.2.2.2.2.2.2.2.2.2.2.2.2.2.2.2.2.2.2.2.2.2.2.2.2.2.2.2.2.2.2.2.2.2.2.2.2.2.2.2.2.2.2.2.2.2.2.2.2.2.2.2.2.2.2.2.2.2.2.2.2.2.2.2.2.1
theorem mS.l25 {M : mM} {m : Nat} (h : mS M m) : mln M (m + 25) = 240 := h.2.2.2.2.2.2.2.2.2.2.2.2.2.2.2.2.2.2.2.2.2.2.2.2.2.2.2.2.2.2.2.2.2.2.2.2.2.2.2.2.2.2.2.2.2.2.2.2.2.2.2.2.2.2.2.2.2.2.2.2.2.2.2.2.2.2.2.2.2.2.2.2.2.2.2.2.1
theorem mS.n37 {M : mM} {m : Nat} (h : mS M m) : ¬ mr M m 37 = 0 := by rw [h.f37]; omega
/-- put -/
theorem mS.f39 {M : mM} {m : Nat} (h : mS M m) : mr M m 39 = m + 26 := h.2.2.2.2.2.2.2.2.2.2.2.2.2.2.2.2.2.2.2.2.2.2.2.2.2.2.2.2.2.2.2.2.2.2.2.2.2.2.2.2.2.2.2.2.2.2.2.2.2.2.2.2.2.2.2.2.2.2.2.2.2.2.2.2.2.2.2.2.2.2.2.2.2.2.2.2.2.1
theorem mS.k26 {M : mM} {m : Nat} (h : mS M m) : mkd M (m + 26) = 2 := h.2.2.2.2.2.2.2.2.2.2.2.2.2.2.2.2.2.2.2.2.2.2.2.2.2.2.2.2.2.2.2.2.2.2.2.2.2.2.2.2.2.2.2.2.2.2.2.2.2.2.2.2.2.2.2.2.2.2.2.2.2.2.2.2.2.2.2.2.2.2.2.2.2.2.2.2.2.2.1
theorem mS.l26 {M : mM} {m : Nat} (h : mS M m) : mln M (m + 26) = 241 := h.2.2.2.2.2.2.2.2.2.2.2.2.2.2.2.2.2.2.2.2.2.2.2.2.2.2.2.2.2.2.2.2.2.2.2.2.2.2.2.2.2.2.2.2.2.2.2.2.2.2.2.2.2.2.2.2.2.2.2.2.2.2.2.2.2.2.2.2.2.2.2.2.2.2.2.2.2.2.2.1
theorem mS.n39 {M : mM} {m : Nat} (h : mS M m) : ¬ mr M m 39 = 0 := by rw [h.f39]; omega
/-- lineAt -/
theorem mS.f41 {M : mM} {m : Nat} (h : mS M m) : mr M m 41 = m + 27 := h.2.2.2.2.2.2.2.2.2.2.2.2.2.2.2.2.2.2.2.2.2.2.2.2.2.2.2.2.2.2.2.2.2.2.2.2.2.2.2.2.2.2.2.2.2.2.2.2.2.2.2.2.2.2.2.2.2.2.2.2.2.2.2.2.2.2.2.2.2.2.2.2.2.2.2.2.2.2.2.2.1
theorem mS.k27 {M : mM} {m : Nat} (h : mS M m) : mkd M (m + 27) = 1 := h.2.2.2.2.2.2.2.2.2.2.2.2.2.2.2.2.2.2.2.2.2.2.2.2.2.2.2.2.2.2.2.2.2.2.2.2.2.2.2.2.2.2.2.2.2.2.2.2.2.2.2.2.2.2.2.2.2.2.2.2.2.2.2.2.2.2.2.2.2.2.2.2.2.2.2.2.2.2.2.2.2.1
theorem mS.l27 {M : mM} {m : Nat} (h : mS M m) : mln M (m + 27) = 241 := h.2.2.2.2.2.2.2.2.2.2.2.2.2.2.2.2.2.2.2.2.2.2.2.2.2.2.2.2.2.2.2.2.2.2.2.2.2.2.2.2.2.2.2.2.2.2.2.2.2.2.2.2.2.2.2.2.2.2.2.2.2.2.2.2.2.2.2.2.2.2.2.2.2.2.2.2.2.2.2.2.2.2.1
theorem mS.n41 {M : mM} {m : Nat} (h : mS M m) : ¬ mr M m 41 = 0 := by rw [h.f41]; omega
/-- lineSize -/
theorem mS.f42 {M : mM} {m : Nat} (h : mS M m) : mr M m 42 = m + 28 := h.2.2.2.2.2.2.2.2.2.2.2.2.2.2.2.2.2.2.2.2.2.2.2.2.2.2.2.2.2.2.2.2.2.2.2.2.2.2.2.2.2.2.2.2.2.2.2.2.2.2.2.2.2.2.2.2.2.2.2.2.2.2.2.2.2.2.2.2.2.2.2.2.2.2.2.2.2.2.2.2.2.2.2.1
theorem mS.k28 {M : mM} {m : Nat} (h : mS M m) : mkd M (m + 28) = 1 := h.2.2.2.2.2.2.2.2.2.2.2.2.2.2.2.2.2.2.2.2.2.2.2.2.2.2.2.2.2.2.2.2.2.2.2.2.2.2.2.2.2.2.2.2.2.2.2.2.2.2.2.2.2.2.2.2.2.2.2.2.2.2.2.2.2.2.2.2.2.2.2.2.2.2.2.2.2.2.2.2.2.2.2.2.1
theorem mS.l28 {M : mM} {m : Nat} (h : mS M m) : mln M (m + 28) = 241 := h.2.2.2.2.2.2.2.2.2.2.2.2.2.2.2.2.2.2.2.2.2.2.2.2.2.2.2.2.2.2.2.2.2.2.2.2.2.2.2.2.2.2.2.2.2.2.2.2.2.2.2.2.2.2.2.2.2.2.2.2.2.2.2.2.2.2.2.2.2.2.2.2.2.2.2.2.2.2.2.2.2.2.2.2.2
theorem mS.n42 {M : mM} {m : Nat} (h : mS M m) : ¬ mr M m 42 = 0 := by rw [h.f42]; omega
/-- whose a place of the reference is: a number for each part of its state -/
def own : Nat → Nat → Nat
  | 0, k => 100 + k
  | 1, _ => 1
  | 2, _ => 2
  | 3, _ => 2
  | 4, _ => 2
  | 5, k => 10 + k
  | 6, k => 10 + k / 48
  | 7, k => 10 + k / 8
  | 8, k => 10 + k / 320
  | 9, k => 10 + k / 8
  | 10, k => 20 + k
  | 11, k => 20 + k / 360
  | 12, k => 20 + k / 9
  | 13, k => 30 + k
  | 14, k => 30 + k / 64
  | 15, k => 30 + k / 8
  | 16, k => 30 + k / 640
  | 17, k => 30 + k / 8
  | 18, k => 40 + k
  | 19, k => 50 + k
  | 20, k => 50 + k / 240
  | 21, _ => 60
  | 22, _ => 60
  | 23, k => 61 + k / 640
  | 24, k => 61 + k / 16
  | 25, _ => 63
  | 26, _ => 64
  | _, _ => 65
/-- only numbers have changed -/
def ieq (M M' : mM) : Prop := (∀ x, mkd M' x = mkd M x) ∧ (∀ x, mln M' x = mln M x) ∧ (∀ x k, mr M' x k = mr M x k) ∧ (∀ x k, mj M' x k = mj M x k) ∧ msz M' = msz M ∧ mns M' = mns M
/-- only the parts S of the reference have changed -/
def fm (m : Nat) (S : List Nat) (M M' : mM) : Prop := ieq M M' ∧ (∀ x, (x < m ∨ m + 29 ≤ x) → ∀ k, mi M' x k = mi M x k) ∧ ∀ a k, a < 29 → S.contains (own a k) = false → mi M' (m + a) k = mi M (m + a) k
theorem ieq.refl (M : mM) : ieq M M := ⟨fun _ => rfl, fun _ => rfl, fun _ _ => rfl, fun _ _ => rfl, rfl, rfl⟩
theorem ieq.trans {M M' M'' : mM} (h : ieq M M') (g : ieq M' M'') : ieq M M'' := ⟨fun x => (g.1 x).trans (h.1 x), fun x => (g.2.1 x).trans (h.2.1 x), fun x k => (g.2.2.1 x k).trans (h.2.2.1 x k), fun x k => (g.2.2.2.1 x k).trans (h.2.2.2.1 x k), g.2.2.2.2.1.trans h.2.2.2.2.1, g.2.2.2.2.2.trans h.2.2.2.2.2⟩
theorem fm.refl (m : Nat) (S : List Nat) (M : mM) : fm m S M M := ⟨ieq.refl M, fun _ _ _ => rfl, fun _ _ _ _ => rfl⟩
theorem fm.trans {m : Nat} {S : List Nat} {M M' M'' : mM} (h : fm m S M M') (g : fm m S M' M'') : fm m S M M'' := ⟨h.1.trans g.1, fun x hx k => (g.2.1 x hx k).trans (h.2.1 x hx k), fun a k ha hs => (g.2.2 a k ha hs).trans (h.2.2 a k ha hs)⟩
theorem fm.w {m : Nat} {S S' : List Nat} {M M' : mM} (h : fm m S M M') (hs : S.all (fun x => S'.contains x) = true) : fm m S' M M' := ⟨h.1, h.2.1, fun a k ha hk => h.2.2 a k ha (ag_sub hs _ hk)⟩
theorem mS.mv {m : Nat} {M M' : mM} (h : mS M m) (f : ieq M M') : mS M' m := by
  unfold mS at h ⊢
  simp only [f.1, f.2.1, f.2.2.1]
  exact h
/-- one number of the reference has changed -/
theorem fm_i {m a k : Nat} {v : Int32} {M M' : mM} (q : M' = msi M (m + a) k v) (ha : a < 29) {S : List Nat} (hS : S.contains (own a k) = true) : fm m S M M' := by
  subst q
  refine ⟨⟨fun _ => rfl, fun _ => rfl, fun _ _ => rfl, fun _ _ => rfl, rfl, rfl⟩, fun x hx j => i_ia (by omega), fun a' k' h1 h2 => i_in (fun z => ?_)⟩
  have e1 : a' = a := by omega
  rw [e1, z.2, hS] at h2
  exact absurd h2 (by decide)
theorem fm_o {m k : Nat} {v : Int32} {M M' : mM} (q : M' = msi M m k v) {S : List Nat} (hS : S.contains (100 + k) = true) : fm m S M M' := fm_i (a := 0) q (by omega) hS
/-- a scalar field -/
theorem fm.fld {m : Nat} {S : List Nat} {M M' : mM} (h : fm m S M M') {k : Nat} (hk : S.contains (100 + k) = false) : mi M' m k = mi M m k := h.2.2 0 k (by omega) hk
theorem fm.low {m : Nat} {S : List Nat} {M M' : mM} (h : fm m S M M') {x : Nat} (hx : x < m ∨ m + 29 ≤ x) : ceq M M' x := ⟨h.1.1 x, h.1.2.1 x, h.2.1 x hx, h.1.2.2.1 x, h.1.2.2.2.1 x⟩
