/-! READS BEHIND WRITES of the small memory; frames -/
section MEM
variable {M : mM} {a b k j kd n c : Nat}
theorem kd_i {v : Int32} : mkd (msi M a k v) b = mkd M b := rfl
theorem kd_r {v : Nat} : mkd (msr M a k v) b = mkd M b := rfl
theorem kd_j {v : Int64} : mkd (msj M a k v) b = mkd M b := rfl
theorem ln_i {v : Int32} : mln (msi M a k v) b = mln M b := rfl
theorem ln_r {v : Nat} : mln (msr M a k v) b = mln M b := rfl
theorem ln_j {v : Int64} : mln (msj M a k v) b = mln M b := rfl
theorem r_i {v : Int32} : mr (msi M a k v) b j = mr M b j := rfl
theorem i_r {v : Nat} : mi (msr M a k v) b j = mi M b j := rfl
theorem i_j {v : Int64} : mi (msj M a k v) b j = mi M b j := rfl
theorem r_j {v : Int64} : mr (msj M a k v) b j = mr M b j := rfl
theorem j_i {v : Int32} : mj (msi M a k v) b j = mj M b j := rfl
theorem j_r {v : Nat} : mj (msr M a k v) b j = mj M b j := rfl
theorem sz_i {v : Int32} : msz (msi M a k v) = msz M := rfl
theorem sz_r {v : Nat} : msz (msr M a k v) = msz M := rfl
theorem sz_j {v : Int64} : msz (msj M a k v) = msz M := rfl
theorem ns_i {v : Int32} : mns (msi M a k v) = mns M := rfl
theorem ns_r {v : Nat} : mns (msr M a k v) = mns M := rfl
theorem ns_j {v : Int64} : mns (msj M a k v) = mns M := rfl
theorem i_i {v : Int32} : mi (msi M a k v) b j = if b = a ∧ j = k then v else mi M b j := rfl
theorem r_r {v : Nat} : mr (msr M a k v) b j = if b = a ∧ j = k then v else mr M b j := rfl
theorem j_j {v : Int64} : mj (msj M a k v) b j = if b = a ∧ j = k then v else mj M b j := rfl
theorem i_is {v : Int32} : mi (msi M a k v) a k = v := by simp [i_i]
theorem i_in {v : Int32} (h : ¬ (b = a ∧ j = k)) : mi (msi M a k v) b j = mi M b j := by rw [i_i, if_neg h]
theorem i_ia {v : Int32} (h : ¬ b = a) : mi (msi M a k v) b j = mi M b j := i_in fun q => h q.1
theorem i_ik {v : Int32} (h : ¬ j = k) : mi (msi M a k v) b j = mi M b j := i_in fun q => h q.2
theorem r_rs {v : Nat} : mr (msr M a k v) a k = v := by simp [r_r]
theorem r_rn {v : Nat} (h : ¬ (b = a ∧ j = k)) : mr (msr M a k v) b j = mr M b j := by rw [r_r, if_neg h]
theorem r_ra {v : Nat} (h : ¬ b = a) : mr (msr M a k v) b j = mr M b j := r_rn fun q => h q.1
theorem r_rk {v : Nat} (h : ¬ j = k) : mr (msr M a k v) b j = mr M b j := r_rn fun q => h q.2
theorem kd_n : mkd (mnw M kd n c) b = if b = msz M then kd else mkd M b := rfl
theorem ln_n : mln (mnw M kd n c) b = if b = msz M then n else mln M b := rfl
theorem i_n : mi (mnw M kd n c) b j = if b = msz M then 0 else mi M b j := by
  show (if b = msz M then (fun _ => 0) else M.2.2.1 b) j = _
  split <;> rfl
theorem r_n : mr (mnw M kd n c) b j = if b = msz M then 0 else mr M b j := by
  show (if b = msz M then (fun _ => 0) else M.2.2.2.1 b) j = _
  split <;> rfl
theorem j_n : mj (mnw M kd n c) b j = if b = msz M then 0 else mj M b j := by
  show (if b = msz M then (fun _ => 0) else M.2.2.2.2.1 b) j = _
  split <;> rfl
theorem kd_ns : mkd (mnw M kd n c) (msz M) = kd := by rw [kd_n, if_pos rfl]
theorem ln_ns : mln (mnw M kd n c) (msz M) = n := by rw [ln_n, if_pos rfl]
theorem i_ns : mi (mnw M kd n c) (msz M) j = 0 := by rw [i_n, if_pos rfl]
theorem sz_n : msz (mnw M kd n c) = msz M + 1 := rfl
theorem ns_n : mns (mnw M kd n c) = mns M + c := rfl
end MEM
/-- the cell x is the same in both -/
def ceq (M M' : mM) (x : Nat) : Prop := mkd M' x = mkd M x ∧ mln M' x = mln M x ∧ (∀ k, mi M' x k = mi M x k) ∧ (∀ k, mr M' x k = mr M x k) ∧ ∀ k, mj M' x k = mj M x k
/-- nothing but the cells of [lo, hi) has changed, and none is new -/
def fr (M M' : mM) (lo hi : Nat) : Prop := msz M' = msz M ∧ mns M' = mns M ∧ ∀ x, (x < lo ∨ hi ≤ x) → ceq M M' x
theorem ceq.rfl' (M : mM) (x : Nat) : ceq M M x := ⟨rfl, rfl, fun _ => rfl, fun _ => rfl, fun _ => rfl⟩
theorem ceq.trans {M M' M'' : mM} {x : Nat} (h : ceq M M' x) (g : ceq M' M'' x) : ceq M M'' x := ⟨g.1.trans h.1, g.2.1.trans h.2.1, fun k => (g.2.2.1 k).trans (h.2.2.1 k), fun k => (g.2.2.2.1 k).trans (h.2.2.2.1 k), fun k => (g.2.2.2.2 k).trans (h.2.2.2.2 k)⟩
theorem fr.refl (M : mM) (lo hi : Nat) : fr M M lo hi := ⟨rfl, rfl, fun x _ => ceq.rfl' M x⟩
theorem fr.trans {M M' M'' : mM} {lo hi lo' hi' : Nat} (h : fr M M' lo hi) (g : fr M' M'' lo' hi') {l u : Nat} (h1 : l ≤ lo) (h2 : hi ≤ u) (h3 : l ≤ lo') (h4 : hi' ≤ u) : fr M M'' l u := ⟨g.1.trans h.1, g.2.1.trans h.2.1, fun x hx => (h.2.2 x (by omega)).trans (g.2.2 x (by omega))⟩
theorem fr.wide {M M' : mM} {lo hi : Nat} (h : fr M M' lo hi) {l u : Nat} (h1 : l ≤ lo) (h2 : hi ≤ u) : fr M M' l u := ⟨h.1, h.2.1, fun x hx => h.2.2 x (by omega)⟩
theorem fr.then {M M' M'' : mM} {lo hi : Nat} (h : fr M M' lo hi) (g : fr M' M'' lo hi) : fr M M'' lo hi := h.trans g (Nat.le_refl _) (Nat.le_refl _) (Nat.le_refl _) (Nat.le_refl _)
theorem fr_i {M : mM} {a k : Nat} {v : Int32} {lo hi : Nat} (h1 : lo ≤ a) (h2 : a < hi) : fr M (msi M a k v) lo hi := ⟨rfl, rfl, fun x hx => ⟨rfl, rfl, fun j => i_ia (by omega), fun _ => rfl, fun _ => rfl⟩⟩
theorem fr_r {M : mM} {a k : Nat} {v : Nat} {lo hi : Nat} (h1 : lo ≤ a) (h2 : a < hi) : fr M (msr M a k v) lo hi := ⟨rfl, rfl, fun x hx => ⟨rfl, rfl, fun _ => rfl, fun j => r_ra (by omega), fun _ => rfl⟩⟩
theorem fr.room {E : mE} {M M' : mM} {lo hi c : Nat} (h : fr M M' lo hi) (hr : m_room E M c) : m_room E M' c := by
  unfold m_room at hr ⊢; rw [h.1, h.2.1]; exact hr
