/-! READS BEHIND WRITES of the small memory -/
section MEM
variable {M : mM} {a b k j kd n c : Nat}
theorem kd_i {v : Int32} : mkd (msi M a k v) b = mkd M b := rfl
theorem kd_r {v : Nat} : mkd (msr M a k v) b = mkd M b := rfl
theorem kd_j {v : Int64} : mkd (msj M a k v) b = mkd M b := rfl
theorem ln_i {v : Int32} : mln (msi M a k v) b = mln M b := rfl
theorem ln_r {v : Nat} : mln (msr M a k v) b = mln M b := rfl
theorem ln_j {v : Int64} : mln (msj M a k v) b = mln M b := rfl
theorem r_i {v : Int32} : mr (msi M a k v) b j = mr M b j := rfl
theorem i_r {v : Nat} : mi (msr M a k v) b j = mi M b j := rfl
theorem i_j {v : Int64} : mi (msj M a k v) b j = mi M b j := rfl
theorem r_j {v : Int64} : mr (msj M a k v) b j = mr M b j := rfl
theorem j_i {v : Int32} : mj (msi M a k v) b j = mj M b j := rfl
theorem j_r {v : Nat} : mj (msr M a k v) b j = mj M b j := rfl
theorem sz_i {v : Int32} : msz (msi M a k v) = msz M := rfl
theorem sz_r {v : Nat} : msz (msr M a k v) = msz M := rfl
theorem sz_j {v : Int64} : msz (msj M a k v) = msz M := rfl
theorem ns_i {v : Int32} : mns (msi M a k v) = mns M := rfl
theorem ns_r {v : Nat} : mns (msr M a k v) = mns M := rfl
theorem ns_j {v : Int64} : mns (msj M a k v) = mns M := rfl
theorem i_i {v : Int32} : mi (msi M a k v) b j = if b = a ∧ j = k then v else mi M b j := rfl
theorem r_r {v : Nat} : mr (msr M a k v) b j = if b = a ∧ j = k then v else mr M b j := rfl
theorem j_j {v : Int64} : mj (msj M a k v) b j = if b = a ∧ j = k then v else mj M b j := rfl
theorem i_is {v : Int32} : mi (msi M a k v) a k = v := by simp [i_i]
theorem i_in {v : Int32} (h : ¬ (b = a ∧ j = k)) : mi (msi M a k v) b j = mi M b j := by rw [i_i, if_neg h]
theorem r_rs {v : Nat} : mr (msr M a k v) a k = v := by simp [r_r]
theorem r_rn {v : Nat} (h : ¬ (b = a ∧ j = k)) : mr (msr M a k v) b j = mr M b j := by rw [r_r, if_neg h]
theorem kd_n : mkd (mnw M kd n c) b = if b = msz M then kd else mkd M b := rfl
theorem ln_n : mln (mnw M kd n c) b = if b = msz M then n else mln M b := rfl
theorem i_n : mi (mnw M kd n c) b j = if b = msz M then 0 else mi M b j := by
  show (if b = msz M then (fun _ => 0) else M.2.2.1 b) j = _
  split <;> rfl
theorem r_n : mr (mnw M kd n c) b j = if b = msz M then 0 else mr M b j := by
  show (if b = msz M then (fun _ => 0) else M.2.2.2.1 b) j = _
  split <;> rfl
theorem sz_n : msz (mnw M kd n c) = msz M + 1 := rfl
theorem ns_n : mns (mnw M kd n c) = mns M + c := rfl
end MEM
/-- a text lies at a: its characters at q, room for cap, n of them -/
def tX (M : mM) (a q cap n : Nat) : Prop := mkd M a = 101 ∧ mr M a 0 = q ∧ ¬ q = 0 ∧ mkd M q = 2 ∧ mln M q = cap ∧ mi M a 1 = nI n ∧ n ≤ cap ∧ cap ≤ 1000
section TXT
variable {E : mE} {M : mM} {Q : mQ} {a q cap n : Nat}
theorem x_size (h : tX M a q cap n) (hq : Q (.inl (some (.int (nI n)))) M) : mX E 14 0 (m_ent [.ref a] 1) [] M Q := by
  obtain ⟨h1, h2, h3, h4, h5, h6, h7, h8⟩ := h
  rw [← h6] at hq
  exact mX_run (And.intro h1 hq)
theorem x_clear (h : tX M a q cap n) (hq : Q (.inl none) (msi M a 1 0)) : mX E 16 0 (m_ent [.ref a] 1) [] M Q := mX_run (And.intro h.1 hq)
end TXT
