/-! INTS BY Int -/
theorem I_toInt {a : Int} (h1 : -2147483648 ≤ a) (h2 : a < 2147483648) : (I a).toInt = a := by
  exact Int32.toInt_ofInt_of_le (by omega) (by omega)
theorem I_lt {a b : Int} (h1 : -2147483648 ≤ a) (h2 : a < 2147483648) (h3 : -2147483648 ≤ b) (h4 : b < 2147483648) : (I a < I b) ↔ a < b := by
  rw [Int32.lt_iff_toInt_lt, I_toInt h1 h2, I_toInt h3 h4]
theorem I_le {a b : Int} (h1 : -2147483648 ≤ a) (h2 : a < 2147483648) (h3 : -2147483648 ≤ b) (h4 : b < 2147483648) : (I a ≤ I b) ↔ a ≤ b := by
  rw [Int32.le_iff_toInt_le, I_toInt h1 h2, I_toInt h3 h4]
theorem I_eq {a b : Int} (h1 : -2147483648 ≤ a) (h2 : a < 2147483648) (h3 : -2147483648 ≤ b) (h4 : b < 2147483648) : (I a = I b) ↔ a = b := by
  rw [← Int32.toInt_inj, I_toInt h1 h2, I_toInt h3 h4]
theorem I_add (a b : Int) : I a + I b = I (a + b) := (Int32.ofInt_add a b).symm
theorem I_sub (a b : Int) : I a - I b = I (a - b) := (Int32.ofInt_sub a b).symm
theorem I_mul (a b : Int) : I a * I b = I (a * b) := (Int32.ofInt_mul a b).symm
theorem I_neg (a : Int) : -I a = I (-a) := (Int32.ofInt_neg a).symm
theorem I_nI (n : Nat) : nI n = I (n : Int) := by
  unfold nI; exact Int32.ofInt_eq_ofNat.symm
theorem I_z : (0 : Int32) = I 0 := rfl
theorem I_o : (1 : Int32) = I 1 := rfl
theorem I_nt {a : Int} (h1 : 0 ≤ a) (h2 : a < 2147483648) : nt (I a) = a.toNat := by
  show (I a).toInt.toNat = a.toNat
  rw [I_toInt (by omega) h2]
theorem I_ntn {n : Nat} (h2 : n < 2147483648) : nt (I (n : Int)) = n := by rw [I_nt (by omega) (by omega)]; omega
theorem I_in {a : Int} {n : Nat} (h1 : 0 ≤ a) (h2 : a < n) (h3 : a < 2147483648) : vp_in (I a) n := by
  unfold vp_in
  have e := I_nt h1 h3
  unfold nt at e
  rw [e, I_z, I_lt (by omega) h3 (by omega) (by omega)]
  omega
theorem I_cN {a : Int} (h1 : 0 ≤ a) (h2 : a < 65536) : cN (I a) = I a := by
  obtain ⟨n, rfl⟩ := Int.eq_ofNat_of_zero_le h1
  have hn : n < 65536 := by omega
  show (I (n:Int)).toUInt32.toUInt16.toUInt32.toInt32 = _
  rw [← Int32.toInt_inj, I_toInt (by omega) (by omega)]
  have e : (I (n : Int)).toUInt32 = UInt32.ofNat n := by
    unfold I; rw [Int32.ofInt_eq_ofNat]; rfl
  rw [e]
  have e2 : (UInt32.ofNat n).toUInt16.toUInt32 = UInt32.ofNat n := by
    apply UInt32.toNat_inj.mp
    simp only [UInt16.toNat_toUInt32, UInt32.toNat_toUInt16, UInt32.toNat_ofNat']
    omega
  rw [e2]
  show (Int32.ofNat n).toInt = _
  rw [← Int32.ofInt_eq_ofNat]; exact I_toInt (by omega) (by omega)
theorem I_nar {a : Int} (h1 : 0 ≤ a) (h2 : a < 65536) : narrow .char (.int (I a)) = .int (I a) := by
  show Value.int (cN (I a)) = _
  rw [I_cN h1 h2]
theorem I_i2c {a : Int} (h1 : 0 ≤ a) (h2 : a < 65536) : i2c (I a) = I a := by
  obtain ⟨n, rfl⟩ := Int.eq_ofNat_of_zero_le h1
  have hn : n < 65536 := by omega
  unfold i2c
  have e : (I (n : Int)).toUInt32 = UInt32.ofNat n := by
    unfold I; rw [Int32.ofInt_eq_ofNat]; rfl
  have e2 : UInt32.ofNat n % 65536 = UInt32.ofNat n := by
    apply UInt32.toNat_inj.mp
    simp only [UInt32.toNat_mod, UInt32.toNat_ofNat']
    show n % 4294967296 % 65536 = n % 4294967296
    omega
  rw [e, e2]
  show Int32.ofNat n = _
  rw [← Int32.ofInt_eq_ofNat]
theorem I_bN : bN (I 0) = I 0 ∧ bN (I 1) = I 1 := ⟨by decide, by decide⟩
theorem I_div {a b : Int} (h1 : 0 ≤ a) (h2 : a < 2147483648) (h3 : 0 < b) (h4 : b < 2147483648) : I a / I b = I (a / b) := by
  rw [← Int32.toInt_inj, Int32.toInt_div, I_toInt (by omega) h2, I_toInt (by omega) h4, Int.tdiv_eq_ediv_of_nonneg h1]
  have q1 : 0 ≤ a / b := Int.ediv_nonneg h1 (by omega)
  have q2 : a / b ≤ a := Int.ediv_le_self b h1
  rw [I_toInt (by omega) (by omega)]
  exact Int.bmod_eq_of_le (by omega) (by omega)
/-- a boolean as an int -/
def bI (b : Bool) : Int := if b then 1 else 0
theorem bI_0 (b : Bool) : I (bI b) = I 0 ↔ b = false := by cases b <;> decide
theorem bI_01 (b : Bool) : I (bI b) = 0 ∨ I (bI b) = 1 := by cases b <;> decide
