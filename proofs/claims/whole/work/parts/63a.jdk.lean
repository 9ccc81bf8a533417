/-! THE JDK's OWN METHODS over constant Strings; a text against a constant -/
section JDK
variable {E : mE} {M : mM} {Q : mQ} {i : Nat}
theorem k_coder (hi : i < 20) (hq : Q (.inl (some (.int 0))) M) : mC E 200 [.ref (E.2 (100 + i))] M Q := by
  refine mX_run ?_
  show ((1 : Int32) = 0 → mX E 200 1 _ _ M Q) ∧ (¬ (1 : Int32) = 0 → ∃ j, j < 20 ∧ E.2 (100 + i) = E.2 (100 + j) ∧ mX E 200 2 [some (.ref (E.2 (100 + i)))] [.int 0] M Q)
  refine ⟨fun z => absurd z (by decide), fun _ => ⟨i, hi, rfl, mX_run ?_⟩⟩
  show narrow .byte (.int 0) = .int 0 ∧ Q (.inl (some (.int 0))) M
  exact ⟨rfl, hq⟩
theorem k_lat1 (hi : i < 20) (hq : Q (.inl (some (.int (I 1)))) M) : mC E 202 [.ref (E.2 (100 + i))] M Q := by
  refine mX_run ?_
  show ((1 : Int32) = 0 → mX E 202 1 _ _ M Q) ∧ (¬ (1 : Int32) = 0 → ∃ j, j < 20 ∧ E.2 (100 + i) = E.2 (100 + j) ∧ ((¬ (0 : Int32) = 0 → mX E 202 1 _ _ M Q) ∧ (¬ ¬ (0 : Int32) = 0 → mX E 202 2 [some (.ref (E.2 (100 + i)))] [.int (I 1)] M Q)))
  refine ⟨fun z => absurd z (by decide), fun _ => ⟨i, hi, rfl, fun z => absurd rfl z, fun _ => mX_run ?_⟩⟩
  show (I 1 = 0 ∨ I 1 = 1) ∧ Q (.inl (some (.int (I 1)))) M
  exact ⟨Or.inr rfl, hq⟩
theorem k_shr : ∀ i, i < 20 → nI (kLen i) >>> ((0 : Int32) &&& 31) = I (kLen i : Int) := by decide +kernel
theorem k_length (hi : i < 20) (hq : Q (.inl (some (.int (I (kLen i : Int))))) M) : mC E 199 [.ref (E.2 (100 + i))] M Q := by
  refine mX_run ?_
  show ∃ j, j < 20 ∧ E.2 (100 + i) = E.2 (100 + j) ∧ ∃ t, t < 20 ∧ E.2 (200 + j) = E.2 (200 + t) ∧ ∃ u, u < 20 ∧ E.2 (100 + i) = E.2 (100 + u) ∧ mIn (mX E) 200 [.ref (E.2 (100 + i))] M (m_back Q _ _ [.int (nI (kLen t))])
  refine ⟨i, hi, rfl, i, hi, rfl, i, hi, rfl, mC_I (F := fun x M1 => x = 0 ∧ M1 = M) (by show 1 ≤ mNL 200; decide) (k_coder hi ⟨rfl, rfl⟩) (fun x M1 hx => ?_)⟩
  obtain ⟨rfl, rfl⟩ := hx
  show Q (.inl (some (.int (nI (kLen i) >>> ((0 : Int32) &&& 31))))) M1
  rw [k_shr i hi]; exact hq
theorem k_prec {j n : Nat} {v : Value} (hv : v = .null ∨ ∃ a, v = .ref a) (hj : j < n) (hn : n < 1000) (hq : Q (.inl (some (.int (I j)))) M) : mC E 205 [.int (I j), .int (I n), v] M Q := by
  have go : ∀ w : Option Value, mX E 205 0 [some (.int (I j)), some (.int (I n)), w] [] M Q := by
    intro w
    refine mX_run ?_
    show (I j < 0 → mX E 205 1 _ _ M Q) ∧ (¬ I j < 0 → ((I j < I n → mX E 205 2 [some (.int (I j)), some (.int (I n)), w] [] M Q) ∧ (¬ I j < I n → mX E 205 1 _ _ M Q)))
    refine ⟨fun z => ?_, fun _ => ⟨fun _ => mX_run hq, fun z => ?_⟩⟩
    · have z : I j < I 0 := z
      rw [I_lt (by omega) (by omega) (by omega) (by omega)] at z; omega
    · rw [I_lt (by omega) (by omega) (by omega) (by omega)] at z; omega
  rcases hv with e | ⟨a, e⟩
  · rw [e]; exact go _
  · rw [e]; exact go _
theorem k_check {j n : Nat} (hj : j < n) (hn : n < 1000) (hq : Q (.inl none) M) : mC E 203 [.int (I j), .int (I n)] M Q := by
  have hv : kV E.2 402 = .null ∨ ∃ a, kV E.2 402 = .ref a := by
    show (if E.2 402 = 0 then Value.null else .ref (E.2 402 - 1)) = .null ∨ ∃ a, (if E.2 402 = 0 then Value.null else .ref (E.2 402 - 1)) = .ref a
    by_cases z : E.2 402 = 0
    · rw [if_pos z]; exact Or.inl rfl
    · rw [if_neg z]; exact Or.inr ⟨_, rfl⟩
  refine mX_run ?_
  show mIn (mX E) 205 [.int (I j), .int (I n), kV E.2 402] M (m_back Q _ _ [])
  refine mC_I (F := fun x M1 => M1 = M) ?_ (k_prec hv hj hn rfl) (fun x M1 hx => ?_)
  · rcases hv with e | ⟨a, e⟩ <;> (rw [e]; (show 3 ≤ mNL 205; decide))
  · rw [hx]; exact hq
theorem k_byte : ∀ i, i < 20 → ∀ j, j < 5 → ((nI ((kWs.getD i []).getD j 0) &&& (Int16.ofInt 255).toInt32).toUInt32 % 65536).toInt32 = I (((kWs.getD i []).getD j 0 : Nat) : Int) := by decide +kernel
theorem k_len5 : ∀ i, i < 20 → kLen i ≤ 5 := by decide
theorem k_ch : ∀ i, i < 20 → ∀ j, j < 5 → (kWs.getD i []).getD j 0 < 128 := by decide
theorem k_latin {j : Nat} (hi : i < 20) (hj : j < kLen i) (hq : Q (.inl (some (.int (I (((kWs.getD i []).getD j 0 : Nat) : Int))))) M) : mC E 204 [.ref (E.2 (200 + i)), .int (I j)] M Q := by
  have l5 := k_len5 i hi
  have ch := k_ch i hi j (by omega)
  refine mX_run ?_
  show ∃ t, t < 20 ∧ E.2 (200 + i) = E.2 (200 + t) ∧ mIn (mX E) 203 [.int (I j), .int (nI (kLen t))] M (m_back Q _ _ [])
  refine ⟨i, hi, rfl, mC_V (F := fun M1 => M1 = M) (by show 2 ≤ mNL 203; decide) ?_ (fun M1 hx => ?_)⟩
  · rw [I_nI]; exact k_check hj (by omega) rfl
  · rw [hx]
    show ∃ t, t < 20 ∧ E.2 (200 + i) = E.2 (200 + t) ∧ vp_in (I j) (kLen t) ∧ narrow .char (.int ((nI ((kWs.getD t []).getD (nt (I j)) 0) &&& (Int16.ofInt 255).toInt32).toUInt32 % 65536).toInt32) = .int ((nI ((kWs.getD t []).getD (nt (I j)) 0) &&& (Int16.ofInt 255).toInt32).toUInt32 % 65536).toInt32 ∧ Q (.inl (some (.int ((nI ((kWs.getD t []).getD (nt (I j)) 0) &&& (Int16.ofInt 255).toInt32).toUInt32 % 65536).toInt32))) M
    refine ⟨i, hi, rfl, I_in (by omega) (by omega) (by omega), ?_⟩
    rw [I_ntn (by omega), k_byte i hi j (by omega)]
    exact ⟨I_nar (by omega) (by omega), hq⟩
theorem k_charAt {j : Nat} (hi : i < 20) (hj : j < kLen i) (hq : Q (.inl (some (.int (I (((kWs.getD i []).getD j 0 : Nat) : Int))))) M) : mC E 201 [.ref (E.2 (100 + i)), .int (I j)] M Q := by
  have l5 := k_len5 i hi
  have ch := k_ch i hi j (by omega)
  refine mX_run ?_
  show ∃ u, u < 20 ∧ E.2 (100 + i) = E.2 (100 + u) ∧ mIn (mX E) 202 [.ref (E.2 (100 + i))] M (m_back Q _ _ [])
  refine ⟨i, hi, rfl, mC_I (F := fun x M1 => x = I 1 ∧ M1 = M) (by show 1 ≤ mNL 202; decide) (k_lat1 hi ⟨rfl, rfl⟩) (fun x M1 hx => ?_)⟩
  obtain ⟨rfl, rfl⟩ := hx
  show (I 1 = 0 → mX E 201 1 _ _ M1 Q) ∧ (¬ I 1 = 0 → ∃ t, t < 20 ∧ E.2 (100 + i) = E.2 (100 + t) ∧ mIn (mX E) 204 [.ref (E.2 (200 + t)), .int (I j)] M1 (m_back Q _ _ []))
  refine ⟨fun z => absurd z (by decide), fun _ => ⟨i, hi, rfl, mC_I (F := fun x M2 => x = I (((kWs.getD i []).getD j 0 : Nat) : Int) ∧ M2 = M1) (by show 2 ≤ mNL 204; decide) (k_latin hi hj ⟨rfl, rfl⟩) (fun x M2 hx => ?_)⟩⟩
  obtain ⟨rfl, rfl⟩ := hx
  show narrow .char (.int (I (((kWs.getD i []).getD j 0 : Nat) : Int))) = .int (I (((kWs.getD i []).getD j 0 : Nat) : Int)) ∧ Q (.inl (some (.int (I (((kWs.getD i []).getD j 0 : Nat) : Int))))) M2
  exact ⟨I_nar (by omega) (by omega), hq⟩
theorem k_ordinal (hi : i < 17) (hq : Q (.inl (some (.int (I (i : Int))))) M) : mC E 206 [.ref (E.2 (300 + i))] M Q := by
  refine mX_run ?_
  show ∃ j, j < 17 ∧ E.2 (300 + i) = E.2 (300 + j) ∧ Q (.inl (some (.int (nI j)))) M
  exact ⟨i, hi, rfl, by rw [I_nI]; exact hq⟩
theorem text_eq {e w : List Nat} (hl : e.length = w.length) (hj : ∀ j, j < w.length → e.getD j 0 = w.getD j 0) : e = w := by
  refine List.ext_getElem hl (fun j h1 h2 => ?_)
  have := hj j h2
  rw [List.getD_eq_getElem?_getD, List.getElem?_eq_getElem h1, List.getD_eq_getElem?_getD, List.getElem?_eq_getElem h2] at this
  exact this
/-- a text is a constant word -/
theorem t_is {a cap : Nat} {u : List Nat} (t : tX M a cap u) (hi : i < 20) (hq : Q (.inl (some (.int (I (bI (decide (u = kWs.getD i []))))))) M) : mC E 23 [.ref a, .ref (E.2 (100 + i))] M Q := by
  have tl := t.len
  have l5 := k_len5 i hi
  have el : kLen i = (kWs.getD i []).length := rfl
  have sz : mi M a 1 = I u.length := t.2.2.2.2.1
  refine w23_0 ⟨i, hi, rfl, k_length hi ⟨t.1, fun c => ?_, fun c => ?_⟩⟩
  · rw [sz, I_eq (by omega) (by omega) (by omega) (by omega)] at c
    have go : ∀ (n k : Nat), n = u.length - k → k ≤ u.length → (∀ j, j < k → u.getD j 0 = (kWs.getD i []).getD j 0) → mX E 23 2 [some (.ref a), some (.ref (E.2 (100 + i))), some (.int (I k))] [] M Q := by
      intro n
      induction n with
      | zero =>
        intro k hn hk hj
        refine w23_2 ⟨t.1, fun _ => ?_, fun z => ?_⟩
        · rw [decide_eq_true (text_eq (by omega) (fun j h => hj j (by omega)))] at hq; exact hq
        · rw [sz, I_le (by omega) (by omega) (by omega) (by omega)] at z; omega
      | succ n ih =>
        intro k hn hk hj
        refine w23_2 ⟨t.1, fun z => ?_, fun _ => ⟨i, hi, rfl, k_length hi ⟨fun z => ?_, fun _ => ⟨t.1, t_at (k := (k : Int)) t (by omega) (by omega) ⟨i, hi, rfl, k_charAt hi (by omega) ⟨fun z => ?_, fun z => ?_⟩⟩⟩⟩⟩⟩
        · rw [sz, I_le (by omega) (by omega) (by omega) (by omega)] at z; omega
        · rw [I_le (by omega) (by omega) (by omega) (by omega)] at z; omega
        · rw [if_pos (by omega), Int.toNat_natCast] at z
          have cu := t.ch k
          have cw := k_ch i hi k (by omega)
          rw [I_eq (by omega) (by omega) (by omega) (by omega)] at z
          rw [I_add]
          refine ih (k + 1) (by omega) (by omega) (fun j h => ?_)
          by_cases y : j = k
          · rw [y]; omega
          · exact hj j (by omega)
        · rw [if_pos (by omega), Int.toNat_natCast] at z
          have cu := t.ch k
          have cw := k_ch i hi k (by omega)
          rw [I_eq (by omega) (by omega) (by omega) (by omega)] at z
          rw [decide_eq_false (fun y => z (by rw [y]))] at hq; exact hq
    exact go _ 0 rfl (by omega) (fun j h => absurd h (Nat.not_lt_zero j))
  · rw [sz, I_eq (by omega) (by omega) (by omega) (by omega)] at c
    rw [decide_eq_false (fun y => c (by rw [y]; omega))] at hq; exact hq
end JDK
