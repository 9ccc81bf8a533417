/-! FROM THE LAW'S START TO THE SMALL MACHINE -/
def mM0 (b L sz : Nat) (xs : Nat → Int32) : mM := (fun a => if a = b then 208 else 0, fun a => if a = b then L else 0, fun a j => if a = b then xs j else 0, fun _ _ => 0, fun _ _ => 0, sz, 0)
theorem mPl_mem {i : Nat} {w : Cond} (h : mPl i w = true) : w ∈ lw_tbl := by
  unfold mPl at h
  rw [Bool.and_eq_true, decide_eq_true_eq] at h
  exact List.mem_of_getElem? h.1
theorem mExa {tm : Term} {cls : String} {args : Array Value} {s : State} (h : (Cond.exactly tm cls).before args s = true) : ∃ a, tm.eval args s none [] s = some (.ref a) := by
  cases hv : tm.eval args s none [] s with
  | none => simp [Cond.before, Cond.holds, Cond.value, hv] at h
  | some v =>
    cases v with
    | ref a => exact ⟨a, rfl⟩
    | _ => exfalso; cases hf : s.vm.findClass cls <;> simp [Cond.before, Cond.holds, Cond.value, hv, hf] at h
set_option maxRecDepth 100000 in
theorem mNar_0 : (Cond.not (.castable "java/lang/UnsupportedOperationException" "java/lang/IllegalArgumentException")) ∈ flatC (Jvm.Cond.and given_1 narrow_1) := by decide +kernel
set_option maxRecDepth 100000 in
theorem mNar_1 : (Cond.isRef (.static "java/lang/Throwable" "UNASSIGNED_STACK" "[Ljava/lang/StackTraceElement;")) ∈ flatC (Jvm.Cond.and given_1 narrow_1) := by decide +kernel
set_option maxRecDepth 100000 in
theorem mNar_2 : (Cond.isRef (.static "java/lang/Throwable" "SUPPRESSED_SENTINEL" "Ljava/util/List;")) ∈ flatC (Jvm.Cond.and given_1 narrow_1) := by decide +kernel
set_option maxRecDepth 100000 in
theorem mNar_3 : ∀ r ∈ mStr, (Cond.exactly (.string r.1 r.2.1) "java/lang/String") ∈ flatC (Jvm.Cond.and given_1 narrow_1) := by decide +kernel
set_option maxRecDepth 100000 in
theorem mTab_1 : ∀ r ∈ mStr, (Cond.stringRef r.1 r.2.1 r.2.2) ∈ lw_tbl := by decide +kernel
theorem mTab_2 : (Cond.laysStatic "java/lang/Throwable" "UNASSIGNED_STACK" "[Ljava/lang/StackTraceElement;") ∈ lw_tbl := (tb_2 (List.mem_of_getElem? (i := 141) rfl))
theorem mTab_3 : (Cond.laysStatic "java/lang/Throwable" "SUPPRESSED_SENTINEL" "Ljava/util/List;") ∈ lw_tbl := (tb_2 (List.mem_of_getElem? (i := 143) rfl))
theorem mTab_4 : (Cond.castable "java/lang/UnsupportedOperationException" "java/lang/UnsupportedOperationException") ∈ lw_tbl := (tb_2 (List.mem_of_getElem? (i := 116) rfl))
theorem mTab_5 : (Cond.castable "java/lang/IllegalArgumentException" "java/lang/IllegalArgumentException") ∈ lw_tbl := (tb_3 (List.mem_of_getElem? (i := 42) rfl))
theorem mTab_6 : (Cond.arrayOver (.object "TinyShell$Text")) ∈ lw_tbl := (tb_1 (List.mem_of_getElem? (i := 124) rfl))
/-! THE CONSTANTS AT THE START -/
def kIx : List Nat := [97, 103, 106, 109, 112, 115, 118, 121, 124, 127, 130, 133, 136, 139, 142, 145, 148]
def kUn : List String := ["ECHO", "CAT", "TRUE", "FALSE", "SET", "UNSET", "RM", "WC", "HEAD", "REV", "SORT", "UNIQ", "GREP", "TR", "TEST", "EXIT", "UNKNOWN"]
def kTs (i : Nat) : Term := if i < 17 then .string "TinyShell$Utility" (kIx.getD i 0) else .string "TinyShell$Tools" ([170, 176, 181].getD (i - 17) 0)
def kTu (i : Nat) : Term := .static "TinyShell$Utility" (kUn.getD i "") "LTinyShell$Utility;"
def kTv (i : Nat) : Term := .field (kTs i) "java/lang/String" "value" "[B"
def kTa : Term := .static "TinyShell$Utility" "ALL" "[LTinyShell$Utility;"
def kTm : Term := .static "TinyShell$1" "$SwitchMap$TinyShell$Utility" "[I"
def kTf : Term := .static "jdk/internal/util/Preconditions" "SIOOBE_FORMATTER" "Ljava/util/function/BiFunction;"
set_option maxRecDepth 100000 in
theorem kN_s : ∀ i, i < 20 → (Cond.exactly (kTs i) "java/lang/String") ∈ flatC (Jvm.Cond.and given_1 narrow_1) ∧ (Cond.eq (.field (kTs i) "java/lang/String" "coder" "B") (.int 0)) ∈ flatC (Jvm.Cond.and given_1 narrow_1) ∧ (Cond.arrayOf (kTv i) .byte) ∈ flatC (Jvm.Cond.and given_1 narrow_1) ∧ (Cond.eq (.length (kTv i)) (.int (Int32.ofNat (kLen i)))) ∈ flatC (Jvm.Cond.and given_1 narrow_1) := by decide +kernel
set_option maxRecDepth 100000 in
theorem kN_e : ∀ i, i < 20 → ∀ j, j < kLen i → (Cond.eq (.elem (kTv i) (.int (Int32.ofNat j))) (.int (nI ((kWs.getD i []).getD j 0)))) ∈ flatC (Jvm.Cond.and given_1 narrow_1) := by decide +kernel
set_option maxRecDepth 100000 in
theorem kN_u : ∀ i, i < 17 → (Cond.exactly (kTu i) "TinyShell$Utility") ∈ flatC (Jvm.Cond.and given_1 narrow_1) ∧ (Cond.eq (.field (kTu i) "java/lang/Enum" "ordinal" "I") (.int (nI i))) ∈ flatC (Jvm.Cond.and given_1 narrow_1) ∧ (Cond.eq (.field (kTu i) "TinyShell$Utility" "word" "Ljava/lang/String;") (kTs i)) ∈ flatC (Jvm.Cond.and given_1 narrow_1) ∧ (Cond.eq (.field (kTu i) "TinyShell$Utility" "fewest" "I") (.int (nI (kMin i)))) ∈ flatC (Jvm.Cond.and given_1 narrow_1) ∧ (Cond.eq (.field (kTu i) "TinyShell$Utility" "most" "I") (.int (nI (kMax i)))) ∈ flatC (Jvm.Cond.and given_1 narrow_1) ∧ (Cond.eq (.elem kTa (.int (Int32.ofNat i))) (kTu i)) ∈ flatC (Jvm.Cond.and given_1 narrow_1) ∧ (Cond.eq (.elem kTm (.int (Int32.ofNat i))) (.int (nI (kSw i)))) ∈ flatC (Jvm.Cond.and given_1 narrow_1) := by decide +kernel
set_option maxRecDepth 100000 in
theorem kN_a : (Cond.arrayOf kTa (.object "TinyShell$Utility")) ∈ flatC (Jvm.Cond.and given_1 narrow_1) ∧ (Cond.eq (.length kTa) (.int (Int32.ofNat 17))) ∈ flatC (Jvm.Cond.and given_1 narrow_1) ∧ (Cond.arrayOf kTm .int) ∈ flatC (Jvm.Cond.and given_1 narrow_1) ∧ (Cond.eq (.length kTm) (.int (Int32.ofNat 17))) ∈ flatC (Jvm.Cond.and given_1 narrow_1) ∧ (Cond.isRef kTf) ∈ flatC (Jvm.Cond.and given_1 narrow_1) ∧ (Cond.eq (.static "java/lang/String" "COMPACT_STRINGS" "Z") (.int 1)) ∈ flatC (Jvm.Cond.and given_1 narrow_1) := by decide +kernel
set_option maxRecDepth 100000 in
theorem kN_z : ∀ c ∈ kCs, (Cond.laysStatic (kG c).1 (kG c).2.1 (kG c).2.2) ∈ lw_tbl ∧ (Cond.initialized (kG c).1) ∈ lw_tbl := by decide +kernel
set_option maxRecDepth 100000 in
theorem kN_l : ∀ r ∈ kLds, (Cond.stringRef r.1 r.2.1 r.2.2.1) ∈ lw_tbl := by decide +kernel
/-- the places of the constants -/
def kDs (f : Nat → Nat) (g : Nat → Nat × Nat) (u : Nat → Nat) (x y z : Nat) (i : Nat) : Nat := if i < 100 then f i else if i < 200 then (g (i - 100)).1 else if i < 300 then (g (i - 200)).2 else if i < 400 then u (i - 300) else if i = 400 then x else if i = 401 then y else z
section KDS
variable {f : Nat → Nat} {g : Nat → Nat × Nat} {u : Nat → Nat} {x y z i : Nat}
theorem kDs_0 (h : i < 100) : kDs f g u x y z i = f i := by unfold kDs; rw [if_pos h]
theorem kDs_1 (h : i < 100) : kDs f g u x y z (100 + i) = (g i).1 := by unfold kDs; rw [if_neg (by omega), if_pos (by omega), Nat.add_sub_cancel_left]
theorem kDs_2 (h : i < 100) : kDs f g u x y z (200 + i) = (g i).2 := by unfold kDs; rw [if_neg (by omega), if_neg (by omega), if_pos (by omega), Nat.add_sub_cancel_left]
theorem kDs_3 (h : i < 100) : kDs f g u x y z (300 + i) = u i := by unfold kDs; rw [if_neg (by omega), if_neg (by omega), if_neg (by omega), if_pos (by omega), Nat.add_sub_cancel_left]
theorem kDs_4 : kDs f g u x y z 400 = x := rfl
theorem kDs_5 : kDs f g u x y z 401 = y := rfl
theorem kDs_6 : kDs f g u x y z 402 = z := rfl
end KDS
theorem kStart {s : State} {b : Nat} (hts : ∀ w ∈ lw_tbl, w.before #[Value.ref b] s = true) (hgv : (Jvm.Cond.and given_1 narrow_1).before #[Value.ref b] s = true) (f : Nat → Nat) : ∃ g u x y z, mKs (kDs f g u x y z) s.heap.size s.heap s := by
  have hA : ∀ a : Nat, a < s.heap.size → ¬ kA s.heap.size a := fun a h q => by have : s.heap.size ≤ a := q; omega
  have hF := flat_of_before _ hgv
  have h0 : ∀ i : Nat, ∃ q : Nat × Nat, i < 20 → (kTs i).eval #[Value.ref b] s none [] s = some (.ref q.1) ∧ va_O "java/lang/String" q.1 (kA s.heap.size) s s.heap ∧ va_OF "java/lang/String" "coder" "B" (.int 0) q.1 (kA s.heap.size) s s.heap ∧ va_OF "java/lang/String" "value" "[B" (.ref q.2) q.1 (kA s.heap.size) s s.heap ∧ va_T .byte q.2 (kLen i) (fun j => .int (nI ((kWs.getD i []).getD j 0))) (kA s.heap.size) s s.heap := by
    intro i
    by_cases hi : i < 20
    · obtain ⟨n1, n2, n3, n4⟩ := kN_s i hi
      have hn : kLen i < 2 ^ 31 := by
        have : ∀ i, i < 20 → kLen i < 2 ^ 31 := by decide
        exact this i hi
      obtain ⟨a, q1⟩ := mExa (hF _ n1)
      obtain ⟨t, ht, hT⟩ := va_Tof (f := fun j => .int (nI ((kWs.getD i []).getD j 0))) (A := kA s.heap.size) hn (hF _ n3) (va_eqt (hF _ n4)) (fun j hj => va_eqt (hF _ (kN_e i hi j hj))) hA
      exact ⟨(a, t), fun _ => ⟨q1, va_Oof (hF _ n1) q1 hA, vk_OFof q1 (va_eqt (hF _ n2)) hA, vk_OFof q1 ht hA, hT⟩⟩
    · exact ⟨(0, 0), fun h => absurd h hi⟩
  obtain ⟨g, hg⟩ := Classical.axiomOfChoice h0
  have h1 : ∀ i : Nat, ∃ a : Nat, i < 17 → (kTu i).eval #[Value.ref b] s none [] s = some (.ref a) ∧ va_O "TinyShell$Utility" a (kA s.heap.size) s s.heap ∧ va_OF "TinyShell$Utility" "word" "Ljava/lang/String;" (.ref (g i).1) a (kA s.heap.size) s s.heap ∧ va_OF "java/lang/Enum" "ordinal" "I" (.int (nI i)) a (kA s.heap.size) s s.heap ∧ va_OF "TinyShell$Utility" "fewest" "I" (.int (nI (kMin i))) a (kA s.heap.size) s s.heap ∧ va_OF "TinyShell$Utility" "most" "I" (.int (nI (kMax i))) a (kA s.heap.size) s s.heap := by
    intro i
    by_cases hi : i < 17
    · obtain ⟨n1, n2, n3, n4, n5, -⟩ := kN_u i hi
      obtain ⟨a, q1⟩ := mExa (hF _ n1)
      exact ⟨a, fun _ => ⟨q1, va_Oof (hF _ n1) q1 hA, vk_OFof q1 (va_eqv (hF _ n3) (hg i (by omega)).1) hA, vk_OFof q1 (va_eqt (hF _ n2)) hA, vk_OFof q1 (va_eqt (hF _ n4)) hA, vk_OFof q1 (va_eqt (hF _ n5)) hA⟩⟩
    · exact ⟨0, fun h => absurd h hi⟩
  obtain ⟨u, hu⟩ := Classical.axiomOfChoice h1
  obtain ⟨a1, a2, a3, a4, a5, a6⟩ := kN_a
  obtain ⟨x, hx, hX⟩ := va_Tof (f := fun j => .ref (u j)) (A := kA s.heap.size) (by decide) (hF _ a1) (va_eqt (hF _ a2)) (fun j hj => va_eqv (hF _ (kN_u j hj).2.2.2.2.2.1) (hu j hj).1) hA
  obtain ⟨y, hy, hY⟩ := va_Tof (f := fun j => .int (nI (kSw j))) (A := kA s.heap.size) (by decide) (hF _ a3) (va_eqt (hF _ a4)) (fun j hj => va_eqt (hF _ (kN_u j hj).2.2.2.2.2.2)) hA
  have hz : ∃ z : Nat, kTf.eval #[Value.ref b] s none [] s = some (if z = 0 then .null else .ref (z - 1)) := by
    have h := hF _ a5
    cases hv : kTf.eval #[Value.ref b] s none [] s with
    | none => simp [Cond.before, Cond.holds, Cond.value, hv] at h
    | some v =>
      cases v with
      | ref a => exact ⟨a + 1, rfl⟩
      | null => exact ⟨0, rfl⟩
      | _ => simp [Cond.before, Cond.holds, Cond.value, hv] at h
  obtain ⟨z, hz⟩ := hz
  refine ⟨g, u, x, y, z, ?_, ?_, ?_, ?_, ?_⟩
  · intro c hc
    have e : (kG c).1 = (kG c).1 := rfl
    obtain ⟨l1, l2⟩ := kN_z c hc
    refine va_Zof (hts _ l1) (hts _ l2) ?_ hA
    simp only [kCs, List.mem_cons, List.not_mem_nil, or_false] at hc
    rcases hc with rfl | rfl | rfl | rfl | rfl
    · exact hx
    · exact (hu 16 (by omega)).1
    · exact hy
    · exact hz
    · exact va_eqt (hF _ a6)
  · intro f' hf i hi
    match f', hf, hi with
    | 0, _, hi =>
      have hi : i < 20 := hi
      have := (hg i hi).2.2.2.1
      show va_OF _ _ _ (.ref (kDs _ _ _ _ _ _ (200 + i))) (kDs _ _ _ _ _ _ (100 + i)) _ _ _
      rw [kDs_1 (by omega), kDs_2 (by omega)]; exact this
    | 1, _, hi =>
      have hi : i < 20 := hi
      have := (hg i hi).2.2.1
      show va_OF _ _ _ (.int 0) (kDs _ _ _ _ _ _ (100 + i)) _ _ _
      rw [kDs_1 (by omega)]; exact this
    | 2, _, hi =>
      have hi : i < 17 := hi
      have := (hu i hi).2.2.1
      show va_OF _ _ _ (.ref (kDs _ _ _ _ _ _ (100 + i))) (kDs _ _ _ _ _ _ (300 + i)) _ _ _
      rw [kDs_1 (by omega), kDs_3 (by omega)]; exact this
    | 3, _, hi =>
      have hi : i < 17 := hi
      have := (hu i hi).2.2.2.1
      show va_OF _ _ _ (.int (nI i)) (kDs _ _ _ _ _ _ (300 + i)) _ _ _
      rw [kDs_3 (by omega)]; exact this
    | 4, _, hi =>
      have hi : i < 17 := hi
      have := (hu i hi).2.2.2.2.1
      show va_OF _ _ _ (.int (nI (kMin i))) (kDs _ _ _ _ _ _ (300 + i)) _ _ _
      rw [kDs_3 (by omega)]; exact this
    | 5, _, hi =>
      have hi : i < 17 := hi
      have := (hu i hi).2.2.2.2.2
      show va_OF _ _ _ (.int (nI (kMax i))) (kDs _ _ _ _ _ _ (300 + i)) _ _ _
      rw [kDs_3 (by omega)]; exact this
    | _ + 6, hf, _ => omega
  · intro t ht i hi
    match t, ht, hi with
    | 0, _, hi =>
      have hi : i = 0 := by have : i < 1 := hi; omega
      subst hi
      obtain ⟨ce, c1, c2, c3, c4, c5, c6, c7⟩ := hX
      exact ⟨ce, c1, c2, c3, c4, c5, fun j hj => by
        have hj : j < 17 := hj
        show _ = some (Value.ref (kDs _ _ _ _ _ _ (300 + j)))
        rw [kDs_3 (by omega)]; exact c6 j hj, c7⟩
    | 1, _, hi =>
      have hi : i < 20 := hi
      have := (hg i hi).2.2.2.2
      show va_T .byte (kDs _ _ _ _ _ _ (200 + i)) _ _ _ _ _
      rw [kDs_2 (by omega)]; exact this
    | 2, _, hi =>
      have hi : i = 0 := by have : i < 1 := hi; omega
      subst hi
      exact hY
    | _ + 3, ht, _ => omega
  · intro kd hk i hi
    rcases hk with rfl | rfl
    · have hi : i < 17 := hi
      show va_O "TinyShell$Utility" (kDs _ _ _ _ _ _ (300 + i)) _ _ _
      rw [kDs_3 (by omega)]; exact (hu i hi).2.1
    · have hi : i < 20 := hi
      show va_O "java/lang/String" (kDs _ _ _ _ _ _ (100 + i)) _ _ _
      rw [kDs_1 (by omega)]; exact (hg i hi).2.1
  · intro r hr
    have hw := hts _ (kN_l r hr)
    simp only [kLds, List.mem_cons, List.not_mem_nil, or_false] at hr
    rcases hr with rfl | rfl | rfl
    · exact vk_R.of hw (hg 17 (by omega)).1
    · exact vk_R.of hw (hg 18 (by omega)).1
    · exact vk_R.of hw (hg 19 (by omega)).1
section START
variable {s : State} {b L : Nat} {xs : Nat → Int32}
/-- classes and slots -/
theorem mStartK (hts : ∀ w ∈ lw_tbl, w.before #[Value.ref b] s = true) (hgv : (Jvm.Cond.and given_1 narrow_1).before #[Value.ref b] s = true) {scr : Cell} (h208 : s.isArrayOf scr .int) :
    ∃ (dC : Nat → ClassId) (dI : Nat → Nat → Nat), mKnow dC dI s ∧ mKn3 dC s ∧ dC 208 = scr.cls := by
  have hwd : ∀ w ∈ lw_tbl, goodWord w = true → ∀ a : Array Value, w.before a s = true := fun w hw hg a => word_at (State.WarmedH.refl s) (good_of_word hg) (hts w hw)
  have hw1 : ∀ {w : Cond}, mW1 w = true → ∀ a : Array Value, w.before a s = true := fun h a => hwd _ (mW1_el h).1 (mW1_el h).2 a
  have hov : va_AO "TinyShell$Text" s := va_AO.of (hts _ mTab_6)
  have key : ∀ k : Nat, ∃ q : ClassId × (Nat → Nat), (100 ≤ k → k < 112 → u_Kn s (mNm k) (mT k) (mN k) q.1 q.2) ∧ (1 ≤ k → k < 6 → ArrOfT s q.1 (mTy k) ∧ va_RA s q.1 (mTy k)) ∧ ((k = 90 ∨ k = 91) → s.vm.findClass (mNm k) = some q.1 ∧ ∃ kk, s.vm.classes[q.1]? = some kk) ∧ (k = 208 → q.1 = scr.cls) := by
    intro k
    by_cases h1 : 100 ≤ k ∧ k < 112
    · have hk : mKnd k = true := by
        have : k = 100 ∨ k = 101 ∨ k = 102 ∨ k = 103 ∨ k = 104 ∨ k = 105 ∨ k = 106 ∨ k = 107 ∨ k = 108 ∨ k = 109 ∨ k = 110 ∨ k = 111 := by omega
        rcases this with rfl | rfl | rfl | rfl | rfl | rfl | rfl | rfl | rfl | rfl | rfl | rfl <;> rfl
      obtain ⟨cC, iS, h⟩ := u_known (ws := u_ws (mNm k) (mT k) (mN k)) (s := s) (args := #[Value.ref b]) (fun w hw => hw1 (mFok_ws (mFok_at h1.1 h1.2) w hw) _) (fun _ h => h) (hw1 (mKnd_ok hk).1 _)
      exact ⟨(cC, iS), fun _ _ => h, fun _ _ => by omega, fun _ => by omega, fun _ => by omega⟩
    · by_cases h2 : 1 ≤ k ∧ k < 5
      · have hA := mAT_ok
        simp only [mAT, List.all_cons, List.all_nil, Bool.and_true, Bool.and_eq_true] at hA
        obtain ⟨a1, a2, a3, a4⟩ := hA
        have hw : mW1 (.arrayClass (mTy k)) = true := by
          have : k = 1 ∨ k = 2 ∨ k = 3 ∨ k = 4 := by omega
          rcases this with rfl | rfl | rfl | rfl
          · exact mPl_ok a1
          · exact mPl_ok a2
          · exact mPl_ok a3
          · exact mPl_ok a4
        obtain ⟨c, kk, comp, e1, e2, e3⟩ := Cond.arrayClass_spec (hw1 hw #[])
        refine ⟨(c, fun _ => 0), fun _ _ => by omega, fun _ _ => ⟨fun n z => ⟨fun q h => (by cases h), kk, e2, comp, e3⟩, ?_⟩, fun _ => by omega, fun _ => by omega⟩
        have : k = 1 ∨ k = 2 ∨ k = 3 ∨ k = 4 := by omega
        rcases this with rfl | rfl | rfl | rfl <;> exact e1
      · by_cases h3 : k = 5
        · subst h3
          obtain ⟨comp, c, kk, e1, -, e2, e3, e4⟩ := Cond.arrayOver_spec hov
          exact ⟨(c, fun _ => 0), fun _ _ => by omega, fun _ _ => ⟨fun n z => ⟨fun q h => (by cases h), kk, e2, comp, e3⟩, kk, comp, e2, e3, e1, e4⟩, fun _ => by omega, fun _ => by omega⟩
        · by_cases h4 : k = 90 ∨ k = 91
          · have hin : mW1 (.instantiable (mNm k) 6) = true := by
              have e := mET_ok
              simp only [mET, List.all_cons, List.all_nil, Bool.and_true, Bool.and_eq_true] at e
              rcases h4 with rfl | rfl
              · exact mPl_ok e.1.1
              · exact mPl_ok e.2.1
            obtain ⟨c, kk, e1, e2, -⟩ := Cond.instantiable_spec (hw1 hin #[])
            exact ⟨(c, fun _ => 0), fun _ _ => by omega, fun _ _ => by omega, fun _ => ⟨e1, kk, e2⟩, fun _ => by omega⟩
          · exact ⟨(scr.cls, fun _ => 0), fun _ _ => by omega, fun _ _ => by omega, fun h => absurd h h4, fun _ => rfl⟩
  obtain ⟨f, hf⟩ := Classical.axiomOfChoice key
  have f90 := (hf 90).2.2.1 (Or.inl rfl)
  have f91 := (hf 91).2.2.1 (Or.inr rfl)
  refine ⟨fun k => (f k).1, fun k => (f k).2, ⟨hwd, fun k a c => (hf k).1 a c, fun k a c => (hf k).2.1 a c, ⟨f90.1, f91.1, hov⟩, fun ce e1 e2 => ?_⟩, ⟨?_, ?_, ?_, f90.2, f91.2⟩, (hf 208).2.2.2 rfl⟩
  · have e3 : ce.cls = scr.cls := e1.trans ((hf 208).2.2.2 rfl)
    exact ⟨e2, by rw [e3]; exact h208.2⟩
  · have hv := Cond.holds_not_iff.mp (flat_of_before _ hgv _ mNar_0)
    simp only [Cond.value] at hv
    have g1 : s.vm.findClass "java/lang/UnsupportedOperationException" = some (f 91).1 := f91.1
    have g2 : s.vm.findClass "java/lang/IllegalArgumentException" = some (f 90).1 := f90.1
    rw [g1, g2] at hv
    exact Option.some.inj hv
  · obtain ⟨c, t, e1, e2, e3⟩ := Cond.castable_spec (hts _ mTab_5)
    have g2 : s.vm.findClass "java/lang/IllegalArgumentException" = some (f 90).1 := f90.1
    cases g2.symm.trans e1
    cases g2.symm.trans e2
    exact e3
  · obtain ⟨c, t, e1, e2, e3⟩ := Cond.castable_spec (hts _ mTab_4)
    have g2 : s.vm.findClass "java/lang/UnsupportedOperationException" = some (f 91).1 := f91.1
    cases g2.symm.trans e1
    cases g2.symm.trans e2
    exact e3
theorem mStr_len : mStr.length = 5 := rfl
theorem mStart2 (hts : ∀ w ∈ lw_tbl, w.before #[Value.ref b] s = true) (hgv : (Jvm.Cond.and given_1 narrow_1).before #[Value.ref b] s = true) : ∃ dS : Nat → Nat, mKn2 dS s.heap.size s.heap s := by
  have key : ∀ i : Nat, ∃ a : Nat, ∀ r : String × Nat × String, mStr[i]? = some r → vk_R r.1 r.2.1 r.2.2 a s := by
    intro i
    cases hi : mStr[i]? with
    | none => exact ⟨0, fun r h => by cases h⟩
    | some r =>
      have hm := List.mem_of_getElem? hi
      obtain ⟨a, ha⟩ := mExa (flat_of_before _ hgv _ (mNar_3 r hm))
      exact ⟨a, fun r' h' => by cases h'; exact vk_R.of (hts _ (mTab_1 r hm)) ha⟩
  obtain ⟨f, hf⟩ := Classical.axiomOfChoice key
  obtain ⟨g, u, x, y, z, hK⟩ := kStart hts hgv f
  exact ⟨kDs f g u x y z, mSta.of (hts _ mTab_2) (flat_of_before _ hgv _ mNar_1), mSta.of (hts _ mTab_3) (flat_of_before _ hgv _ mNar_2), fun i r hr => by
    have hi : i < 5 := by
      have := (List.getElem?_eq_some_iff.mp hr).1
      rw [mStr_len] at this; exact this
    rw [kDs_0 (by omega)]; exact hf i r hr, fun w hw hfa a => va_tabs (by cases w <;> first | rfl | (simp [Cond.faceAtom] at hfa)) rfl (hts w hw), hK⟩
theorem mStartR {dC : Nat → ClassId} {dI : Nat → Nat → Nat} {scr : Cell} (h1 : s.heap[b]? = some scr) (h2 : ∀ z, scr.vm ≠ .statics z) (h3 : scr.vm ≠ .unknown) (h4 : scr.slots.size = L) (h5 : ∀ j : Nat, j < L → scr.slots[j]? = some (.int (xs j))) (hd : dC 208 = scr.cls) : mRel dC dI s.heap.size s.heap (mM0 b L s.heap.size xs) s.heap := by
  have hb : b < s.heap.size := (Array.getElem?_eq_some_iff.mp h1).1
  refine ⟨rfl, ⟨by omega, Nat.le_refl _, by show s.heap.size - s.heap.size ≤ mCC; omega, Nat.zero_le _, fun a q1 q2 => absurd q2 (by show ¬ a < s.heap.size; omega)⟩, fun _ _ => rfl, fun a ha => ?_⟩
  have hab : a = b := by
    by_cases q : a = b
    · exact q
    · exfalso; apply ha; simp [mkd, mM0, q]
  subst hab
  have hk : mkd (mM0 a L s.heap.size xs) a = 208 := by simp [mkd, mM0]
  have hl : mln (mM0 a L s.heap.size xs) a = L := by simp [mln, mM0]
  rw [hk]
  refine ⟨⟨hb, trivial, fun q => by omega⟩, fun q => by omega, fun _ q => by omega, fun _ q => by omega, fun _ => ⟨scr, h1, hd.symm, h2, h3, by rw [hl]; exact h4, fun j hj => ?_⟩⟩
  rw [hl] at hj
  rw [h5 j hj]
  simp [mi, mM0]
end START
