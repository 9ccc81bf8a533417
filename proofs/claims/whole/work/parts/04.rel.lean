/-! HOW THE SMALL MACHINE LIES IN THE LARGE ONE -/
def mrf (r : Nat) : Value := if r = 0 then .null else .ref r
def mAV (M : mM) (a k : Nat) : Nat → Value := match k with
  | 4 => fun j => .long (mj M a j)
  | 5 => fun j => mrf (mr M a j)
  | _ => fun j => .int (mi M a j)
def mIsR (t : FieldType) : Bool := match t with
  | .object _ => true
  | .array _ => true
  | _ => false
def mOV (M : mM) (a k : Nat) : Nat → Value := fun f => if mIsR (mY k f) = true then mrf (mr M a f) else .int (mi M a f)
def mCell (dC : Nat → ClassId) (dI : Nat → Nat → Nat) (M : mM) (a k : Nat) (H : Heap) : Prop :=
  (k < 10 → H[a]? = some (arrV (dC k) (mln M a) (mAV M a k))) ∧
  (10 ≤ k → k < 100 → ∃ ce : Cell, H[a]? = some ce ∧ ce.cls = dC k ∧ ce.vm = .none) ∧
  (100 ≤ k → k < 200 → t_OB a (dC k) (mN k) (dI k) H (mOV M a k)) ∧
  (200 ≤ k → ∃ ce : Cell, H[a]? = some ce ∧ ce.cls = dC k ∧ (∀ z, ce.vm ≠ .statics z) ∧ ce.vm ≠ .unknown ∧ ce.slots.size = mln M a ∧ ∀ j, j < mln M a → ce.slots[j]? = some (.int (mi M a j)))
/-- M lies in H: cells below B are as they were in H0 -/
def mRel (dC : Nat → ClassId) (dI : Nat → Nat → Nat) (B : Nat) (H0 : Heap) (M : mM) (H : Heap) : Prop :=
  H.size = msz M ∧ (0 < B ∧ B ≤ msz M ∧ msz M - B ≤ mCC ∧ mns M ≤ mCS ∧ ∀ a, B ≤ a → a < msz M → ¬ mkd M a = 0) ∧ (∀ q : Nat, q < B → H[q]? = H0[q]?) ∧ ∀ a, mkd M a ≠ 0 → (a < msz M ∧ True ∧ (mkd M a < 200 → B ≤ a)) ∧ mCell dC dI M a (mkd M a) H
/-- what is known of the tables -/
def mKnow (dC : Nat → ClassId) (dI : Nat → Nat → Nat) (U : State) : Prop :=
  (∀ w ∈ lw_tbl, goodWord w = true → ∀ a : Array Value, w.before a U = true) ∧ (∀ k, 100 ≤ k → k < 112 → u_Kn U (mNm k) (mT k) (mN k) (dC k) (dI k)) ∧
  (∀ k, 1 ≤ k → k < 6 → ArrOfT U (dC k) (mTy k) ∧ va_RA U (dC k) (mTy k)) ∧ (U.vm.findClass (mNm 90) = some (dC 90) ∧ U.vm.findClass (mNm 91) = some (dC 91) ∧ va_AO "TinyShell$Text" U) ∧
  ∀ ce : Cell, ce.cls = dC 208 → (∀ z, ce.vm ≠ .statics z) → U.isArrayOf ce .int
theorem mKnow.moved {dC : Nat → ClassId} {dI : Nat → Nat → Nat} {s U : State} (hW : s.WarmedH U.vm) (h : mKnow dC dI s) : mKnow dC dI U := by
  obtain ⟨h1, h2, h3, ⟨h4, h5, h7⟩, h6⟩ := h
  refine ⟨fun w hw hg a => word_at (args := a) hW (good_of_word hg) (h1 w hw hg a), fun k a b => u_Kn_moved hW.alike (h2 k a b), fun k a b => ⟨arrOfT_moved hW.alike (h3 k a b).1, (h3 k a b).2.moved hW.alike⟩, ⟨by rw [hW.alike.findClass]; exact h4, by rw [hW.alike.findClass]; exact h5, va_AO.moved hW.alike h7⟩, fun ce a b => State.isArrayOf_alike hW.alike (h6 ce a b)⟩
/-- locals -/
def mLR (L : mL) (ls : Array Slot) (n : Nat) : Prop := ls.size = n ∧ L.length = n ∧ lv_wf ls ∧ ∀ (i : Nat) (v : Value), m_at L i = some v → ls[i]? = some (.val v)
def mAs : Nat → mL → List (Nat × Value)
  | _, [] => []
  | i, none :: l => mAs (i + 1) l
  | i, some v :: l => (i, v) :: mAs (i + 1) l
theorem mAs_mem : ∀ (l : mL) (i : Nat) (q : Nat × Value), q ∈ mAs i l ↔ ∃ k, q.1 = i + k ∧ m_at l k = some q.2
  | [], i, q => by simp [mAs, m_at]
  | none :: l, i, q => by
    rw [mAs, mAs_mem l (i + 1) q]
    constructor
    · rintro ⟨k, h1, h2⟩
      exact ⟨k + 1, by omega, h2⟩
    · rintro ⟨k, h1, h2⟩
      cases k with
      | zero => simp [m_at] at h2
      | succ k => exact ⟨k, by omega, h2⟩
  | some v :: l, i, q => by
    rw [mAs, List.mem_cons, mAs_mem l (i + 1) q]
    constructor
    · rintro (rfl | ⟨k, h1, h2⟩)
      · exact ⟨0, rfl, rfl⟩
      · exact ⟨k + 1, by omega, h2⟩
    · rintro ⟨k, h1, h2⟩
      cases k with
      | zero =>
        left
        simp only [m_at, Option.some.injEq] at h2
        obtain ⟨a, b⟩ := q
        simp only at h1 h2
        rw [h1, ← h2]
        rfl
      | succ k => exact Or.inr ⟨k, by omega, h2⟩
theorem mLR.has {L : mL} {ls : Array Slot} {n : Nat} (h : mLR L ls n) : lv_has ls n (mAs 0 L) := by
  refine ⟨h.1, h.2.2.1, fun q hq => ?_⟩
  obtain ⟨k, h1, h2⟩ := (mAs_mem L 0 q).mp hq
  rw [h1, Nat.zero_add]
  exact h.2.2.2 k q.2 h2
theorem m_at_set : ∀ (L : mL) (i j : Nat) (v : Option Value), m_at (m_set L i v) j = if j = i ∧ i < L.length then v else m_at L j
  | [], i, j, v => by simp [m_set, m_at]
  | w :: l, 0, 0, v => by simp [m_set, m_at]
  | w :: l, 0, j + 1, v => by simp [m_set, m_at]
  | w :: l, i + 1, 0, v => by simp [m_set, m_at]
  | w :: l, i + 1, j + 1, v => by
    simp only [m_set, m_at, List.length_cons]
    rw [m_at_set l i j v]
    by_cases h : j = i ∧ i < l.length
    · rw [if_pos h, if_pos ⟨by omega, by omega⟩]
    · rw [if_neg h, if_neg (fun q => h ⟨by omega, by omega⟩)]
theorem m_set_len : ∀ (L : mL) (i : Nat) (v : Option Value), (m_set L i v).length = L.length
  | [], i, v => rfl
  | w :: l, 0, v => rfl
  | w :: l, i + 1, v => by simp [m_set, m_set_len l i v]
theorem m_kill_len (L : mL) (i : Nat) : (m_kill L i).length = L.length := by
  cases i with
  | zero => rfl
  | succ i =>
    simp only [m_kill]
    split <;> first | rfl | exact m_set_len _ _ _
theorem m_kill_at {L : mL} {i j : Nat} {v : Value} (h : m_at (m_kill L i) j = some v) : m_at L j = some v ∧ ¬ (j + 1 = i ∧ v.category = 2) := by
  cases i with
  | zero => exact ⟨h, fun q => by omega⟩
  | succ i =>
    simp only [m_kill] at h
    split at h
    next x hx =>
      rw [m_at_set] at h
      by_cases q : j = i ∧ i < L.length
      · rw [if_pos q] at h; cases h
      · rw [if_neg q] at h
        refine ⟨h, fun z => q ⟨by omega, ?_⟩⟩
        exact Nat.not_le.mp fun hle => by
          have : ∀ (L : mL) (i : Nat), L.length ≤ i → m_at L i = none := by
            intro L
            induction L with
            | nil => intro i _; rfl
            | cons w l ih => intro i hi; cases i with
              | zero => simp at hi
              | succ i => exact ih i (by simpa using hi)
          rw [this L i hle] at hx; cases hx
    next x hx =>
      rw [m_at_set] at h
      by_cases q : j = i ∧ i < L.length
      · rw [if_pos q] at h; cases h
      · rw [if_neg q] at h
        refine ⟨h, fun z => q ⟨by omega, ?_⟩⟩
        exact Nat.not_le.mp fun hle => by
          have : ∀ (L : mL) (i : Nat), L.length ≤ i → m_at L i = none := by
            intro L
            induction L with
            | nil => intro i _; rfl
            | cons w l ih => intro i hi; cases i with
              | zero => simp at hi
              | succ i => exact ih i (by simpa using hi)
          rw [this L i hle] at hx; cases hx
    next h1 h2 =>
      refine ⟨h, fun z => ?_⟩
      have e1 : j = i := by omega
      subst e1
      cases v <;> simp [Value.category] at z <;> first | exact h1 _ h | exact h2 _ h
theorem mLR.st1 {L : mL} {ls ls' : Array Slot} {n i : Nat} {v : Value} (h : mLR L ls n) (hl : lv_has ls' n ((i, v) :: (mAs 0 L).filter (fun q => !(q.1 == i) && !(q.1 + 1 == i && q.2.category == 2)))) : mLR (m_st1 L i v) ls' n := by
  refine ⟨hl.1, by rw [m_st1, m_set_len, m_kill_len]; exact h.2.1, hl.2.1, fun j w hw => ?_⟩
  rw [m_st1, m_at_set, m_kill_len] at hw
  by_cases q : j = i ∧ i < L.length
  · rw [if_pos q] at hw
    cases hw
    exact hl.2.2 (j, v) (by rw [q.1]; exact List.mem_cons_self)
  · rw [if_neg q] at hw
    obtain ⟨h1, h2⟩ := m_kill_at hw
    have hj : j < L.length := Nat.not_le.mp fun hle => by
      have : ∀ (L : mL) (i : Nat), L.length ≤ i → m_at L i = none := by
        intro L
        induction L with
        | nil => intro i _; rfl
        | cons w l ih => intro i hi; cases i with
          | zero => simp at hi
          | succ i => exact ih i (by simpa using hi)
      rw [this L j hle] at h1; cases h1
    have hji : ¬ j = i := fun e1 => q ⟨e1, by omega⟩
    refine hl.2.2 (j, w) (List.mem_cons_of_mem _ (List.mem_filter.mpr ⟨(mAs_mem L 0 (j, w)).mpr ⟨j, by simp, h1⟩, ?_⟩))
    by_cases z : j + 1 = i
    · have : ¬ w.category = 2 := fun y => h2 ⟨z, y⟩
      simp [hji, this]
    · simp [hji, z]
theorem mLR.st2 {L : mL} {ls ls' : Array Slot} {n i : Nat} {v : Value} (h : mLR L ls n) (hi : i + 1 < n) (hl : lv_has ls' n ((i, v) :: (mAs 0 L).filter (fun q => !(q.1 == i) && (!(q.1 == i + 1) && !(q.1 + 1 == i && q.2.category == 2))))) : mLR (m_st2 L i v) ls' n := by
  refine ⟨hl.1, by rw [m_st2, m_set_len, m_set_len, m_kill_len]; exact h.2.1, hl.2.1, fun j w hw => ?_⟩
  rw [m_st2, m_at_set, m_set_len, m_kill_len, m_at_set, m_kill_len] at hw
  by_cases q : j = i ∧ i < L.length
  · rw [if_pos q] at hw
    cases hw
    exact hl.2.2 (j, v) (by rw [q.1]; exact List.mem_cons_self)
  · rw [if_neg q] at hw
    by_cases q2 : j = i + 1 ∧ i + 1 < L.length
    · rw [if_pos q2] at hw; cases hw
    · rw [if_neg q2] at hw
      obtain ⟨h1, h2⟩ := m_kill_at hw
      have hn := h.2.1
      have hji : ¬ j = i := fun e1 => q ⟨e1, by omega⟩
      have hji2 : ¬ j = i + 1 := fun e1 => q2 ⟨e1, by omega⟩
      refine hl.2.2 (j, w) (List.mem_cons_of_mem _ (List.mem_filter.mpr ⟨(mAs_mem L 0 (j, w)).mpr ⟨j, by simp, h1⟩, ?_⟩))
      by_cases z : j + 1 = i
      · have : ¬ w.category = 2 := fun y => h2 ⟨z, y⟩
        simp [hji, hji2, this]
      · simp [hji, hji2, z]
/-- the entry's locals -/
theorem m_arg_at : ∀ (vs : List Value) (i : Nat) (k : Nat) (v : Value), m_at (m_arg vs) k = some v → (i + k, v) ∈ lv_args i vs
  | [], i, k, v, h => by simp [m_arg, m_at] at h
  | w :: l, i, k, v, h => by
    have key : w.category = 2 → m_arg (w :: l) = some w :: none :: m_arg l := by intro q; cases w <;> first | rfl | (simp [Value.category] at q)
    have key1 : ¬ w.category = 2 → m_arg (w :: l) = some w :: m_arg l := by intro q; cases w <;> first | rfl | (simp [Value.category] at q)
    rw [lv_args]
    by_cases q : w.category = 2
    · rw [key q] at h
      rw [if_pos q]
      match k, h with
      | 0, h => simp only [m_at, Option.some.injEq] at h; subst h; exact List.mem_cons_self
      | 1, h => simp [m_at] at h
      | k + 2, h =>
        have := m_arg_at l (i + 2) k v h
        exact List.mem_cons_of_mem _ (by rw [show i + (k + 2) = i + 2 + k by omega]; exact this)
    · rw [key1 q] at h
      rw [if_neg q]
      match k, h with
      | 0, h => simp only [m_at, Option.some.injEq] at h; subst h; exact List.mem_cons_self
      | k + 1, h =>
        have := m_arg_at l (i + 1) k v h
        exact List.mem_cons_of_mem _ (by rw [show i + (k + 1) = i + 1 + k by omega]; exact this)
theorem m_arg_len (vs : List Value) : (m_arg vs).length = (lg_sl vs).length := by
  induction vs with
  | nil => rfl
  | cons w l ih =>
    have e : lg_sl (w :: l) = (if w.category = 2 then [Slot.val w, .second] else [.val w]) ++ lg_sl l := by simp [lg_sl]
    rw [e, List.length_append, ← ih]
    cases w <;> simp [m_arg, Value.category] <;> omega
theorem m_at_app : ∀ (a : mL) (n i : Nat) (v : Value), m_at (a ++ List.replicate n none) i = some v → m_at a i = some v
  | [], n, i, v, h => by
    exfalso
    induction n generalizing i with
    | zero => simp [m_at] at h
    | succ n ih =>
      rw [List.nil_append, List.replicate_succ] at h
      cases i with
      | zero => simp [m_at] at h
      | succ i => exact ih i (by simpa [m_at] using h)
  | w :: l, n, 0, v, h => h
  | w :: l, n, i + 1, v, h => m_at_app l n i v h
theorem mLR_entry (vs : List Value) {n : Nat} (h : (m_arg vs).length ≤ n) : mLR (m_ent vs n) ((lg_sl vs ++ List.replicate (n - (lg_sl vs).length) Slot.unset).toArray) n := by
  have h0 := lv_entry vs (n := n) (by rw [← m_arg_len]; exact h)
  refine ⟨h0.1, by rw [m_ent, List.length_append, List.length_replicate]; omega, h0.2.1, fun i v hv => ?_⟩
  have := m_arg_at vs 0 i v (m_at_app _ _ _ _ hv)
  rw [Nat.zero_add] at this
  exact h0.2.2 (i, v) this
