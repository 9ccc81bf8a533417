/-! THE REFERENCE: a command's words -/
/-- the reference at work: text, tokens, the working copies -/
def mW (M : mM) (m : Nat) (s : List Nat) (T : List tkn) (vs : eL) (po : List (List Nat)) (fl : eL) (stt : Nat) : Prop := mS M m ∧ mdT M m s ∧ tkX M m T ∧ vrX M m 1 vs ∧ poX M m 1 po ∧ flX M m 1 fl ∧ mi M (m + 18) 1 = I stt
def okW (vs : eL) (po : List (List Nat)) (fl : eL) (stt : Nat) : Prop := okN fl ∧ okE vs ∧ okL po ∧ stt ≤ 255 ∧ ndE vs ∧ ndE fl
abbrev nW : List Nat := [1, 102, 2, 104, 11, 21, 31, 41]
/-- a dead run -/
def ddX (M : mM) (m : Nat) : Prop := mi M m 25 = I 1
theorem exN_de {fl vs : eL} {s : List Nat} {po : List (List Nat)} {stt : Nat} {pa : Bool} {ps : List (List Nat)} : ∀ (n p : Nat) (g : fS) {g' : fS}, adFs fl g.1 [] = none → exN s vs po stt pa ps n p g = some g' → adFs fl g'.1 [] = none
  | 0, p, g, g', h, e => by unfold exN at e; cases e; exact h
  | n + 1, p, g, g', h, e => by
    unfold exN at e
    cases z : exPc s vs po stt pa (ps.getD p []) g with
    | none => rw [z] at e; cases e
    | some x => rw [z] at e; exact exN_de n (p + 1) x (exPc_de h z) e
theorem tk_de {fl : eL} {g : fS} {x : List (List Nat) × List Nat} (h : adFs fl g.1 [] = none) (e : tk g.1 g.2.1 g.2.2 = some x) : adFs fl x.1 [] = none := by
  unfold tk at e
  split at e
  · cases e; exact h
  · split at e
    · cases e; exact adFs_no h
    · cases e
theorem exWs_de {fl vs : eL} {s : List Nat} {po : List (List Nat)} {stt : Nat} {ps is : List (List Nat)} : ∀ (n it : Nat) (ts : List (List Nat)) (sp : List Nat), adFs fl ts [] = none → ((exWs s vs po stt ps is n it ts sp).bind fun x => adFs fl x.1 []) = none
  | 0, it, ts, sp, h => h
  | n + 1, it, ts, sp, h => by
    unfold exWs
    split
    · unfold exI
      cases g : exN s vs po stt true ps ((is.getD it []).getD 2 0 - (is.getD it []).getD 1 0) ((is.getD it []).getD 1 0) (ts, sp, false) with
      | none => rfl
      | some x =>
        have hx : adFs fl x.1 [] = none := exN_de _ _ _ h g
        show ((tk x.1 x.2.1 x.2.2).bind _).bind _ = none
        cases gt : tk x.1 x.2.1 x.2.2 with
        | none => rfl
        | some y => exact exWs_de n (it + 1) y.1 y.2 (tk_de hx gt)
    · exact exWs_de n (it + 1) ts sp h
section MWRD
variable {E : mE} {M M' : mM} {Q : mQ} {m : Nat} {s : List Nat} {T : List tkn} {vs fl : eL} {po : List (List Nat)} {stt : Nat} {pa : Bool} {F : List (List Nat)} {is ps : List (List Nat)} {S : List Nat}
theorem mW.mv (h : mW M m s T vs po fl stt) (f : fm m S M M') (n : nW.all (fun x => !S.contains x) = true) : mW M' m s T vs po fl stt := by
  obtain ⟨h1, h2, h3, h4, h5, h6, h7⟩ := h
  simp only [nW, List.all_cons, List.all_nil, Bool.and_true, Bool.and_eq_true, Bool.not_eq_true'] at n
  obtain ⟨n1, n2, n3, n4, n5, n6, n7, n8⟩ := n
  exact ⟨h1.mv f.1, h2.mv f n1 n2, h3.mv f n3 n4, h4.mv f n5, h5.mv f n6, h6.mv f n7, by rw [f.2.2 18 1 (by omega) n8]; exact h7⟩
theorem m_cmdEnd {t b : Nat} (h : mS M m) (k : tkX M m T) (hb : b ≤ T.length) (h1 : ∀ i, t ≤ i → i < b → 6 ≤ (tkD T i).1) (h2 : b < T.length → (tkD T b).1 < 6) (htb : t ≤ b) (hq : Q (.inl (some (.int (I b)))) M) : mC E 185 [.ref m, .int (I t)] M Q := by
  have kl := k.2.1
  have go : ∀ (n i : Nat), n = b - i → t ≤ i → i ≤ b → mX E 185 1 [some (.ref m), some (.int (I t)), some (.int (I i))] [] M Q := by
    intro n
    induction n with
    | zero =>
      intro i hn i1 i2
      have e : i = b := by omega
      subst e
      refine w185_1 ⟨h.k0, fun _ => hq, fun c => ?_⟩
      rw [k.1, I_le (by omega) (by omega) (by omega) (by omega)] at c
      refine ⟨h.n5, by rw [h.f5]; exact h.k2, by rw [h.f5, h.l2]; exact I_in (by omega) (by omega) (by omega), ?_⟩
      obtain ⟨k1, -, -, k4, -⟩ := k.2.2 i (by omega)
      have z := h2 (by omega)
      rw [h.f5, I_ntn (by omega), k1]
      refine ⟨fun _ => hq, fun c2 => ?_⟩
      rw [I_lt (by omega) (by omega) (by omega) (by omega)] at c2
      have d : tkD T i = T.getD i (0, 0, 0) := rfl
      rw [d] at z; omega
    | succ n ih =>
      intro i hn i1 i2
      obtain ⟨k1, -, -, k4, -⟩ := k.2.2 i (by omega)
      have z := h1 i i1 (by omega)
      have d : tkD T i = T.getD i (0, 0, 0) := rfl
      rw [d] at z
      refine w185_1 ⟨h.k0, fun c => ?_, fun c => ⟨h.n5, by rw [h.f5]; exact h.k2, by rw [h.f5, h.l2]; exact I_in (by omega) (by omega) (by omega), ?_⟩⟩
      · rw [k.1, I_le (by omega) (by omega) (by omega) (by omega)] at c; omega
      · rw [h.f5, I_ntn (by omega), k1]
        refine ⟨fun c2 => ?_, fun c2 => ?_⟩
        · rw [I_lt (by omega) (by omega) (by omega) (by omega)] at c2; omega
        · rw [I_add]; exact ih (i + 1) (by omega) (by omega) (by omega)
  exact w185_0 (go _ t rfl (Nat.le_refl _) htb)
theorem m_skip (h : mS M m) (k : tkX M m T) (n : Nat) : ∀ {t0 : Int32} (t : Nat), n = T.length - t → t ≤ T.length + 1 → (∀ q, t ≤ q → (t ≤ T.length → q ≤ T.length) → (∀ i, t ≤ i → i < q → (tkD T i).1 = 5) → (q < T.length → ¬ (tkD T q).1 = 5) → Q (.inl (some (.int (I q)))) M) → mX E 186 1 [some (.ref m), some (.int t0), some (.int (I t))] [] M Q := by
  have kl := k.2.1
  induction n with
  | zero =>
    intro t0 t hn ht hq
    refine w186_1 ⟨h.k0, fun _ => hq t (Nat.le_refl _) (fun z => z) (fun i i1 i2 => by omega) (fun z => by omega), fun c => ?_⟩
    rw [k.1, I_le (by omega) (by omega) (by omega) (by omega)] at c; omega
  | succ n ih =>
    intro t0 t hn ht hq
    obtain ⟨k1, -, -, k4, -⟩ := k.2.2 t (by omega)
    have d : tkD T t = T.getD t (0, 0, 0) := rfl
    refine w186_1 ⟨h.k0, fun c => ?_, fun c => ⟨h.n5, by rw [h.f5]; exact h.k2, by rw [h.f5, h.l2]; exact I_in (by omega) (by omega) (by omega), ?_⟩⟩
    · rw [k.1, I_le (by omega) (by omega) (by omega) (by omega)] at c; omega
    · rw [h.f5, I_ntn (by omega), k1]
      refine ⟨fun c2 => ?_, fun c2 => ?_⟩
      · rw [I_eq (by omega) (by omega) (by omega) (by omega)] at c2
        exact hq t (Nat.le_refl _) (fun z => z) (fun i i1 i2 => by omega) (fun _ => by rw [d]; omega)
      · rw [I_eq (by omega) (by omega) (by omega) (by omega)] at c2
        rw [I_add]
        refine ih (t + 1) (by omega) (by omega) (fun q h1 h2 h3 h4 => hq q (by omega) (fun _ => h2 (by omega)) (fun i i1 i2 => ?_) h4)
        by_cases z : i = t
        · subst z; rw [d]; omega
        · exact h3 i (by omega) i2
theorem m_skipN {t : Nat} (h : mS M m) (k : tkX M m T) (ht : t ≤ T.length + 1) (hq : ∀ q, t ≤ q → (t ≤ T.length → q ≤ T.length) → (∀ i, t ≤ i → i < q → (tkD T i).1 = 5) → (q < T.length → ¬ (tkD T q).1 = 5) → Q (.inl (some (.int (I q)))) M) : mC E 186 [.ref m, .int (I t)] M Q :=
  w186_0 (m_skip h k _ t rfl ht hq)
/-- an assignment is a name and = -/
def isAs (s : List Nat) (p : Nat) : Bool := decide (p < nE s p ∧ s.getD (nE s p) 0 = 61)
theorem m_isAs {t : Nat} (h : mS M m) (tt : mdT M m s) (k : tkX M m T) (ht : t < T.length) (hq : Q (.inl (some (.int (I (bI (isAs s (tkD T t).2.1)))))) M) : mC E 157 [.ref m, .int (I t)] M Q := by
  have kl := k.2.1
  have tl := tt.2.1
  obtain ⟨-, k2, -, -, k5, -⟩ := k.2.2 t ht
  have nb := nE_bd s (tkD T t).2.1
  have d : tkD T t = T.getD t (0, 0, 0) := rfl
  have li : vp_in (I t) (mln M (m + 3)) := by rw [h.l3]; exact I_in (by omega) (by omega) (by omega)
  unfold isAs at hq
  rw [d] at hq nb
  refine w157_0 ⟨h.k0, h.n6, by rw [h.f6]; exact h.k3, by rw [h.f6]; exact li, ?_⟩
  rw [h.f6, I_ntn (by omega), k2]
  refine m_nameEnd h tt (by omega) ⟨h.k0, h.n6, by rw [h.f6]; exact h.k3, by rw [h.f6]; exact li, ?_⟩
  rw [h.f6, k2]
  refine ⟨fun c => ?_, fun c => m_ch h tt (by omega) ?_⟩
  · rw [I_le (by omega) (by omega) (by omega) (by omega)] at c
    rw [decide_eq_false (fun z => by omega)] at hq; exact hq
  · rw [I_le (by omega) (by omega) (by omega) (by omega)] at c
    have ch := tt.ch (nE s (T.getD t (0, 0, 0)).2.1)
    refine ⟨fun c2 => ?_, fun c2 => ?_⟩
    · rw [I_eq (by omega) (by omega) (by omega) (by omega)] at c2
      rw [decide_eq_false (fun z => by omega)] at hq; exact hq
    · rw [I_eq (by omega) (by omega) (by omega) (by omega)] at c2
      rw [decide_eq_true ⟨by omega, by omega⟩] at hq; exact hq
theorem wKd_as {p : Nat} {ws : Bool} : wKd s p 2 0 ws = if ws = false ∧ isAs s p = true then (1, nE s p + 1, false) else (0, p, true) := by
  unfold wKd isAs
  rw [if_neg (by decide)]
  by_cases q : ws = false ∧ p < nE s p ∧ s.getD (nE s p) 0 = 61
  · rw [if_pos q, if_pos ⟨q.1, decide_eq_true q.2⟩, q.1]
  · rw [if_neg q, if_neg]
    exact fun z => q ⟨z.1, of_decide_eq_true z.2⟩
/-- what stands when an expansion begins -/
def exB (M : mM) (m : Nat) (pa : Bool) (F : List (List Nat)) : Prop := fdX M m F ∧ mi M m 31 = I (bI pa) ∧ mi M m 25 = I 0
theorem exA.B {g : fS} (h : exA M m pa g) : exB M m pa g.1 := ⟨h.1, h.2.2.2.1, h.2.2.2.2⟩
theorem m_expand {k e : Nat} {acc R : List (List Nat)} (w : mW M m s T vs po fl stt) (ok : okW vs po fl stt) (hk : k ≤ s.length) (hp : pL s 240 false k acc = .inl (e, acc ++ R)) (ex : exB M m pa F) (hq : ∀ M', exO M' m pa (gPs fl s vs po stt pa R (F, [], false)) → fm m sX M M' → Q (.inl none) M') : mC E 151 [.ref m, .int (I k), .int (I e)] M Q := by
  obtain ⟨w1, w2, w3, w4, w5, w6, w7⟩ := w
  have sl := w2.2.1
  refine w151_0 ⟨w1.k0, fun M1 q1 M2 q2 => ?_⟩
  have f1 : fm m sX M M1 := fm_o q1 (by decide)
  have f2 : fm m sX M1 M2 := fm_o q2 (by decide)
  have f := f1.trans f2
  obtain ⟨e1, e2, e3⟩ := ex
  have fd : fdX M2 m F := by
    have g1 : fm m [127] M M1 := fm_o q1 (by decide)
    have g2 : fm m [130] M1 M2 := fm_o q2 (by decide)
    exact (e1.mv g1 (by decide) (by decide)).mv g2 (by decide) (by decide)
  refine m_expand_l ok.1 ok.2.1 ok.2.2.1 ok.2.2.2.1 _ k 240 acc R (some (F, [], false)) M2 none none (Nat.le_refl _) hk (by omega) hp (w1.mv f.1) (w2.mv f (by decide) (by decide)) (w4.mv f (by decide)) (w5.mv f (by decide)) (w6.mv f (by decide)) (by rw [f.2.2 18 1 (by omega) (by decide)]; exact w7) ?_ (fun M' e' f' => hq M' e' (f.trans f'))
  refine ⟨fd, ⟨?_, by show 0 ≤ 40; omega, fun k hk => absurd hk (Nat.not_lt_zero k), fun c hc => absurd hc List.not_mem_nil⟩, by rw [q2, i_is]; rfl, ?_, ?_⟩
  · rw [q2, i_ik (by decide), q1, i_is]; rfl
  · rw [q2, i_ik (by decide), q1, i_ik (by decide)]; exact e2
  · rw [q2, i_ik (by decide), q1, i_ik (by decide)]; exact e3
/-- pieces of kind 1 are not empty -/
theorem pS_1 {q q' : Bool} {p p' : Nat} {r : List Nat} (h : pS s q p = .inl (r, p', q')) (h1 : r.getD 0 0 = 1) : r.getD 1 0 < r.getD 2 0 := by
  have kp : ∀ {q : Bool} {a b c d : Nat}, ([kP q, a, b, c, d] : List Nat).getD 0 0 = 1 → False := by
    intro q a b c d z
    have : kP q = 1 := z
    unfold kP at this; split at this <;> omega
  unfold pS at h
  split at h
  · cases h; exact absurd (show 2 = 1 from h1) (by decide)
  · split at h
    · unfold esS at h
      split at h
      · cases h
      · cases h
        have : ∀ (P : Prop) [Decidable P], (if P then p else p + 1) < p + 2 := fun P _ => by
          by_cases y : P
          · rw [if_pos y]; omega
          · rw [if_neg y]; omega
        exact this _
    · split at h
      · split at h
        · unfold brS at h
          repeat' (split at h)
          all_goals (first | (cases h; exact absurd (kp h1) id) | cases h)
        · unfold doS at h
          repeat' (split at h)
          all_goals (cases h; first | exact absurd (kp h1) id | (show p < p + 1; omega))
      · split at h
        · cases h; show p < p + 1; omega
        · split at h
          · unfold sqS at h
            split at h
            · cases h; exact absurd (show 2 = 1 from h1) (by decide)
            · cases h
          · split at h
            · cases h
            · cases h; show p < p + 1; omega
theorem pL_1 : ∀ (n : Nat) (q : Bool) (p : Nat) (acc : List (List Nat)) (e : Nat) (R : List (List Nat)), pL s n q p acc = .inl (e, acc ++ R) → ∀ r ∈ R, r.getD 0 0 = 1 → pcQ r = true ∧ ¬ pcC s vs po stt r = []
  | 0, q, p, acc, e, R, h => by
    unfold pL at h
    split at h
    · cases h
    · have : R = [] := by
        have z := congrArg (fun x : (Nat × List (List Nat)) ⊕ Nat => match x with | .inl y => y.2.length | .inr _ => 0) h
        simp only [List.length_append] at z
        exact List.eq_nil_of_length_eq_zero (by omega)
      rw [this]; exact fun r hr => absurd hr List.not_mem_nil
  | n + 1, q, p, acc, e, R, h => by
    have nl : ∀ {p : Nat}, (.inl (p, acc) : (Nat × List (List Nat)) ⊕ Nat) = .inl (e, acc ++ R) → ∀ r ∈ R, r.getD 0 0 = 1 → pcQ r = true ∧ ¬ pcC s vs po stt r = [] := by
      intro p h
      have : R = [] := by
        have z := congrArg (fun x : (Nat × List (List Nat)) ⊕ Nat => match x with | .inl y => y.2.length | .inr _ => 0) h
        simp only [List.length_append] at z
        exact List.eq_nil_of_length_eq_zero (by omega)
      rw [this]; exact fun r hr => absurd hr List.not_mem_nil
    unfold pL at h
    by_cases hl : p < s.length
    · rw [if_pos hl] at h
      cases g : pS s q p with
      | inl x =>
        obtain ⟨r, p', q'⟩ := x
        rw [g] at h
        simp only at h
        obtain ⟨R', hR⟩ := pL_app n p' q' (acc ++ [r]) e (acc ++ R) h
        rw [List.append_assoc] at hR
        have hR' := List.append_cancel_left hR
        subst hR'
        rw [show acc ++ ([r] ++ R') = (acc ++ [r]) ++ R' by rw [List.append_assoc]] at h
        have ih := pL_1 n q' p' (acc ++ [r]) e R' h
        intro r2 hr2 h1
        rcases List.mem_append.mp hr2 with y | y
        · rw [List.mem_singleton] at y
          subst y
          have lt := pS_1 g h1
          refine ⟨by unfold pcQ; rw [h1]; rfl, ?_⟩
          unfold pcC
          rw [if_neg (by omega), rng_cons lt]
          exact List.cons_ne_nil _ _
        · exact ih r2 y h1
      | inr x =>
        rw [g] at h
        cases x with
        | none => exact nl h
        | some b => cases h
    · rw [if_neg hl] at h
      split at h
      · cases h
      · exact nl h
theorem itI_le : ∀ (n t rd : Nat) (ws : Bool) (it it2 : Nat), itI s T is ps n t rd ws it it2 → it ≤ it2
  | 0, t, rd, ws, it, it2, h => by unfold itI at h; omega
  | n + 1, t, rd, ws, it, it2, h => by
    unfold itI at h
    rcases h with h | h | h
    · have := itI_le n _ _ _ _ _ h.2.2.2; omega
    · have := itI_le n _ _ _ _ _ h.2.2; omega
    · have := itI_le n _ _ _ _ _ h.2.2.2; omega
theorem itI_red {t b it it2 : Nat} {ws : Bool} (hb : t < b) (h : itI s T is ps (b - t) t 0 ws it it2) (h9 : ¬ (tkD T t).1 = 9) : ((tkD T t).1 = 6 ∨ (tkD T t).1 = 7 ∨ (tkD T t).1 = 8) ∧ t + 1 < b ∧ (tkD T (t + 1)).1 = 9 ∧ wdI s is ps (tkD T (t + 1)) ((tkD T t).1 - 4) (tkD T (t + 1)).2.1 it ∧ itI s T is ps (b - (t + 2)) (t + 2) 0 ws (it + 1) it2 := by
  rw [show b - t = (b - (t + 1)) + 1 by omega] at h
  unfold itI at h
  rcases h with h | h | h
  · exact absurd h.2.1 h9
  · obtain ⟨-, h2, h3⟩ := h
    by_cases hb2 : t + 1 < b
    · rw [show b - (t + 1) = (b - (t + 2)) + 1 by omega] at h3
      unfold itI at h3
      rcases h3 with h | h | h
      · omega
      · omega
      · exact ⟨h2, hb2, h.2.1, h.2.2.1, h.2.2.2⟩
    · rw [show b - (t + 1) = 0 by omega] at h3
      unfold itI at h3; omega
  · omega
theorem itI_wd {t b it it2 : Nat} {ws : Bool} (hb : t < b) (h : itI s T is ps (b - t) t 0 ws it it2) (h9 : (tkD T t).1 = 9) : wdI s is ps (tkD T t) (wKd s (tkD T t).2.1 2 0 ws).1 (wKd s (tkD T t).2.1 2 0 ws).2.1 it ∧ itI s T is ps (b - (t + 1)) (t + 1) 0 (wKd s (tkD T t).2.1 2 0 ws).2.2 (it + 1) it2 := by
  rw [show b - t = (b - (t + 1)) + 1 by omega] at h
  unfold itI at h
  rcases h with h | h | h
  · exact h.2.2
  · omega
  · omega
/-- the pieces of an item -/
theorem wdI_p {x : tkn} {K k it : Nat} (h : wdI s is ps x K k it) : ∃ e R, x.2.2 = ((e : Nat) : Int) ∧ e ≤ s.length ∧ x.2.1 < s.length ∧ (is.getD it []).getD 0 0 = K ∧ (is.getD it []).getD 3 0 = x.2.1 ∧ (is.getD it []).getD 4 0 = nE s x.2.1 ∧ (∃ acc, pL s 240 false k acc = .inl (e, acc ++ R)) ∧ ∀ (vs : eL) (po : List (List Nat)) (stt : Nat) (pa : Bool) (ts : List (List Nat)) (sp : List Nat), exI s vs po stt pa ps (is.getD it []) ts sp = exLs s vs po stt pa R (ts, sp, false) := by
  obtain ⟨j0, j1, e, h1, h2, h3, h4, h5, h6, h7, h8⟩ := h
  have tk : ps.take j1 = ps.take j0 ++ (ps.drop j0).take (j1 - j0) := by
    rw [← List.take_add, show j0 + (j1 - j0) = j1 by omega]
  rw [h5]
  refine ⟨e, (ps.drop j0).take (j1 - j0), h1, h2, h3, rfl, rfl, rfl, ⟨ps.take j0, by rw [h8, tk]⟩, fun vs po stt pa ts sp => ?_⟩
  exact exN_Ls (j1 - j0) j0 _ (by omega)
abbrev sW : List Nat := [131, 108, 60, 61, 125, 127, 130, 133]
/-- the words of a command -/
theorem m_words_l {v1 : Int32} {b it2 : Nat} (ok : okW vs po fl stt) (hb : b ≤ T.length) (n : Nat) : ∀ (t it : Nat) (ws : Bool) (ts F : List (List Nat)) (M : mM), b - t ≤ n → t ≤ b → itI s T is ps (b - t) t 0 ws it it2 → mW M m s T vs po fl stt → exB M m true F → adFs fl ts [] = some F →
    (∀ F', ((exWs s vs po stt ps is (it2 - it) it ts []).bind fun x => adFs fl x.1 []) = some F' → ∀ M', exB M' m true F' → fm m sX M M' → Q (.inl none) M') →
    (((exWs s vs po stt ps is (it2 - it) it ts []).bind fun x => adFs fl x.1 []) = none → ∀ M', mi M' m 25 = I 1 → fm m sX M M' → Q (.inl none) M') →
    mX E 158 1 [some (.ref m), some (.int v1), some (.int (I b)), some (.int (I (bI (!ws)))), some (.int (I t))] [] M Q := by
  induction n with
  | zero =>
    intro t it ws ts F M hn ht hi w ex ha hq hd
    have kl := w.2.2.1.2.1
    refine w158_1 ⟨fun _ => ?_, fun c => ?_⟩
    · rw [show b - t = 0 by omega] at hi
      unfold itI at hi
      refine hq F ?_ M ex (fm.refl _ _ _)
      rw [show it2 - it = 0 by omega]
      exact ha
    · rw [I_le (by omega) (by omega) (by omega) (by omega)] at c; omega
  | succ n ih =>
    intro t it ws ts F M hn ht hi w ex ha hq hd
    by_cases hb0 : t = b
    · have kl := w.2.2.1.2.1
      refine w158_1 ⟨fun _ => ?_, fun c => ?_⟩
      · rw [show b - t = 0 by omega] at hi
        unfold itI at hi
        refine hq F ?_ M ex (fm.refl _ _ _)
        rw [show it2 - it = 0 by omega]
        exact ha
      · rw [I_le (by omega) (by omega) (by omega) (by omega)] at c; omega
    have lt : t < b := by omega
    have h := w.1
    have k := w.2.2.1
    have kl := k.2.1
    obtain ⟨k1, k2, k3, k4, k5, -⟩ := k.2.2 t (by omega)
    have d : tkD T t = T.getD t (0, 0, 0) := rfl
    rw [← d] at k1 k2 k3 k4 k5
    have li : ∀ {a : Nat}, mln M a = 241 → vp_in (I t) (mln M a) := fun e => by rw [e]; exact I_in (by omega) (by omega) (by omega)
    refine w158_1 ⟨fun c => ?_, fun _ => ⟨h.k0, fun c => ?_, fun _ => ⟨h.n5, by rw [h.f5]; exact h.k2, by rw [h.f5]; exact li h.l2, ?_⟩⟩⟩
    · rw [I_le (by omega) (by omega) (by omega) (by omega)] at c; omega
    · exact absurd ex.2.2 c
    · rw [h.f5, I_ntn (by omega), k1]
      refine ⟨fun c9 => ?_, fun c9 => ?_⟩
      · rw [I_eq (by omega) (by omega) (by omega) (by omega)] at c9
        have k9 : (tkD T t).1 = 9 := by omega
        obtain ⟨wd, rest⟩ := itI_wd lt hi k9
        have le := itI_le _ _ _ _ _ _ rest
        -- a word that is expanded
        have word : ¬ (ws = false ∧ isAs s (tkD T t).2.1 = true) → mX E 158 4 [some (.ref m), some (.int v1), some (.int (I b)), some (.int (I (bI (!ws)))), some (.int (I t))] [.int (I 0)] M Q := by
          intro na
          rw [wKd_as, if_neg na] at wd rest
          obtain ⟨e, R, e1, e2, e3, e4, -, -, ⟨acc, e5⟩, e6⟩ := wdI_p wd
          refine w158_4 ⟨fun z => absurd rfl z, fun _ => ⟨h.k0, h.n6, by rw [h.f6]; exact h.k3, by rw [h.f6]; exact li h.l3, h.n7, by rw [h.f7]; exact h.k4, by rw [h.f7]; exact li h.l4, ?_⟩⟩
          rw [h.f6, h.f7, I_ntn (by omega), k2, k3, e1]
          have st : exWs s vs po stt ps is (it2 - it) it ts [] = ((exLs s vs po stt true R (ts, [], false)).bind fun g => (tk g.1 g.2.1 g.2.2).bind fun x => exWs s vs po stt ps is (it2 - (it + 1)) (it + 1) x.1 x.2) := by
            rw [show it2 - it = (it2 - (it + 1)) + 1 by omega]
            conv => lhs; unfold exWs
            rw [if_pos e4, e6]
          rw [st] at hq hd
          have rl := exLs_rel (fl := fl) (s := s) (vs := vs) (po := po) (stt := stt) (pa := true) R (g := (ts, [], false)) (gM := (F, [], false)) (pL_1 _ _ _ _ _ _ e5) ⟨ha, rfl, fun _ => rfl⟩
          refine m_expand w ok (by omega) e5 ex (fun M1 x1 f1 => ?_)
          have w1 := w.mv f1 (by decide)
          refine ⟨w1.1.k0, m_finish w1.1 ok.1 w1.2.2.2.2.2.1 x1 (fun M2 x2 f2 => ?_)⟩
          have f2' := f1.trans (f2.w (S' := sX) (by decide))
          have w2 := w.mv f2' (by decide)
          rw [I_add]
          have dead : mi M2 m 25 = I 1 → (((exLs s vs po stt true R (ts, [], false)).bind fun g => (tk g.1 g.2.1 g.2.2).bind fun x => exWs s vs po stt ps is (it2 - (it + 1)) (it + 1) x.1 x.2).bind fun x => adFs fl x.1 []) = none → mX E 158 1 [some (.ref m), some (.int v1), some (.int (I b)), some (.int (I 0)), some (.int (I (t + 1 : Nat)))] [] M2 Q := by
            intro d1 nn
            refine w158_1 ⟨fun _ => hd nn M2 d1 f2', fun _ => ⟨w2.1.k0, fun _ => hd nn M2 d1 f2', fun z => ?_⟩⟩
            rw [d1] at z; exact absurd z (by decide)
          cases gp : gPs fl s vs po stt true R (F, [], false) with
          | none =>
            rw [gp] at rl x2
            refine dead x2.1 ?_
            cases ge : exLs s vs po stt true R (ts, [], false) with
            | none => rfl
            | some g =>
              have dn := rl g ge
              show ((tk g.1 g.2.1 g.2.2).bind fun x => _).bind _ = none
              cases gt : tk g.1 g.2.1 g.2.2 with
              | none => rfl
              | some x => exact exWs_de _ _ _ _ (tk_de dn gt)
          | some gM =>
            rw [gp] at rl x2
            obtain ⟨g, ge, xr⟩ := rl
            rw [ge] at hq hd dead
            simp only [Option.bind_some] at hq hd dead
            rcases tk_rel xr with ⟨x, gM', t1, t2, t3, t4⟩ | ⟨t1, t2⟩
            · have x2' : exA M2 m true gM' := by
                have : (some gM : Option fS).bind (gFi fl) = some gM' := t2
                rw [this] at x2; exact x2
              rw [t1] at hq hd
              simp only [Option.bind_some] at hq hd
              rw [t4] at hq hd
              have bb : bI (!true) = 0 := rfl
              have := ih (t + 1) (it + 1) true x.1 gM'.1 M2 (by omega) (by omega) rest w2 x2'.B t3.1 (fun F' hF M' x' f' => hq F' hF M' x' (f2'.trans f')) (fun hn M' x' f' => hd hn M' x' (f2'.trans f'))
              exact this
            · have : (some gM : Option fS).bind (gFi fl) = none := t1
              rw [this] at x2
              refine dead x2.1 ?_
              cases gt : tk g.1 g.2.1 g.2.2 with
              | none => rfl
              | some x => exact exWs_de _ _ _ _ (t2 x gt)
        refine ⟨fun c => ?_, fun c => m_isAs h w.2.1 k (by omega) ⟨fun c2 => w158_3 (word (fun z => ?_)), fun c2 => w158_4 ⟨fun _ => ?_, fun z => absurd z (by decide)⟩⟩⟩
        · refine w158_3 (word (fun z => ?_))
          rw [z.1] at c; exact absurd c (by decide)
        · rw [z.2] at c2; exact absurd c2 (by decide)
        · -- an assignment
          have ws0 : ws = false := by
            cases ws with
            | false => rfl
            | true => exact absurd rfl c
          have as1 : isAs s (tkD T t).2.1 = true := by
            cases g : isAs s (tkD T t).2.1 with
            | true => rfl
            | false => rw [g] at c2; exact absurd rfl c2
          rw [wKd_as, if_pos ⟨ws0, as1⟩] at wd rest
          obtain ⟨e, R, -, -, -, e4, -⟩ := wdI_p wd
          have st : exWs s vs po stt ps is (it2 - it) it ts [] = exWs s vs po stt ps is (it2 - (it + 1)) (it + 1) ts [] := by
            rw [show it2 - it = (it2 - (it + 1)) + 1 by omega]
            conv => lhs; unfold exWs
            rw [if_neg (by omega)]
          rw [st] at hq hd
          rw [I_add]
          exact ih (t + 1) (it + 1) false ts F M (by omega) (by omega) rest w ex ha hq hd
      · rw [I_eq (by omega) (by omega) (by omega) (by omega)] at c9
        obtain ⟨r1, r2, r3, r4, rest⟩ := itI_red lt hi (by omega)
        have le := itI_le _ _ _ _ _ _ rest
        obtain ⟨e, R, -, -, -, e4, -⟩ := wdI_p r4
        have st : exWs s vs po stt ps is (it2 - it) it ts [] = exWs s vs po stt ps is (it2 - (it + 1)) (it + 1) ts [] := by
          rw [show it2 - it = (it2 - (it + 1)) + 1 by omega]
          conv => lhs; unfold exWs
          rw [if_neg (by omega)]
        rw [st] at hq hd
        rw [I_add, I_add]
        exact ih (t + 2) (it + 1) ws ts F M (by omega) (by omega) rest w ex ha hq hd
theorem m_words {b t it it2 : Nat} (w : mW M m s T vs po fl stt) (ok : okW vs po fl stt) (hb : b ≤ T.length) (ht : t ≤ b) (hi : itI s T is ps (b - t) t 0 false it it2) (h25 : mi M m 25 = I 0)
    (hq : ∀ F', ((exWs s vs po stt ps is (it2 - it) it [] []).bind fun x => adFs fl x.1 []) = some F' → ∀ M', exB M' m true F' → fm m sW M M' → Q (.inl none) M')
    (hd : ((exWs s vs po stt ps is (it2 - it) it [] []).bind fun x => adFs fl x.1 []) = none → ∀ M', mi M' m 25 = I 1 → fm m sW M M' → Q (.inl none) M') : mC E 158 [.ref m, .int (I t), .int (I b)] M Q := by
  refine w158_0 ⟨w.1.k0, fun M1 q1 M2 q2 => ?_⟩
  have f : fm m sW M M2 := (fm_o q1 (by decide)).trans (fm_o q2 (by decide))
  have w2 := w.mv f (by decide)
  have ex : exB M2 m true [] := ⟨⟨by rw [q2, i_ik (by decide), q1, i_is]; rfl, by show 0 ≤ 16; omega, fun f hf => absurd hf (Nat.not_lt_zero f), fun t ht => absurd ht List.not_mem_nil⟩, by rw [q2, i_is]; rfl, by rw [q2, i_ik (by decide), q1, i_ik (by decide)]; exact h25⟩
  exact m_words_l ok hb _ t it false [] [] M2 (Nat.le_refl _) ht hi w2 ex rfl (fun F' hF M' x' f' => hq F' hF M' x' (f.trans (f'.w (by decide)))) (fun hn M' x' f' => hd hn M' x' (f.trans (f'.w (by decide))))
end MWRD
