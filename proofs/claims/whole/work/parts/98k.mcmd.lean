/-! THE REFERENCE: a command -/
theorem ut_nd {fs : List (List Nat)} {inp : List Nat} {vs fl : eL} {po : List (List Nat)} {stt : Nat} {r : uR} (hv : ndE vs) (hn : ndE fl) (e : ut fs inp vs po fl stt = some r) : ndE r.2.1.1 ∧ ndE r.2.1.2.2 ∧ (r.1.2 = [] ∨ r.2.1.2.2 = fl) := by
  unfold ut at e
  split at e
  · cases e; exact ⟨hv, hn, Or.inl rfl⟩
  · split at e
    · rw [lim_eq e]; exact ⟨hv, hn, Or.inr rfl⟩
    · rw [lim_eq e]; exact ⟨hv, hn, Or.inr rfl⟩
    · cases e; exact ⟨hv, hn, Or.inl rfl⟩
    · cases e; exact ⟨hv, hn, Or.inl rfl⟩
    · split at e
      · cases e; exact ⟨hv, hn, Or.inl rfl⟩
      · cases e
    · cases e; exact ⟨(unM_L _ _ _ _ hv).2, hn, Or.inl rfl⟩
    · cases e
      exact ⟨hv, (rmM_L fs [] (fs.length - 1) 1 fl 0 (-1) hn (Or.inl ⟨rfl, rfl⟩)).2.2.2, Or.inl rfl⟩
    · rw [lim_eq e]; exact ⟨hv, hn, Or.inr rfl⟩
    · rw [lim_eq e]; exact ⟨hv, hn, Or.inr rfl⟩
    · rw [lim_eq e]; exact ⟨hv, hn, Or.inr rfl⟩
    · rw [lim_eq e]; exact ⟨hv, hn, Or.inr rfl⟩
    · rw [lim_eq e]; exact ⟨hv, hn, Or.inr rfl⟩
    · rw [lim_eq e]; exact ⟨hv, hn, Or.inr rfl⟩
    · rw [lim_eq e]; exact ⟨hv, hn, Or.inr rfl⟩
    · cases e; exact ⟨hv, hn, Or.inl rfl⟩
    · split at e
      · cases e; exact ⟨hv, hn, Or.inl rfl⟩
      · cases e; exact ⟨hv, hn, Or.inl rfl⟩
    · cases e; exact ⟨hv, hn, Or.inl rfl⟩
/-- characters that a char holds -/
def ok6 (u : List Nat) : Prop := ∀ c ∈ u, c < 65536
theorem ok6.app {u v : List Nat} (h : ok6 u) (k : ok6 v) : ok6 (u ++ v) := fun c hc => by
  rcases List.mem_append.mp hc with y | y
  · exact h c y
  · exact k c y
theorem ok6.nil : ok6 [] := fun c hc => absurd hc List.not_mem_nil
theorem ok6.one {x : Nat} (h : x < 65536) : ok6 [x] := fun c hc => by rw [List.mem_singleton.mp hc]; exact h
theorem ok6.of {u : List Nat} (h : ok1 u) : ok6 u := fun c hc => by have := h c hc; omega
theorem ok6.sg {u : List Nat} (h : ok6 u) {f e : Nat} : ok6 (seg u f e) := fun c hc => h c (seg_mem hc)
theorem ok6_num (n : Nat) : ok6 (numS n) := by
  unfold numS
  refine ok6.app ?_ (ok6.app ?_ (ok6.one (by omega)))
  · split
    · exact ok6.one (by omega)
    · exact ok6.nil
  · split
    · exact ok6.one (by omega)
    · exact ok6.nil
theorem ok6_ecL {fs : List (List Nat)} (h : ∀ i, ok6 (fs.getD i [])) : ∀ (n i : Nat), ok6 (ecL fs n i)
  | 0, _ => ok6.one (by omega)
  | n + 1, i => by
    unfold ecL
    refine ok6.app ?_ ((h i).app (ok6_ecL h n (i + 1)))
    split
    · exact ok6.one (by omega)
    · exact ok6.nil
theorem ok6_tx {fl : eL} (h : ∀ i, ok6 (fl.getD i ([], [])).2) (k : Int) : ok6 (txL fl k) := by
  unfold txL
  split
  · exact h _
  · exact ok6.nil
theorem ok6_ctL {fl : eL} {fs : List (List Nat)} (h : ∀ i, ok6 (fl.getD i ([], [])).2) : ∀ (n i : Nat), ok6 (ctL fl fs n i)
  | 0, _ => ok6.nil
  | n + 1, i => (ok6_tx h _).app (ok6_ctL h n (i + 1))
theorem ok6_fm {α : Type} {rs : List α} {f : α → List Nat} (h : ∀ r, ok6 (f r)) : ok6 (rs.flatMap f) := fun c hc => by
  obtain ⟨r, -, hr⟩ := List.mem_flatMap.mp hc
  exact h r c hr
theorem ok6_ptL {u : List Nat} (h : ok6 u) (rs : List (List Nat)) : ok6 (ptL u rs) := ok6_fm fun _ => h.sg.app (ok6.one (by omega))
theorem ok6_rvL {u : List Nat} (h : ok6 u) (rs : List (List Nat)) : ok6 (rvL u rs) := ok6_fm fun r => ok6.app (fun c hc => h.sg (f := r.getD 1 0) (e := r.getD 2 0) c (List.mem_reverse.mp hc)) (ok6.one (by omega))
theorem ok6_chL {u : List Nat} (h : ok6 u) (rs : List (List Nat)) : ∀ (n k : Nat), ok6 (chL u rs n k)
  | 0, _ => ok6.nil
  | n + 1, k => by
    unfold chL
    refine ok6.app ?_ (ok6_chL h rs n (k + 1))
    split
    · exact h.sg.app (ok6.one (by omega))
    · exact ok6.nil
theorem ok6_grL {u : List Nat} (h : ok6 u) (p : List Nat) (rs : List (List Nat)) : ok6 (grL u p rs) := ok6_fm fun r => by
  split
  · exact h.sg.app (ok6.one (by omega))
  · exact ok6.nil
theorem ok6_trO {fs : List (List Nat)} {u : List Nat} (h : ok6 u) (hf : ∀ i, ok6 (fs.getD i [])) : ok6 (trO fs u) := by
  unfold trO
  split
  · unfold trL
    intro c hc
    obtain ⟨x, hx, rfl⟩ := List.mem_map.mp hc
    have := h x hx
    split
    · exact getD_lt (hf 2) (by omega) 0
    · exact this
  · exact ok6.nil
theorem ut_ch {fs : List (List Nat)} {inp : List Nat} {vs fl : eL} {po : List (List Nat)} {stt : Nat} {r : uR} (hf : ∀ i, ok6 (fs.getD i [])) (hl : ∀ i, ok6 (fl.getD i ([], [])).2) (hi : ok6 inp) (e : ut fs inp vs po fl stt = some r) : ok6 r.1.2 := by
  unfold ut at e
  split at e
  · cases e; exact ok6.nil
  · split at e
    · rw [lim_eq e]; exact ok6_ecL hf _ _
    · rw [lim_eq e]
      refine ok6.app ?_ (ok6_ctL hl _ _)
      split
      · exact hi
      · exact ok6.nil
    · cases e; exact ok6.nil
    · cases e; exact ok6.nil
    · split at e
      · cases e; exact ok6.nil
      · cases e
    · cases e; exact ok6.nil
    · cases e; exact ok6.nil
    · rw [lim_eq e]; exact (ok6_num _).app ((ok6.one (by omega)).app ((ok6_num _).app (ok6.one (by omega))))
    · rw [lim_eq e]
      show ok6 (hdO fs inp (lnL inp 240 0))
      unfold hdO
      split
      · exact ok6_ptL hi _
      · exact ok6.nil
    · rw [lim_eq e]; exact ok6_rvL hi _
    · rw [lim_eq e]; exact ok6_ptL hi _
    · rw [lim_eq e]; exact ok6_chL hi _ _ _
    · rw [lim_eq e]; exact ok6_grL hi _ _
    · rw [lim_eq e]; exact ok6_trO hi hf
    · cases e; exact ok6.nil
    · split at e
      · cases e; exact ok6.nil
      · cases e; exact ok6.nil
    · cases e; exact ok6.nil
theorem stT_stT {fl : eL} {k : Nat} {u v : List Nat} (hk : k < fl.length) : stT (stT fl k u) k v = stT fl k v := by
  have g := stT_get (u := u) (j := k) hk
  rw [if_pos rfl] at g
  show (stT fl k u).set k (((stT fl k u).getD k ([], [])).1, v) = _
  rw [g]
  unfold stT
  rw [List.set_set]
theorem stT_self {fl : eL} {k : Nat} (hk : k < fl.length) : stT fl k (fl.getD k ([], [])).2 = fl := by
  unfold stT
  have : ((fl.getD k ([], [])).1, (fl.getD k ([], [])).2) = fl[k] := by
    rw [List.getD_eq_getElem?_getD, List.getElem?_eq_getElem hk]; rfl
  rw [this, List.set_getElem_self]
theorem stT_len {fl : eL} {k : Nat} {u : List Nat} : (stT fl k u).length = fl.length := by unfold stT; rw [List.length_set]
abbrev sF : List Nat := [31, 125, 138]
section MCMD
variable {E : mE} {M M' : mM} {Q : mQ} {m : Nat} {s : List Nat} {T : List tkn} {vs fl : eL} {po : List (List Nat)} {stt : Nat} {F : List (List Nat)} {is ps : List (List Nat)} {S : List Nat} {iN oN : List Nat}
/-- one more character in a file -/
theorem flX.ap {k c : Nat} {t : List Nat} {M3 M4 : mM} (v : flX M m 1 (stT fl k t)) (hk : k < fl.length) (ht : t.length < 80) (hc : c < 65536) (q3 : M3 = msi M (m + 16) (80 * (8 + k) + t.length) (I c)) (q4 : M4 = msi M3 (m + 17) (8 + k) (I ((t.length + 1 : Nat) : Int))) : flX M4 m 1 (stT fl k (t ++ [c])) := by
  obtain ⟨v1, v2, v3⟩ := v
  rw [stT_len] at v1 v2 v3
  refine ⟨by rw [stT_len, q4, i_ia (by omega), q3, i_ia (by omega)]; exact v1, by rw [stT_len]; exact v2, fun i hi => ?_⟩
  rw [stT_len] at hi
  obtain ⟨r1, r2⟩ := v3 i hi
  rw [stT_get hk] at r1 r2 ⊢
  by_cases z : i = k
  · subst z
    rw [if_pos rfl] at r1 r2 ⊢
    refine ⟨(r1.oth1 q3 (by omega) (by omega)).oth1 q4 (by omega) (by omega), ?_⟩
    obtain ⟨s1, s2, s3, s4⟩ := r2
    simp only at s1 s2 s3 s4
    refine ⟨by rw [q4, show 8 * 1 + i = 8 + i by omega, i_is, List.length_append]; rfl, by simp only [List.length_append, List.length_cons, List.length_nil]; omega, fun j hj => ?_, fun x hx => ?_⟩
    · simp only [List.length_append, List.length_cons, List.length_nil] at hj
      rw [q4, i_ia (by omega), q3, i_i]
      by_cases y : j = t.length
      · rw [if_pos ⟨rfl, by omega⟩, y]
        show I c = I ((t ++ [c]).getD t.length 0 : Nat)
        rw [List.getD_eq_getElem?_getD, List.getElem?_append_right (Nat.le_refl _), Nat.sub_self]; rfl
      · rw [if_neg (by omega), s3 j (by omega)]
        show I (t.getD j 0 : Nat) = I ((t ++ [c]).getD j 0 : Nat)
        rw [List.getD_eq_getElem?_getD (l := t ++ [c]), List.getElem?_append_left (by omega), ← List.getD_eq_getElem?_getD]
    · rcases List.mem_append.mp hx with y | y
      · exact s4 x y
      · rw [List.mem_singleton] at y; omega
  · rw [if_neg z] at r1 r2 ⊢
    refine ⟨(r1.oth1 q3 (by omega) (by omega)).oth1 q4 (by omega) (by omega), ?_⟩
    have r3 : nmR M3 (m + 16) (m + 17) 80 (8 * 1 + i) (fl.getD i ([], [])).2 := by
      obtain ⟨s1, s2, s3, s4⟩ := r2
      refine ⟨by rw [q3, i_ia (by omega)]; exact s1, s2, fun j hj => ?_, s4⟩
      rw [q3, i_in (by omega)]; exact s3 j hj
    exact r3.row1 q4 (by omega) (by omega)
/-- the output goes to its file -/
theorem m_toFile_l {V : List Nat} {k : Nat} {tx : List Nat} (hk : k < fl.length) (hV : V.length ≤ 240) (hVc : ∀ c ∈ V, c < 65536) (n : Nat) : ∀ (j : Nat) (M : mM), n = V.length - j → j ≤ V.length → mS M m → puX M m V → mi M m 44 = I k → (tx ++ V.take j).length ≤ 80 → flX M m 1 (stT fl k (tx ++ V.take j)) → 
    ((tx ++ V).length ≤ 80 → ∀ M', flX M' m 1 (stT fl k (tx ++ V)) → puX M' m [] → fm m sF M M' → Q (.inl none) M') →
    (¬ (tx ++ V).length ≤ 80 → ∀ M', mi M' m 25 = I 1 → mi M' m 38 = I 0 → fm m sF M M' → Q (.inl none) M') →
    mX E 162 1 [some (.ref m), some (.int (I j))] [] M Q := by
  induction n with
  | zero =>
    intro j M hn hj h p h44 hl v hq hd
    have e : j = V.length := by omega
    subst e
    rw [List.take_length] at hl v
    have p38 : mi M m 38 = I V.length := by rw [p.1, show min V.length 240 = V.length by omega]
    have p25 : mi M m 25 = I 0 := by rw [p.2.2, decide_eq_false (by omega)]; rfl
    refine w162_1 ⟨h.k0, fun _ M2 q2 => ?_, fun c => ?_⟩
    · have f2 : fm m sF M M2 := fm_o q2 (by decide)
      exact hq hl M2 (v.mv (fm_o (S := [138]) q2 (by decide)) (by decide)) ⟨by rw [q2, i_is]; rfl, fun k hk => absurd hk (Nat.not_lt_zero k), by rw [q2, i_ik (by decide), p25]; rfl⟩ f2
    · rw [p38, I_le (by omega) (by omega) (by omega) (by omega)] at c; omega
  | succ n ih =>
    intro j M hn hj h p h44 hl v hq hd
    have p38 : mi M m 38 = I V.length := by rw [p.1, show min V.length 240 = V.length by omega]
    have p25 : mi M m 25 = I 0 := by rw [p.2.2, decide_eq_false (by omega)]; rfl
    have k8 := v.2.1
    rw [stT_len] at k8
    obtain ⟨-, r2⟩ := v.2.2 k (by rw [stT_len]; exact hk)
    rw [stT_get hk, if_pos rfl] at r2
    have sz : mi M (m + 17) (8 + k) = I (tx ++ V.take j).length := r2.1
    have n8 : nt (I 8 + I (k : Int)) = 8 + k := by rw [I_add, show (8 : Int) + (k : Int) = ((8 + k : Nat) : Int) by omega, I_ntn (by omega)]
    have l17 : vp_in (I 8 + I (k : Int)) (mln M (m + 17)) := by rw [h.l17, I_add]; exact I_in (by omega) (by omega) (by omega)
    have tl : (V.take j).length = j := by rw [List.length_take]; omega
    refine w162_1 ⟨h.k0, fun c => ?_, fun _ => ⟨fun z => absurd p25 z, fun _ => ⟨h.n21, by rw [h.f21]; exact h.k17, by rw [h.f21, h44]; exact l17, ?_⟩⟩⟩
    · rw [p38, I_le (by omega) (by omega) (by omega) (by omega)] at c; omega
    · rw [h.f21, h44, n8, sz]
      refine ⟨fun c => ?_, fun c => ?_⟩
      · rw [I_eq (by omega) (by omega) (by omega) (by omega)] at c
        refine w162_3 ⟨h.k0, Or.inl rfl, fun M1 q1 => ⟨h.k0, fun z => ?_, fun _ => ?_⟩⟩
        · rw [q1, i_is] at z; exact absurd rfl z
        · have g1 : fm m [125] M M1 := fm_o q1 (by decide)
          have a44 : mi M1 m 44 = I k := by rw [g1.fld (by decide)]; exact h44
          have asz : mi M1 (m + 17) (8 + k) = I (tx ++ V.take j).length := by rw [q1, i_ia (by omega)]; exact sz
          have aput : mi M1 (m + 26) j = I (V.getD j 0) := by rw [q1, i_ia (by omega)]; exact p.2.1 j (by omega)
          have vc : V.getD j 0 < 65536 := getD_lt hVc (by omega) j
          have v1 := v.mv g1 (by decide)
          have e1 : I 80 * (I 8 + I (k : Int)) + I ((tx ++ V.take j).length : Int) = I ((80 * (8 + k) + (tx ++ V.take j).length : Nat) : Int) := by
            rw [I_add, I_mul, I_add]; congr 1
          refine ⟨h.n20, h.n21, by rw [h.f21]; exact h.k17, by rw [h.f21, a44]; exact l17, h.n39, by rw [h.f39]; exact h.k26, by rw [h.f39, h.l26]; exact I_in (by omega) (by omega) (by omega), by rw [h.f20]; exact h.k16, ?_, fun M3 q3 => ⟨?_, fun M4 q4 => ?_⟩⟩
          · rw [h.f20, h.f21, a44, n8, asz, e1, h.l16]; exact I_in (by omega) (by omega) (by omega)
          · rw [h.f20, h.f21, h.f39, a44, n8, asz, e1, I_ntn (by omega), I_ntn (by omega), aput, I_cN (by omega) (by omega)] at q3
            rw [h.f21, q3, i_ia (by omega), a44]; exact l17
          · rw [h.f20, h.f21, h.f39, a44, n8, asz, e1, I_ntn (by omega), I_ntn (by omega), aput, I_cN (by omega) (by omega)] at q3
            have b44 : mi M3 m 44 = I k := by rw [q3, i_ia (by omega)]; exact a44
            have bsz : mi M3 (m + 17) (8 + k) = I (tx ++ V.take j).length := by rw [q3, i_ia (by omega)]; exact asz
            rw [h.f21, b44, n8, bsz, I_add] at q4
            have lt80 : (tx ++ V.take j).length < 80 := by omega
            have v4 := flX.ap (M4 := M4) (c := V.getD j 0) v1 hk lt80 vc q3 q4
            have f3 : fm m sF M1 M3 := fm_i (a := 16) q3 (by omega) (by show sF.contains (30 + (80 * (8 + k) + (tx ++ V.take j).length) / 640) = true; rw [show (80 * (8 + k) + (tx ++ V.take j).length) / 640 = 1 by omega]; decide)
            have f4 : fm m sF M3 M4 := fm_i (a := 17) q4 (by omega) (by show sF.contains (30 + (8 + k) / 8) = true; rw [show (8 + k) / 8 = 1 by omega]; decide)
            have f31 : fm m [31] M1 M3 := fm_i (a := 16) q3 (by omega) (by show [31].contains (30 + (80 * (8 + k) + (tx ++ V.take j).length) / 640) = true; rw [show (80 * (8 + k) + (tx ++ V.take j).length) / 640 = 1 by omega]; decide)
            have f41 : fm m [31] M3 M4 := fm_i (a := 17) q4 (by omega) (by show [31].contains (30 + (8 + k) / 8) = true; rw [show (8 + k) / 8 = 1 by omega]; decide)
            have fa := ((g1.w (S' := sF) (by decide)).trans f3).trans f4
            have p1 : puX M1 m V := ⟨by rw [g1.fld (by decide)]; exact p.1, fun i hi => by rw [q1, i_ia (by omega)]; exact p.2.1 i hi, by rw [q1, i_is, decide_eq_false (by omega)]; rfl⟩
            have p4 := p1.mv (f31.trans f41) (by decide) (by decide) (by decide)
            have tk : tx ++ V.take (j + 1) = (tx ++ V.take j) ++ [V.getD j 0] := by rw [List.append_assoc, take_snoc (by omega)]
            rw [I_add]
            refine ih (j + 1) M4 (by omega) (by omega) (h.mv fa.1) p4 (by rw [(f31.trans f41).fld (by decide)]; exact a44) ?_ ?_ (fun hl M' a1 a2 a3 => hq hl M' a1 a2 (fa.trans a3)) (fun hl M' a1 a2 a3 => hd hl M' a1 a2 (fa.trans a3))
            · rw [tk, List.length_append]; simp only [List.length_cons, List.length_nil]; omega
            · rw [tk]; exact v4
      · rw [I_eq (by omega) (by omega) (by omega) (by omega)] at c
        have full : ¬ (tx ++ V).length ≤ 80 := by
          rw [List.length_append] at c ⊢
          rw [tl] at c
          omega
        refine w162_3 ⟨h.k0, Or.inr rfl, fun M1 q1 => ⟨h.k0, fun _ => ?_, fun z => ?_⟩⟩
        · have g1 : fm m sF M M1 := fm_o q1 (by decide)
          have h1 := h.mv g1.1
          have d25 : mi M1 m 25 = I 1 := by rw [q1, i_is]
          have fin : ∀ M2, M2 = msi M1 m 38 (I 0) → Q (.inl none) M2 := fun M2 q2 => hd full M2 (by rw [q2, i_ik (by decide)]; exact d25) (by rw [q2, i_is]) (g1.trans (fm_o q2 (by decide)))
          refine w162_1 ⟨h1.k0, fun _ M2 q2 => fin M2 q2, fun _ => ⟨fun _ M2 q2 => fin M2 q2, fun z => ?_⟩⟩
          rw [d25] at z; exact absurd z (by decide)
        · rw [q1, i_is] at z; exact absurd z (by decide)
theorem m_toFile {V : List Nat} {k : Nat} (h : mS M m) (hk : k < fl.length) (hV : V.length ≤ 240) (hVc : ∀ c ∈ V, c < 65536) (p : puX M m V) (h44 : mi M m 44 = I k) (v : flX M m 1 fl)
    (hq : ((fl.getD k ([], [])).2 ++ V).length ≤ 80 → ∀ M', flX M' m 1 (stT fl k ((fl.getD k ([], [])).2 ++ V)) → puX M' m [] → fm m sF M M' → Q (.inl none) M')
    (hd : ¬ ((fl.getD k ([], [])).2 ++ V).length ≤ 80 → ∀ M', mi M' m 25 = I 1 → mi M' m 38 = I 0 → fm m sF M M' → Q (.inl none) M') : mC E 162 [.ref m] M Q := by
  refine w162_0 (m_toFile_l (tx := (fl.getD k ([], [])).2) hk hV hVc _ 0 M rfl (by omega) h p h44 ?_ ?_ hq hd)
  · rw [List.take_zero, List.append_nil]
    exact ((v.2.2 k hk).2).2.1
  · rw [List.take_zero, List.append_nil, stT_self hk]; exact v
abbrev sC : List Nat := [11, 21, 31, 60, 61, 62, 63, 64, 65, 108, 125, 126, 127, 130, 131, 133, 136, 138, 140, 143, 144]
/-- the redirections of a command -/
theorem m_reds {v1 v3 : Int32} {b it2 : Nat} (hb : b ≤ T.length) (n : Nat) : ∀ (t it : Nat) (ws : Bool) (fl : eL) (iN oN : List Nat) (M : mM), okW vs po fl stt → b - t ≤ n → t ≤ b → itI s T is ps (b - t) t 0 ws it it2 → mW M m s T vs po fl stt → rdS M m F fl iN oN →
    (∀ r, rdL s vs po stt ps is (it2 - it) it fl iN oN = some r → r.1 = true → ∀ M' v4, mW M' m s T vs po r.2.1 stt → okW vs po r.2.1 stt → rdS M' m F r.2.1 r.2.2.1 r.2.2.2 → fm m sR M M' → mX E 161 4 [some (.ref m), some (.int v1), some (.int (I b)), some (.int v3), some (.int v4)] [] M' Q) →
    (∀ r, rdL s vs po stt ps is (it2 - it) it fl iN oN = some r → r.1 = false → ∀ M', mW M' m s T vs po r.2.1 stt → okW vs po r.2.1 stt → mi M' m 25 = I 0 → fm m sR M M' → Q (.inl (some (.int (I 1)))) M') →
    (rdL s vs po stt ps is (it2 - it) it fl iN oN = none → ∀ M' v4, mi M' m 25 = I 1 → fm m sR M M' → mX E 161 4 [some (.ref m), some (.int v1), some (.int (I b)), some (.int v3), some (.int v4)] [] M' Q) →
    mX E 161 1 [some (.ref m), some (.int v1), some (.int (I b)), some (.int v3), some (.int (I t))] [] M Q := by
  induction n with
  | zero =>
    intro t it ws fl iN oN M ok hn ht hi w r hq hf hd
    have kl := w.2.2.1.2.1
    rw [show b - t = 0 by omega] at hi
    unfold itI at hi
    rw [show it2 - it = 0 by omega] at hq
    refine w161_1 ⟨fun _ => hq _ rfl rfl M _ w ok r (fm.refl _ _ _), fun c => ?_⟩
    rw [I_le (by omega) (by omega) (by omega) (by omega)] at c; omega
  | succ n ih =>
    intro t it ws fl iN oN M ok hn ht hi w r hq hf hd
    have kl := w.2.2.1.2.1
    by_cases hb0 : t = b
    · rw [show b - t = 0 by omega] at hi
      unfold itI at hi
      rw [show it2 - it = 0 by omega] at hq
      refine w161_1 ⟨fun _ => hq _ rfl rfl M _ w ok r (fm.refl _ _ _), fun c => ?_⟩
      rw [I_le (by omega) (by omega) (by omega) (by omega)] at c; omega
    have lt : t < b := by omega
    have h := w.1
    have k := w.2.2.1
    obtain ⟨k1, k2, k3, k4, k5, -⟩ := k.2.2 t (by omega)
    have d : tkD T t = T.getD t (0, 0, 0) := rfl
    rw [← d] at k1 k2 k3 k4 k5
    refine w161_1 ⟨fun c => ?_, fun _ => ⟨h.k0, fun z => absurd r.2.1 z, fun _ => ⟨h.n5, by rw [h.f5]; exact h.k2, by rw [h.f5, h.l2]; exact I_in (by omega) (by omega) (by omega), ?_⟩⟩⟩
    · rw [I_le (by omega) (by omega) (by omega) (by omega)] at c; omega
    · rw [h.f5, I_ntn (by omega), k1]
      refine ⟨fun c9 => ?_, fun c9 => ?_⟩
      · rw [I_eq (by omega) (by omega) (by omega) (by omega)] at c9
        obtain ⟨wd, rest⟩ := itI_wd lt hi (by omega)
        have le := itI_le _ _ _ _ _ _ rest
        obtain ⟨e, R, -, -, -, e4, -⟩ := wdI_p wd
        have k01 : (is.getD it []).getD 0 0 = 0 ∨ (is.getD it []).getD 0 0 = 1 := by
          rw [e4, wKd_as]
          split
          · exact Or.inr rfl
          · exact Or.inl rfl
        have st : rdL s vs po stt ps is (it2 - it) it fl iN oN = rdL s vs po stt ps is (it2 - (it + 1)) (it + 1) fl iN oN := by
          rw [show it2 - it = (it2 - (it + 1)) + 1 by omega]
          conv => lhs; unfold rdL
          rw [if_pos k01]
        rw [st] at hq hf hd
        rw [I_add]
        exact ih (t + 1) (it + 1) _ fl iN oN M ok (by omega) (by omega) rest w r hq hf hd
      · rw [I_eq (by omega) (by omega) (by omega) (by omega)] at c9
        obtain ⟨r1, r2, r3, wd, rest⟩ := itI_red lt hi (by omega)
        have le := itI_le _ _ _ _ _ _ rest
        obtain ⟨e, R, -, -, -, e4, -⟩ := wdI_p wd
        have st : rdL s vs po stt ps is (it2 - it) it fl iN oN = ((exW s vs po stt ps (is.getD it [])).bind fun u => rd1 ((tkD T t).1 - 4) u fl iN oN).bind fun r => if r.1 = true then rdL s vs po stt ps is (it2 - (it + 1)) (it + 1) r.2.1 r.2.2.1 r.2.2.2 else some r := by
          rw [show it2 - it = (it2 - (it + 1)) + 1 by omega, rdL_st (by omega), e4]
        rw [st] at hq hf hd
        refine m_redirect w ok (by omega) r r1 wd (fun x hx M1 w1 ok1 s1 f1 => ?_) (fun hx M1 d1 f1 => ?_)
        · rw [hx] at hq hf hd
          simp only [Option.bind_some] at hq hf hd
          refine ⟨fun z => ?_, fun z => ?_⟩
          · have x1 : x.1 = true := by
              cases g : x.1 with
              | true => rfl
              | false => rw [g] at z; exact absurd rfl z
            rw [if_pos x1] at hq hf hd
            rw [I_add, I_add]
            exact ih (t + 2) (it + 1) _ x.2.1 x.2.2.1 x.2.2.2 M1 ok1 (by omega) (by omega) rest w1 s1 (fun r a b M' v4 c1 c2 c3 c4 => hq r a b M' v4 c1 c2 c3 (f1.trans c4)) (fun r a b M' c1 c2 c3 c4 => hf r a b M' c1 c2 c3 (f1.trans c4)) (fun a M' v4 c1 c4 => hd a M' v4 c1 (f1.trans c4))
          · have x1 : x.1 = false := by
              cases g : x.1 with
              | false => rfl
              | true => rw [g] at z; exact absurd z (by decide)
            rw [if_neg (by rw [x1]; decide)] at hf
            exact hf x rfl x1 M1 w1 ok1 s1.2.1 f1
        · rw [hx] at hd
          refine ⟨fun _ => ?_, fun z => absurd z (by decide)⟩
          have dd := fun v4 => hd rfl M1 v4 d1 f1
          refine w161_1 ⟨fun _ => dd _, fun _ => ⟨(h.mv f1.1).k0, fun _ => dd _, fun z => ?_⟩⟩
          rw [d1] at z; exact absurd z (by decide)
theorem fdX.c6 (h : fdX M m F) (i : Nat) : ok6 (F.getD i []) := by
  by_cases hi : i < F.length
  · refine ok6.of (h.2.2.2 _ ?_)
    rw [List.getD_eq_getElem?_getD, List.getElem?_eq_getElem hi]; exact List.getElem_mem _
  · rw [List.getD_eq_getElem?_getD, List.getElem?_eq_none (by omega)]; exact ok6.nil
theorem flX.ch (h : flX M m 1 fl) (i : Nat) : ok6 (fl.getD i ([], [])).2 := by
  by_cases hi : i < fl.length
  · exact (h.2.2 i hi).2.2.2.2
  · rw [List.getD_eq_getElem?_getD, List.getElem?_eq_none (by omega)]; exact ok6.nil
/-- a dead command ends -/
theorem m_cmd4d {v1 v2 v3 v4 : Int32} (h : mS M m) (d : mi M m 25 = I 1) (hd : ∀ M', mi M' m 25 = I 1 → fm m [131] M M' → Q (.inl (some (.int (I 0)))) M') : mX E 161 4 [some (.ref m), some (.int v1), some (.int v2), some (.int v3), some (.int v4)] [] M Q := by
  have as : ∀ s0 : Int32, mX E 161 6 [some (.ref m), some (.int v1), some (.int v2), some (.int v3), some (.int v4)] [.int s0, .int v2, .int v1, .ref m] M Q := by
    intro s0
    refine w161_6 ⟨h.k0, w160_0 ⟨h.k0, fun M1 q1 => ?_⟩⟩
    have f1 : fm m [131] M M1 := fm_o q1 (by decide)
    have d1 : mi M1 m 25 = I 1 := by rw [f1.fld (by decide)]; exact d
    have h1 := h.mv f1.1
    have fin : mkd M1 m = 111 ∧ (¬ (mi M1 m 25) = (I 0) → Q (.inl (some (.int (I 0)))) M1) ∧ ((mi M1 m 25) = (I 0) → False) := ⟨h1.k0, fun _ => hd M1 d1 f1, fun z => by rw [d1] at z; exact absurd z (by decide)⟩
    refine w160_1 ⟨fun _ => ⟨fin.1, fin.2.1, fun z => (fin.2.2 z).elim⟩, fun _ => ⟨fun z => absurd z (by decide), fun _ => ⟨h1.k0, fun _ => ⟨fin.1, fin.2.1, fun z => (fin.2.2 z).elim⟩, fun z => (fin.2.2 z).elim⟩⟩⟩
  exact w161_4 ⟨h.k0, fun _ => as _, fun _ => as _⟩
theorem m_command {t b it : Nat} {cm : List Nat} {al : Bool} {u : List Nat} (w : mW M m s T vs po fl stt) (ok : okW vs po fl stt) (hb : b ≤ T.length) (ht : t ≤ b) (hc1 : cm.getD 1 0 = it) (hi : itI s T is ps (b - t) t 0 false it (cm.getD 2 0)) (h25 : mi M m 25 = I 0) (h26 : mi M m 26 = I 0) (hin : inX M m u)
    (hq : ∀ r, rcS s ps is cm vs po fl stt u = some r → ∀ M', mW M' m s T r.2.1.1 r.2.1.2.1 r.2.1.2.2 stt → okW r.2.1.1 r.2.1.2.1 r.2.1.2.2 stt → puX M' m r.1.2 → r.1.2.length ≤ 240 → ok6 r.1.2 → mi M' m 26 = I (bI (r.2.2 && al)) → fm m sC M M' → Q (.inl (some (.int (I r.1.1)))) M')
    (hd : rcS s ps is cm vs po fl stt u = none → ∀ M' x (n : Nat), mi M' m 25 = I 1 → mi M' m 38 = I n → n ≤ 240 → fm m sC M M' → Q (.inl (some (.int x))) M') : mC E 161 [.ref m, .int (I t), .int (I b), .int (I (bI al))] M Q := by
  have h := w.1
  have s1 : ok1 s := w.2.1.2.2.2.ok1
  have rok : ∀ r, rcS s ps is cm vs po fl stt u = some r → okU r := fun r hr => rcS_ok s1 ok.2.1 ok.2.2.1 ok.1 ok.2.2.2.1 hr
  unfold rcS exF at hq hd rok
  rw [hc1] at hq hd rok
  refine w161_0 ⟨h.k0, fun M1 q1 M2 q2 M3 q3 => ?_⟩
  have g3 : fm m [138, 143, 144] M M3 := ((fm_o q1 (by decide)).trans (fm_o q2 (by decide))).trans (fm_o q3 (by decide))
  have f3 : fm m sC M M3 := g3.w (by decide)
  have w3 := w.mv g3 (by decide)
  have i3 := hin.mv g3 (by decide) (by decide)
  have a38 : mi M3 m 38 = I 0 := by rw [q3, i_ik (by decide), q2, i_ik (by decide), q1, i_is]
  have a43 : mi M3 m 43 = I (-1) := by rw [q3, i_ik (by decide), q2, i_is]
  have a44 : mi M3 m 44 = I (-1) := by rw [q3, i_is]
  have a25 : mi M3 m 25 = I 0 := by rw [g3.fld (by decide)]; exact h25
  have a26 : mi M3 m 26 = I 0 := by rw [g3.fld (by decide)]; exact h26
  refine m_words w3 ok hb ht hi a25 (fun F hF M4 x4 f4 => ?_) (fun hF M4 d4 f4 => ?_)
  · rw [hF] at hq hd rok
    simp only [Option.bind_some] at hq hd rok
    have w4 := w3.mv f4 (by decide)
    have f4' : fm m sC M M4 := f3.trans (f4.w (by decide))
    have b38 : mi M4 m 38 = I 0 := by rw [f4.fld (by decide)]; exact a38
    have b26 : mi M4 m 26 = I 0 := by rw [f4.fld (by decide)]; exact a26
    have i4 := i3.mv f4 (by decide) (by decide)
    have rs : rdS M4 m F fl [] [] := ⟨x4.1, x4.2.2, -1, -1, by rw [f4.fld (by decide)]; exact a43, by rw [f4.fld (by decide)]; exact a44, Or.inl ⟨rfl, rfl⟩, Or.inl ⟨rfl, rfl⟩⟩
    have pu0 : ∀ {M' : mM}, mi M' m 38 = I 0 → mi M' m 25 = I 0 → puX M' m [] := fun z1 z2 => ⟨z1, fun k hk => absurd hk (Nat.not_lt_zero k), z2⟩
    refine m_reds (F := F) hb _ t it false fl [] [] M4 ok (Nat.le_refl _) ht hi w4 rs (fun r hr r1 M5 v4 w5 ok5 s5 f5 => ?_) (fun r hr r1 M5 w5 ok5 z25 f5 => ?_) (fun hr M5 v4 d5 f5 => ?_)
    · rw [hr] at hq hd rok
      simp only [Option.bind_some] at hq hd rok
      rw [if_pos r1] at hq hd rok
      have f5' := f4'.trans (f5.w (S' := sC) (by decide))
      have c38 : mi M5 m 38 = I 0 := by rw [f5.fld (by decide)]; exact b38
      have c26 : mi M5 m 26 = I 0 := by rw [f5.fld (by decide)]; exact b26
      have i5 := i4.mv f5 (by decide) (by decide)
      obtain ⟨sF5, s25, a, bb, sa, sb, oa, ob⟩ := s5
      have l16 := sF5.2.1
      have six : ∀ e0 : Bool, e0 = F.isEmpty → mX E 161 6 [some (.ref m), some (.int (I t)), some (.int (I b)), some (.int (I (bI al))), some (.int v4)] [.int (I (bI e0)), .int (I b), .int (I t), .ref m] M5 Q := by
        intro e0 he
        subst he
        refine w161_6 ⟨w5.1.k0, m_asgs w5 ok5 hb ht hi sF5 s25 (fun v1 hv M6 w6 ok6' F6 z25 f6 => ?_) (fun hv M6 d6 f6 => ?_)⟩
        · rw [hv] at hq hd rok
          simp only [Option.bind_some] at hq hd rok
          have h6 := w6.1
          have f6' := f5'.trans (f6.w (S' := sC) (by decide))
          have c6 : mi M6 m 38 = I 0 := by rw [f6.fld (by decide)]; exact c38
          have e6 : mi M6 m 26 = I 0 := by rw [f6.fld (by decide)]; exact c26
          have i6 := i5.mv f6 (by decide) (by decide)
          have sa6 : mi M6 m 43 = I a := by rw [f6.fld (by decide)]; exact sa
          have sb6 : mi M6 m 44 = I bb := by rw [f6.fld (by decide)]; exact sb
          have fl8 := w6.2.2.2.2.2.1.2.1
          have ar := oa.r fl8
          refine ⟨h6.k0, fun z => absurd z25 z, fun _ => ⟨fun nz => ?_, fun ze => ?_⟩⟩
          · rw [F6.1, I_eq (by omega) (by omega) (by omega) (by omega)] at nz
            have ne : ¬ F.isEmpty = true := fun z => by
              rw [List.isEmpty_iff] at z
              rw [z] at nz; exact nz rfl
            rw [if_neg ne] at hq hd rok
            -- the utility
            have ten : ∀ (M7 : mM) (v4 : Int32) (inp : List Nat), inp = (if r.2.2.1 = [] then u else txL r.2.1 (fdT r.2.1 r.2.2.1 0)) → inX M7 m inp → fm m [63, 136] M6 M7 → mX E 161 10 [some (.ref m), some (.int (I t)), some (.int (I b)), some (.int (I (bI al))), some (.int v4)] [] M7 Q := by
              intro M7 v4 inp hinp i7 f7
              rw [← hinp] at hq hd rok
              have w7 := w6.mv f7 (by decide)
              have h7 := w7.1
              have f7' := f6'.trans (f7.w (S' := sC) (by decide))
              refine w161_10 ⟨h7.k0, m_utility (nm := r.2.2.2) h7 (F6.mv f7 (by decide) (by decide)) (by omega) i7 (pu0 (by rw [f7.fld (by decide)]; exact c6) (by rw [f7.fld (by decide)]; exact z25)) w7.2.2.2.1 w7.2.2.2.2.1 w7.2.2.2.2.2.1 w7.2.2.2.2.2.2 ok6'.2.2.2.1 (by rw [f7.fld (by decide)]; exact e6) ok6'.2.2.2.2.1 ok6'.2.2.2.2.2 ob.l (by rw [f7.fld (by decide)]; exact sb6) (fun x hx M8 b' p8 l8 vv pp ff x26 x44 xo f8 => ?_) (fun hx M8 xx n d8 n8 l8 f8 => ?_)⟩
              · rw [hx] at hq hd rok
                simp only [Option.bind_some] at hq hd rok
                have nd := ut_nd ok6'.2.2.2.2.1 ok6'.2.2.2.2.2 hx
                have ch := ut_ch F6.c6 w6.2.2.2.2.2.1.ch i7.2.2.2 hx
                have f8' := f7'.trans (f8.w (S' := sC) (by decide))
                have h8 := h7.mv f8.1
                have w8 : mW M8 m s T x.2.1.1 x.2.1.2.1 x.2.1.2.2 stt := ⟨h8, w7.2.1.mv f8 (by decide) (by decide), w7.2.2.1.mv f8 (by decide) (by decide), vv, pp, ff, by rw [f8.2.2 18 1 (by omega) (by decide)]; exact w7.2.2.2.2.2.2⟩
                have p25 : mi M8 m 25 = I 0 := by rw [p8.2.2, decide_eq_false (by omega)]; rfl
                have xl := ff.2.1
                have xr := xo.r xl
                -- nothing to a file
                have plain : ((if r.2.2.2 = [] then some x else (snF x.2.1.2.2 r.2.2.2 x.1.2).map fun f2 => ((x.1.1, []), (x.2.1.1, x.2.1.2.1, f2), x.2.2)) = some x) → Q (.inl (some (.int (I x.1.1)))) M8 := by
                  intro he
                  have := rok x he
                  exact hq x he M8 w8 ⟨this.2.2.1, this.1, this.2.1, ok6'.2.2.2.1, nd.1, nd.2.1⟩ p8 l8 ch x26 f8'
                refine ⟨h8.k0, fun c => plain ?_, fun c => ⟨fun z => absurd p25 z, fun _ => ?_⟩⟩
                · rw [x44, I_lt (by omega) (by omega) (by omega) (by omega)] at c
                  rcases xo with ⟨o1, o2⟩ | ⟨o1, o2⟩
                  · rw [if_pos o1]
                  · rw [if_neg o1]
                    have neg : fdT x.2.1.2.2 r.2.2.2 0 < 0 := by omega
                    have xe : x.1.2 = [] := by
                      rcases nd.2.2 with y | y
                      · exact y
                      · rcases ob with ⟨o3, -⟩ | ⟨-, o4, -⟩
                        · exact absurd o3 o1
                        · rw [y] at neg; omega
                    unfold snF
                    rw [if_neg (by omega)]
                    show some ((x.1.1, []), (x.2.1.1, x.2.1.2.1, x.2.1.2.2), x.2.2) = some x
                    rw [← xe]
                · rw [x44, I_lt (by omega) (by omega) (by omega) (by omega)] at c
                  have o1 : ¬ r.2.2.2 = [] := fun z => by
                    rcases xo with y | y
                    · omega
                    · exact y.1 z
                  have fe : 0 ≤ fdT x.2.1.2.2 r.2.2.2 0 ∧ b' = fdT x.2.1.2.2 r.2.2.2 0 := by
                    rcases xo with y | ⟨-, y⟩
                    · omega
                    · rcases y with y | y
                      · exact y
                      · omega
                  have fr := fdT_r x.2.1.2.2 r.2.2.2 0
                  rw [if_neg o1] at hq hd rok
                  unfold snF at hq hd rok
                  rw [if_pos fe.1] at hq hd rok
                  have tx : txL x.2.1.2.2 (fdT x.2.1.2.2 r.2.2.2 0) = (x.2.1.2.2.getD (fdT x.2.1.2.2 r.2.2.2 0).toNat ([], [])).2 := by unfold txL; rw [if_pos fe.1]
                  rw [tx] at hq hd rok
                  have kl : (fdT x.2.1.2.2 r.2.2.2 0).toNat < x.2.1.2.2.length := by omega
                  refine m_toFile (k := (fdT x.2.1.2.2 r.2.2.2 0).toNat) h8 kl l8 ch p8 (by rw [x44, fe.2]; congr 1; omega) ff (fun le M9 v9 p9 f9 => ?_) (fun le M9 d9 n9 f9 => ?_)
                  · rw [if_pos le] at hq rok
                    have ro := rok _ rfl
                    have f9' := f8'.trans (f9.w (S' := sC) (by decide))
                    refine hq _ rfl M9 (w8.mvf f9 (by decide) v9) ⟨ro.2.2.1, ro.1, ro.2.1, ok6'.2.2.2.1, nd.1, nd.2.1.st kl⟩ p9 (by show 0 ≤ 240; omega) ok6.nil (by rw [f9.fld (by decide)]; exact x26) f9'
                  · rw [if_neg le] at hd
                    exact hd rfl M9 _ 0 d9 n9 (by omega) (f8'.trans (f9.w (by decide)))
              · rw [hx] at hd
                have f8' := f7'.trans (f8.w (S' := sC) (by decide))
                have h8 := h7.mv f8.1
                have fin := hd rfl M8 xx n d8 n8 l8 f8'
                refine ⟨h8.k0, fun _ => fin, fun _ => ⟨fun _ => fin, fun z => ?_⟩⟩
                rw [d8] at z; exact absurd z (by decide)
            refine ⟨fun c => ?_, fun c => ?_⟩
            · rw [sa6, I_lt (by omega) (by omega) (by omega) (by omega)] at c
              have e : r.2.2.1 = [] := by
                rcases oa with y | y
                · exact y.1
                · omega
              exact ten M6 _ u (by rw [if_pos e]) i6 (fm.refl _ _ _)
            · rw [sa6, I_lt (by omega) (by omega) (by omega) (by omega)] at c
              have ne1 : ¬ r.2.2.1 = [] ∧ a = fdT r.2.1 r.2.2.1 0 := by
                rcases oa with y | y
                · omega
                · exact ⟨y.1, y.2.2⟩
              have fr := fdT_r r.2.1 r.2.2.1 0
              have ka : a = ((a.toNat : Nat) : Int) := by omega
              have kl : a.toNat < r.2.1.length := by omega
              generalize a.toNat = k at ka kl
              obtain ⟨-, rw2⟩ := w6.2.2.2.2.2.1.2.2 k kl
              have tx : txL r.2.1 (fdT r.2.1 r.2.2.1 0) = (r.2.1.getD k ([], [])).2 := by
                unfold txL; rw [← ne1.2, if_pos (by omega), ka, Int.toNat_natCast]
              have n8 : nt (I 8 + I a) = 8 + k := by rw [I_add, ka, show (8 : Int) + (k : Int) = ((8 + k : Nat) : Int) by omega, I_ntn (by omega)]
              have tl := rw2.2.1
              have sz : mi M6 (m + 17) (8 + k) = I (r.2.1.getD k ([], [])).2.length := rw2.1
              refine ⟨h6.n21, by rw [h6.f21]; exact h6.k17, by rw [h6.f21, h6.l17, sa6, I_add, ka]; exact I_in (by omega) (by omega) (by omega), fun M7 q7 => ?_⟩
              rw [h6.f21, sa6, n8, sz] at q7
              have f7 : fm m [63, 136] M6 M7 := fm_o q7 (by decide)
              have h7 := h6.mv f7.1
              have a7 : mi M7 m 36 = I (r.2.1.getD k ([], [])).2.length := by rw [q7, i_is]
              generalize htx : (r.2.1.getD k ([], [])).2 = txt at *
              refine cp_loop (L := fun x => [some (.ref m), some (.int (I t)), some (.int (I b)), some (.int (I (bI al))), some (.int x)]) (A := m + 25) (t := 0) (N := txt.length) (g := fun j => I (txt.getD j 0)) (fun j M8 hj c8 cont => ?_) (fun M8 c8 => ?_)
              · have h8 := h7.mv c8.1
                have e36 : mi M8 m 36 = I txt.length := by rw [c8.2.1 _ (by omega)]; exact a7
                have e43 : mi M8 m 43 = I a := by rw [c8.2.1 _ (by omega), f7.fld (by decide)]; exact sa6
                have e1 : I 80 * (I 8 + I a) + I (j : Int) = I ((80 * (8 + k) + j : Nat) : Int) := by
                  rw [I_add, I_mul, I_add, ka]; congr 1
                refine w161_9 ⟨h8.k0, fun c => ?_, fun c => ⟨h8.n37, h8.n20, by rw [h8.f20]; exact h8.k16, by rw [h8.f20, h8.l16, e43, e1]; exact I_in (by omega) (by omega) (by omega), by rw [h8.f37]; exact h8.k25, by rw [h8.f37, h8.l25]; exact I_in (by omega) (by omega) (by omega), fun M9 q9 => ?_⟩⟩
                · rw [e36, I_le (by omega) (by omega) (by omega) (by omega)] at c; omega
                · have cc : txt.getD j 0 < 65536 := getD_lt rw2.2.2.2 (by omega) j
                  have ev : mi M8 (m + 16) (80 * (8 + k) + j) = I (txt.getD j 0) := by
                    rw [c8.2.1 _ (by omega), q7, i_ia (by omega)]
                    exact rw2.2.2.1 j hj
                  rw [h8.f37, h8.f20, e43, e1, I_ntn (by omega), I_ntn (by omega), ev, I_cN (by omega) (by omega)] at q9
                  rw [I_add]
                  refine cont M9 ?_
                  rw [Nat.zero_add]; exact q9
              · have h8 := h7.mv c8.1
                have e36 : mi M8 m 36 = I txt.length := by rw [c8.2.1 _ (by omega)]; exact a7
                have f8 : fm m [63, 136] M7 M8 := c8.fm (by omega) (fun j j1 j2 => by show [63, 136].contains 63 = true; decide)
                refine w161_9 ⟨h8.k0, fun _ => ten M8 _ txt (by rw [if_neg ne1.1, tx]) ⟨e36, by omega, fun j hj => ?_, rw2.2.2.2⟩ (f7.trans f8), fun c => ?_⟩
                · rw [c8.2.2, if_pos (by omega), Nat.sub_zero]
                · rw [e36, I_le (by omega) (by omega) (by omega) (by omega)] at c; omega
          · rw [F6.1, I_eq (by omega) (by omega) (by omega) (by omega)] at ze
            have e : F.isEmpty = true := by
              rw [List.isEmpty_iff]
              exact List.eq_nil_of_length_eq_zero (by omega)
            rw [if_pos e] at hq
            exact hq _ rfl M6 w6 ok6' (pu0 c6 z25) (by show 0 ≤ 240; omega) ok6.nil (by rw [e6]; rfl) f6'
        · rw [hv] at hd
          have h6 := w5.1.mv f6.1
          refine ⟨h6.k0, fun _ => hd rfl M6 _ 0 d6 (by rw [f6.fld (by decide)]; exact c38) (by omega) (f5'.trans (f6.w (by decide))), fun z => ?_⟩
          rw [d6] at z; exact absurd z (by decide)
      refine w161_4 ⟨w5.1.k0, fun nz => six false ?_, fun ze => six true ?_⟩
      · rw [sF5.1, I_eq (by omega) (by omega) (by omega) (by omega)] at nz
        cases F with
        | nil => exact absurd rfl nz
        | cons x F => rfl
      · rw [sF5.1, I_eq (by omega) (by omega) (by omega) (by omega)] at ze
        rw [List.eq_nil_of_length_eq_zero (show F.length = 0 by omega)]; rfl
    · rw [hr] at hq
      simp only [Option.bind_some] at hq
      rw [if_neg (by rw [r1]; decide)] at hq
      exact hq _ rfl M5 w5 ok5 (pu0 (by rw [f5.fld (by decide)]; exact b38) z25) (by show 0 ≤ 240; omega) ok6.nil (by rw [f5.fld (by decide), b26]; rfl) (f4'.trans (f5.w (by decide)))
    · rw [hr] at hd
      have f5' := f4'.trans (f5.w (S' := sC) (by decide))
      exact m_cmd4d (w4.1.mv f5.1) d5 (fun M6 d6 f6 => hd rfl M6 _ 0 d6 (by rw [f6.fld (by decide), f5.fld (by decide)]; exact b38) (by omega) (f5'.trans (f6.w (by decide))))
  · rw [hF] at hd
    have h4 := w3.1.mv f4.1
    have f4' : fm m sC M M4 := f3.trans (f4.w (by decide))
    have four : ∀ v4 : Int32, mX E 161 4 [some (.ref m), some (.int (I t)), some (.int (I b)), some (.int (I (bI al))), some (.int v4)] [] M4 Q := fun v4 => m_cmd4d h4 d4 (fun M6 d6 f6 => hd rfl M6 _ 0 d6 (by rw [f6.fld (by decide), f4.fld (by decide)]; exact a38) (by omega) (f4'.trans (f6.w (by decide))))
    refine w161_1 ⟨fun _ => four _, fun _ => ⟨h4.k0, fun _ => four _, fun z => ?_⟩⟩
    rw [d4] at z; exact absurd z (by decide)
end MCMD
