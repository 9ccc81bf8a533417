/-! THE REFERENCE: the utilities together -/
theorem utD_no {w : List Nat} (n0 : ¬ w = [101, 99, 104, 111]) (n1 : ¬ w = [99, 97, 116]) (n2 : ¬ w = [116, 114, 117, 101]) (n3 : ¬ w = [102, 97, 108, 115, 101]) (n4 : ¬ w = [115, 101, 116]) (n5 : ¬ w = [117, 110, 115, 101, 116]) (n6 : ¬ w = [114, 109]) (n7 : ¬ w = [119, 99]) (n8 : ¬ w = [104, 101, 97, 100]) (n9 : ¬ w = [114, 101, 118]) (n10 : ¬ w = [115, 111, 114, 116]) (n11 : ¬ w = [117, 110, 105, 113]) (n12 : ¬ w = [103, 114, 101, 112]) (n13 : ¬ w = [116, 114]) (n14 : ¬ w = [116, 101, 115, 116]) (n15 : ¬ w = [101, 120, 105, 116]) : utD w = 16 := by
  unfold utD utW
  simp only [utI, if_neg n0, if_neg n1, if_neg n2, if_neg n3, if_neg n4, if_neg n5, if_neg n6, if_neg n7, if_neg n8, if_neg n9, if_neg n10, if_neg n11, if_neg n12, if_neg n13, if_neg n14, if_neg n15]
section MUT
variable {E : mE} {M M' : mM} {Q : mQ} {m : Nat} {u : List Nat} {fs po : List (List Nat)} {vs fl : eL} {S : List Nat} {stt : Nat}
theorem ut_0 (hk : utD (fs.getD 0 []) = 0) (hl : 0 ≤ fs.length - 1 ∧ fs.length - 1 ≤ 16) : ut fs u vs po fl stt = lim ((0, ecL fs (fs.length - 1) 1), (vs, po, fl), false) := by
  unfold ut
  rw [hk]
  exact if_neg (fun z => z hl)
theorem ut_0n (hk : utD (fs.getD 0 []) = 0) (hl : ¬ (0 ≤ fs.length - 1 ∧ fs.length - 1 ≤ 16)) : ut fs u vs po fl stt = some ((2, []), (vs, po, fl), false) := by
  unfold ut
  rw [hk]
  exact if_pos hl
theorem ut_1 (hk : utD (fs.getD 0 []) = 1) (hl : 0 ≤ fs.length - 1 ∧ fs.length - 1 ≤ 16) : ut fs u vs po fl stt = lim ((ctS fl fs (fs.length - 1) 1 0, catO fl fs u), (vs, po, fl), false) := by
  unfold ut
  rw [hk]
  exact if_neg (fun z => z hl)
theorem ut_1n (hk : utD (fs.getD 0 []) = 1) (hl : ¬ (0 ≤ fs.length - 1 ∧ fs.length - 1 ≤ 16)) : ut fs u vs po fl stt = some ((2, []), (vs, po, fl), false) := by
  unfold ut
  rw [hk]
  exact if_pos hl
theorem ut_2 (hk : utD (fs.getD 0 []) = 2) (hl : 0 ≤ fs.length - 1 ∧ fs.length - 1 ≤ 0) : ut fs u vs po fl stt = some ((0, []), (vs, po, fl), false) := by
  unfold ut
  rw [hk]
  exact if_neg (fun z => z hl)
theorem ut_2n (hk : utD (fs.getD 0 []) = 2) (hl : ¬ (0 ≤ fs.length - 1 ∧ fs.length - 1 ≤ 0)) : ut fs u vs po fl stt = some ((2, []), (vs, po, fl), false) := by
  unfold ut
  rw [hk]
  exact if_pos hl
theorem ut_3 (hk : utD (fs.getD 0 []) = 3) (hl : 0 ≤ fs.length - 1 ∧ fs.length - 1 ≤ 0) : ut fs u vs po fl stt = some ((1, []), (vs, po, fl), false) := by
  unfold ut
  rw [hk]
  exact if_neg (fun z => z hl)
theorem ut_3n (hk : utD (fs.getD 0 []) = 3) (hl : ¬ (0 ≤ fs.length - 1 ∧ fs.length - 1 ≤ 0)) : ut fs u vs po fl stt = some ((2, []), (vs, po, fl), false) := by
  unfold ut
  rw [hk]
  exact if_pos hl
theorem ut_4 (hk : utD (fs.getD 0 []) = 4) (hl : 0 ≤ fs.length - 1 ∧ fs.length - 1 ≤ 16) : ut fs u vs po fl stt = if fs.length ≤ 10 then some ((0, []), (vs, fs.drop 1, fl), false) else none := by
  unfold ut
  rw [hk]
  exact if_neg (fun z => z hl)
theorem ut_4n (hk : utD (fs.getD 0 []) = 4) (hl : ¬ (0 ≤ fs.length - 1 ∧ fs.length - 1 ≤ 16)) : ut fs u vs po fl stt = some ((2, []), (vs, po, fl), false) := by
  unfold ut
  rw [hk]
  exact if_pos hl
theorem ut_5 (hk : utD (fs.getD 0 []) = 5) (hl : 0 ≤ fs.length - 1 ∧ fs.length - 1 ≤ 16) : ut fs u vs po fl stt = some ((0, []), (unL fs (fs.length - 1) 1 vs, po, fl), false) := by
  unfold ut
  rw [hk]
  exact if_neg (fun z => z hl)
theorem ut_5n (hk : utD (fs.getD 0 []) = 5) (hl : ¬ (0 ≤ fs.length - 1 ∧ fs.length - 1 ≤ 16)) : ut fs u vs po fl stt = some ((2, []), (vs, po, fl), false) := by
  unfold ut
  rw [hk]
  exact if_pos hl
theorem ut_6 (hk : utD (fs.getD 0 []) = 6) (hl : 0 ≤ fs.length - 1 ∧ fs.length - 1 ≤ 16) : ut fs u vs po fl stt = some (((rmL fs (fs.length - 1) 1 fl 0).2, []), (vs, po, (rmL fs (fs.length - 1) 1 fl 0).1), false) := by
  unfold ut
  rw [hk]
  exact if_neg (fun z => z hl)
theorem ut_6n (hk : utD (fs.getD 0 []) = 6) (hl : ¬ (0 ≤ fs.length - 1 ∧ fs.length - 1 ≤ 16)) : ut fs u vs po fl stt = some ((2, []), (vs, po, fl), false) := by
  unfold ut
  rw [hk]
  exact if_pos hl
theorem ut_7 (hk : utD (fs.getD 0 []) = 7) (hl : 0 ≤ fs.length - 1 ∧ fs.length - 1 ≤ 0) : ut fs u vs po fl stt = lim ((0, wcO u), (vs, po, fl), false) := by
  unfold ut
  rw [hk]
  exact if_neg (fun z => z hl)
theorem ut_7n (hk : utD (fs.getD 0 []) = 7) (hl : ¬ (0 ≤ fs.length - 1 ∧ fs.length - 1 ≤ 0)) : ut fs u vs po fl stt = some ((2, []), (vs, po, fl), false) := by
  unfold ut
  rw [hk]
  exact if_pos hl
theorem ut_8 (hk : utD (fs.getD 0 []) = 8) (hl : 1 ≤ fs.length - 1 ∧ fs.length - 1 ≤ 1) : ut fs u vs po fl stt = lim ((hdS fs, hdO fs u (lnL u 240 0)), (vs, po, fl), false) := by
  unfold ut
  rw [hk]
  exact if_neg (fun z => z hl)
theorem ut_8n (hk : utD (fs.getD 0 []) = 8) (hl : ¬ (1 ≤ fs.length - 1 ∧ fs.length - 1 ≤ 1)) : ut fs u vs po fl stt = some ((2, []), (vs, po, fl), false) := by
  unfold ut
  rw [hk]
  exact if_pos hl
theorem ut_9 (hk : utD (fs.getD 0 []) = 9) (hl : 0 ≤ fs.length - 1 ∧ fs.length - 1 ≤ 0) : ut fs u vs po fl stt = lim ((0, rvL u (lnL u 240 0)), (vs, po, fl), false) := by
  unfold ut
  rw [hk]
  exact if_neg (fun z => z hl)
theorem ut_9n (hk : utD (fs.getD 0 []) = 9) (hl : ¬ (0 ≤ fs.length - 1 ∧ fs.length - 1 ≤ 0)) : ut fs u vs po fl stt = some ((2, []), (vs, po, fl), false) := by
  unfold ut
  rw [hk]
  exact if_pos hl
theorem ut_10 (hk : utD (fs.getD 0 []) = 10) (hl : 0 ≤ fs.length - 1 ∧ fs.length - 1 ≤ 0) : ut fs u vs po fl stt = lim ((0, ptL u (srN u ((lnL u 240 0).length - 1) 1 (lnL u 240 0))), (vs, po, fl), false) := by
  unfold ut
  rw [hk]
  exact if_neg (fun z => z hl)
theorem ut_10n (hk : utD (fs.getD 0 []) = 10) (hl : ¬ (0 ≤ fs.length - 1 ∧ fs.length - 1 ≤ 0)) : ut fs u vs po fl stt = some ((2, []), (vs, po, fl), false) := by
  unfold ut
  rw [hk]
  exact if_pos hl
theorem ut_11 (hk : utD (fs.getD 0 []) = 11) (hl : 0 ≤ fs.length - 1 ∧ fs.length - 1 ≤ 0) : ut fs u vs po fl stt = lim ((0, chL u (lnL u 240 0) (lnL u 240 0).length 0), (vs, po, fl), false) := by
  unfold ut
  rw [hk]
  exact if_neg (fun z => z hl)
theorem ut_11n (hk : utD (fs.getD 0 []) = 11) (hl : ¬ (0 ≤ fs.length - 1 ∧ fs.length - 1 ≤ 0)) : ut fs u vs po fl stt = some ((2, []), (vs, po, fl), false) := by
  unfold ut
  rw [hk]
  exact if_pos hl
theorem ut_12 (hk : utD (fs.getD 0 []) = 12) (hl : 1 ≤ fs.length - 1 ∧ fs.length - 1 ≤ 1) : ut fs u vs po fl stt = lim ((grS u (fs.getD 1 []) (lnL u 240 0) 1, grL u (fs.getD 1 []) (lnL u 240 0)), (vs, po, fl), false) := by
  unfold ut
  rw [hk]
  exact if_neg (fun z => z hl)
theorem ut_12n (hk : utD (fs.getD 0 []) = 12) (hl : ¬ (1 ≤ fs.length - 1 ∧ fs.length - 1 ≤ 1)) : ut fs u vs po fl stt = some ((2, []), (vs, po, fl), false) := by
  unfold ut
  rw [hk]
  exact if_pos hl
theorem ut_13 (hk : utD (fs.getD 0 []) = 13) (hl : 2 ≤ fs.length - 1 ∧ fs.length - 1 ≤ 2) : ut fs u vs po fl stt = lim ((trS fs, trO fs u), (vs, po, fl), false) := by
  unfold ut
  rw [hk]
  exact if_neg (fun z => z hl)
theorem ut_13n (hk : utD (fs.getD 0 []) = 13) (hl : ¬ (2 ≤ fs.length - 1 ∧ fs.length - 1 ≤ 2)) : ut fs u vs po fl stt = some ((2, []), (vs, po, fl), false) := by
  unfold ut
  rw [hk]
  exact if_pos hl
theorem ut_14 (hk : utD (fs.getD 0 []) = 14) (hl : 1 ≤ fs.length - 1 ∧ fs.length - 1 ≤ 3) : ut fs u vs po fl stt = some ((tsS fs fl, []), (vs, po, fl), false) := by
  unfold ut
  rw [hk]
  exact if_neg (fun z => z hl)
theorem ut_14n (hk : utD (fs.getD 0 []) = 14) (hl : ¬ (1 ≤ fs.length - 1 ∧ fs.length - 1 ≤ 3)) : ut fs u vs po fl stt = some ((2, []), (vs, po, fl), false) := by
  unfold ut
  rw [hk]
  exact if_pos hl
theorem ut_15 (hk : utD (fs.getD 0 []) = 15) (hl : 0 ≤ fs.length - 1 ∧ fs.length - 1 ≤ 1) : ut fs u vs po fl stt = if exV fs stt < 0 ∨ 255 < exV fs stt then some ((2, []), (vs, po, fl), false) else some (((exV fs stt).toNat, []), (vs, po, fl), true) := by
  unfold ut
  rw [hk]
  exact if_neg (fun z => z hl)
theorem ut_15n (hk : utD (fs.getD 0 []) = 15) (hl : ¬ (0 ≤ fs.length - 1 ∧ fs.length - 1 ≤ 1)) : ut fs u vs po fl stt = some ((2, []), (vs, po, fl), false) := by
  unfold ut
  rw [hk]
  exact if_pos hl
theorem ut_16 (hk : utD (fs.getD 0 []) = 16) (hl : 0 ≤ fs.length - 1 ∧ fs.length - 1 ≤ 16) : ut fs u vs po fl stt = some ((127, []), (vs, po, fl), false) := by
  unfold ut
  rw [hk]
  exact if_neg (fun z => z hl)
theorem ut_16n (hk : utD (fs.getD 0 []) = 16) (hl : ¬ (0 ≤ fs.length - 1 ∧ fs.length - 1 ≤ 16)) : ut fs u vs po fl stt = some ((2, []), (vs, po, fl), false) := by
  unfold ut
  rw [hk]
  exact if_pos hl
theorem m_utility {al : Bool} {b : Int} {nm : List Nat} (h : mS M m) (hf : fdX M m fs) (h1 : 1 ≤ fs.length) (hi : inX M m u) (p : puX M m []) (vv : vrX M m 1 vs) (pp : poX M m 1 po) (ff : flX M m 1 fl) (hst : mi M (m + 18) 1 = I stt) (hst2 : stt ≤ 255) (h26 : mi M m 26 = I 0) (hnd : ndE vs) (hnf : ndE fl) (ho : oRl fl nm b) (hb : mi M m 44 = I b)
    (hq : ∀ r, ut fs u vs po fl stt = some r → ∀ M' b', puX M' m r.1.2 → r.1.2.length ≤ 240 → vrX M' m 1 r.2.1.1 → poX M' m 1 r.2.1.2.1 → flX M' m 1 r.2.1.2.2 → mi M' m 26 = I (bI (r.2.2 && al)) → mi M' m 44 = I b' → oRl r.2.1.2.2 nm b' → fm m [11, 21, 31, 64, 138, 125, 126, 144, 65, 140] M M' → Q (.inl (some (.int (I r.1.1)))) M')
    (hd : ut fs u vs po fl stt = none → ∀ M' x (n : Nat), mi M' m 25 = I 1 → mi M' m 38 = I n → n ≤ 240 → fm m [11, 21, 31, 64, 138, 125, 126, 144, 65, 140] M M' → Q (.inl (some (.int x))) M') : mC E 165 [.ref m, .int (I (bI al))] M Q := by
  have hl := hf.2.1
  have r0 := hf.row (show 0 < fs.length by omega)
  have br := ho.r ff.2.1
  have outp : ∀ (sN : Nat) (V : List Nat), ut fs u vs po fl stt = lim ((sN, V), (vs, po, fl), false) → ∀ M', puX M' m V → fm m [64, 138, 125, 65, 140] M M' → Q (.inl (some (.int (I sN)))) M' := by
    intro sN V e M' p1 f1
    unfold lim at e
    by_cases q : V.length ≤ 240
    · rw [if_pos (show ((sN, V), (vs, po, fl), false).1.2.length ≤ 240 from q)] at e
      exact hq _ e M' b p1 q (vv.mv f1 (by decide)) (pp.mv f1 (by decide)) (ff.mv f1 (by decide)) (by rw [f1.fld (by decide)]; exact h26) (by rw [f1.fld (by decide)]; exact hb) ho (f1.w (by decide))
    · rw [if_neg (show ¬ ((sN, V), (vs, po, fl), false).1.2.length ≤ 240 from q)] at e
      exact hd e M' _ 240 (by rw [p1.2.2, decide_eq_true (show 240 < V.length by omega)]; rfl) (by rw [p1.1, show min V.length 240 = 240 by omega]) (by omega) (f1.w (by decide))
  have plain : ∀ (sN : Nat), ut fs u vs po fl stt = some ((sN, []), (vs, po, fl), false) → Q (.inl (some (.int (I sN)))) M := fun sN e => hq _ e M b p (by simp) vv pp ff h26 hb ho (fm.refl _ _ _)
  have b13 : ¬ fs.getD 0 [] = [101, 99, 104, 111] → ¬ fs.getD 0 [] = [99, 97, 116] → ¬ fs.getD 0 [] = [115, 101, 116] → ¬ fs.getD 0 [] = [117, 110, 115, 101, 116] → ¬ fs.getD 0 [] = [114, 109] → ¬ fs.getD 0 [] = [116, 101, 115, 116] → ¬ fs.getD 0 [] = [101, 120, 105, 116] → ¬ fs.getD 0 [] = [104, 101, 97, 100] → ¬ fs.getD 0 [] = [103, 114, 101, 112] → ¬ fs.getD 0 [] = [116, 114] → mX E 165 13 [some (.ref m), some (.int (I (bI al))), none, none, none, none, none, none] [] M Q := by
    intro n0 n1 n4 n5 n6 n14 n15 n8 n12 n13
    have b14 : ∀ x2 x3 x4 x5 x6 x7 : Bool, (x2 = true ↔ fs.getD 0 [] = [116, 114, 117, 101]) → (x3 = true ↔ fs.getD 0 [] = [119, 99]) → (x4 = true ↔ fs.getD 0 [] = [114, 101, 118]) → (x5 = true ↔ fs.getD 0 [] = [115, 111, 114, 116]) → (x6 = true ↔ fs.getD 0 [] = [117, 110, 105, 113]) → (x7 = true ↔ fs.getD 0 [] = [102, 97, 108, 115, 101]) → (x2 = true ∨ x3 = true ∨ x4 = true ∨ x5 = true ∨ x6 = true ∨ x7 = true) → mX E 165 14 [some (.ref m), some (.int (I (bI al))), some (.int (I (bI x2))), some (.int (I (bI x3))), some (.int (I (bI x4))), some (.int (I (bI x5))), some (.int (I (bI x6))), some (.int (I (bI x7)))] [] M Q := by
      intro x2 x3 x4 x5 x6 x7 e2 e3 e4 e5 e6 e7 any
      refine w165_14 ⟨h.k0, fun c => ?_, fun c => ?_⟩
      · rw [hf.1, I_le (by omega) (by omega) (by omega) (by omega)] at c
        have one : fs.length - 1 = 0 := by omega
        cases x3 with
        | true =>
          have e := e3.mp rfl
          have y7 : x7 = false := by
            cases x7 with
            | false => rfl
            | true => rw [e] at e7; exact absurd (e7.mp rfl) (by decide)
          subst y7
          exact w165_15 ⟨fun z => absurd z (by decide), fun _ => ⟨h.k0, m_wc h hi p (fun M' g1 g2 => ⟨fun _ => outp 0 _ (ut_7 (by rw [e]; rfl) (by omega)) M' (by simpa using g1) (g2.w (by decide)), fun z => absurd rfl z⟩)⟩⟩
        | false =>
          have by17 : ∀ w : Nat, w ≤ 2 → I (bI x4) = I (if w = 0 then 1 else 0) → I (bI x5) = I (if w = 1 then 1 else 0) → x7 = false → ut fs u vs po fl stt = lim ((0, blR u w), (vs, po, fl), false) → mX E 165 17 [some (.ref m), some (.int (I (bI al))), some (.int (I (bI x2))), some (.int (I (bI false))), some (.int (I (bI x4))), some (.int (I (bI x5))), some (.int (I (bI x6))), some (.int (I (bI x7)))] [] M Q := by
            intro w w2 q4 q5 q7 eu
            subst q7
            rw [q4, q5]
            exact w165_17 ⟨h.k0, m_byLines w2 h hi p (fun M' g1 g2 => ⟨fun _ => outp 0 _ eu M' (by simpa using g1) g2, fun z => absurd rfl z⟩)⟩
          have no7 : x4 = true ∨ x5 = true ∨ x6 = true → x7 = false := by
            intro a
            cases x7 with
            | false => rfl
            | true =>
              have e := e7.mp rfl
              rw [e] at e4 e5 e6
              rcases a with a | a | a
              · exact absurd (e4.mp a) (by decide)
              · exact absurd (e5.mp a) (by decide)
              · exact absurd (e6.mp a) (by decide)
          refine w165_15 ⟨fun _ => w165_16 ⟨fun z => ?_, fun z => ⟨fun y => ?_, fun y => ⟨fun x => ⟨fun v => ?_, fun v => ?_⟩, fun x => ?_⟩⟩⟩, fun z => absurd rfl z⟩
          · rw [bI_0, Bool.not_eq_false] at z
            have e := e4.mp z
            have y5 : x5 = false := by
              cases x5 with
              | false => rfl
              | true => rw [e] at e5; exact absurd (e5.mp rfl) (by decide)
            exact by17 0 (by omega) (by rw [z]; rfl) (by rw [y5]; rfl) (no7 (Or.inl z)) (by rw [ut_9 (by rw [e]; rfl) (by omega)]; rfl)
          · rw [bI_0] at z
            rw [bI_0, Bool.not_eq_false] at y
            have e := e5.mp y
            exact by17 1 (by omega) (by rw [z]; rfl) (by rw [y]; rfl) (no7 (Or.inr (Or.inl y))) (by rw [ut_10 (by rw [e]; rfl) (by omega)]; rfl)
          · rw [bI_0] at z y x v
            subst z y x v
            have x2t : x2 = true := by
              rcases any with a | a | a | a | a | a
              · exact a
              all_goals exact absurd a (by decide)
            exact plain 0 (ut_2 (by rw [e2.mp x2t]; rfl) (by omega))
          · rw [bI_0, Bool.not_eq_false] at v
            exact plain 1 (ut_3 (by rw [e7.mp v]; rfl) (by omega))
          · rw [bI_0] at z y
            rw [bI_0, Bool.not_eq_false] at x
            have e := e6.mp x
            exact by17 2 (by omega) (by rw [z]; rfl) (by rw [y]; rfl) (no7 (Or.inr (Or.inr x))) (by rw [ut_11 (by rw [e]; rfl) (by omega)]; rfl)
      · rw [hf.1, I_le (by omega) (by omega) (by omega) (by omega)] at c
        refine plain 2 ?_
        rcases any with a | a | a | a | a | a
        · exact ut_2n (by rw [e2.mp a]; rfl) (by omega)
        · exact ut_7n (by rw [e3.mp a]; rfl) (by omega)
        · exact ut_9n (by rw [e4.mp a]; rfl) (by omega)
        · exact ut_10n (by rw [e5.mp a]; rfl) (by omega)
        · exact ut_11n (by rw [e6.mp a]; rfl) (by omega)
        · exact ut_3n (by rw [e7.mp a]; rfl) (by omega)
    have isB : ∀ (x : Int64) (n : Nat) (W : List Nat) (F : Int32 → mM → Prop), n = W.length → n ≤ 5 → (∀ k, k < W.length → ((Int64.toInt32 (lushr x ((I 8) * ((I n - (I 1)) - I k)))) &&& (I 255)) = I (W.getD k 0)) → (∀ c ∈ W, c < 65536) → (∀ y : Bool, (y = true ↔ fs.getD 0 [] = W) → F (I (bI y)) M) → mC E 164 [.ref m, .int (I 0), .long x, .int (I n)] M (kI Q F) := fun x n W F a1 a2 a3 a4 k => m_is (f := 0) h r0 (by omega) a1 a2 a3 a4 (fun e => k true ⟨fun _ => e, fun _ => rfl⟩) (fun e => k false ⟨fun z => absurd z (by decide), fun z => absurd z e⟩)
    refine w165_13 ⟨h.k0, ?_⟩
    refine isB _ 4 [116, 114, 117, 101] _ rfl (by omega) (by decide) (by decide) (fun x2 e2 => ⟨h.k0, ?_⟩)
    refine isB _ 2 [119, 99] _ rfl (by omega) (by decide) (by decide) (fun x3 e3 => ⟨h.k0, ?_⟩)
    refine isB _ 3 [114, 101, 118] _ rfl (by omega) (by decide) (by decide) (fun x4 e4 => ⟨h.k0, ?_⟩)
    refine isB _ 4 [115, 111, 114, 116] _ rfl (by omega) (by decide) (by decide) (fun x5 e5 => ⟨h.k0, ?_⟩)
    refine isB _ 4 [117, 110, 105, 113] _ rfl (by omega) (by decide) (by decide) (fun x6 e6 => ⟨h.k0, ?_⟩)
    refine isB _ 5 [102, 97, 108, 115, 101] _ rfl (by omega) (by decide) (by decide) (fun x7 e7 => ?_)
    have go := b14 x2 x3 x4 x5 x6 x7 e2 e3 e4 e5 e6 e7
    refine ⟨fun z2 => go (Or.inl ?_), fun z2 => ⟨fun z3 => go (Or.inr (Or.inl ?_)), fun z3 => ⟨fun z4 => go (Or.inr (Or.inr (Or.inl ?_))), fun z4 => ⟨fun z5 => go (Or.inr (Or.inr (Or.inr (Or.inl ?_)))), fun z5 => ⟨fun z6 => go (Or.inr (Or.inr (Or.inr (Or.inr (Or.inl ?_))))), fun z6 => ⟨fun z7 => go (Or.inr (Or.inr (Or.inr (Or.inr (Or.inr ?_))))), fun z7 => ?_⟩⟩⟩⟩⟩⟩
    · rw [bI_0, Bool.not_eq_false] at z2; exact z2
    · rw [bI_0, Bool.not_eq_false] at z3; exact z3
    · rw [bI_0, Bool.not_eq_false] at z4; exact z4
    · rw [bI_0, Bool.not_eq_false] at z5; exact z5
    · rw [bI_0, Bool.not_eq_false] at z6; exact z6
    · rw [bI_0, Bool.not_eq_false] at z7; exact z7
    · rw [bI_0] at z2 z3 z4 z5 z6 z7
      subst z2 z3 z4 z5 z6 z7
      have nn : ∀ {W : List Nat}, (false = true ↔ fs.getD 0 [] = W) → ¬ fs.getD 0 [] = W := fun g z => absurd (g.mpr z) (by decide)
      exact plain 127 (ut_16 (utD_no n0 n1 (nn e2) (nn e7) n4 n5 n6 (nn e3) n8 (nn e4) (nn e5) (nn e6) n12 n13 n14 n15) (by omega))
  have b12 : ¬ fs.getD 0 [] = [101, 99, 104, 111] → ¬ fs.getD 0 [] = [99, 97, 116] → ¬ fs.getD 0 [] = [115, 101, 116] → ¬ fs.getD 0 [] = [117, 110, 115, 101, 116] → ¬ fs.getD 0 [] = [114, 109] → ¬ fs.getD 0 [] = [116, 101, 115, 116] → ¬ fs.getD 0 [] = [101, 120, 105, 116] → ¬ fs.getD 0 [] = [104, 101, 97, 100] → ¬ fs.getD 0 [] = [103, 114, 101, 112] → mX E 165 12 [some (.ref m), some (.int (I (bI al))), none, none, none, none, none, none] [] M Q := by
    intro n0 n1 n4 n5 n6 n14 n15 n8 n12
    refine w165_12 ⟨h.k0, m_is (f := 0) (n := 2) (W := [116, 114]) h r0 (by omega) rfl (by omega) (by decide) (by decide) (fun e => ⟨fun z => absurd z (by decide), fun _ => ⟨h.k0, m_turn h hf hi p (fun z => plain 2 (ut_13n (by rw [e]; rfl) (by omega))) (fun z M' g1 g2 => outp _ _ (ut_13 (by rw [e]; rfl) (by omega)) M' (by simpa using g1) (g2.w (by decide)))⟩⟩) (fun e => ⟨fun _ => b13 n0 n1 n4 n5 n6 n14 n15 n8 n12 e, fun z => absurd rfl z⟩)⟩
  have b8 : (fs.getD 0 [] = [104, 101, 97, 100] ∨ fs.getD 0 [] = [103, 114, 101, 112]) → mX E 165 8 [some (.ref m), some (.int (I (bI al))), none, none, none, none, none, none] [] M Q := by
    intro g
    refine w165_8 ⟨h.k0, fun c => ?_, fun c => ?_⟩
    · rw [hf.1, I_eq (by omega) (by omega) (by omega) (by omega)] at c
      refine w165_9 ⟨h.k0, m_is (f := 0) (n := 4) (W := [104, 101, 97, 100]) h r0 (by omega) rfl (by omega) (by decide) (by decide) (fun e => ⟨fun z => absurd z (by decide), fun _ => ⟨h.k0, m_head h hf (by omega) hi p (fun M' g1 g2 => outp _ _ (ut_8 (by rw [e]; rfl) (by omega)) M' (by simpa using g1) g2)⟩⟩) (fun e => ⟨fun _ => w165_10 ⟨h.k0, m_grep h hf (by omega) hi p (fun M' g1 g2 => outp _ _ (ut_12 (by rcases g with q | q; exact absurd q e; rw [q]; rfl) (by omega)) M' (by simpa using g1) g2)⟩, fun z => absurd rfl z⟩)⟩
    · rw [hf.1, I_eq (by omega) (by omega) (by omega) (by omega)] at c
      refine plain 2 ?_
      rcases g with q | q
      · exact ut_8n (by rw [q]; rfl) (by omega)
      · exact ut_12n (by rw [q]; rfl) (by omega)
  have b7 : ¬ fs.getD 0 [] = [101, 99, 104, 111] → ¬ fs.getD 0 [] = [99, 97, 116] → ¬ fs.getD 0 [] = [115, 101, 116] → ¬ fs.getD 0 [] = [117, 110, 115, 101, 116] → ¬ fs.getD 0 [] = [114, 109] → ¬ fs.getD 0 [] = [116, 101, 115, 116] → ¬ fs.getD 0 [] = [101, 120, 105, 116] → mX E 165 7 [some (.ref m), some (.int (I (bI al))), none, none, none, none, none, none] [] M Q := by
    intro n0 n1 n4 n5 n6 n14 n15
    refine w165_7 ⟨h.k0, m_is (f := 0) (n := 4) (W := [104, 101, 97, 100]) h r0 (by omega) rfl (by omega) (by decide) (by decide) (fun e => ⟨fun _ => b8 (Or.inl e), fun z => absurd z (by decide)⟩) (fun e => ⟨fun z => absurd rfl z, fun _ => ⟨h.k0, ?_⟩⟩)⟩
    have n8 := e
    exact m_is (f := 0) (n := 4) (W := [103, 114, 101, 112]) h r0 (by omega) rfl (by omega) (by decide) (by decide) (fun e => ⟨fun z => absurd z (by decide), fun _ => b8 (Or.inr e)⟩) (fun e => ⟨fun _ => b12 n0 n1 n4 n5 n6 n14 n15 n8 e, fun z => absurd rfl z⟩)
  have b6 : ¬ fs.getD 0 [] = [101, 99, 104, 111] → ¬ fs.getD 0 [] = [99, 97, 116] → ¬ fs.getD 0 [] = [115, 101, 116] → ¬ fs.getD 0 [] = [117, 110, 115, 101, 116] → ¬ fs.getD 0 [] = [114, 109] → ¬ fs.getD 0 [] = [116, 101, 115, 116] → mX E 165 6 [some (.ref m), some (.int (I (bI al))), none, none, none, none, none, none] [] M Q := by
    intro n0 n1 n4 n5 n6 n14
    refine w165_6 ⟨h.k0, m_is (f := 0) (n := 4) (W := [101, 120, 105, 116]) h r0 (by omega) rfl (by omega) (by decide) (by decide) (fun e => ⟨fun z => absurd z (by decide), fun _ => ⟨h.k0, ?_⟩⟩) (fun e => ⟨fun _ => b7 n0 n1 n4 n5 n6 n14 e, fun z => absurd rfl z⟩)⟩
    refine m_exit h hf hst hst2 h26 (fun z => plain 2 ?_) (fun z M' g1 g2 => ?_)
    · by_cases q : fs.length = 1 ∨ fs.length = 2
      · rw [ut_15 (by rw [e]; rfl) (by omega), if_pos (by omega)]
      · exact ut_15n (by rw [e]; rfl) (by omega)
    · have eu := ut_15 (u := u) (vs := vs) (po := po) (fl := fl) (stt := stt) (show utD (fs.getD 0 []) = 15 by rw [e]; rfl) (by omega)
      rw [if_neg (by omega)] at eu
      have := hq _ eu M' b (p.mv g2 (by decide) (by decide) (by decide)) (by simp) (vv.mv g2 (by decide)) (pp.mv g2 (by decide)) (ff.mv g2 (by decide)) (by rw [g1, Bool.true_and]) (by rw [g2.fld (by decide)]; exact hb) ho (g2.w (by decide))
      show Q (.inl (some (.int (I (exV fs stt))))) M'
      rw [show exV fs stt = (((exV fs stt).toNat : Nat) : Int) by omega]; exact this
  have b5 : ¬ fs.getD 0 [] = [101, 99, 104, 111] → ¬ fs.getD 0 [] = [99, 97, 116] → ¬ fs.getD 0 [] = [115, 101, 116] → ¬ fs.getD 0 [] = [117, 110, 115, 101, 116] → ¬ fs.getD 0 [] = [114, 109] → mX E 165 5 [some (.ref m), some (.int (I (bI al))), none, none, none, none, none, none] [] M Q := by
    intro n0 n1 n4 n5 n6
    refine w165_5 ⟨h.k0, m_is (f := 0) (n := 4) (W := [116, 101, 115, 116]) h r0 (by omega) rfl (by omega) (by decide) (by decide) (fun e => ⟨fun z => absurd z (by decide), fun _ => ⟨h.k0, m_test h hf ff (plain _ ?_)⟩⟩) (fun e => ⟨fun _ => b6 n0 n1 n4 n5 n6 e, fun z => absurd rfl z⟩)⟩
    by_cases q : 1 ≤ fs.length - 1 ∧ fs.length - 1 ≤ 3
    · exact ut_14 (by rw [e]; rfl) q
    · rw [ut_14n (by rw [e]; rfl) q]
      have : tsS fs fl = 2 := by unfold tsS; rw [if_neg (by omega), if_neg (by omega), if_neg (by omega), if_neg (by omega)]
      rw [this]
  have b4 : ¬ fs.getD 0 [] = [101, 99, 104, 111] → ¬ fs.getD 0 [] = [99, 97, 116] → ¬ fs.getD 0 [] = [115, 101, 116] → ¬ fs.getD 0 [] = [117, 110, 115, 101, 116] → mX E 165 4 [some (.ref m), some (.int (I (bI al))), none, none, none, none, none, none] [] M Q := by
    intro n0 n1 n4 n5
    refine w165_4 ⟨h.k0, m_is (f := 0) (n := 2) (W := [114, 109]) h r0 (by omega) rfl (by omega) (by decide) (by decide) (fun e => ⟨fun z => absurd z (by decide), fun _ => ⟨h.k0, m_remove br.1 br.2 h hf ff hb (fun M' g1 g2 g3 => ?_)⟩⟩) (fun e => ⟨fun _ => b5 n0 n1 n4 n5 e, fun z => absurd rfl z⟩)⟩
    obtain ⟨k1, k2, k3, k4⟩ := rmM_L fs nm (fs.length - 1) 1 fl 0 b hnf ho
    have := hq _ (ut_6 (by rw [e]; rfl) (by omega)) M' _ (p.mv g3 (by decide) (by decide) (by decide)) (by simp) (vv.mv g3 (by decide)) (pp.mv g3 (by decide)) (by rw [← k1]; exact g1) (by rw [g3.fld (by decide)]; exact h26) g2 k3 (g3.w (by decide))
    show Q (.inl (some (.int _))) M'
    rw [k2]; exact this
  have b3 : ¬ fs.getD 0 [] = [101, 99, 104, 111] → ¬ fs.getD 0 [] = [99, 97, 116] → ¬ fs.getD 0 [] = [115, 101, 116] → mX E 165 3 [some (.ref m), some (.int (I (bI al))), none, none, none, none, none, none] [] M Q := by
    intro n0 n1 n4
    refine w165_3 ⟨h.k0, m_is (f := 0) (n := 5) (W := [117, 110, 115, 101, 116]) h r0 (by omega) rfl (by omega) (by decide) (by decide) (fun e => ⟨fun z => absurd z (by decide), fun _ => ⟨h.k0, m_unset h hf vv (fun M' g1 g2 => ?_)⟩⟩) (fun e => ⟨fun _ => b4 n0 n1 n4 e, fun z => absurd rfl z⟩)⟩
    rw [(unM_L fs _ 1 vs hnd).1] at g1
    exact hq _ (ut_5 (by rw [e]; rfl) (by omega)) M' b (p.mv g2 (by decide) (by decide) (by decide)) (by simp) g1 (pp.mv g2 (by decide)) (ff.mv g2 (by decide)) (by rw [g2.fld (by decide)]; exact h26) (by rw [g2.fld (by decide)]; exact hb) ho (g2.w (by decide))
  have b2 : ¬ fs.getD 0 [] = [101, 99, 104, 111] → ¬ fs.getD 0 [] = [99, 97, 116] → mX E 165 2 [some (.ref m), some (.int (I (bI al))), none, none, none, none, none, none] [] M Q := by
    intro n0 n1
    refine w165_2 ⟨h.k0, m_is (f := 0) (n := 3) (W := [115, 101, 116]) h r0 (by omega) rfl (by omega) (by decide) (by decide) (fun e => ⟨fun z => absurd z (by decide), fun _ => ⟨h.k0, m_setU h hf h1 (fun l M' g1 g2 => ?_) (fun l M' g1 g2 => ?_)⟩⟩) (fun e => ⟨fun _ => b3 n0 n1 e, fun z => absurd rfl z⟩)⟩
    · have eu := ut_4 (u := u) (vs := vs) (po := po) (fl := fl) (stt := stt) (show utD (fs.getD 0 []) = 4 by rw [e]; rfl) (by omega)
      rw [if_pos l] at eu
      exact hq _ eu M' b (p.mv g2 (by decide) (by decide) (by decide)) (by simp) (vv.mv g2 (by decide)) g1 (ff.mv g2 (by decide)) (by rw [g2.fld (by decide)]; exact h26) (by rw [g2.fld (by decide)]; exact hb) ho (g2.w (by decide))
    · have eu := ut_4 (u := u) (vs := vs) (po := po) (fl := fl) (stt := stt) (show utD (fs.getD 0 []) = 4 by rw [e]; rfl) (by omega)
      rw [if_neg (by omega)] at eu
      exact hd eu M' _ 0 g1 (by rw [g2.fld (by decide)]; exact p.1) (by omega) (g2.w (by decide))
  have b1 : ¬ fs.getD 0 [] = [101, 99, 104, 111] → mX E 165 1 [some (.ref m), some (.int (I (bI al))), none, none, none, none, none, none] [] M Q := by
    intro n0
    exact w165_1 ⟨h.k0, m_is (f := 0) (n := 3) (W := [99, 97, 116]) h r0 (by omega) rfl (by omega) (by decide) (by decide) (fun e => ⟨fun z => absurd z (by decide), fun _ => ⟨h.k0, m_catU h hf hi ff p (fun M' g1 g2 => outp _ _ (ut_1 (by rw [e]; rfl) (by omega)) M' (by simpa using g1) (g2.w (by decide)))⟩⟩) (fun e => ⟨fun _ => b2 n0 e, fun z => absurd rfl z⟩)⟩
  exact w165_0 ⟨h.k0, m_is (f := 0) (n := 4) (W := [101, 99, 104, 111]) h r0 (by omega) rfl (by omega) (by decide) (by decide) (fun e => ⟨fun z => absurd z (by decide), fun _ => ⟨h.k0, m_echo h hf p (fun M' g1 g2 => outp 0 _ (ut_0 (by rw [e]; rfl) (by omega)) M' (by simpa using g1) (g2.w (by decide)))⟩⟩) (fun e => ⟨fun _ => b1 e, fun z => absurd rfl z⟩)⟩
end MUT
