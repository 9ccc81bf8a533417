/-! TABLES: drop, become, the constructors of rows and tables -/
def shD (i k j : Nat) : Nat := if i ≤ j ∧ j + 1 < k then j + 1 else j
def shF (i z j : Nat) : Nat := if j + 1 = z then i else shD i z j
section TAB
variable {E : mE} {M : mM} {Q : mQ} {t n cn ct : Nat} {es : eL}
theorem tb_drop_l {x z : Nat} {σ : Nat → Nat} {f : Nat → List Nat × List Nat} (hx : x < z) (hz : z ≤ n) (c2 : tbP n σ) (m : Nat) : ∀ (k : Nat) (M : mM), z - k ≤ m → x < k → k ≤ z → tbS M t n → mi M t 3 = I z → tbA M t n (fun i => σ (shD x k i)) → tbC M t n cn ct σ f → (∀ M', tbS M' t n → mi M' t 3 = I (z - 1 : Nat) → tbA M' t n (fun i => σ (shF x z i)) → tbC M' t n cn ct σ f → fr M M' t (t + 3) → Q (.inl none) M') →
    mX E 39 3 [some (.ref t), some (.int (I x)), some (.ref (t + 3 + 4 * σ x)), some (.ref (t + 5 + 4 * σ x)), some (.int (I k))] [] M Q := by
  induction m with
  | zero =>
    intro k M hm hxk hk a b2 c1 c3 hq
    obtain ⟨a1, a2, a3, a4, a5, a6, a7, a8, a9, a10⟩ := id a
    have ek : k = z := by omega
    subst ek
    have sx := c2.1 x (by omega)
    have e0 : I (k : Int) - I 1 = I ((k - 1 : Nat) : Int) := by rw [I_sub]; congr 1; omega
    refine w39_3 ⟨a1, fun _ => ⟨by rw [a2]; omega, by rw [a2]; exact a5, by rw [a2, a6, b2, e0]; exact I_in (by omega) (by omega) (by omega), (c3 x (by omega)).1.1, fun M1 q1 => ?_⟩, fun c => ?_⟩
    · rw [a2, b2, e0, I_ntn (by omega)] at q1
      have r1 : mr M1 t 1 = t + 2 := by rw [q1, r_ra (by omega), a3]
      rw [r1, b2, e0]
      refine ⟨by omega, a7, by rw [a8]; exact I_in (by omega) (by omega) (by omega), (c3 x (by omega)).2.1, fun M2 q2 M3 q3 => ?_⟩
      rw [I_ntn (by omega)] at q2
      have hf : fr M M3 t (t + 3) := by
        have f1 : fr M M1 t (t + 3) := by rw [q1]; exact fr_r (by omega) (by omega)
        have f2 : fr M1 M2 t (t + 3) := by rw [q2]; exact fr_r (by omega) (by omega)
        have f3 : fr M2 M3 t (t + 3) := by rw [q3]; exact fr_i (by omega) (by omega)
        exact (f1.then f2).then f3
      have rr : ∀ y i, mr M3 y i = mr (msr (msr M (t + 1) (k - 1) (t + 3 + 4 * σ x)) (t + 2) (k - 1) (t + 5 + 4 * σ x)) y i := fun y i => by rw [q3, r_i, q2, q1]
      have kk : ∀ y, mkd M3 y = mkd M y := fun y => by rw [q3, kd_i, q2, kd_r, q1, kd_r]
      have ll : ∀ y, mln M3 y = mln M y := fun y => by rw [q3, ln_i, q2, ln_r, q1, ln_r]
      refine hq M3 ⟨by rw [kk, a1], ?_, ?_, ?_, by rw [kk, a5], by rw [ll, a6], by rw [kk, a7], by rw [ll, a8], a9, a10.mv hf (by omega)⟩ (by rw [q3, i_is]) (fun i hi => ?_) (fun i hi => ?_) hf
      · rw [rr, r_ra (by omega), r_ra (by omega), a2]
      · rw [rr, r_ra (by omega), r_ra (by omega), a3]
      · rw [rr, r_ra (by omega), r_ra (by omega), a4]
      · rw [rr, rr, r_ra (show ¬ t + 1 = t + 2 by omega)]
        by_cases q : i = k - 1
        · subst q; rw [r_rs, r_rs]; simp [shF, show k - 1 + 1 = k by omega]
        · rw [r_rk q, r_rk q, r_ra (show ¬ t + 2 = t + 1 by omega)]; simp only [shF, if_neg (show ¬ i + 1 = k by omega)]; exact c1 i hi
      · have := c2.1 i hi
        exact ⟨(c3 i hi).1.mv hf (by omega), (c3 i hi).2.mv hf (by omega)⟩
    · rw [b2, I_le (by omega) (by omega) (by omega) (by omega)] at c; omega
  | succ m ih =>
    intro k M hm hxk hk a b2 c1 c3 hq
    by_cases hkz : k = z
    · exact (by
        subst hkz
        exact ih k M (by omega) hxk hk a b2 c1 c3 hq)
    obtain ⟨a1, a2, a3, a4, a5, a6, a7, a8, a9, a10⟩ := id a
    have e0 : I (k : Int) - I 1 = I ((k - 1 : Nat) : Int) := by rw [I_sub]; congr 1; omega
    have i1 : shD x k k = k := by unfold shD; rw [if_neg (by omega)]
    have s1 := c2.1 k (by omega)
    have p1 := c1 k (by omega)
    have t1 := c3 k (by omega)
    simp only [i1] at p1
    refine w39_3 ⟨a1, fun c => ?_, fun _ => ⟨by rw [a2]; omega, by rw [a2]; exact a5, by rw [a2, a6]; exact I_in (by omega) (by omega) (by omega), by rw [a2, I_ntn (by omega), p1.1]; omega, by rw [a2, a6, e0]; exact I_in (by omega) (by omega) (by omega), by rw [a2, I_ntn (by omega), p1.1]; exact t1.1.1, fun M6 q6 => ?_⟩⟩
    · rw [b2, I_le (by omega) (by omega) (by omega) (by omega)] at c; omega
    · rw [a2, e0, I_ntn (by omega), I_ntn (by omega), p1.1] at q6
      have r6 : mr M6 t 1 = t + 2 := by rw [q6, r_ra (by omega), a3]
      have r7 : mr M6 (t + 2) k = t + 5 + 4 * σ k := by rw [q6, r_ra (by omega), p1.2]
      rw [r6, a8, e0, I_ntn (by omega), r7]
      refine ⟨by omega, a7, I_in (by omega) (by omega) (by omega), by omega, I_in (by omega) (by omega) (by omega), t1.2.1, fun M7 q7 => ?_⟩
      rw [I_ntn (by omega)] at q7
      have hf : fr M M7 t (t + 3) := by
        have f1 : fr M M6 t (t + 3) := by rw [q6]; exact fr_r (by omega) (by omega)
        have f2 : fr M6 M7 t (t + 3) := by rw [q7]; exact fr_r (by omega) (by omega)
        exact f1.then f2
      have kk : ∀ y, mkd M7 y = mkd M y := fun y => by rw [q7, kd_r, q6, kd_r]
      have ll : ∀ y, mln M7 y = mln M y := fun y => by rw [q7, ln_r, q6, ln_r]
      have rr : ∀ y i, mr M7 y i = mr (msr (msr M (t + 1) (k - 1) (t + 3 + 4 * σ k)) (t + 2) (k - 1) (t + 5 + 4 * σ k)) y i := fun y i => by rw [q7, q6]
      rw [I_add]
      refine ih (k + 1) M7 (by omega) (by omega) (by omega) ⟨by rw [kk, a1], ?_, ?_, ?_, by rw [kk, a5], by rw [ll, a6], by rw [kk, a7], by rw [ll, a8], a9, a10.mv hf (by omega)⟩ (by rw [q7, i_r, q6, i_r, b2]) (fun i hi => ?_) (fun i hi => ?_) (fun M' g1 g2 g3 g4 g5 => hq M' g1 g2 g3 g4 (hf.then g5))
      · rw [rr, r_ra (by omega), r_ra (by omega), a2]
      · rw [rr, r_ra (by omega), r_ra (by omega), a3]
      · rw [rr, r_ra (by omega), r_ra (by omega), a4]
      · rw [rr, rr, r_ra (show ¬ t + 1 = t + 2 by omega)]
        by_cases q : i = k - 1
        · subst q; rw [r_rs, r_rs]
          have : shD x (k + 1) (k - 1) = k := by unfold shD; rw [if_pos (by omega)]; omega
          simp [this]
        · rw [r_rk q, r_rk q, r_ra (show ¬ t + 2 = t + 1 by omega)]
          have : shD x (k + 1) i = shD x k i := by unfold shD; split <;> split <;> omega
          simp only [this]; exact c1 i hi
      · have := c2.1 i hi
        exact ⟨(c3 i hi).1.mv hf (by omega), (c3 i hi).2.mv hf (by omega)⟩
def delT (es : eL) (k : Int) : eL := if 0 ≤ k then es.eraseIdx k.toNat else es
theorem tb_drop {k : Int} (h : tbX M t n cn ct es) (h1 : -2147483648 ≤ k) (h2 : k < 2147483648) (hq : ∀ M', tbX M' t n cn ct (delT es k) → fr M M' t (t + 4 * n + 5) → Q (.inl none) M') : mC E 39 [.ref t, .int (I k)] M Q := by
  have hl := h.len
  obtain ⟨⟨a1, a2, a3, a4, a5, a6, a7, a8, a9, a10⟩, b2, b3, σ, f, c1, c2, c3, c4⟩ := id h
  have no : (k < 0 ∨ es.length ≤ k) → Q (.inl none) M := by
    intro hk
    refine hq M ?_ (fr.refl _ _ _)
    have : delT es k = es := by
      unfold delT; split
      · exact List.eraseIdx_of_length_le (by omega)
      · rfl
    rw [this]; exact h
  refine w39_0 ⟨fun c => no ?_, fun c => ⟨a1, fun d => no ?_, fun d => ⟨by rw [a2]; omega, by rw [a2]; exact a5, fun e => ?_, fun _ => ⟨by rw [a3]; omega, by rw [a3]; exact a7, fun _ => ?_, fun e => ?_⟩⟩⟩⟩
  · rw [I_lt h1 h2 (by omega) (by omega)] at c; omega
  · rw [b2, I_le (by omega) (by omega) h1 h2] at d; omega
  · rw [a2, a6, b2, I_nI, I_lt (by omega) (by omega) (by omega) (by omega)] at e; omega
  · rw [I_lt h1 h2 (by omega) (by omega)] at c
    rw [b2, I_le (by omega) (by omega) h1 h2] at d
    obtain ⟨x, rfl⟩ := Int.eq_ofNat_of_zero_le (show 0 ≤ k by omega)
    have s1 := c2.1 x (by omega)
    rw [a2, a3, a6, a8, I_ntn (by omega), (c1 x (by omega)).1, (c1 x (by omega)).2, I_add]
    refine ⟨I_in (by omega) (by omega) (by omega), by omega, I_in (by omega) (by omega) (by omega), by omega, tb_drop_l (z := es.length) (by omega) (by omega) c2 es.length (x + 1) M (by omega) (by omega) (by omega) h.1 b2 (fun i hi => ?_) c3 (fun M' g1 g2 g3 g4 g5 => ?_)⟩
    · have : shD x (x + 1) i = i := by unfold shD; rw [if_neg (by omega)]
      simp only [this]; exact c1 i hi
    · have le : (delT es x).length = es.length - 1 := by
        unfold delT; rw [if_pos (by omega), List.length_eraseIdx]; simp; omega
      refine hq M' ⟨g1, by rw [le]; exact g2, by rw [le]; omega, _, _, g3, c2.perm (fun i hi => ?_) (fun i j hi hj e => ?_), fun i hi => g4 (shF x es.length i) ?_, fun i hi => ?_⟩ (g5.wide (by omega) (by omega))
      · unfold shF shD; split
        · omega
        · split <;> omega
      · revert e; unfold shF shD; split <;> split <;> (try split) <;> (try split) <;> omega
      · unfold shF shD; split
        · omega
        · split <;> omega
      · rw [le] at hi
        unfold delT
        rw [if_pos (by omega), show ((x : Int).toNat) = x by omega, getD_del]
        unfold shF shD
        rw [if_neg (by omega)]
        by_cases q : i < x
        · rw [if_neg (by omega), if_pos q]; exact c4 i (by omega)
        · rw [if_pos (by omega), if_neg q]; exact c4 (i + 1) (by omega)
  · rw [a3, a8, b2, I_nI, I_le (by omega) (by omega) (by omega) (by omega)] at e; omega
/-- an entry behind the last is written over -/
theorem tb_become_l {q : Nat} {us : eL} (hd : t + 4 * n + 5 ≤ q ∨ q + 4 * n + 5 ≤ t) (m : Nat) : ∀ (k : Nat) (M : mM), us.length - k ≤ m → k ≤ us.length → tbX M t n cn ct (us.take k) → tbX M q n cn ct us → (∀ M', tbX M' t n cn ct us → fr M M' t (t + 4 * n + 5) → Q (.inl none) M') →
    mX E 40 1 [some (.ref t), some (.ref q), some (.int (I k))] [] M Q := by
  induction m with
  | zero =>
    intro k M hm hk h g hq
    have hl := g.len
    refine w40_1 ⟨g.1.1, fun _ => ?_, fun c => ?_⟩
    · rw [List.take_of_length_le (by omega)] at h; exact hq M h (fr.refl _ _ _)
    · rw [g.2.1, I_le (by omega) (by omega) (by omega) (by omega)] at c; omega
  | succ m ih =>
    intro k M hm hk h g hq
    have hl := g.len
    obtain ⟨⟨a1, a2, a3, a4, a5, a6, a7, a8, a9, a10⟩, b2, b3, σ, f, c1, c2, c3, c4⟩ := id h
    refine w40_1 ⟨g.1.1, fun c => ?_, fun c => ⟨a1, by rw [a2]; omega, by rw [a2]; exact a5, fun d => ?_, fun _ => ⟨by rw [a3]; omega, by rw [a3]; exact a7, fun d => ?_, fun _ => ?_⟩⟩⟩
    · rw [g.2.1, I_le (by omega) (by omega) (by omega) (by omega)] at c
      rw [List.take_of_length_le (by omega)] at h; exact hq M h (fr.refl _ _ _)
    · rw [g.2.1, I_le (by omega) (by omega) (by omega) (by omega)] at c
      rw [a2, a6, I_nI, I_le (by omega) (by omega) (by omega) (by omega)] at d; omega
    · rw [g.2.1, I_le (by omega) (by omega) (by omega) (by omega)] at c
      rw [a3, a8, I_nI, I_le (by omega) (by omega) (by omega) (by omega)] at d; omega
    · rw [g.2.1, I_le (by omega) (by omega) (by omega) (by omega)] at c
      have hkn : k < n := by omega
      have s1 := c2.1 k hkn
      have t1 := c3 k hkn
      rw [a2, a6, I_ntn (by omega), (c1 k hkn).1]
      refine ⟨I_in (by omega) (by omega) (by omega), by omega, tb_nameAt g (by omega) (by omega) (fun p cap' tp p1 p2 p3 => ⟨t1.1.1, t_become t1.1 tp (by unfold apart; omega) (fun hu M1 u1 f1 => ?_) (fun hu => ?_)⟩)⟩
      · have f1' := f1.wide (l := t) (u := t + 4 * n + 5) (by omega) (by omega)
        have g1 := g.mv f1' (by omega)
        have r1 : mr M1 t 1 = t + 2 := by rw [(f1.2.2 t (by omega)).2.2.2.1, a3]
        have t2 := t1.2.mv f1 (by omega)
        show _ ∧ _
        rw [r1, (f1.2.2 (t + 2) (by omega)).1, (f1.2.2 (t + 2) (by omega)).2.1, a8, (f1.2.2 (t + 2) (by omega)).2.2.2.1, (c1 k hkn).2]
        refine ⟨by rw [(f1.2.2 t (by omega)).1, a1], by omega, a7, I_in (by omega) (by omega) (by omega), by omega, g1.1.1, tb_textAt g1 (by omega) (by omega) (fun p' cap'' tp' p1' p2' p3' _ => ⟨t2.1, t_become t2 tp' (by unfold apart; omega) (fun hu' M2 u2 f2 => ⟨by rw [(f2.2.2 t (by omega)).1, (f1.2.2 t (by omega)).1, a1], fun M3 q3 => ?_⟩) (fun hu' => ?_)⟩)⟩
        · have f2' := f2.wide (l := t) (u := t + 4 * n + 5) (by omega) (by omega)
          have f3 : fr M2 M3 t (t + 1) := by rw [q3]; exact fr_i (by omega) (by omega)
          have f3' := f3.wide (l := t) (u := t + 4 * n + 5) (by omega) (by omega)
          have lk : (us.take k).length = k := by rw [List.length_take]; omega
          have lk1 : (us.take (k + 1)).length = k + 1 := by rw [List.length_take]; omega
          have en : mi M2 t 3 = I k := by rw [(f2.2.2 t (by omega)).2.2.1, (f1.2.2 t (by omega)).2.2.1, b2, lk]
          rw [I_add]
          refine ih (k + 1) M3 (by omega) (by omega) ?_ (g1.mv (f2'.then f3') (by omega)) (fun M' h' f' => hq M' h' (((f1'.then f2').then f3').then f'))
          have hs : tbS M3 t n := by
            have s1 := h.1.mv (f1.2.2 _ (by omega)) (f1.2.2 _ (by omega)) (f1.2.2 _ (by omega)) f1 (by omega)
            have s2 := s1.mv (f2.2.2 _ (by omega)) (f2.2.2 _ (by omega)) (f2.2.2 _ (by omega)) f2 (by omega)
            obtain ⟨y1, y2, y3, y4, y5, y6, y7, y8, y9, y10⟩ := s2
            exact ⟨by rw [q3]; exact y1, by rw [q3]; exact y2, by rw [q3]; exact y3, by rw [q3]; exact y4, by rw [q3]; exact y5, by rw [q3]; exact y6, by rw [q3]; exact y7, by rw [q3]; exact y8, y9, y10.mv f3 (by omega)⟩
          refine ⟨hs, by rw [q3, i_is, en, I_add, lk1]; rfl, by rw [lk1]; omega, σ, fun i => if i = k then (nmL us k, txL us k) else f i, fun i hi => ?_, c2, fun i hi => ?_, fun i hi => ?_⟩
          · rw [(f3.2.2 (t + 1) (by omega)).2.2.2.1, (f3.2.2 (t + 2) (by omega)).2.2.2.1, (f2.2.2 (t + 1) (by omega)).2.2.2.1, (f2.2.2 (t + 2) (by omega)).2.2.2.1, (f1.2.2 (t + 1) (by omega)).2.2.2.1, (f1.2.2 (t + 2) (by omega)).2.2.2.1]; exact c1 i hi
          · have si := c2.1 i hi
            by_cases q : i = k
            · subst q; simp only [if_pos]
              exact ⟨(u1.mv f2 (by omega)).mv f3 (by omega), u2.mv f3 (by omega)⟩
            · simp only [if_neg q]
              have : σ i ≠ σ k := fun e => q (c2.2 i _ hi hkn e)
              exact ⟨(((c3 i hi).1.mv f1 (by omega)).mv f2 (by omega)).mv f3 (by omega), (((c3 i hi).2.mv f1 (by omega)).mv f2 (by omega)).mv f3 (by omega)⟩
          · rw [lk1] at hi
            rw [List.getD_eq_getElem?_getD, List.getElem?_take_of_lt hi, ← List.getD_eq_getElem?_getD]
            by_cases q : i = k
            · subst q; simp only [if_pos]; unfold nmL txL; rw [if_pos (by omega), if_pos (by omega), show ((i : Int).toNat) = i by omega]
            · simp only [if_neg q]
              rw [c4 i (by rw [lk]; omega), List.getD_eq_getElem?_getD, List.getElem?_take_of_lt (by omega), ← List.getD_eq_getElem?_getD]
        · have := tp'.len; omega
      · have := tp.len; omega
theorem tb_become {q : Nat} {us : eL} (h : tbX M t n cn ct es) (g : tbX M q n cn ct us) (hd : t + 4 * n + 5 ≤ q ∨ q + 4 * n + 5 ≤ t) (hq : ∀ M', tbX M' t n cn ct us → fr M M' t (t + 4 * n + 5) → Q (.inl none) M') : mC E 40 [.ref t, .ref q] M Q := by
  refine w40_0 ⟨h.1.1, fun M1 q1 => ?_⟩
  have f1 : fr M M1 t (t + 1) := by rw [q1]; exact fr_i (by omega) (by omega)
  have hl := h.len
  obtain ⟨⟨a1, a2, a3, a4, a5, a6, a7, a8, a9, a10⟩, b2, b3, σ, f, c1, c2, c3, c4⟩ := id h
  refine tb_become_l hd us.length 0 M1 (by omega) (by omega) ⟨⟨by rw [q1]; exact a1, by rw [q1]; exact a2, by rw [q1]; exact a3, by rw [q1]; exact a4, by rw [q1]; exact a5, by rw [q1]; exact a6, by rw [q1]; exact a7, by rw [q1]; exact a8, a9, a10.mv f1 (by omega)⟩, by rw [q1, i_is]; rfl, Nat.zero_le _, σ, f, fun i hi => ?_, c2, fun i hi => ?_, fun i hi => absurd hi (Nat.not_lt_zero i)⟩ (g.mv f1 (by omega)) (fun M' h' f' => hq M' h' ((f1.wide (by omega) (by omega)).then f'))
  · rw [q1, r_i, r_i]; exact c1 i hi
  · have := c2.1 i hi
    exact ⟨(c3 i hi).1.mv f1 (by omega), (c3 i hi).2.mv f1 (by omega)⟩
end TAB
