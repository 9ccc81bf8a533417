/-! THE LAW ITSELF -/
section LAW
variable {E : mE} {M M' : mM} {Q : mQ} {X v0 L : Nat} {xs : Nat → Int32} {s : List Nat} {vs fl : eL} {po : List (List Nat)} {st pl th : Nat} {o : List Nat}
theorem law_l (hL : L ≤ 2048) (hq : ∀ M, Q (.inl (some (.int (I 1)))) M) (n : Nat) : ∀ (j : Nat) (s : List Nat) (vs : eL) (po : List (List Nat)) (fl : eL) (st : Nat) (o : List Nat) (pl th : Nat) (M : mM) (d5 d6 : Option Value), n = L / 4 - j → j ≤ L / 4 → clI X M s vs po fl st o pl → moI M (X + 369) s vs po fl st o pl th → LR M v0 L X xs → rm E M n (6 * n) →
    mX E 1 1 [some (.ref v0), some (.ref X), some (.ref (X + 369)), some (.ref (X + 398)), some (.int (I ((4 * j : Nat) : Int))), d5, d6] [] M Q := by
  induction n with
  | zero =>
    intro j s vs po fl st o pl th M d5 d6 hn hj k m r rr
    refine w1_1 ⟨r.1, fun _ => hq M, fun c => ?_⟩
    rw [r.2.1, nI_I, I_sub, I_lt (by omega) (by omega) (by omega) (by omega)] at c; omega
  | succ n ih =>
    intro j s vs po fl st o pl th M d5 d6 hn hj k m r rr
    have rr0 : rm E M n (6 * n) := rr.less (dc := 0) (ds := 0) rfl rfl (by omega) (by omega)
    have e : ∀ c : Nat, c ≤ 3 → I ((4 * j : Nat) : Int) + I (c : Int) = I ((4 * j + c : Nat) : Int) := fun c _ => by rw [I_add]; rfl
    have inn : ∀ {M1 : mM} (c : Nat), LR M1 v0 L X xs → c ≤ 3 → vp_in (I ((4 * j : Nat) : Int) + I (c : Int)) (mln M1 v0) := fun c r hc => by rw [e c hc, r.2.1]; exact I_in (by omega) (by omega) (by omega)
    have val : ∀ {M1 : mM} (c : Nat), LR M1 v0 L X xs → c ≤ 3 → mi M1 v0 (nt (I ((4 * j : Nat) : Int) + I (c : Int))) = xs (4 * j + c) := fun c r hc => by rw [e c hc, I_ntn (by omega), r.2.2.1]
    have nx : ∀ (s : List Nat) (vs : eL) (po : List (List Nat)) (fl : eL) (st : Nat) (o : List Nat) (pl th : Nat) (M : mM) (d5 d6 : Option Value), clI X M s vs po fl st o pl → moI M (X + 369) s vs po fl st o pl th → LR M v0 L X xs → rm E M n (6 * n) → mX E 1 18 [some (.ref v0), some (.ref X), some (.ref (X + 369)), some (.ref (X + 398)), some (.int (I ((4 * j : Nat) : Int))), d5, d6] [] M Q := by
      intro s vs po fl st o pl th M d5 d6 k m r rr
      refine w1_18 ?_
      rw [I_add, show ((4 * j : Nat) : Int) + 4 = ((4 * (j + 1) : Nat) : Int) by omega]
      exact ih (j + 1) s vs po fl st o pl th M _ _ (by omega) (by omega) k m r rr
    have kX : ∀ {M1 : mM} {s : List Nat} {vs : eL} {po : List (List Nat)} {fl : eL} {st : Nat} {o : List Nat} {pl : Nat}, clI X M1 s vs po fl st o pl → mkd M1 X = 100 := fun k => by obtain ⟨R, h, -⟩ := k; exact h.k1
    -- a reader: the class first, then the reference
    refine w1_1 ⟨r.1, fun c => ?_, fun c => ⟨?_, ?_⟩⟩
    · rw [r.2.1, nI_I, I_sub, I_lt (by omega) (by omega) (by omega) (by omega)] at c; omega
    · rw [r.2.1]; exact I_in (by omega) (by omega) (by omega)
    rw [I_ntn (by omega), r.2.2.1]
    obtain ⟨w, w16, ew⟩ := and15 (xs (4 * j))
    rw [ew, I_toInt (by omega) (by omega)]
    obtain ⟨z1, a1, b1, e1⟩ := I_ex (xs (4 * j + 1))
    obtain ⟨z2, a2, b2, e2⟩ := I_ex (xs (4 * j + 2))
    obtain ⟨z3, a3, b3, e3⟩ := I_ex (xs (4 * j + 3))
    have v1 : ∀ {M1 : mM}, LR M1 v0 L X xs → mi M1 v0 (nt (I ((4 * j : Nat) : Int) + I 1)) = I z1 := fun r => (val 1 r (by omega)).trans e1
    have v2 : ∀ {M1 : mM}, LR M1 v0 L X xs → mi M1 v0 (nt (I ((4 * j : Nat) : Int) + I 2)) = I z2 := fun r => (val 2 r (by omega)).trans e2
    have v3 : ∀ {M1 : mM}, LR M1 v0 L X xs → mi M1 v0 (nt (I ((4 * j : Nat) : Int) + I 3)) = I z3 := fun r => (val 3 r (by omega)).trans e3
    have i1 : ∀ {M1 : mM}, LR M1 v0 L X xs → vp_in (I ((4 * j : Nat) : Int) + I 1) (mln M1 v0) := fun r => inn 1 r (by omega)
    have i2 : ∀ {M1 : mM}, LR M1 v0 L X xs → vp_in (I ((4 * j : Nat) : Int) + I 2) (mln M1 v0) := fun r => inn 2 r (by omega)
    have i3 : ∀ {M1 : mM}, LR M1 v0 L X xs → vp_in (I ((4 * j : Nat) : Int) + I 3) (mln M1 v0) := fun r => inn 3 r (by omega)
    by_cases w0 : w = 0
    · -- type
      subst w0
      show mX E 1 2 _ [] M Q
      refine w1_2 ⟨r.1, i1 r, i2 r, kX k, ?_⟩
      rw [v1 r, v2 r]
      refine x_type k (fun M1 k1 f1 => ?_)
      obtain ⟨r1, m1, rr1⟩ := st_cls r m rr0 f1
      refine ⟨r1.1, i1 r1, i2 r1, m1.1.k0, ?_⟩
      rw [v1 r1, v2 r1]
      refine m_type m1 (fun M2 m2 f2 => ⟨fun _ => ?_, fun z => absurd rfl z⟩)
      obtain ⟨r2, k2, rr2⟩ := st_ref r1 k1 rr1 f2
      exact nx _ _ _ _ _ _ _ _ M2 _ _ k2 m2 r2 rr2
    by_cases w1 : w = 1
    · subst w1
      show mX E 1 3 _ [] M Q
      refine w1_3 ⟨kX k, x_wipe k (fun M1 k1 f1 => ?_)⟩
      obtain ⟨r1, m1, rr1⟩ := st_cls r m rr0 f1
      refine ⟨m1.1.k0, m_wipe m1 (fun M2 m2 f2 => ?_)⟩
      obtain ⟨r2, k2, rr2⟩ := st_ref r1 k1 rr1 f2
      exact nx _ _ _ _ _ _ _ _ M2 _ _ k2 m2 r2 rr2
    by_cases w2 : w = 2
    · subst w2
      show mX E 1 4 _ [] M Q
      refine w1_4 (l_run k m r rr (fun rd ws p' g' G h1 h2 M1 k1 m1 r1 rr1 ej => ?_) (fun rd ws p' g' h1 h2 M1 k1 m1 r1 rr1 => ?_) (fun rd ws e h1 M1 k1 m1 r1 rr1 => ?_))
      · refine ⟨m1.1.k0, m_run (rd := rd) (ws := ws) m1 (fun p2 g2 G2 y1 y2 M2 m2 f2 => ?_) (fun p2 g2 y1 y2 M2 m2 f2 => ?_) (fun e y1 M2 m2 f2 => ?_)⟩
        · rw [h1] at y1
          cases y1
          rw [h2] at y2
          cases y2
          obtain ⟨r2, k2, rr2⟩ := st_ref r1 k1 rr1 f2
          refine ⟨m2.1.k0, fun _ => ⟨fun z => absurd rfl z, fun _ => ⟨r2.2.2.2.1, by rw [r2.2.2.2.2.1]; exact I_in (by omega) (by omega) (by omega), fun _ => ?_, fun z => absurd ?_ z⟩⟩, fun z => absurd ?_ z⟩
          · exact nx _ _ _ _ _ _ _ _ M2 _ _ k2 m2 r2 rr2
          · have ej2 : mj M2 (X + 398) 0 = Int32.toInt64 (I G.1.2.2.2.1) := by rw [f2.1.2.2.2.1]; exact ej
            rw [show nt (I 0) = 0 by decide, ej2]
            unfold lg_cmp
            rw [if_neg (fun z => Int64.lt_irrefl z), if_pos rfl]; rfl
          · rw [m2.2.2.2.2.2.2.2.2.2]; rfl
        · rw [h1] at y1
          cases y1
          rw [h2] at y2; cases y2
        · rw [h1] at y1; cases y1
      · refine ⟨m1.1.k0, m_run (rd := rd) (ws := ws) m1 (fun p2 g2 G2 y1 y2 M2 m2 f2 => ?_) (fun p2 g2 y1 y2 M2 m2 f2 => ?_) (fun e y1 M2 m2 f2 => ?_)⟩
        · rw [h1] at y1
          cases y1
          rw [h2] at y2; cases y2
        · obtain ⟨r2, k2, rr2⟩ := st_ref r1 k1 rr1 f2
          refine ⟨m2.1.k0, fun _ => ⟨fun _ => nx _ _ _ _ _ _ _ _ M2 _ _ k2 m2 r2 rr2, fun z => absurd z (by decide)⟩, fun z => absurd ?_ z⟩
          rw [m2.2.2.2.2.2.2.2.2.2]; rfl
        · rw [h1] at y1; cases y1
      · refine ⟨m1.1.k0, m_run (rd := rd) (ws := ws) m1 (fun p2 g2 G2 y1 y2 M2 m2 f2 => ?_) (fun p2 g2 y1 y2 M2 m2 f2 => ?_) (fun e2 y1 M2 m2 f2 => ?_)⟩
        · rw [h1] at y1; cases y1
        · rw [h1] at y1; cases y1
        · rw [h1] at y1
          cases y1
          obtain ⟨r2, k2, rr2⟩ := st_ref r1 k1 rr1 f2
          refine ⟨m2.1.k0, fun _ => ⟨fun _ => nx _ _ _ _ _ _ _ _ M2 _ _ k2 m2 r2 rr2, fun z => absurd z (by decide)⟩, fun z => absurd ?_ z⟩
          rw [m2.2.2.2.2.2.2.2.2.2]; rfl
    by_cases w3 : w = 3
    · subst w3
      show mX E 1 7 _ [] M Q
      obtain ⟨R, h, h0, ⟨p, aw, jn, rd, ws, h2⟩, -⟩ := id k
      have z := h.i2_3
      rw [h2] at z
      refine w1_7 ⟨h.k1, nz h.f1_1 h.1, by rw [h.f1_1]; exact h.k2, m.1.k0, m_place m (fun M2 m2 f2 => ⟨fun _ => ?_, fun y => absurd ?_ y⟩)⟩
      · obtain ⟨r2, k2, rr2⟩ := st_ref r k rr0 f2
        exact nx _ _ _ _ _ _ _ _ M2 _ _ k2 m2 r2 rr2
      · rw [h.f1_1, z]; rfl
    by_cases w4 : w = 4
    · subst w4
      show mX E 1 8 _ [] M Q
      refine w1_8 ⟨r.1, i1 r, kX k, ?_⟩
      rw [v1 r]
      refine x_output k a1 b1 ⟨r.1, i1 r, m.1.k0, ?_⟩
      rw [v1 r]
      refine m_output m a1 b1 (fun M2 m2 f2 => ⟨fun _ => ?_, fun y => absurd rfl y⟩)
      obtain ⟨r2, k2, rr2⟩ := st_ref r k rr0 f2
      exact nx _ _ _ _ _ _ _ _ M2 _ _ k2 m2 r2 rr2
    by_cases w5 : w = 5
    · subst w5
      show mX E 1 9 _ [] M Q
      refine w1_9 ⟨r.1, i1 r, kX k, ?_⟩
      rw [v1 r]
      refine x_count k a1 b1 ⟨r.1, i1 r, m.1.k0, ?_⟩
      rw [v1 r]
      refine m_countM m a1 b1 (fun M2 m2 f2 => ⟨fun _ => ?_, fun y => absurd rfl y⟩)
      obtain ⟨r2, k2, rr2⟩ := st_ref r k rr0 f2
      exact nx _ _ _ _ _ _ _ _ M2 _ _ k2 m2 r2 rr2
    by_cases w6 : w = 6
    · subst w6
      show mX E 1 10 _ [] M Q
      refine w1_10 ⟨r.1, i1 r, i2 r, kX k, ?_⟩
      rw [v1 r, v2 r]
      refine x_value k a1 b1 a2 b2 ⟨r.1, i1 r, i2 r, m.1.k0, ?_⟩
      rw [v1 r, v2 r]
      refine m_value m a1 b1 a2 b2 (fun M2 m2 f2 => ⟨fun _ => ?_, fun y => absurd rfl y⟩)
      obtain ⟨r2, k2, rr2⟩ := st_ref r k rr0 f2
      exact nx _ _ _ _ _ _ _ _ M2 _ _ k2 m2 r2 rr2
    by_cases w7 : w = 7
    · subst w7
      show mX E 1 11 _ [] M Q
      refine w1_11 ⟨r.1, i1 r, i2 r, kX k, ?_⟩
      rw [v1 r, v2 r]
      refine x_position k a1 b1 a2 b2 ⟨r.1, i1 r, i2 r, m.1.k0, ?_⟩
      rw [v1 r, v2 r]
      refine m_position m a1 b1 a2 b2 (fun M2 m2 f2 => ⟨fun _ => ?_, fun y => absurd rfl y⟩)
      obtain ⟨r2, k2, rr2⟩ := st_ref r k rr0 f2
      exact nx _ _ _ _ _ _ _ _ M2 _ _ k2 m2 r2 rr2
    by_cases w8 : w = 8
    · subst w8
      show mX E 1 12 _ [] M Q
      refine w1_12 ⟨r.1, i1 r, i2 r, kX k, ?_⟩
      rw [v1 r, v2 r]
      refine x_content k a1 b1 a2 b2 ⟨r.1, i1 r, i2 r, m.1.k0, ?_⟩
      rw [v1 r, v2 r]
      refine m_content m a1 b1 a2 b2 (fun M2 m2 f2 => ⟨fun _ => ?_, fun y => absurd rfl y⟩)
      obtain ⟨r2, k2, rr2⟩ := st_ref r k rr0 f2
      exact nx _ _ _ _ _ _ _ _ M2 _ _ k2 m2 r2 rr2
    by_cases w9 : w = 9
    · subst w9
      show mX E 1 13 _ [] M Q
      have nm : ∀ f : Bool, (mi M v0 (nt (I ((4 * j : Nat) : Int) + I 1)) = I 0 ↔ f = false) → mX E 1 15 [some (.ref v0), some (.ref X), some (.ref (X + 369)), some (.ref (X + 398)), some (.int (I ((4 * j : Nat) : Int))), d5, d6] [.int (I (bI f)), .ref X] M Q := by
        intro f hf
        refine w1_15 ⟨r.1, i2 r, i3 r, kX k, ?_⟩
        rw [v2 r, v3 r]
        refine x_name k a2 b2 a3 b3 ⟨r.1, i1 r, ?_⟩
        have sv : mX E 1 17 [some (.ref v0), some (.ref X), some (.ref (X + 369)), some (.ref (X + 398)), some (.int (I ((4 * j : Nat) : Int))), d5, d6] [.int (I (bI f)), .ref (X + 369), .int (I (chZ (nmL (if f = true then fl else vs) z2) z3 : Nat))] M Q := by
          refine w1_17 ⟨r.1, i2 r, i3 r, m.1.k0, ?_⟩
          rw [v2 r, v3 r]
          refine m_name m a2 b2 a3 b3 (fun M2 m2 f2 => ⟨fun _ => ?_, fun y => absurd rfl y⟩)
          obtain ⟨r2, k2, rr2⟩ := st_ref r k rr0 f2
          exact nx _ _ _ _ _ _ _ _ M2 _ _ k2 m2 r2 rr2
        refine ⟨fun z => ?_, fun z => ?_⟩
        · rw [hf.mp z] at sv; rw [hf.mp z]; exact sv
        · have ft : f = true := by
            cases f with
            | true => rfl
            | false => exact absurd (hf.mpr rfl) z
          rw [ft] at sv; rw [ft]; exact sv
      refine w1_13 ⟨r.1, i1 r, fun z => nm false ⟨fun _ => rfl, fun _ => z⟩, fun z => nm true ⟨fun y => absurd y z, fun y => absurd y (by decide)⟩⟩
    · have t : m_tab 0 9 (w : Int) [18, 2, 3, 4, 7, 8, 9, 10, 11, 12, 13] = 18 := by
        unfold m_tab; rw [if_pos (by omega)]; rfl
      rw [t]
      exact nx _ _ _ _ _ _ _ _ M _ _ k m r rr0
/-- the law's body -/
theorem law_all {b0 : Nat} (hL : L ≤ 2048) (hb : v0 < msz M) (h0 : mkd M v0 = 208) (h1 : mln M v0 = L) (h2 : ∀ k, mi M v0 k = xs k) (rr : rm E M 911 30000) (hp : 0 < msz M) (hq : ∀ M, Q (.inl (some (.int (I 1)))) M) : mX E 1 0 [some (.ref v0), none, none, none, none, none, none] [] M Q := by
  have as : aSum aNs = 6896 := by decide
  refine w1_0 ⟨rr.one (by omega) (by omega), fun M1 q1 => x_new rfl hp (rr.less (dc := 0) (ds := 0) rfl rfl (by omega) (by omega)) q1 (fun M2 k2 z2 s2 c2 => ?_)⟩
  have rr2 : rm E M2 542 18025 := rr.less (dc := 369) (ds := 11975) (by omega) (by omega) (by omega) (by omega)
  refine ⟨rr2.one (by omega) (by omega), fun M4 q4 => m_new rfl (by omega) (rr2.less (dc := 0) (ds := 0) rfl rfl (by omega) (by rw [as]; omega)) q4 (fun M5 m5 z5 s5 c5 => ?_)⟩
  have rr5 : rm E M5 513 9793 := rr2.less (dc := 29) (ds := 45 + aSum aNs) (by omega) (by omega) (by omega) (by rw [as]; omega)
  refine ⟨rr5.one (by omega) (by omega), fun M7 q7 => ?_⟩
  have c7 : ∀ x, x < msz M5 → ceq M5 M7 x := fun x hx => by rw [q7]; exact ceq_n (by omega)
  have z7 : msz M7 = msz M5 + 1 := by rw [q7]; rfl
  have s7 : mns M7 = mns M5 + 1 := by rw [q7]; rfl
  have eX : msz M2 = msz M + 369 := z2
  have eY : msz M5 = msz M + 398 := by omega
  rw [eX] at m5 c5 ⊢
  rw [eY] at c7 z7 ⊢
  have k7 : clI (msz M) M7 [] [] [] [] 0 [] 0 := (k2.out (fun x a b => c5 x (by omega))).out (fun x a b => c7 x (by omega))
  have m7 : moI M7 (msz M + 369) [] [] [] [] 0 [] 0 0 := m5.out (fun a ha => c7 _ (by omega))
  have cv : ceq M M7 v0 := ((c2 v0 hb).trans (c5 v0 (by omega))).trans (c7 v0 (by omega))
  have r7 : LR M7 v0 L (msz M) xs := ⟨by rw [cv.1]; exact h0, by rw [cv.2.1]; exact h1, fun k => by rw [cv.2.2.1]; exact h2 k, by rw [q7, kd_n, if_pos eY.symm], by rw [q7, ln_n, if_pos eY.symm], hb, by omega⟩
  have rr7 : rm E M7 512 3072 := rr5.less (dc := 1) (ds := 1) (by omega) (by omega) (by omega) (by omega)
  have := law_l (E := E) (Q := Q) (X := msz M) (v0 := v0) (L := L) (xs := xs) hL hq (L / 4 - 0) 0 [] [] [] [] 0 [] 0 0 M7 none none rfl (by omega) k7 m7 r7 (rr7.less (dc := 0) (ds := 0) rfl rfl (by omega) (by omega))
  exact this
end LAW
