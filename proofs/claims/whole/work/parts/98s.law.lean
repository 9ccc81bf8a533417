/-! THE LAW, over what the class and the reference do -/
theorem nI_I (n : Nat) : nI n = I (n : Int) := rfl
theorem and15 (x : Int32) : ∃ n : Nat, n < 16 ∧ x &&& I 15 = I (n : Int) := by
  refine ⟨x.toBitVec.toNat &&& 15, Nat.lt_of_le_of_lt Nat.and_le_right (by omega), ?_⟩
  apply Int32.toBitVec_inj.mp
  apply BitVec.eq_of_toNat_eq
  have e : (I ((x.toBitVec.toNat &&& 15 : Nat) : Int)).toBitVec.toNat = x.toBitVec.toNat &&& 15 := by
    have hl : x.toBitVec.toNat &&& 15 < 16 := Nat.lt_of_le_of_lt Nat.and_le_right (by omega)
    generalize x.toBitVec.toNat &&& 15 = n at hl
    show (BitVec.ofInt 32 (n : Int)).toNat = n
    rw [BitVec.toNat_ofInt]; omega
  rw [e]
  show (x.toBitVec &&& (I 15).toBitVec).toNat = _
  rw [BitVec.toNat_and]; rfl
theorem I_ex (x : Int32) : ∃ z : Int, -2147483648 ≤ z ∧ z < 2147483648 ∧ x = I z := by
  refine ⟨x.toInt, ?_, ?_, ?_⟩
  · exact Int32.le_toInt x
  · exact Int32.toInt_lt x
  · exact (Int32.ofInt_toInt x).symm
/-- the reference does not look beyond its cells -/
theorem moI.out {M M' : mM} {m : Nat} {s : List Nat} {vs fl : eL} {po : List (List Nat)} {st pl th : Nat} {o : List Nat} (h : moI M m s vs po fl st o pl th) (c : ∀ a, a < 29 → ceq M M' (m + a)) : moI M' m s vs po fl st o pl th := by
  obtain ⟨h1, h2, h3, h4, h5, h6, h7, h8, h9, h10⟩ := h
  have i : ∀ a k, a < 29 → mi M' (m + a) k = mi M (m + a) k := fun a k ha => (c a ha).2.2.1 k
  have nm : ∀ {a b cap j : Nat} {w : List Nat}, a < 29 → b < 29 → nmR M (m + a) (m + b) cap j w → nmR M' (m + a) (m + b) cap j w := fun ha hb r => ⟨by rw [i _ _ hb]; exact r.1, r.2.1, fun k hk => by rw [i _ _ ha]; exact r.2.2.1 k hk, r.2.2.2⟩
  have c0 := c 0 (by omega)
  rw [Nat.add_zero] at c0
  refine ⟨?_, ⟨by rw [c0.2.2.1]; exact h2.1, h2.2.1, fun k hk => by rw [i 1 _ (by omega)]; exact h2.2.2.1 k hk, h2.2.2.2⟩, ⟨by rw [i 5 _ (by omega)]; exact h3.1, h3.2.1, fun j hj => ⟨nm (by omega) (by omega) (h3.2.2 j hj).1, nm (by omega) (by omega) (h3.2.2 j hj).2⟩⟩, ⟨by rw [i 10 _ (by omega)]; exact h4.1, h4.2.1, fun j hj => nm (by omega) (by omega) (h4.2.2 j hj)⟩, ⟨by rw [i 13 _ (by omega)]; exact h5.1, h5.2.1, fun j hj => ⟨nm (by omega) (by omega) (h5.2.2 j hj).1, nm (by omega) (by omega) (h5.2.2 j hj).2⟩⟩, by rw [i 18 _ (by omega)]; exact h6, ⟨by rw [i 19 _ (by omega)]; exact h7.1, h7.2.1, fun k hk => by rw [i 20 _ (by omega)]; exact h7.2.2.1 k hk, h7.2.2.2⟩, h8, by rw [c0.2.2.1]; exact h9, by rw [c0.2.2.1]; exact h10⟩
  have kd : ∀ a, a < 29 → mkd M' (m + a) = mkd M (m + a) := fun a ha => (c a ha).1
  have ln : ∀ a, a < 29 → mln M' (m + a) = mln M (m + a) := fun a ha => (c a ha).2.1
  unfold mS at h1 ⊢
  simp only [c0.1, c0.2.2.2.1, kd 1 (by omega), kd 2 (by omega), kd 3 (by omega), kd 4 (by omega), kd 5 (by omega), kd 6 (by omega), kd 7 (by omega), kd 8 (by omega), kd 9 (by omega), kd 10 (by omega), kd 11 (by omega), kd 12 (by omega), kd 13 (by omega), kd 14 (by omega), kd 15 (by omega), kd 16 (by omega), kd 17 (by omega), kd 18 (by omega), kd 19 (by omega), kd 20 (by omega), kd 21 (by omega), kd 22 (by omega), kd 23 (by omega), kd 24 (by omega), kd 25 (by omega), kd 26 (by omega), kd 27 (by omega), kd 28 (by omega), ln 1 (by omega), ln 2 (by omega), ln 3 (by omega), ln 4 (by omega), ln 5 (by omega), ln 6 (by omega), ln 7 (by omega), ln 8 (by omega), ln 9 (by omega), ln 10 (by omega), ln 11 (by omega), ln 12 (by omega), ln 13 (by omega), ln 14 (by omega), ln 15 (by omega), ln 16 (by omega), ln 17 (by omega), ln 18 (by omega), ln 19 (by omega), ln 20 (by omega), ln 21 (by omega), ln 22 (by omega), ln 23 (by omega), ln 24 (by omega), ln 25 (by omega), ln 26 (by omega), ln 27 (by omega), ln 28 (by omega)]
  exact h1
theorem clI.out {M M' : mM} {b : Nat} {s : List Nat} {vs fl : eL} {po : List (List Nat)} {st pl : Nat} {o : List Nat} (h : clI b M s vs po fl st o pl) (c : ∀ x, b ≤ x → x < b + 369 → ceq M M' x) : clI b M' s vs po fl st o pl := by
  obtain ⟨R, h, h0, h2, hk, h3⟩ := h
  exact ⟨R, h.mv c, h0, h2, hk, h3⟩
/-- the script, and the long that a run's answer goes into -/
def LR (M : mM) (v0 L X : Nat) (xs : Nat → Int32) : Prop := mkd M v0 = 208 ∧ mln M v0 = L ∧ (∀ k, mi M v0 k = xs k) ∧ mkd M (X + 398) = 4 ∧ mln M (X + 398) = 1 ∧ v0 < X ∧ X + 399 ≤ msz M
theorem LR.mv {M M' : mM} {v0 L X : Nat} {xs : Nat → Int32} (h : LR M v0 L X xs) (c : ∀ x, x < X ∨ x = X + 398 → mkd M' x = mkd M x ∧ mln M' x = mln M x ∧ ∀ k, mi M' x k = mi M x k) (z : msz M ≤ msz M') : LR M' v0 L X xs := by
  obtain ⟨h1, h2, h3, h4, h5, h6, h7⟩ := h
  have c0 := c v0 (Or.inl h6)
  have c1 := c (X + 398) (Or.inr rfl)
  exact ⟨by rw [c0.1]; exact h1, by rw [c0.2.1]; exact h2, fun k => by rw [c0.2.2]; exact h3 k, by rw [c1.1]; exact h4, by rw [c1.2.1]; exact h5, h6, by omega⟩
theorem ceq.p {M M' : mM} {x : Nat} (h : ceq M M' x) : mkd M' x = mkd M x ∧ mln M' x = mln M x ∧ ∀ k, mi M' x k = mi M x k := ⟨h.1, h.2.1, h.2.2.1⟩
section LAW
variable {E : mE} {M M' : mM} {Q : mQ} {X v0 L : Nat} {xs : Nat → Int32} {s : List Nat} {vs fl : eL} {po : List (List Nat)} {st pl th : Nat} {o : List Nat}
/-- the class did something -/
theorem st_cls (r : LR M v0 L X xs) (m : moI M (X + 369) s vs po fl st o pl th) {c n : Nat} (rr : rm E M c n) (f : fr M M' X (X + 369)) : LR M' v0 L X xs ∧ moI M' (X + 369) s vs po fl st o pl th ∧ rm E M' c n :=
  ⟨r.mv (fun x hx => (f.2.2 x (by omega)).p) (by rw [f.1]; exact Nat.le_refl _), m.out (fun a ha => f.2.2 _ (by omega)), rr.less (dc := 0) (ds := 0) f.1 f.2.1 (by omega) (by omega)⟩
/-- the reference did something -/
theorem st_ref (r : LR M v0 L X xs) (k : clI X M s vs po fl st o pl) {c n : Nat} (rr : rm E M c n) (f : fo (X + 369) M M') : LR M' v0 L X xs ∧ clI X M' s vs po fl st o pl ∧ rm E M' c n :=
  ⟨r.mv (fun x hx => (f.low (by omega)).p) (by rw [f.1.2.2.2.2.1]; exact Nat.le_refl _), k.out (fun x h1 h2 => f.low (by omega)), rr.less (dc := 0) (ds := 0) f.1.2.2.2.2.1 f.1.2.2.2.2.2 (by omega) (by omega)⟩
/-- the law's own run of the class -/
theorem l_run {c : Nat} (k : clI X M s vs po fl st o pl) (m : moI M (X + 369) s vs po fl st o pl th) (r : LR M v0 L X xs) (rr : rm E M (c + 1) (6 * (c + 1)))
    (hq : ∀ rd ws p' g' G, yR s 240 0 (0, 0, rd, ws, [], [], []) = .inl (p', g') → cmds s g'.2.2.2.2.2.2 g'.2.2.2.2.2.1 g'.2.2.2.2.1 g'.2.2.2.2.1.length 0 ((vs, po, fl, st, []), (false, false, 0), []) = some G → ∀ M', clI X M' s G.1.1 G.1.2.1 G.1.2.2.1 G.1.2.2.2.1 G.1.2.2.2.2 pl → moI M' (X + 369) s vs po fl st o pl th → LR M' v0 L X xs → rm E M' c (6 * c) → mj M' (X + 398) 0 = Int32.toInt64 (I G.1.2.2.2.1) → Q (.inl (some (.int (I 0)))) M')
    (ht : ∀ rd ws p' g', yR s 240 0 (0, 0, rd, ws, [], [], []) = .inl (p', g') → cmds s g'.2.2.2.2.2.2 g'.2.2.2.2.2.1 g'.2.2.2.2.1 g'.2.2.2.2.1.length 0 ((vs, po, fl, st, []), (false, false, 0), []) = none → ∀ M', clI X M' s vs po fl st o pl → moI M' (X + 369) s vs po fl st o pl th → LR M' v0 L X xs → rm E M' c (6 * c) → Q (.inl (some (.int (I 2)))) M')
    (hb : ∀ rd ws e, yR s 240 0 (0, 0, rd, ws, [], [], []) = .inr e → ∀ M', clI X M' s vs po fl st o e → moI M' (X + 369) s vs po fl st o pl th → LR M' v0 L X xs → rm E M' c (6 * c) → Q (.inl (some (.int (I 1)))) M') : mC E 0 [.ref X, .ref (X + 398)] M Q := by
  have kX : mkd M X = 100 := by obtain ⟨R, h, -⟩ := k; exact h.k1
  have thr : ∀ (kd : Nat) (M1 : mM) (pl' : Nat), clI X M1 s vs po fl st o pl' → fr M M1 X (X + 369) → clI X (mnw M1 kd 0 6) s vs po fl st o pl' ∧ moI (mnw M1 kd 0 6) (X + 369) s vs po fl st o pl th ∧ LR (mnw M1 kd 0 6) v0 L X xs ∧ rm E (mnw M1 kd 0 6) c (6 * c) ∧ m_room E M1 6 := by
    intro kd M1 pl' k1 f1
    obtain ⟨r1, m1, rr1⟩ := st_cls r m rr f1
    have sz := r1.2.2.2.2.2.2
    exact ⟨k1.out (fun x h1 h2 => ceq_n (by omega)), m1.out (fun a ha => ceq_n (by omega)), r1.mv (fun x hx => (ceq_n (by omega)).p) (Nat.le_succ _), rr1.less (dc := 1) (ds := 6) rfl rfl (by omega) (by omega), rr1.one (by omega) (by omega)⟩
  refine mX_run ?_
  show mkd M X = 100 ∧ _
  refine ⟨kX, ?_⟩
  show (1 ≤ mNL 5) ∧ mC E 5 [.ref X] M _
  refine ⟨by decide, x_run k (fun rd ws p' g' G h1 h2 M1 k1 f1 => ?_) (fun rd ws p' g' h1 h2 M1 k1 f1 => ?_) (fun rd ws e h1 M1 k1 f1 => ?_)⟩
  · obtain ⟨r1, m1, rr1⟩ := st_cls r m rr f1
    show mkd M1 (X + 398) = 4 ∧ vp_in (I 0) (mln M1 (X + 398)) ∧ mX E 0 3 _ [] (msj M1 (X + 398) (nt (I 0)) (Int32.toInt64 (I G.1.2.2.2.1))) Q
    refine ⟨r1.2.2.2.1, by rw [r1.2.2.2.2.1]; exact I_in (by omega) (by omega) (by omega), ?_⟩
    have cj : ∀ x, ¬ x = X + 398 → ceq M1 (msj M1 (X + 398) (nt (I 0)) (Int32.toInt64 (I G.1.2.2.2.1))) x := fun x hx => ⟨rfl, rfl, fun _ => rfl, fun _ => rfl, fun j => by rw [j_j, if_neg (fun y => hx y.1)]⟩
    refine mX_run ?_
    show Q (.inl (some (.int (I 0)))) _
    refine hq rd ws p' g' G h1 h2 _ (k1.out (fun x a b => cj x (by omega))) (m1.out (fun a ha => cj _ (by omega))) (r1.mv (fun x hx => ⟨rfl, rfl, fun _ => rfl⟩) (Nat.le_refl _)) (rr1.less (dc := 0) (ds := 0) rfl rfl (by omega) (by omega)) ?_
    rw [j_j, if_pos ⟨rfl, by decide⟩]
  · obtain ⟨a1, a2, a3, a4, a5⟩ := thr 91 M1 pl k1 f1
    have kn : mkd (mnw M1 91 0 6) (msz M1) = 91 := by rw [kd_n, if_pos rfl]
    refine ⟨a5, fun z => ?_, fun _ => ?_, Or.inr kn⟩
    · rw [kn] at z; exact absurd z (by decide)
    · refine mX_run ?_
      show Q (.inl (some (.int (I 2)))) _
      exact ht rd ws p' g' h1 h2 _ a1 a2 a3 a4
  · obtain ⟨a1, a2, a3, a4, a5⟩ := thr 90 M1 e k1 f1
    have kn : mkd (mnw M1 90 0 6) (msz M1) = 90 := by rw [kd_n, if_pos rfl]
    refine ⟨a5, fun _ => ?_, fun z => ?_, Or.inl kn⟩
    · refine mX_run ?_
      show Q (.inl (some (.int (I 1)))) _
      exact hb rd ws e h1 _ a1 a2 a3 a4
    · rw [kn] at z; exact absurd z (by decide)
end LAW
