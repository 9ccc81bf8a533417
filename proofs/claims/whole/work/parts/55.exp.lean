/-! HOW THE CLASS EXPANDS A WORD, as functions; the Expander's first methods -/
theorem nz {x b k : Nat} (h : x = b + k) (hb : 0 < b) : ¬ x = 0 := by omega
theorem nz2 {M : mM} {x a j b k : Nat} (h : x = a) (g : mr M a j = b + k) (hb : 0 < b) : ¬ mr M x j = 0 := by rw [h, g]; omega
def ok1 (s : List Nat) : Prop := ∀ c ∈ s, c < 128
def okL (ts : List (List Nat)) : Prop := ∀ t ∈ ts, ok1 t
def okE (es : eL) : Prop := ∀ e ∈ es, ok1 e.1 ∧ ok1 e.2
theorem ok1.get {s : List Nat} (h : ok1 s) (k : Nat) : s.getD k 0 < 128 := getD_lt h (by omega) k
theorem okE.tx {es : eL} (h : okE es) (k : Int) : ok1 (txL es k) := by
  unfold txL; split
  · rw [List.getD_eq_getElem?_getD]
    cases q : es[k.toNat]? with
    | none => intro c hc; simp at hc
    | some e => exact (h e (List.mem_of_getElem? q)).2
  · intro c hc; simp at hc
theorem okE.nm {es : eL} (h : okE es) (k : Int) : ok1 (nmL es k) := by
  unfold nmL; split
  · rw [List.getD_eq_getElem?_getD]
    cases q : es[k.toNat]? with
    | none => intro c hc; simp at hc
    | some e => exact (h e (List.mem_of_getElem? q)).1
  · intro c hc; simp at hc
theorem okL.at' {ts : List (List Nat)} (h : okL ts) (k : Int) : ok1 (atL ts k) := by
  unfold atL; split
  · rw [List.getD_eq_getElem?_getD]
    cases q : ts[k.toNat]? with
    | none => intro c hc; simp at hc
    | some e => exact h e (List.mem_of_getElem? q)
  · intro c hc; simp at hc
theorem ok1_num (n : Nat) : ok1 (numS n) := by
  intro c hc
  unfold numS at hc
  simp only [List.mem_append, List.mem_singleton] at hc
  rcases hc with hc | hc | hc
  · split at hc <;> simp at hc; omega
  · split at hc <;> simp at hc; omega
  · omega
theorem numS_len (n : Nat) : (numS n).length ≤ 3 := by
  unfold numS; simp only [List.length_append, List.length_singleton]; split <;> split <;> simp
/-- what source.at gives from k up to e -/
def rng (u : List Nat) (k e : Nat) : List Nat := (List.range' k (e - k)).map fun j => u.getD j 0
theorem rng_nil {u : List Nat} {k e : Nat} (h : e ≤ k) : rng u k e = [] := by
  unfold rng; rw [show e - k = 0 by omega]; rfl
theorem rng_cons {u : List Nat} {k e : Nat} (h : k < e) : rng u k e = u.getD k 0 :: rng u (k + 1) e := by
  unfold rng; rw [show e - k = (e - (k + 1)) + 1 by omega, List.range'_succ]; rfl
theorem orq_d : ∀ c : Fin 128, i2c (I (c.val : Int) ||| I 128) = I ((c.val + 128 : Nat) : Int) := by decide +kernel
theorem orq {c : Nat} (h : c < 128) : i2c (I (c : Int) ||| I 128) = I ((c + 128 : Nat) : Int) := orq_d ⟨c, h⟩
def unm (c : Nat) : Nat := if c < 128 then c else c - 128
theorem andq_d : ∀ c : Fin 256, I (c.val : Int) &&& I (-129) = I ((unm c.val : Nat) : Int) := by decide +kernel
theorem andq {c : Nat} (h : c < 256) : I (c : Int) &&& I (-129) = I ((unm c : Nat) : Int) := andq_d ⟨c, h⟩
/-- fields under way: the finished ones, the one under way, whether quotes were there -/
abbrev fS : Type := List (List Nat) × List Nat × Bool
def tk (ts : List (List Nat)) (sp : List Nat) (q : Bool) : Option (List (List Nat) × List Nat) := if sp = [] ∧ q = false then some (ts, sp) else if ts.length < 16 then some (ts ++ [sp], []) else none
def fCh (pa qu : Bool) (c : Nat) (g : fS) : Option fS := if pa = true ∧ qu = false ∧ (c = 32 ∨ c = 10) then (tk g.1 g.2.1 g.2.2).map (fun x => (x.1, x.2, false)) else if g.2.1.length < 40 then some (g.1, g.2.1 ++ [if qu = true then c + 128 else c], g.2.2) else none
def fChs (pa qu : Bool) : List Nat → fS → Option fS
  | [], g => some g
  | c :: cs, g => (fCh pa qu c g).bind (fChs pa qu cs)
/-- a parameter's value -/
def pmV (s : List Nat) (vs : eL) (po : List (List Nat)) (stt f e : Nat) : List Nat :=
  if 49 ≤ s.getD f 0 ∧ s.getD f 0 ≤ 57 then atL po ((s.getD f 0 : Int) - 49)
  else if s.getD f 0 = 35 then numS po.length
  else if s.getD f 0 = 63 then numS stt
  else txL vs (fdT vs (seg s f e) 0)
/-- a piece's characters -/
def pcC (s : List Nat) (vs : eL) (po : List (List Nat)) (stt : Nat) (r : List Nat) : List Nat :=
  if r.getD 0 0 = 3 ∨ r.getD 0 0 = 4 then (if pmV s vs po stt (r.getD 1 0) (r.getD 2 0) = [] then rng s (r.getD 3 0) (r.getD 4 0) else pmV s vs po stt (r.getD 1 0) (r.getD 2 0))
  else rng s (r.getD 1 0) (r.getD 2 0)
def pcQ (r : List Nat) : Bool := !(Nat.beq (r.getD 0 0) 0 || Nat.beq (r.getD 0 0) 3)
def exPc (s : List Nat) (vs : eL) (po : List (List Nat)) (stt : Nat) (pa : Bool) (r : List Nat) (g : fS) : Option fS := fChs pa (pcQ r) (pcC s vs po stt r) (g.1, g.2.1, g.2.2 || Nat.beq (r.getD 0 0) 2)
def exN (s : List Nat) (vs : eL) (po : List (List Nat)) (stt : Nat) (pa : Bool) (ps : List (List Nat)) : Nat → Nat → fS → Option fS
  | 0, _, g => some g
  | n + 1, p, g => (exPc s vs po stt pa (ps.getD p []) g).bind (exN s vs po stt pa ps n (p + 1))
theorem tX.clr {M M' : mM} {a cap : Nat} {s : List Nat} (h : tX M a cap s) (q : M' = msi M a 1 (I 0)) : tX M' a cap [] ∧ fr M M' a (a + 2) := by
  obtain ⟨e1, e2, e3, e4, e5, e6, e7, e8, e9⟩ := h
  rw [q]
  exact ⟨⟨e1, e2, e3, e4, i_is, Nat.zero_le _, e7, fun k hk => absurd hk (Nat.not_lt_zero k), fun c hc => absurd hc List.not_mem_nil⟩, fr_i (by omega) (by omega)⟩
section EXP
variable {E : mE} {M : mM} {Q : mQ} {b : Nat} {R : RT}
theorem RX.q17 (h : RX b M R) {x : Bool} (e : R 17 = vI [bI x]) : mi M (b + 213) 7 = I (bI x) := by
  have := h.c17.2.2.2.2.2.2.2.2
  rw [e] at this; exact this
theorem RX.r18 (h : RX b M R) {ts : List (List Nat)} {sp : List Nat} (e : R 18 = vR ts sp) : rX M (b + 214) 16 40 ts sp := by
  have := h.c18
  rw [e] at this; exact this
theorem e_chars_l {q cap e : Nat} {u : List Nat} {pa qu : Bool} {v2 : Int32} (hq1 : q + 2 ≤ b + 213 ∨ b + 252 ≤ q) (hu : ok1 u) (he : e < 100000) (n : Nat) : ∀ (k : Nat) (M : mM) (R : RT) (g : fS) (d7 : Option Value), e - k ≤ n → k < 100000 → RX b M R → R 18 = vR g.1 g.2.1 → R 17 = vI [bI g.2.2] → tX M q cap u →
    (∀ g', fChs pa qu (rng u k e) g = some g' → ∀ M' R', RX b M' R' → ag [17, 18] R R' → R' 18 = vR g'.1 g'.2.1 → R' 17 = vI [bI g'.2.2] → fr M M' (b + 213) (b + 252) → Q (.inl none) M') → (fChs pa qu (rng u k e) g = none → TH E b M R Q) →
    mX E 75 1 [some (.ref (b + 213)), some (.ref q), some (.int v2), some (.int (I e)), some (.int (I (bI qu))), some (.int (I (bI pa))), some (.int (I k)), d7] [] M Q := by
  induction n with
  | zero =>
    intro k M R g d7 hn hk h h18 h17 t hq ht
    refine w75_1 ⟨fun _ => ?_, fun c => ?_⟩
    · rw [rng_nil (by omega)] at hq
      exact hq g rfl M R h (ag.refl _ _) h18 h17 (fr.refl _ _ _)
    · rw [I_le (by omega) (by omega) (by omega) (by omega)] at c; omega
  | succ n ih =>
    intro k M R g d7 hn hk h h18 h17 t hq ht
    have hb := h.1
    refine w75_1 ⟨fun c => ?_, fun c => ⟨t.1, ?_⟩⟩
    · rw [I_le (by omega) (by omega) (by omega) (by omega)] at c
      rw [rng_nil (by omega)] at hq
      exact hq g rfl M R h (ag.refl _ _) h18 h17 (fr.refl _ _ _)
    · rw [I_le (by omega) (by omega) (by omega) (by omega)] at c
      rw [rng_cons (by omega)] at hq ht
      unfold fChs at hq ht
      have hc := hu.get k
      have r18 := h.r18 h18
      have hl := r18.len
      have part : (pa = true ∧ qu = false ∧ (u.getD k 0 = 32 ∨ u.getD k 0 = 10)) → mX E 75 2 [some (.ref (b + 213)), some (.ref q), some (.int v2), some (.int (I e)), some (.int (I (bI qu))), some (.int (I (bI pa))), some (.int (I k)), some (.int (I (u.getD k 0 : Nat)))] [] M Q := by
        intro gp
        unfold fCh at hq ht
        rw [if_pos gp] at hq ht
        have fin : ∀ (M1 : mM) (R1 : RT) (ts : List (List Nat)) (sp : List Nat), RX b M1 R1 → ag [17, 18] R R1 → R1 18 = vR ts sp → fr M M1 (b + 213) (b + 252) → tk g.1 g.2.1 g.2.2 = some (ts, sp) → mkd M1 (b + 213) = 107 ∧ ∀ M3, M3 = msi M1 (b + 213) 7 (I 0) → mX E 75 1 [some (.ref (b + 213)), some (.ref q), some (.int v2), some (.int (I e)), some (.int (I (bI qu))), some (.int (I (bI pa))), some (.int (I k + I 1)), some (.int (I (u.getD k 0 : Nat)))] [] M3 Q := by
          intro M1 R1 ts sp h1 a1 e18 f1 et
          refine ⟨h1.c17.1, fun M3 q3 => ?_⟩
          have h3 := h1.u17 q3 (x0 := bI false) (by simp; rfl)
          have f3 : fr M1 M3 (b + 213) (b + 252) := by rw [q3]; exact fr_i (by omega) (by omega)
          rw [et] at hq ht
          rw [I_add]
          refine ih (k + 1) M3 _ (ts, sp, false) _ (by omega) (by omega) h3.1 ?_ (up_s _ _ _) ((t.mv f1 (by omega)).mv f3 (by omega)) (fun g' eg M' R' k1 k2 k3 k4 k5 => ?_) (fun eg => ?_)
          · rw [up_n (by decide)]; exact e18
          · exact hq g' eg M' R' k1 ((a1.trans (ag_up (by decide))).trans k2) k3 k4 ((f1.then f3).then k5)
          · exact (ht eg).st ((f1.then f3).wide (by omega) (by omega)) ((a1.trans (ag_up (by decide))).lo (by decide))
        refine w75_2 ⟨h.k17, nz h.f17_3 h.1, by rw [h.f17_3]; exact r18.1.1, ?_⟩
        rw [h.f17_3, h.q17 h17]
        refine r_take r18 (fun s1 s2 => fin M R g.1 g.2.1 h (ag.refl _ _) h18 (fr.refl _ _ _) ?_) (fun s1 s2 M1 k1 f1 => ?_) (fun s1 s2 => TH.here (ht ?_) h)
        · unfold tk; rw [if_pos ⟨s1, s2⟩]
        · have h1 := h.u18 k1 f1
          refine fin M1 _ (g.1 ++ [g.2.1]) [] h1.1 (ag_up (by decide)) (up_s _ _ _) (f1.wide (by omega) (by omega)) ?_
          unfold tk; rw [if_neg (fun z => by rcases s1 with s1 | s1; exact s1 z.1; rw [z.2] at s1; exact absurd s1 (by decide)), if_pos s2]
        · unfold tk; rw [if_neg (fun z => by rcases s1 with s1 | s1; exact s1 z.1; rw [z.2] at s1; exact absurd s1 (by decide)), if_neg (by omega)]; rfl
      have plain : ¬ (pa = true ∧ qu = false ∧ (u.getD k 0 = 32 ∨ u.getD k 0 = 10)) → mX E 75 3 [some (.ref (b + 213)), some (.ref q), some (.int v2), some (.int (I e)), some (.int (I (bI qu))), some (.int (I (bI pa))), some (.int (I k)), some (.int (I (u.getD k 0 : Nat)))] [] M Q := by
        intro gp
        unfold fCh at hq ht
        rw [if_neg gp] at hq ht
        have five : ∀ (x : Int32), i2c x = I ((if qu = true then u.getD k 0 + 128 else u.getD k 0 : Nat) : Int) → mX E 75 5 [some (.ref (b + 213)), some (.ref q), some (.int v2), some (.int (I e)), some (.int (I (bI qu))), some (.int (I (bI pa))), some (.int (I k)), some (.int (I (u.getD k 0 : Nat)))] [.int x, .ref (b + 214 + 2 + 2 * g.1.length)] M Q := by
          intro x ex
          have s18 := r18.2.2.2.2.1
          refine w75_5 ⟨s18.1, ?_⟩
          rw [ex]
          refine t_add s18 (by split <;> omega) (fun hl1 M1 t1 f1 => ?_) (fun hl1 => TH.here (ht ?_) h)
          · rw [if_pos hl1] at hq ht
            have k1 := r18.spare f1 t1
            have h1 := h.u18 k1 (f1.wide (by omega) (by omega))
            have f1' := f1.wide (l := b + 213) (u := b + 252) (by omega) (by omega)
            show mX E 75 1 _ [] M1 Q
            rw [I_add]
            exact ih (k + 1) M1 _ (g.1, _, g.2.2) _ (by omega) (by omega) h1.1 (up_s _ _ _) (by rw [up_n (by decide)]; exact h17) (t.mv f1' (by omega)) (fun g' eg M' R' k1 k2 k3 k4 k5 => hq g' eg M' R' k1 ((ag_up (by decide)).trans k2) k3 k4 (f1'.then k5)) (fun eg => (ht eg).st (f1'.wide (by omega) (by omega)) ((ag_up (S := [17, 18]) (by decide)).lo (by decide)))
          · rw [if_neg (by omega)]; rfl
        refine w75_3 ⟨h.k17, nz h.f17_3 h.1, by rw [h.f17_3]; exact r18.1.1, ?_⟩
        rw [h.f17_3]
        refine r_spare r18 ⟨fun z => five _ ?_, fun z => five _ ?_⟩
        · rw [bI_0] at z; rw [z]; exact I_i2c (by omega) (by omega)
        · rw [bI_0] at z
          have qt : qu = true := by cases qu with | true => rfl | false => exact absurd rfl z
          rw [qt]; exact orq hc
      refine t_at t (by omega) (by omega) ?_
      rw [if_pos (by omega), show ((k : Int).toNat) = k by omega]
      refine ⟨fun z1 => plain ?_, fun z1 => ⟨fun z2 => plain ?_, fun z2 => ⟨fun z3 => part ⟨?_, ?_, Or.inl ?_⟩, fun z3 => ⟨fun z4 => plain ?_, fun z4 => part ⟨?_, ?_, Or.inr ?_⟩⟩⟩⟩⟩
      · rw [bI_0] at z1; rw [z1]; exact fun z => absurd z.1 (by decide)
      · rw [bI_0] at z2; exact fun z => z2 z.2.1
      · rw [bI_0] at z1; cases pa with | true => rfl | false => exact absurd rfl z1
      · exact (bI_0 _).mp z2
      · rw [I_eq (by omega) (by omega) (by omega) (by omega)] at z3; omega
      · rw [I_eq (by omega) (by omega) (by omega) (by omega)] at z3 z4; omega
      · rw [bI_0] at z1; cases pa with | true => rfl | false => exact absurd rfl z1
      · exact (bI_0 _).mp z2
      · rw [I_eq (by omega) (by omega) (by omega) (by omega)] at z4; omega
theorem e_chars {q cap f e : Nat} {u : List Nat} {pa qu : Bool} {g : fS} (h : RX b M R) (h18 : R 18 = vR g.1 g.2.1) (h17 : R 17 = vI [bI g.2.2]) (t : tX M q cap u) (hq1 : q + 2 ≤ b + 213 ∨ b + 252 ≤ q) (hu : ok1 u) (hf : f < 100000) (he : e < 100000)
    (hq : ∀ g', fChs pa qu (rng u f e) g = some g' → ∀ M' R', RX b M' R' → ag [17, 18] R R' → R' 18 = vR g'.1 g'.2.1 → R' 17 = vI [bI g'.2.2] → fr M M' (b + 213) (b + 252) → Q (.inl none) M') (ht : fChs pa qu (rng u f e) g = none → TH E b M R Q) : mC E 75 [.ref (b + 213), .ref q, .int (I f), .int (I e), .int (I (bI qu)), .int (I (bI pa))] M Q :=
  w75_0 (e_chars_l hq1 hu he e f M R g none (by omega) hf h h18 h17 t hq ht)
/-- a parameter's text: somewhere out of the row under way -/
theorem e_param {f e stt : Nat} (h : RX b M R) (h12 : R 12 = vI [(stt : Int)]) (hs : stt ≤ 999) (hf : f < 100000) (he : e < 100000)
    (hq : ∀ M' R' p cap', RX b M' R' → ag [19, 20] R R' → fr M M' (b + 252) (b + 256) → tX M' p cap' (pmV (R 0).2.2.1 (R 13).1 (R 14).2.1 stt f e) → (p + 2 ≤ b + 213 ∨ b + 252 ≤ p) → Q (.inl (some (.ref p))) M') : mC E 76 [.ref (b + 213), .int (I f), .int (I e)] M Q := by
  have hb := h.1
  have t0 := h.c0
  have hc := t0.ch f
  have l0 := t0.len
  have t19 := h.c19
  have t20 := h.c20
  have r14 := h.c14
  have l14 := r14.len
  have stv : mi M (b + 112) 4 = I (stt : Int) := by have z := h.i12_4; rw [h12] at z; exact z
  unfold pmV at hq
  have one : ¬ (49 ≤ (R 0).2.2.1.getD f 0 ∧ (R 0).2.2.1.getD f 0 ≤ 57) → mX E 76 1 [some (.ref (b + 213)), some (.int (I f)), some (.int (I e)), some (.int (I ((R 0).2.2.1.getD f 0 : Nat)))] [] M Q := by
    intro g0
    rw [if_neg g0] at hq
    refine w76_1 ⟨h.k17, nz h.f17_4 h.1, by rw [h.f17_4]; exact t19.1, fun M1 q1 => ⟨fun g1 => ⟨fun g2 => ⟨nz h.f17_5 h.1, by rw [h.f17_5]; exact t20.1, fun M4 q4 => ⟨nz h.f17_0 h.1, ?_⟩⟩, fun g2 => ⟨nz h.f17_2 h.1, by rw [h.f17_2]; exact h.k12, ?_⟩⟩, fun g1 => ⟨nz h.f17_2 h.1, by rw [h.f17_2]; exact h.k12, nz2 h.f17_2 h.f12_1 h.1, by rw [h.f17_2, h.f12_1]; exact r14.1.1, ?_⟩⟩⟩
    · rw [I_eq (by omega) (by omega) (by omega) (by omega)] at g1 g2
      rw [if_neg (by omega), if_neg (by omega)] at hq
      rw [h.f17_4] at q1
      rw [h.f17_5] at q4
      rw [h.f17_5, h.f17_0]
      have k1 := t19.clr q1
      have h1 := h.u19 k1.1 k1.2
      have k4 := h1.1.c20.clr q4
      have h4 := h1.1.u20 k4.1 k4.2
      have t0' := h4.1.c0
      rw [up_n (by decide), up_n (by decide)] at t0'
      refine t_addRange k4.1 t0' (by unfold apart; omega) hf he (fun M5 t5 f5 => ?_) (fun M5 s5 l5 => ?_)
      · have h5 := h4.1.u20 t5 f5
        rw [List.nil_append] at t5
        have e13 := h5.1.c13
        rw [up_n (by decide), up_n (by decide), up_n (by decide)] at e13
        have fd := fdT_r (R 13).1 (seg (R 0).2.2.1 f e) 0
        have l13 := e13.len
        refine ⟨h5.1.k17, nz h5.1.f17_2 h.1, by rw [h5.1.f17_2]; exact h5.1.k12, nz2 h5.1.f17_2 h5.1.f12_0 h.1, nz h5.1.f17_5 h.1, by rw [h5.1.f17_2, h5.1.f12_0]; exact e13.1.1, ?_⟩
        rw [h5.1.f17_2, h5.1.f12_0, h5.1.f17_5]
        refine tb_find e13 t5 ⟨e13.1.1, tb_textAt e13 (by omega) (by omega) (fun p cap' tp p1 p2 p3 _ => ?_)⟩
        refine hq M5 _ p cap' h5.1 ?_ (((k1.2.wide (by omega) (by omega)).then (k4.2.wide (by omega) (by omega))).then (f5.wide (by omega) (by omega))) tp (by omega)
        exact ((ag_up (by decide)).trans (ag_up (by decide))).trans (ag_up (by decide))
      · rw [seg_len] at l5; simp at l5; omega
    · rw [I_eq (by omega) (by omega) (by omega) (by omega)] at g1 g2
      rw [if_neg (by omega), if_pos (by omega)] at hq
      rw [h.f17_4] at q1
      rw [h.f17_4, h.f17_2]
      have k1 := t19.clr q1
      have h1 := h.u19 k1.1 k1.2
      have st1 : mi M1 (b + 112) 4 = I (stt : Int) := by rw [(k1.2.2.2 (b + 112) (by omega)).2.2.1, stv]
      rw [st1]
      refine t_addNumber hs k1.1 (fun M5 t5 f5 => ?_) (fun M5 s5 l5 => ?_)
      · have h5 := h1.1.u19 t5 f5
        refine ⟨h5.1.k17, nz h5.1.f17_4 h.1, ?_⟩
        rw [h5.1.f17_4]
        exact hq M5 _ _ _ h5.1 ((ag_up (by decide)).trans (ag_up (by decide))) ((k1.2.wide (by omega) (by omega)).then (f5.wide (by omega) (by omega))) t5 (by omega)
      · have := numS_len stt; simp at l5; omega
    · rw [I_eq (by omega) (by omega) (by omega) (by omega)] at g1
      rw [if_pos (by omega)] at hq
      rw [h.f17_4] at q1
      rw [h.f17_4, h.f17_2, h.f12_1]
      have k1 := t19.clr q1
      have h1 := h.u19 k1.1 k1.2
      have st1 : mi M1 (b + 150) 2 = I ((R 14).2.1.length : Int) := by rw [(k1.2.2.2 (b + 150) (by omega)).2.2.1, r14.2.1]
      rw [st1]
      refine t_addNumber (by omega) k1.1 (fun M5 t5 f5 => ?_) (fun M5 s5 l5 => ?_)
      · have h5 := h1.1.u19 t5 f5
        refine ⟨h5.1.k17, nz h5.1.f17_4 h.1, ?_⟩
        rw [h5.1.f17_4]
        exact hq M5 _ _ _ h5.1 ((ag_up (by decide)).trans (ag_up (by decide))) ((k1.2.wide (by omega) (by omega)).then (f5.wide (by omega) (by omega))) t5 (by omega)
      · have := numS_len (R 14).2.1.length; simp at l5; omega
  refine w76_0 ⟨h.k17, nz h.f17_0 h.1, by rw [h.f17_0]; exact t0.1, ?_⟩
  rw [h.f17_0]
  refine ch_at t0 hf ⟨fun g1 => one ?_, fun g1 => ⟨fun g2 => one ?_, fun g2 => ⟨h.k17, nz h.f17_2 h.1, by rw [h.f17_2]; exact h.k12, nz2 h.f17_2 h.f12_1 h.1, by rw [h.f17_2, h.f12_1]; exact r14.1.1, ?_⟩⟩⟩
  · rw [I_lt (by omega) (by omega) (by omega) (by omega)] at g1; omega
  · rw [I_lt (by omega) (by omega) (by omega) (by omega)] at g2; omega
  · rw [I_lt (by omega) (by omega) (by omega) (by omega)] at g1 g2
    rw [if_pos (by omega)] at hq
    rw [h.f17_2, h.f12_1, I_sub]
    exact r_at r14 (by omega) (by omega) (fun p cap' tp p1 p2 p3 => hq M R p cap' h (ag.refl _ _) (fr.refl _ _ _) tp (by omega))
theorem pmV_ok {s : List Nat} {vs : eL} {po : List (List Nat)} {stt f e : Nat} (hv : okE vs) (hp : okL po) : ok1 (pmV s vs po stt f e) := by
  unfold pmV; split
  · exact hp.at' _
  · split
    · exact ok1_num _
    · split
      · exact ok1_num _
      · exact hv.tx _
end EXP
