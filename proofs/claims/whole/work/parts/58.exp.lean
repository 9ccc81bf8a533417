/-! THE EXPANDER: a command's fields, an assignment's or a redirection's characters -/
def adFs (fl : eL) : List (List Nat) → List (List Nat) → Option (List (List Nat))
  | [], fs => some fs
  | u :: us, fs => (addF fl u fs).bind (adFs fl us)
/-- the words of n items from it on -/
def exWs (s : List Nat) (vs : eL) (po : List (List Nat)) (stt : Nat) (ps is : List (List Nat)) : Nat → Nat → List (List Nat) → List Nat → Option (List (List Nat) × List Nat)
  | 0, _, ts, sp => some (ts, sp)
  | n + 1, it, ts, sp => if (is.getD it []).getD 0 0 = 0 then ((exI s vs po stt true ps (is.getD it []) ts sp).bind fun g => (tk g.1 g.2.1 g.2.2).bind fun x => exWs s vs po stt ps is n (it + 1) x.1 x.2) else exWs s vs po stt ps is n (it + 1) ts sp
def exF (s : List Nat) (vs : eL) (po : List (List Nat)) (stt : Nat) (ps is : List (List Nat)) (fl : eL) (cm : List Nat) : Option (List (List Nat)) :=
  (exWs s vs po stt ps is (cm.getD 2 0 - cm.getD 1 0) (cm.getD 1 0) [] []).bind fun x => adFs fl x.1 []
def exW (s : List Nat) (vs : eL) (po : List (List Nat)) (stt : Nat) (ps : List (List Nat)) (it : List Nat) : Option (List Nat) := (exI s vs po stt false ps it [] []).map fun g => g.2.1.map unm
/-- characters with marks stay below 256 -/
def okS (g : fS) : Prop := (∀ t ∈ g.1, ok2 t) ∧ ok2 g.2.1
theorem tk_ok {ts : List (List Nat)} {sp : List Nat} {q : Bool} {x : List (List Nat) × List Nat} (h1 : ∀ t ∈ ts, ok2 t) (h2 : ok2 sp) (e : tk ts sp q = some x) : (∀ t ∈ x.1, ok2 t) ∧ ok2 x.2 := by
  unfold tk at e
  split at e
  · cases e; exact ⟨h1, h2⟩
  · split at e
    · cases e
      refine ⟨fun t ht => ?_, fun c hc => absurd hc List.not_mem_nil⟩
      rcases List.mem_append.mp ht with q | q
      · exact h1 t q
      · rw [List.mem_singleton.mp q]; exact h2
    · cases e
theorem fChs_ok {pa qu : Bool} : ∀ (cs : List Nat) (g g' : fS), ok1 cs → okS g → fChs pa qu cs g = some g' → okS g'
  | [], g, g', _, h, e => by unfold fChs at e; cases e; exact h
  | c :: cs, g, g', hc, h, e => by
    unfold fChs at e
    cases q : fCh pa qu c g with
    | none => rw [q] at e; cases e
    | some g1 =>
      rw [q] at e
      refine fChs_ok cs g1 g' (fun x hx => hc x (List.mem_cons_of_mem _ hx)) ?_ e
      unfold fCh at q
      split at q
      · cases z : tk g.1 g.2.1 g.2.2 with
        | none => rw [z] at q; cases q
        | some x => rw [z] at q; cases q; exact tk_ok h.1 h.2 z
      · split at q
        · cases q
          refine ⟨h.1, fun x hx => ?_⟩
          rcases List.mem_append.mp hx with w | w
          · exact h.2 x w
          · rw [List.mem_singleton.mp w]
            have := hc c List.mem_cons_self
            split <;> omega
        · cases q
theorem rng_ok {u : List Nat} {k e : Nat} (h : ok1 u) : ok1 (rng u k e) := by
  intro c hc
  unfold rng at hc
  obtain ⟨j, -, rfl⟩ := List.mem_map.mp hc
  exact h.get j
theorem exN_ok {s : List Nat} {vs : eL} {po : List (List Nat)} {stt : Nat} {pa : Bool} {ps : List (List Nat)} (hs : ok1 s) (hv : okE vs) (hp : okL po) : ∀ (n p : Nat) (g g' : fS), okS g → exN s vs po stt pa ps n p g = some g' → okS g'
  | 0, p, g, g', h, e => by unfold exN at e; cases e; exact h
  | n + 1, p, g, g', h, e => by
    unfold exN at e
    cases q : exPc s vs po stt pa (ps.getD p []) g with
    | none => rw [q] at e; cases e
    | some g1 =>
      rw [q] at e
      refine exN_ok hs hv hp n (p + 1) g1 g' ?_ e
      unfold exPc at q
      have hg : okS (g.1, g.2.1, g.2.2 || Nat.beq ((ps.getD p []).getD 0 0) 2) := ⟨h.1, h.2⟩
      refine fChs_ok _ _ _ ?_ hg q
      unfold pcC
      split
      · split
        · exact rng_ok hs
        · exact pmV_ok hv hp
      · exact rng_ok hs
section EXP
variable {E : mE} {M : mM} {Q : mQ} {b : Nat} {R : RT} {s : List Nat} {vs : eL} {po : List (List Nat)} {stt : Nat} {ps is : List (List Nat)}
theorem e_words_f {fl : eL} {ts : List (List Nat)} {sp : List Nat} (hok : ∀ t ∈ ts, ok2 t) {v1 v3 : Int32} (n : Nat) : ∀ (k : Nat) (fs : List (List Nat)) (M : mM) (R : RT), n = ts.length - k → k ≤ ts.length → RX b M R → R 18 = vR ts sp → (R 15).1 = fl → R 23 = vR fs [] →
    (∀ fs', adFs fl (ts.drop k) fs = some fs' → ∀ M' R', RX b M' R' → ag [21, 23] R R' → R' 23 = vR fs' [] → fr M M' b (b + 369) → Q (.inl none) M') → (adFs fl (ts.drop k) fs = none → TH E b M R Q) →
    mX E 71 4 [some (.ref (b + 213)), some (.int v1), some (.ref (b + 259)), some (.int v3), some (.int (I k))] [] M Q := by
  induction n with
  | zero =>
    intro k fs M R hn hk h h18 h15 h23 hq ht
    have r18 := h.r18 h18
    have l18 := r18.len
    rw [List.drop_eq_nil_of_le (by omega)] at hq
    refine w71_4 ⟨h.k17, nz h.f17_3 h.1, by rw [h.f17_3]; exact r18.1.1, fun _ => hq fs rfl M R h (ag.refl _ _) h23 (fr.refl _ _ _), fun c => ?_⟩
    rw [h.f17_3, r18.2.1, I_le (by omega) (by omega) (by omega) (by omega)] at c; omega
  | succ n ih =>
    intro k fs M R hn hk h h18 h15 h23 hq ht
    have r18 := h.r18 h18
    have l18 := r18.len
    have dr : ts.drop k = ts.getD k [] :: ts.drop (k + 1) := by
      rw [List.getD_eq_getElem?_getD, List.getElem?_eq_getElem (show k < ts.length by omega)]; exact List.drop_eq_getElem_cons (by omega)
    have ak : atL ts (k : Int) = ts.getD k [] := by unfold atL; rw [if_pos (by omega), show ((k : Int).toNat) = k by omega]
    rw [dr] at hq ht
    unfold adFs at hq ht
    refine w71_4 ⟨h.k17, nz h.f17_3 h.1, by rw [h.f17_3]; exact r18.1.1, fun c => ?_, fun c => ?_⟩
    · rw [h.f17_3, r18.2.1, I_le (by omega) (by omega) (by omega) (by omega)] at c; omega
    · rw [h.f17_3]
      refine r_at r18 (by omega) (by omega) (fun p cap' tp p1 p2 p3 => ⟨h.k17, ?_⟩)
      rw [ak] at tp
      have tl := tp.len
      have okk : ok2 (ts.getD k []) := hok _ (by
        rw [List.getD_eq_getElem?_getD, List.getElem?_eq_getElem (show k < ts.length by omega)]; exact List.getElem_mem _)
      refine e_addF h h23 tp (by omega) (by omega) okk (by omega) (fun fs' e M1 R1 h1 a1 e1 f1 => ?_) (fun e => ht ?_)
      · rw [h15] at e
        rw [e] at hq ht
        show mX E 71 4 _ [] M1 Q
        rw [I_add]
        have f1' := f1.wide (l := b) (u := b + 369) (by omega) (by omega)
        exact ih (k + 1) fs' M1 R1 (by omega) (by omega) h1 (by rw [a1 18 (by decide)]; exact h18) (by rw [a1 15 (by decide)]; exact h15) e1 (fun fs2 e2 M' R' j1 j2 j3 j4 => hq fs2 e2 M' R' j1 (a1.trans j2) j3 (f1'.then j4)) (fun e2 => (ht e2).st f1' (a1.lo (by decide)))
      · rw [h15] at e
        rw [e]; rfl
theorem e_words_l {fs0 : List (List Nat)} {sp0 : List Nat} {fl : eL} (hs : ok1 s) (hv : okE vs) (hp : okL po) (hst : stt ≤ 999) {en : Nat} (hen : en < 100000) {v1 : Int32} (n : Nat) : ∀ (it : Nat) (ts : List (List Nat)) (sp : List Nat) (M : mM) (R : RT), n = en - it → it < 100000 → RX b M R → cxt R s vs po stt ps → (R 4).2.1 = is → (R 15).1 = fl → ((R 23).2.1 = fs0 ∧ (R 23).2.2.1 = sp0) → R 18 = vR ts sp → okS (ts, sp, false) →
    (∀ fs', ((exWs s vs po stt ps is n it ts sp).bind fun x => adFs fl x.1 []) = some fs' → ∀ M' R', RX b M' R' → ag [17, 18, 19, 20, 21, 23] R R' → R' 23 = vR fs' [] → fr M M' b (b + 369) → Q (.inl none) M') → (((exWs s vs po stt ps is n it ts sp).bind fun x => adFs fl x.1 []) = none → TH E b M R Q) →
    mX E 71 1 [some (.ref (b + 213)), some (.int v1), some (.ref (b + 259)), some (.int (I en)), some (.int (I it))] [] M Q := by
  have last : ∀ (ts : List (List Nat)) (sp : List Nat) (M : mM) (R : RT) (v4 : Int32), RX b M R → (R 15).1 = fl → ((R 23).2.1 = fs0 ∧ (R 23).2.2.1 = sp0) → R 18 = vR ts sp → okS (ts, sp, false) → (∀ fs', adFs fl ts [] = some fs' → ∀ M' R', RX b M' R' → ag [17, 18, 19, 20, 21, 23] R R' → R' 23 = vR fs' [] → fr M M' b (b + 369) → Q (.inl none) M') → (adFs fl ts [] = none → TH E b M R Q) → mkd M (b + 259) = 102 ∧ mC E 29 [.ref (b + 259)] M (kVo Q fun M2 => mX E 71 4 [some (.ref (b + 213)), some (.int v1), some (.ref (b + 259)), some (.int (I en)), some (.int (I 0))] [] M2 Q) := by
    intro ts sp M R v4 h h15 h23 h18 hok hq ht
    have r23 := h.c23
    refine ⟨r23.1.1, r_clear r23 (fun M1 k1 f1 => ?_)⟩
    have h1 := h.u23 k1 f1
    exact e_words_f hok.1 _ 0 [] M1 _ rfl (by omega) h1.1 (by rw [up_n (by decide)]; exact h18) (by rw [up_n (by decide)]; exact h15) (up_s _ _ _) (fun fs' e M' R' j1 j2 j3 j4 => hq fs' e M' R' j1 ((ag_up (by decide)).trans (j2.w (by decide))) j3 (h1.2.then j4)) (fun e => (ht e).st h1.2 ((ag_up (S := [23]) (by decide)).lo (by decide)))
  induction n with
  | zero =>
    intro it ts sp M R hn hit h hx h4 h15 h23 h18 hok hq ht
    refine w71_1 ⟨fun _ => last ts sp M R 0 h h15 h23 h18 hok hq ht, fun c => ?_⟩
    rw [I_le (by omega) (by omega) (by omega) (by omega)] at c; omega
  | succ n ih =>
    intro it ts sp M R hn hit h hx h4 h15 h23 h18 hok hq ht
    have hb := h.1
    have s4 := h.c4
    rw [h4] at s4
    have z0 := shL_lt s4.2.2.2.2.2.2.2.2 (it : Int) 0
    rw [shL_nat] at z0
    unfold exWs at hq ht
    refine w71_1 ⟨fun c => ?_, fun _ => ⟨h.k17, nz h.f17_1 h.1, by rw [h.f17_1]; exact h.k2, nz2 h.f17_1 h.f2_1 h.1, by rw [h.f17_1, h.f2_1]; exact s4.1, ?_⟩⟩
    · rw [I_le (by omega) (by omega) (by omega) (by omega)] at c; omega
    · rw [h.f17_1, h.f2_1]
      refine sh_at (c := 0) s4 (by omega) (by omega) (by omega) ?_
      rw [shL_nat]
      refine ⟨fun c => ?_, fun c => ⟨h.k17, ?_⟩⟩
      · rw [I_eq (by omega) (by omega) (by omega) (by omega)] at c
        rw [if_neg (by omega)] at hq ht
        rw [I_add]
        exact ih (it + 1) ts sp M R (by omega) (by omega) h hx h4 h15 h23 h18 hok hq ht
      · rw [I_eq (by omega) (by omega) (by omega) (by omega)] at c
        rw [if_pos (by omega)] at hq ht
        refine e_pieces (pa := true) hs hv hp hst h hx h18 hit (fun g e M1 R1 h1 a1 e18 e17 f1 => ?_) (fun e => ht ?_)
        · rw [h4] at e
          have okg : okS g := by
            have := e; unfold exI at this
            exact exN_ok hs hv hp _ _ _ _ hok this
          rw [e] at hq ht
          simp only [Option.bind_some] at hq ht
          have r18 := h1.r18 e18
          refine ⟨h1.k17, nz h1.f17_3 h.1, by rw [h1.f17_3]; exact r18.1.1, ?_⟩
          rw [h1.f17_3, h1.q17 e17]
          have go : ∀ (M2 : mM) (R2 : RT) (x : List (List Nat) × List Nat), tk g.1 g.2.1 g.2.2 = some x → RX b M2 R2 → ag [18] R1 R2 → R2 18 = vR x.1 x.2 → fr M1 M2 b (b + 369) → mX E 71 1 [some (.ref (b + 213)), some (.int v1), some (.ref (b + 259)), some (.int (I en)), some (.int (I it + I 1))] [] M2 Q := by
            intro M2 R2 x ex h2 a2 e2 f2
            rw [ex] at hq ht
            simp only [Option.bind_some] at hq ht
            have a12 : ag [17, 18, 19, 20] R R2 := a1.trans (a2.w (by decide))
            rw [I_add]
            have okx := tk_ok okg.1 okg.2 ex
            exact ih (it + 1) x.1 x.2 M2 R2 (by omega) (by omega) h2 (hx.mv a12 (by decide) (by decide) (by decide) (by decide) (by decide)) (by rw [a12 4 (by decide)]; exact h4) (by rw [a12 15 (by decide)]; exact h15) (by rw [a12 23 (by decide)]; exact h23) e2 okx (fun fs' e3 M' R' j1 j2 j3 j4 => hq fs' e3 M' R' j1 ((a12.w (by decide)).trans j2) j3 ((f1.then f2).then j4)) (fun e3 => (ht e3).st (f1.then f2) (a12.lo (by decide)))
          refine r_take r18 (fun s1 s2 => go M1 R1 (g.1, g.2.1) ?_ h1 (ag.refl _ _) e18 (fr.refl _ _ _)) (fun s1 s2 M2 j2 f2 => ?_) (fun s1 s2 => (TH.st (ht ?_) f1 (a1.lo (by decide))).here h1)
          · unfold tk; rw [if_pos ⟨s1, s2⟩]
          · have h2 := h1.u18 j2 f2
            refine go M2 _ (g.1 ++ [g.2.1], []) ?_ h2.1 (ag_up (by decide)) (up_s _ _ _) h2.2
            unfold tk; rw [if_neg (fun z => by rcases s1 with s1 | s1; exact s1 z.1; rw [z.2] at s1; exact absurd s1 (by decide)), if_pos s2]
          · unfold tk; rw [if_neg (fun z => by rcases s1 with s1 | s1; exact s1 z.1; rw [z.2] at s1; exact absurd s1 (by decide)), if_neg (by omega)]; rfl
        · rw [h4] at e
          rw [e]; rfl
/-- a command's fields -/
theorem e_words {c : Nat} (hs : ok1 s) (hv : okE vs) (hp : okL po) (hst : stt ≤ 999) (h : RX b M R) (hx : cxt R s vs po stt ps) (hc : c < 100000)
    (hq : ∀ fs', exF s vs po stt ps (R 4).2.1 (R 15).1 ((R 3).2.1.getD c []) = some fs' → ∀ M' R', RX b M' R' → ag [17, 18, 19, 20, 21, 23] R R' → R' 23 = vR fs' [] → fr M M' b (b + 369) → Q (.inl none) M') (ht : exF s vs po stt ps (R 4).2.1 (R 15).1 ((R 3).2.1.getD c []) = none → TH E b M R Q) : mC E 71 [.ref (b + 213), .int (I c), .ref (b + 259)] M Q := by
  have hb := h.1
  have r18 := h.c18
  refine w71_0 ⟨h.k17, nz h.f17_3 h.1, by rw [h.f17_3]; exact r18.1.1, ?_⟩
  rw [h.f17_3]
  refine r_clear r18 (fun M1 k1 f1 => ?_)
  have h1 := h.u18 k1 f1
  have s3 := h1.1.c3
  rw [up_n (by decide)] at s3
  have z2 := shL_lt s3.2.2.2.2.2.2.2.2 (c : Int) 2
  have z1 := shL_lt s3.2.2.2.2.2.2.2.2 (c : Int) 1
  rw [shL_nat] at z1 z2
  refine ⟨h1.1.k17, nz h1.1.f17_1 h.1, by rw [h1.1.f17_1]; exact h1.1.k2, nz2 h1.1.f17_1 h1.1.f2_0 h.1, by rw [h1.1.f17_1, h1.1.f2_0]; exact s3.1, ?_⟩
  rw [h1.1.f17_1, h1.1.f2_0]
  refine sh_at (c := 2) s3 (by omega) (by omega) (by omega) ⟨h1.1.k17, nz h1.1.f17_1 h.1, by rw [h1.1.f17_1]; exact h1.1.k2, nz2 h1.1.f17_1 h1.1.f2_0 h.1, by rw [h1.1.f17_1, h1.1.f2_0]; exact s3.1, ?_⟩
  rw [h1.1.f17_1, h1.1.f2_0]
  refine sh_at (c := 1) s3 (by omega) (by omega) (by omega) ?_
  rw [shL_nat, shL_nat]
  have a1 : ag [17, 18, 19, 20, 21, 23] R (up R 18 (vR [] [])) := ag_up (by decide)
  unfold exF at hq ht
  have x1 := hx.mv a1 (by decide) (by decide) (by decide) (by decide) (by decide)
  exact e_words_l (fs0 := (R 23).2.1) (sp0 := (R 23).2.2.1) (fl := (R 15).1) (is := (R 4).2.1) hs hv hp hst z2 _ _ [] [] M1 _ rfl z1 h1.1 x1 (by rw [up_n (by decide)]) (by rw [up_n (by decide)]) (by rw [up_n (by decide)]; exact ⟨rfl, rfl⟩) (up_s _ _ _) ⟨fun t ht => absurd ht List.not_mem_nil, fun t ht => absurd ht List.not_mem_nil⟩ (fun fs' e M' R' j1 j2 j3 j4 => hq fs' e M' R' j1 (a1.trans j2) j3 (h1.2.then j4)) (fun e => (ht e).st h1.2 (a1.lo (by decide)))
theorem e_whole {item : Nat} (hs : ok1 s) (hv : okE vs) (hp : okL po) (hst : stt ≤ 999) (h : RX b M R) (hx : cxt R s vs po stt ps) (hi : item < 100000)
    (hq : ∀ u, exW s vs po stt ps ((R 4).2.1.getD item []) = some u → ∀ M' R', RX b M' R' → ag [17, 18, 19, 20, 21] R R' → R' 21 = vT u → fr M M' b (b + 369) → Q (.inl (some (.ref (b + 256)))) M') (ht : exW s vs po stt ps ((R 4).2.1.getD item []) = none → TH E b M R Q) : mC E 72 [.ref (b + 213), .int (I item)] M Q := by
  have hb := h.1
  have r18 := h.c18
  refine w72_0 ⟨h.k17, nz h.f17_3 h.1, by rw [h.f17_3]; exact r18.1.1, ?_⟩
  rw [h.f17_3]
  refine r_clear r18 (fun M1 k1 f1 => ?_)
  have h1 := h.u18 k1 f1
  have a1 : ag [17, 18, 19, 20, 21] R (up R 18 (vR [] [])) := ag_up (by decide)
  have x1 := hx.mv a1 (by decide) (by decide) (by decide) (by decide) (by decide)
  unfold exW at hq ht
  refine ⟨h1.1.c17.1, e_pieces (pa := false) (ts := []) (sp := []) hs hv hp hst h1.1 x1 (up_s _ _ _) hi (fun g e M2 R2 h2 a2 e18 e17 f2 => ?_) (fun e => ?_)⟩
  · rw [up_n (by decide)] at e
    rw [e] at hq
    have r18' := h2.r18 e18
    have okg : okS g := by
      have := e; unfold exI at this
      exact exN_ok hs hv hp _ _ _ _ ⟨fun t ht => absurd ht List.not_mem_nil, fun t ht => absurd ht List.not_mem_nil⟩ this
    refine ⟨h2.k17, nz h2.f17_3 h.1, by rw [h2.f17_3]; exact r18'.1.1, ?_⟩
    rw [h2.f17_3]
    have sp := r18'.2.2.2.2.1
    have l18 := r18'.len
    refine r_spare r18' ⟨h2.k17, e_unmark h2 sp (by omega) okg.2 (by have := sp.len; omega) (fun M3 R3 h3 a3 e3 f3 => ?_)⟩
    exact hq _ rfl M3 R3 h3 ((a1.trans (a2.w (by decide))).trans (a3.w (by decide))) e3 ((h1.2.then f2).then (f3.wide (by omega) (by omega)))
  · rw [up_n (by decide)] at e
    rw [e] at ht
    exact (ht rfl).st h1.2 (a1.lo (by decide))
theorem e_name {item : Nat} (h : RX b M R) (hi : item < 100000) (hq : ∀ M' R', RX b M' R' → ag [20] R R' → R' 20 = vT (seg (R 0).2.2.1 (((R 4).2.1.getD item []).getD 3 0) (((R 4).2.1.getD item []).getD 4 0)) → fr M M' (b + 254) (b + 256) → Q (.inl (some (.ref (b + 254)))) M') : mC E 73 [.ref (b + 213), .int (I item)] M Q := by
  have hb := h.1
  have t20 := h.c20
  have l0 := h.c0.len
  refine w73_0 ⟨h.k17, nz h.f17_5 h.1, by rw [h.f17_5]; exact t20.1, fun M1 q1 => ⟨nz h.f17_0 h.1, nz h.f17_1 h.1, by rw [h.f17_1]; exact h.k2, nz2 h.f17_1 h.f2_1 h.1, by rw [h.f17_1, h.f2_1]; exact h.c4.1, ?_⟩⟩
  rw [h.f17_5] at q1
  have k1 := t20.clr q1
  have h1 := h.u20 k1.1 k1.2
  have s4 := h1.1.c4
  rw [up_n (by decide)] at s4
  have z3 := shL_lt s4.2.2.2.2.2.2.2.2 (item : Int) 3
  have z4 := shL_lt s4.2.2.2.2.2.2.2.2 (item : Int) 4
  rw [shL_nat] at z3 z4
  rw [h.f17_1, h.f2_1, h.f17_5, h.f17_0]
  refine sh_at (c := 3) s4 (by omega) (by omega) (by omega) ⟨h1.1.k17, nz h1.1.f17_1 h.1, by rw [h1.1.f17_1]; exact h1.1.k2, nz2 h1.1.f17_1 h1.1.f2_1 h.1, by rw [h1.1.f17_1, h1.1.f2_1]; exact s4.1, ?_⟩
  rw [h1.1.f17_1, h1.1.f2_1]
  refine sh_at (c := 4) s4 (by omega) (by omega) (by omega) ⟨h1.1.c20.1, ?_⟩
  rw [shL_nat, shL_nat]
  have t0' := h1.1.c0
  rw [up_n (by decide)] at t0'
  refine t_addRange k1.1 t0' (by unfold apart; omega) z3 z4 (fun M2 t2 f2 => ?_) (fun M2 s2 l2' => ?_)
  · rw [List.nil_append] at t2
    have h2 := h1.1.u20 t2 f2
    refine ⟨h2.1.k17, nz h2.1.f17_5 h.1, ?_⟩
    rw [h2.1.f17_5]
    exact hq M2 _ h2.1 ((ag_up (by decide)).trans (ag_up (by decide))) (up_s _ _ _) ((k1.2.wide (by omega) (by omega)).then (f2.wide (by omega) (by omega)))
  · rw [seg_len] at l2'; simp at l2'; omega
end EXP
