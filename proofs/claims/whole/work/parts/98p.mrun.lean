/-! THE REFERENCE: run -/
/-- only the reference has changed -/
def fo (m : Nat) (M M' : mM) : Prop := ieq M M' ∧ ∀ x, (x < m ∨ m + 29 ≤ x) → ∀ k, mi M' x k = mi M x k
theorem fm.fo {m : Nat} {S : List Nat} {M M' : mM} (h : fm m S M M') : fo m M M' := ⟨h.1, h.2.1⟩
theorem fo.trans {m : Nat} {M M' M'' : mM} (h : fo m M M') (k : fo m M' M'') : fo m M M'' := ⟨h.1.trans k.1, fun x hx j => (k.2 x hx j).trans (h.2 x hx j)⟩
theorem fo.refl (m : Nat) (M : mM) : fo m M M := ⟨ieq.refl M, fun _ _ _ => rfl⟩
theorem fo.low {m : Nat} {M M' : mM} (h : fo m M M') {x : Nat} (hx : x < m ∨ m + 29 ≤ x) : ceq M M' x := ⟨h.1.1 x, h.1.2.1 x, h.2 x hx, h.1.2.2.1 x, h.1.2.2.2.1 x⟩
/-- the reference between calls -/
def moI (M : mM) (m : Nat) (s : List Nat) (vs : eL) (po : List (List Nat)) (fl : eL) (st : Nat) (o : List Nat) (pl th : Nat) : Prop := mS M m ∧ mdT M m s ∧ vrX M m 0 vs ∧ poX M m 0 po ∧ flX M m 0 fl ∧ mi M (m + 18) 0 = I st ∧ ouX M m 0 o ∧ okW vs po fl st ∧ mi M m 1 = I pl ∧ mi M m 0 = I th
abbrev nM : List Nat := [1, 102, 10, 20, 30, 40, 50]
/-- a wrong place is near the script -/
theorem malF_b (n : Nat) (bad : Int) : ∀ (T : List tkn) (st : Nat), n ≤ 240 → bad ≤ (n : Int) + 4 → (∀ x ∈ T, x.2.1 ≤ 240) → malF n bad T st ≤ 300
  | [], st, hn, hb, hT => by unfold malF; split <;> omega
  | x :: T, st, hn, hb, hT => by
    unfold malF
    have hx := hT x List.mem_cons_self
    split
    · split
      · omega
      · exact malF_b n bad T _ hn hb (fun y hy => hT y (List.mem_cons_of_mem _ hy))
    · omega
theorem tkX.pos {M : mM} {m : Nat} {T : List tkn} (k : tkX M m T) : ∀ x ∈ T, x.2.1 ≤ 240 := by
  intro x hx
  obtain ⟨i, hi, rfl⟩ := List.getElem_of_mem hx
  have := (k.2.2 i hi).2.2.2.2.1
  rw [List.getD_eq_getElem?_getD, List.getElem?_eq_getElem hi] at this
  exact this
section MRUN
variable {E : mE} {M M' : mM} {Q : mQ} {m : Nat} {s : List Nat} {T : List tkn} {cs is ps : List (List Nat)} {vs fl : eL} {po : List (List Nat)} {st pl th : Nat} {o : List Nat}
/-- what stands in the kept copies -/
def mKp (M : mM) (m : Nat) (s : List Nat) (vs : eL) (po : List (List Nat)) (fl : eL) (st : Nat) (o : List Nat) : Prop := mS M m ∧ mdT M m s ∧ vrX M m 0 vs ∧ poX M m 0 po ∧ flX M m 0 fl ∧ mi M (m + 18) 0 = I st ∧ ouX M m 0 o
theorem mKp.mv {S : List Nat} (h : mKp M m s vs po fl st o) (f : fm m S M M') (n : nM.all (fun x => !S.contains x) = true) : mKp M' m s vs po fl st o := by
  obtain ⟨h1, h2, h3, h4, h5, h6, h7⟩ := h
  simp only [nM, List.all_cons, List.all_nil, Bool.and_true, Bool.and_eq_true, Bool.not_eq_true'] at n
  obtain ⟨n1, n2, n3, n4, n5, n6, n7⟩ := n
  exact ⟨h1.mv f.1, h2.mv f n1 n2, h3.mv f n3, h4.mv f n4, h5.mv f n5, by rw [f.2.2 18 0 (by omega) n6]; exact h6, h7.mv f n7⟩
theorem dueS_0 {x : Nat} : dueS 0 x = true := by unfold dueS; rfl
theorem dueS_1 {x : Nat} : dueS 1 x = decide (x = 0) := by
  unfold dueS
  by_cases h : x = 0
  · subst h; rfl
  · cases x with
    | zero => exact absurd rfl h
    | succ x => rfl
theorem dueS_2 {x : Nat} : dueS 2 x = decide (¬ x = 0) := by
  unfold dueS
  cases x with
  | zero => rfl
  | succ x => rfl
theorem m_run_d {v1 v3 : Int32} {x : Int32} (h : mS M m) (d : mi M m 25 = I 1) (hq : ∀ v2 v3, mX E 189 8 [some (.ref m), some (.int v1), some (.int v2), some (.int v3)] [] M Q) : mX E 189 2 [some (.ref m), some (.int v1), some (.int x), some (.int v3)] [] M Q := by
  refine w189_2 ⟨h.k0, fun _ => hq _ _, fun _ => ⟨fun _ => hq _ _, fun z => ?_⟩⟩
  rw [d] at z; exact absurd z (by decide)
theorem m_run_l {v1 : Int32} (n : Nat) : ∀ (t c aw jn rd it : Nat) (ws : Bool) (g : gS) (M : mM), T.length - t ≤ n → t ≤ T.length → aw ≤ 1 → (t < T.length → ¬ (tkD T t).1 = 5) → enc s cs is ps (T.drop t) aw jn rd ws c it → ¬ jn = 3 → g.2.1.2.1 = false → mP M m s T g → okP g → mi M m 26 = I 0 →
    (∀ G, cmds s ps is cs (cs.length - c) c g = some G → ∀ M' v2 v3, mP M' m s T G → okP G → fm m sQ M M' → mX E 189 8 [some (.ref m), some (.int v1), some (.int v2), some (.int v3)] [] M' Q) →
    (cmds s ps is cs (cs.length - c) c g = none → ∀ M' v2 v3, mS M' m → mi M' m 25 = I 1 → fm m sQ M M' → mX E 189 8 [some (.ref m), some (.int v1), some (.int v2), some (.int v3)] [] M' Q) →
    mX E 189 2 [some (.ref m), some (.int v1), some (.int (I t)), some (.int (I (bI (dueS jn g.1.2.2.2.1))))] [] M Q := by
  induction n with
  | zero =>
    intro t c aw jn rd it ws g M hn ht ha h5 he hj hg w ok h26 hq hd
    have kl := w.1.2.2.1.2.1
    have en := enc_nil (by omega) he
    refine w189_2 ⟨w.1.1.k0, fun _ => ?_, fun z => ?_⟩
    · refine hq g ?_ M _ _ w ok (fm.refl _ _ _)
      rw [show cs.length - c = 0 by omega]; rfl
    · rw [w.1.2.2.1.1, I_le (by omega) (by omega) (by omega) (by omega)] at z; omega
  | succ n ih =>
    intro t c aw jn rd it ws g M hn ht ha h5 he hj hg w ok h26 hq hd
    have h := w.1.1
    have k := w.1.2.2.1
    have kl := k.2.1
    by_cases lt : t < T.length
    · have hp0 : pip cs c = false := by
        rcases enc_jn (by omega) ha he with ⟨x1, x2⟩ | ⟨x1, -⟩
        · cases gg : pip cs c with
          | false => rfl
          | true => rw [pip_3, x2] at gg; exact absurd gg hj
        · exact pip_out (by omega)
      refine w189_2 ⟨h.k0, fun z => ?_, fun _ => ⟨fun z => absurd w.2.2 z, fun _ => ⟨fun z => absurd h26 z, fun _ => ?_⟩⟩⟩
      · rw [k.1, I_le (by omega) (by omega) (by omega) (by omega)] at z; omega
      · refine m_pipeline lt ha (h5 lt) he hg hp0 w ok h26 (fun K b jn' rd' it' ws' G b1 b2 b3 b4 b5 hG M1 w1 ok1 z26 f1 => ?_) (fun K b b1 b2 cl hG M1 d1 f1 => ?_)
        · have h1 := w1.1.1
          have k1 := w1.1.2.2.1
          have cK : c + K ≤ cs.length := by
            by_cases y : b < T.length
            · rcases enc_sep y (b3 y).1 b4 with ⟨-, e⟩ | ⟨-, e⟩
              · rcases enc_jn (by omega) (by omega) e with x | x <;> omega
              · rcases enc_jn (by omega) (by omega) e with x | x <;> omega
            · have := (enc_nil (by omega) b4).2.1; omega
          have sp : cmds s ps is cs (cs.length - c) c g = cmds s ps is cs (cs.length - (c + K)) (c + K) G := by
            rw [show cs.length - c = K + (cs.length - (c + K)) by omega, cmds_add, hG]; rfl
          rw [sp] at hq hd
          refine ⟨h1.k0, fun z => ?_, fun z => ?_⟩
          · rw [k1.1, I_le (by omega) (by omega) (by omega) (by omega)] at z
            have en := enc_nil (by omega) b4
            have fin := hq G (by rw [show cs.length - (c + K) = 0 by omega]; rfl) M1
            refine w189_2 ⟨h1.k0, fun _ => fin _ _ w1 ok1 f1, fun y => ?_⟩
            rw [k1.1, I_le (by omega) (by omega) (by omega) (by omega)] at y; omega
          · rw [k1.1, I_le (by omega) (by omega) (by omega) (by omega)] at z
            obtain ⟨kk, -, -, k4, -⟩ := k1.2.2 b (by omega)
            have d : tkD T b = T.getD b (0, 0, 0) := rfl
            rw [← d] at kk k4
            have bl : b < T.length := by omega
            have st1 : mi M1 (m + 18) 1 = I G.1.2.2.2.1 := w1.1.2.2.2.2.2.2
            have sl : G.1.2.2.2.1 ≤ 255 := ok1.2.2.2.1
            -- the next pipeline
            have seven : ∀ aw' jn', aw' ≤ 1 → ¬ jn' = 3 → enc s cs is ps (T.drop (b + 1)) aw' jn' rd' ws' (c + K) it' → ∀ v3, mX E 189 7 [some (.ref m), some (.int v1), some (.int (I b)), some (.int v3)] [.int (I (bI (dueS jn' G.1.2.2.2.1)))] M1 Q := by
              intro aw' jn' a1 a3 e v3
              refine w189_7 ⟨h1.k0, ?_⟩
              rw [I_add, show (b : Int) + 1 = ((b + 1 : Nat) : Int) by omega]
              refine m_skipN h1 k1 (by omega) (fun q q1 q2 q3 q4 => ?_)
              have q2' := q2 (by omega)
              have e2 := enc_nl _ (b + 1) q _ _ _ _ _ _ rfl q1 q2' q3 a1 e
              cases ge : G.2.1.2.1 with
              | false =>
                rw [ge] at z26
                exact ih q (c + K) aw' jn' _ _ _ G M1 (by omega) q2' a1 q4 e2 a3 ge w1 ok1 z26 (fun G' hG' M' v2 v3 a b c => hq G' hG' M' v2 v3 a b (f1.trans c)) (fun hG' M' v2 v3 a b c => hd hG' M' v2 v3 a b (f1.trans c))
              | true =>
                rw [ge] at z26
                obtain ⟨G', g1, g2⟩ := cmds_end (s := s) (ps := ps) (is := is) (cs := cs) (cs.length - (c + K)) (c + K) G ge
                have fin := fun v2 v3 => hq G' g1 M1 v2 v3 (by unfold mP; rw [g2]; exact w1) (by unfold okP; rw [g2]; exact ok1) f1
                refine w189_2 ⟨h1.k0, fun _ => fin _ _, fun _ => ⟨fun _ => fin _ _, fun _ => ⟨fun _ => fin _ _, fun y => ?_⟩⟩⟩
                rw [z26] at y; exact absurd y (by decide)
            have e22 : ¬ mr M1 m 22 = 0 ∧ mkd M1 (mr M1 m 22) = 1 ∧ vp_in (I 1) (mln M1 (mr M1 m 22)) := ⟨h1.n22, by rw [h1.f22]; exact h1.k18, by rw [h1.f22, h1.l18]; exact I_in (by omega) (by omega) (by omega)⟩
            refine ⟨h1.n5, by rw [h1.f5]; exact h1.k2, by rw [h1.f5, h1.l2]; exact I_in (by omega) (by omega) (by omega), ?_⟩
            rw [h1.f5, I_ntn (by omega), kk]
            have sep := enc_sep bl (b3 bl).1 b4
            have n3 := (b3 bl).2
            refine ⟨fun n1 => ⟨fun n2 => ?_, fun y2 => ⟨e22.1, e22.2.1, e22.2.2, ?_⟩⟩, fun y1 => ⟨e22.1, e22.2.1, e22.2.2, ?_⟩⟩
            · rw [I_eq (by omega) (by omega) (by omega) (by omega)] at n1 n2
              rcases sep with ⟨-, e⟩ | ⟨x, e⟩
              · have := seven 0 0 (by omega) (by decide) e (I (bI (dueS jn g.1.2.2.2.1)))
                rw [dueS_0] at this; exact this
              · omega
            · rw [I_eq (by omega) (by omega) (by omega) (by omega)] at y2
              have k2 : (tkD T b).1 = 2 := by omega
              rcases sep with ⟨x, -⟩ | ⟨-, e⟩
              · omega
              · rw [k2] at e
                have := seven 1 2 (by omega) (by decide) e (I (bI (dueS jn g.1.2.2.2.1)))
                rw [dueS_2] at this
                rw [h1.f22, show nt (I 1) = 1 by decide, st1]
                refine ⟨fun y => ?_, fun y => ?_⟩
                · rw [I_eq (by omega) (by omega) (by omega) (by omega)] at y
                  rw [decide_eq_false (by omega)] at this; exact this
                · rw [I_eq (by omega) (by omega) (by omega) (by omega)] at y
                  rw [decide_eq_true (by omega)] at this; exact this
            · rw [I_eq (by omega) (by omega) (by omega) (by omega)] at y1
              have k2 : (tkD T b).1 = 1 := by omega
              rcases sep with ⟨x, -⟩ | ⟨-, e⟩
              · omega
              · rw [k2] at e
                have := seven 1 1 (by omega) (by decide) e (I (bI (dueS jn g.1.2.2.2.1)))
                rw [dueS_1] at this
                rw [h1.f22, show nt (I 1) = 1 by decide, st1]
                refine ⟨fun y => ?_, fun y => ?_⟩
                · rw [I_eq (by omega) (by omega) (by omega) (by omega)] at y
                  rw [decide_eq_false (by omega)] at this; exact this
                · rw [I_eq (by omega) (by omega) (by omega) (by omega)] at y
                  rw [decide_eq_true (by omega)] at this; exact this
        · have h1 := h.mv f1.1
          have k1 := k.mv f1 (by decide) (by decide)
          have nn : cmds s ps is cs (cs.length - c) c g = none := by
            rw [show cs.length - c = K + (cs.length - (c + K)) by omega, cmds_add, hG]; rfl
          have fin := fun v2 v3 => hd nn M1 v2 v3 h1 d1 f1
          have e22 : ¬ mr M1 m 22 = 0 ∧ mkd M1 (mr M1 m 22) = 1 ∧ vp_in (I 1) (mln M1 (mr M1 m 22)) := ⟨h1.n22, by rw [h1.f22]; exact h1.k18, by rw [h1.f22, h1.l18]; exact I_in (by omega) (by omega) (by omega)⟩
          refine ⟨h1.k0, fun _ => m_run_d h1 d1 fin, fun z => ?_⟩
          rw [k1.1, I_le (by omega) (by omega) (by omega) (by omega)] at z
          have seven : ∀ s0 v3, mX E 189 7 [some (.ref m), some (.int v1), some (.int (I b)), some (.int v3)] [.int s0] M1 Q := by
            intro s0 v3
            refine w189_7 ⟨h1.k0, ?_⟩
            rw [I_add, show (b : Int) + 1 = ((b + 1 : Nat) : Int) by omega]
            exact m_skipN h1 k1 (by omega) (fun q q1 q2 q3 q4 => m_run_d h1 d1 fin)
          exact ⟨h1.n5, by rw [h1.f5]; exact h1.k2, by rw [h1.f5, h1.l2]; exact I_in (by omega) (by omega) (by omega), fun _ => ⟨fun _ => seven _ _, fun _ => ⟨e22.1, e22.2.1, e22.2.2, fun _ => seven _ _, fun _ => seven _ _⟩⟩, fun _ => ⟨e22.1, e22.2.1, e22.2.2, fun _ => seven _ _, fun _ => seven _ _⟩⟩
    · have en := enc_nil (by omega) he
      refine w189_2 ⟨w.1.1.k0, fun _ => ?_, fun z => ?_⟩
      · refine hq g ?_ M _ _ w ok (fm.refl _ _ _)
        rw [show cs.length - c = 0 by omega]; rfl
      · rw [w.1.2.2.1.1, I_le (by omega) (by omega) (by omega) (by omega)] at z; omega
/-- run -/
theorem m_run {rd : Nat} {ws : Bool} (h : moI M m s vs po fl st o pl th)
    (hq : ∀ p' g' G, yR s 240 0 (0, 0, rd, ws, [], [], []) = .inl (p', g') → cmds s g'.2.2.2.2.2.2 g'.2.2.2.2.2.1 g'.2.2.2.2.1 g'.2.2.2.2.1.length 0 ((vs, po, fl, st, []), (false, false, 0), []) = some G → ∀ M', moI M' m s G.1.1 G.1.2.1 G.1.2.2.1 G.1.2.2.2.1 G.1.2.2.2.2 pl 0 → fo m M M' → Q (.inl (some (.int (I G.1.2.2.2.1)))) M')
    (ht : ∀ p' g', yR s 240 0 (0, 0, rd, ws, [], [], []) = .inl (p', g') → cmds s g'.2.2.2.2.2.2 g'.2.2.2.2.2.1 g'.2.2.2.2.1 g'.2.2.2.2.1.length 0 ((vs, po, fl, st, []), (false, false, 0), []) = none → ∀ M', moI M' m s vs po fl st o pl 2 → fo m M M' → Q (.inl (some (.int (I 0)))) M')
    (hb : ∀ e, yR s 240 0 (0, 0, rd, ws, [], [], []) = .inr e → ∀ M', moI M' m s vs po fl st o e 1 → fo m M M' → Q (.inl (some (.int (I 0)))) M') : mC E 189 [.ref m] M Q := by
  obtain ⟨h1, h2, h3, h4, h5, h6, h7, ok, hpl, hth⟩ := h
  have sl := h2.2.1
  have kp : mKp M m s vs po fl st o := ⟨h1, h2, h3, h4, h5, h6, h7⟩
  have ye := yR_enc sl h2.2.2.2 240 0 (0, 0, rd, ws, [], [], []) (by omega) ⟨show 0 ≤ 3 by decide, fun z => absurd (show 0 = 2 from z) (by decide), fun z => absurd (show 0 = 3 from z) (by decide), fun r hr => absurd hr List.not_mem_nil⟩
  have cb := cutF_b s 240 0 (by omega)
  refine w189_0 ⟨h1.k0, m_malformed h1 h2 (fun M1 k1 f1 => ?_)⟩
  have p1 := kp.mv f1 (by decide)
  have hs1 := p1.1
  cases hy : yR s 240 0 (0, 0, rd, ws, [], [], []) with
  | inr e =>
    have em : malF s.length (cutF s 240 0).2 (cutF s 240 0).1 0 = (e : Int) := ye.2 e hy
    have e240 : e ≤ 1000 := by
      have z := malF_b s.length (cutF s 240 0).2 (cutF s 240 0).1 0 (by omega) cb.2 k1.pos
      rw [em] at z; omega
    rw [em]
    refine ⟨fun z => ?_, fun z => ⟨hs1.k0, fun M2 q2 => ?_⟩⟩
    · rw [I_lt (by omega) (by omega) (by omega) (by omega)] at z; omega
    · have f2 : fm m [101] M1 M2 := fm_o q2 (by decide)
      have p2 := p1.mv f2 (by decide)
      refine w119_0 ⟨p2.1.k0, fun M3 q3 => ?_⟩
      have f3 : fm m [100] M2 M3 := fm_o q3 (by decide)
      obtain ⟨a1, a2, a3, a4, a5, a6, a7⟩ := p2.mv f3 (by decide)
      exact hb e hy M3 ⟨a1, a2, a3, a4, a5, a6, a7, ok, by rw [q3, i_ik (by decide), q2, i_is], by rw [q3, i_is]; rfl⟩ ((f1.fo.trans f2.fo).trans f3.fo)
  | inl x =>
    obtain ⟨p', g'⟩ := x
    obtain ⟨em, en, -⟩ := ye.1 p' g' hy
    have em : malF s.length (cutF s 240 0).2 (cutF s 240 0).1 0 = -1 := em
    rw [em]
    have hq' := fun G => hq p' g' G hy
    have ht' := ht p' g' hy
    refine ⟨fun _ => ⟨hs1.k0, ?_⟩, fun z => absurd (by decide) z⟩
    obtain ⟨b1, b2, b3, b4, b5, b6, b7⟩ := id p1
    refine m_copyA (a := 0) (b := 1) b1 (by omega) (by omega) (by decide) b3 b4 b5 b6 b7 (fun M2 v2 p2 fl2 s2 o2 f2 => ?_)
    have f2' : fm m [11, 21, 31, 41, 51] M1 M2 := f2
    have k2 := p1.mv f2' (by decide)
    have hs2 := k2.1
    refine ⟨hs2.k0, hs2.n23, by rw [hs2.f23]; exact hs2.k19, by rw [hs2.f23, hs2.l19]; exact I_in (by omega) (by omega) (by omega), fun M3 q3 M4 q4 M5 q5 => ?_⟩
    rw [hs2.f23, show nt (I 1) = 1 by decide] at q3
    have f3 : fm m [51] M2 M3 := fm_i (a := 19) q3 (by omega) (by decide)
    have f4 : fm m [125] M3 M4 := fm_o q4 (by decide)
    have f5 : fm m [126] M4 M5 := fm_o q5 (by decide)
    have f35 : fm m [51, 125, 126] M2 M5 := ((f3.w (by decide)).trans (f4.w (by decide))).trans (f5.w (by decide))
    have k5 := k2.mv f35 (by decide)
    have hs5 := k5.1
    have tk5 := ((k1.mv f2' (by decide) (by decide)).mv f35 (by decide) (by decide))
    have w5 : mP M5 m s (cutF s 240 0).1 ((vs, po, fl, st, []), (false, false, 0), []) := ⟨⟨hs5, k5.2.1, tk5, v2.mv f35 (by decide), p2.mv f35 (by decide), fl2.mv f35 (by decide), by rw [f35.2.2 18 1 (by omega) (by decide)]; exact s2⟩, ⟨by rw [f5.2.2 19 1 (by omega) (by decide), f4.2.2 19 1 (by omega) (by decide), q3, i_is]; rfl, by show 0 ≤ 240; omega, fun k hk => absurd hk (Nat.not_lt_zero k), ok6.nil⟩, by rw [f5.fld (by decide), q4, i_is]⟩
    have fa : fo m M M5 := (f1.fo.trans f2'.fo).trans f35.fo
    have pl5 : mi M5 m 1 = I pl := by rw [f35.fld (by decide), f2'.fld (by decide), f1.fld (by decide)]; exact hpl
    refine m_skipN (t := 0) hs5 tk5 (by omega) (fun q q1 q2 q3' q4' => ?_)
    have en0 : enc s (gCs g') (gIs g') (gPz g') ((cutF s 240 0).1.drop 0) 0 0 rd ws 0 0 := en
    have e2 := enc_nl _ 0 q _ _ _ _ _ _ rfl q1 (q2 (by omega)) q3' (by omega) en0
    have r := m_run_l (E := E) (Q := Q) (m := m) (v1 := I (-1)) (T := (cutF s 240 0).1) (cs := gCs g') (is := gIs g') (ps := gPz g') _ q 0 0 0 rd 0 ws ((vs, po, fl, st, []), (false, false, 0), []) M5 (Nat.le_refl _) (q2 (by omega)) (by omega) q4' e2 (by decide) rfl w5 ok (by rw [q5, i_is]) (fun G hG M6 v2 v3 w6 ok6' f6 => ?_) (fun hG M6 v2 v3 h6 d6 f6 => ?_)
    · rw [dueS_0] at r; exact r
    · have h6 := w6.1.1
      refine w189_8 ⟨h6.k0, fun _ M7 q7 => ?_, fun z => absurd w6.2.2 z⟩
      have f7 : fm m [100] M6 M7 := fm_o q7 (by decide)
      have w7 := w6.mv f7 (by decide) (by decide) (by decide)
      refine m_copyA (a := 1) (b := 0) w7.1.1 (by omega) (by omega) (by decide) w7.1.2.2.2.1 w7.1.2.2.2.2.1 w7.1.2.2.2.2.2.1 w7.1.2.2.2.2.2.2 w7.2.1 (fun M8 v8 p8 fl8 s8 o8 f8 => ?_)
      have f8' : fm m [10, 20, 30, 40, 50] M7 M8 := f8
      have h8 := w7.1.1.mv f8'.1
      refine ⟨h8.k0, h8.n22, by rw [h8.f22]; exact h8.k18, by rw [h8.f22, h8.l18]; exact I_in (by omega) (by omega) (by omega), ?_⟩
      rw [h8.f22, show nt (I 0) = 0 by decide, s8]
      exact hq' G (by rw [Nat.sub_zero] at hG; exact hG) M8 ⟨h8, w7.1.2.1.mv f8' (by decide) (by decide), v8, p8, fl8, s8, o8, ok6', by rw [f8'.fld (by decide), f7.fld (by decide), f6.fld (by decide)]; exact pl5, by rw [f8'.fld (by decide), q7, i_is]; rfl⟩ (((fa.trans f6.fo).trans f7.fo).trans f8'.fo)
    · refine w189_8 ⟨h6.k0, fun z => ?_, fun _ => w119_0 ⟨h6.k0, fun M7 q7 => ?_⟩⟩
      · rw [d6] at z; exact absurd z (by decide)
      · have f7 : fm m [100] M6 M7 := fm_o q7 (by decide)
        obtain ⟨a1, a2, a3, a4, a5, a6, a7⟩ := (k5.mv f6 (by decide)).mv f7 (by decide)
        exact ht' (by rw [Nat.sub_zero] at hG; exact hG) M7 ⟨a1, a2, a3, a4, a5, a6, a7, ok, by rw [f7.fld (by decide), f6.fld (by decide)]; exact pl5, by rw [q7, i_is]; rfl⟩ ((fa.trans f6.fo).trans f7.fo)
end MRUN
