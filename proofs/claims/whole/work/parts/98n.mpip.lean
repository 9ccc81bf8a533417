/-! THE REFERENCE: a pipeline against the class's commands -/
def mP (M : mM) (m : Nat) (s : List Nat) (T : List tkn) (g : gS) : Prop := mW M m s T g.1.1 g.1.2.1 g.1.2.2.1 g.1.2.2.2.1 ∧ ouX M m 1 g.1.2.2.2.2 ∧ mi M m 25 = I 0
def okP (g : gS) : Prop := okW g.1.1 g.1.2.1 g.1.2.2.1 g.1.2.2.2.1
section MPIP
variable {E : mE} {M M' : mM} {Q : mQ} {m : Nat} {s : List Nat} {T : List tkn} {cs is ps : List (List Nat)} {vs fl : eL} {po : List (List Nat)} {stt : Nat}
theorem mW.mvp {S : List Nat} {vs' : eL} {po' : List (List Nat)} (h : mW M m s T vs po fl stt) (f : fm m S M M') (n : [1, 102, 2, 104, 31, 41].all (fun x => !S.contains x) = true) (v : vrX M' m 1 vs') (p : poX M' m 1 po') : mW M' m s T vs' po' fl stt := by
  obtain ⟨h1, h2, h3, h4, h5, h6, h7⟩ := h
  simp only [List.all_cons, List.all_nil, Bool.and_true, Bool.and_eq_true, Bool.not_eq_true'] at n
  obtain ⟨n1, n2, n3, n4, n7, n8⟩ := n
  exact ⟨h1.mv f.1, h2.mv f n1 n2, h3.mv f n3 n4, v, p, h6.mv f n7, by rw [f.2.2 18 1 (by omega) n8]; exact h7⟩
/-- behind a command a next one -/
theorem enc_next {b jn rd : Nat} {ws : Bool} {c it : Nat} (hb : b ≤ T.length) (h6 : b < T.length → (tkD T b).1 < 6) (h : enc s cs is ps (T.drop b) 2 jn rd ws c it) (hp : pip cs c = true) : b < T.length ∧ ∀ q, b + 1 ≤ q → (b + 1 ≤ T.length → q ≤ T.length) → (∀ i, b + 1 ≤ i → i < q → (tkD T i).1 = 5) → ∃ aw' jn', aw' ≤ 1 ∧ q < T.length ∧ enc s cs is ps (T.drop q) aw' jn' rd ws c it := by
  have np : ¬ c = cs.length := fun z => by rw [pip_out (by omega)] at hp; cases hp
  by_cases lt : b < T.length
  · refine ⟨lt, fun q q1 q2 q3 => ?_⟩
    have q2' := q2 (by omega)
    rcases enc_sep lt (h6 lt) h with ⟨-, e⟩ | ⟨-, e⟩
    · have e2 := enc_nl _ (b + 1) q _ _ _ _ _ _ rfl q1 q2' q3 (by omega) e
      refine ⟨_, _, by omega, ?_, e2⟩
      by_cases z : q < T.length
      · exact z
      · exact absurd (enc_nil (by omega) e2).2.1 np
    · have e2 := enc_nl _ (b + 1) q _ _ _ _ _ _ rfl q1 q2' q3 (by omega) e
      refine ⟨_, _, by omega, ?_, e2⟩
      by_cases z : q < T.length
      · exact z
      · exact absurd (enc_nil (by omega) e2).2.1 np
  · exact absurd (enc_nil (by omega) h).2.1 np
theorem m_pip_l {v1 : Int32} {K : Nat} {vs0 : eL} {po0 : List (List Nat)} (hK : K ≤ 6) (n : Nat) : ∀ (i c t aw jn rd it : Nat) (ws : Bool) (g : gS) (M : mM) (v4 : Int32) (d6 d7 : Option Value), n + 1 = K - i → i < K → t < T.length → aw ≤ 1 → ¬ (tkD T t).1 = 5 → enc s cs is ps (T.drop t) aw jn rd ws c it → cmd1 s ps is cs c g = cmdX s ps is cs c g true i → g.2.1.2.1 = false → (i = 0 → pip cs c = false) → (0 < i → pip cs c = true) → (∀ j, 1 ≤ j → j ≤ n → pip cs (c + j) = true) → pip cs (c + (n + 1)) = false → mP M m s T g → okP g → mi M m 26 = I 0 → inX M m (if 0 < i then g.2.2 else []) → vrX M m 2 vs0 → poX M m 2 po0 → (1 < K → g.1.1 = vs0 ∧ g.1.2.1 = po0) →
    (∀ G, cmds s ps is cs (n + 1) c g = some G → ∀ M', mP M' m s T G → okP G → mi M' m 26 = I (bI G.2.1.2.1) → fm m sP M M' → Q (.inl none) M') →
    (cmds s ps is cs (n + 1) c g = none → ∀ M', mi M' m 25 = I 1 → fm m sP M M' → Q (.inl none) M') →
    mX E 188 1 [some (.ref m), some (.int v1), some (.int (I K)), some (.int (I t)), some (.int v4), some (.int (I i)), d6, d7] [] M Q := by
  induction n with
  | zero =>
    intro i c t aw jn rd it ws g M v4 d6 d7 hn hi ht ha h5 he hc hg hp0 hp1 hpn hpl w ok h26 hin v2 p2 h0 hq hd
    obtain ⟨c1, c2, c3, b, rd2, ws2, b1, b2, b3, b4, b5, b6⟩ := enc_cmd ht ha h5 he
    obtain ⟨w0, wo, w25⟩ := w
    have h := w0.1
    have kl := w0.2.2.1.2.1
    rw [Nat.zero_add] at hpl
    have hal : alo cs c = decide (K = 1) := by
      unfold alo
      rw [hpl]
      by_cases i0 : i = 0
      · rw [hp0 i0, decide_eq_true (by omega)]; rfl
      · rw [hp1 (by omega), decide_eq_false (by omega)]; rfl
    have st : cmds s ps is cs (0 + 1) c g = ((rcS s ps is (cs.getD c []) g.1.1 g.1.2.1 g.1.2.2.1 g.1.2.2.2.1 (if 0 < i then g.2.2 else [])).bind fun r => if (g.1.2.2.2.2 ++ r.1.2).length ≤ 240 then some ((if alo cs c = true then r.2.1.1 else g.1.1, if alo cs c = true then r.2.1.2.1 else g.1.2.1, r.2.1.2.2, r.1.1, g.1.2.2.2.2 ++ r.1.2), (true, r.2.2 && alo cs c, i + 1), r.1.2) else none) := by
      unfold cmds
      rw [hc]
      unfold cmdX
      rw [hg, if_pos (show (true && !false) = true from rfl), if_pos (by omega), hpl]
      cases rcS s ps is (cs.getD c []) g.1.1 g.1.2.1 g.1.2.2.1 g.1.2.2.2.1 (if 0 < i then g.2.2 else []) with
      | none => rfl
      | some r =>
        show Option.bind (if (g.1.2.2.2.2 ++ r.1.2).length ≤ 240 then _ else none) (cmds s ps is cs 0 (c + 1)) = if (g.1.2.2.2.2 ++ r.1.2).length ≤ 240 then _ else none
        by_cases le : (g.1.2.2.2.2 ++ r.1.2).length ≤ 240
        · rw [if_pos le]; rfl
        · rw [if_neg le]; rfl
    rw [st] at hq hd
    have three : ∀ al : Bool, al = decide (K = 1) → mX E 188 3 [some (.ref m), some (.int v1), some (.int (I K)), some (.int (I t)), some (.int v4), some (.int (I i)), some (.int (I b)), d7] [.int (I (bI al)), .int (I b), .int (I t), .ref m] M Q := by
      intro al hal2
      refine w188_3 ⟨h.k0, m_command w0 ok b2 (by omega) c3 b5 w25 h26 hin (fun r hr M1 w1 ok1 p1 l1 ch1 z26 f1 => ?_) (fun hr M1 x n' d1 n1 l1 f1 => ?_)⟩
      · rw [hr] at hq hd
        simp only [Option.bind_some] at hq hd
        have h1 := w1.1
        have p38 : mi M1 m 38 = I r.1.2.length := by rw [p1.1, show min r.1.2.length 240 = r.1.2.length by omega]
        have p25 : mi M1 m 25 = I 0 := by rw [p1.2.2, decide_eq_false (by omega)]; rfl
        have okr := rcS_ok w0.2.1.2.2.2.ok1 ok.2.1 ok.2.2.1 ok.1 ok.2.2.2.1 hr
        refine ⟨h1.k0, fun _ M5 q5 => ?_, fun z => ?_⟩
        · rw [p38] at q5
          have g5 : fm m [136] M1 M5 := fm_o q5 (by decide)
          have w5 := w1.mv g5 (by decide)
          have f5 : fm m sP M M5 := (f1.w (by decide)).trans (g5.w (by decide))
          refine m_after (n := r.1.2.length) w5.1 w5.2.2.1 b2 (by omega) ((v2.mv f1 (by decide)).mv g5 (by decide)) ((p2.mv f1 (by decide)).mv g5 (by decide)) l1 (by rw [q5, i_is]) (fun M6 q d7 q1 q2 q3 q4 inp e36 fK1 fK2 f6 => ?_)
          have h6 := w5.1.mv f6.1
          have f6' : fm m sP M M6 := f5.trans (f6.w (by decide))
          have u6 : inX M6 m r.1.2 := ⟨e36, l1, fun j hj => by
            have cc : r.1.2.getD j 0 < 65536 := getD_lt ch1 (by omega) j
            rw [inp j hj, q5, i_ia (by omega), p1.2.1 j (by omega), I_cN (by omega) (by omega)], ch1⟩
          have o6 : ouX M6 m 1 g.1.2.2.2.2 := ((wo.mv f1 (by decide)).mv g5 (by decide)).mv f6 (by decide)
          have e25 : mi M6 m 25 = I 0 := by rw [f6.fld (by decide), g5.fld (by decide)]; exact p25
          have e26 : mi M6 m 26 = I (bI (r.2.2 && alo cs c)) := by rw [f6.fld (by decide), g5.fld (by decide), hal, ← hal2]; exact z26
          have w6 : mW M6 m s T (if alo cs c = true then r.2.1.1 else g.1.1) (if alo cs c = true then r.2.1.2.1 else g.1.2.1) r.2.1.2.2 g.1.2.2.2.1 := by
            by_cases k1 : K = 1
            · rw [hal, decide_eq_true k1, if_pos rfl, if_pos rfl]
              exact w5.mv (fK1 (by omega)) (by decide)
            · rw [hal, decide_eq_false k1, if_neg (by decide), if_neg (by decide), (h0 (by omega)).1, (h0 (by omega)).2]
              have := fK2 (by omega)
              exact w5.mvp f6 (by decide) this.1 this.2
          have ok6' : okW (if alo cs c = true then r.2.1.1 else g.1.1) (if alo cs c = true then r.2.1.2.1 else g.1.2.1) r.2.1.2.2 r.1.1 := by
            by_cases k1 : alo cs c = true
            · rw [if_pos k1, if_pos k1]
              exact ⟨ok1.1, ok1.2.1, ok1.2.2.1, okr.2.2.2, ok1.2.2.2.2.1, ok1.2.2.2.2.2⟩
            · rw [if_neg k1, if_neg k1]
              exact ⟨ok1.1, ok.2.1, ok.2.2.1, okr.2.2.2, ok.2.2.2.2.1, ok1.2.2.2.2.2⟩
          rw [I_add]
          refine w188_1 ⟨fun _ => ⟨h6.k0, h6.n22, by rw [h6.f22]; exact h6.k18, by rw [h6.f22, h6.l18]; exact I_in (by omega) (by omega) (by omega), fun M7 q7 => ?_⟩, fun z => ?_⟩
          · rw [h6.f22, show nt (I 1) = 1 by decide] at q7
            have f7 : fm m [41] M6 M7 := fm_i (a := 18) q7 (by omega) (by decide)
            have f7' : fm m sP M M7 := f6'.trans (f7.w (by decide))
            have h7 := h6.mv f7.1
            refine m_outs (o := g.1.2.2.2.2) (u := r.1.2) _ 0 M7 rfl (by omega) h7 (u6.mv f7 (by decide) (by decide)) (by rw [List.take_zero, List.append_nil]; exact o6.mv f7 (by decide)) (by rw [f7.fld (by decide)]; exact e25) (fun le M8 o8 z25 f8 => ?_) (fun le M8 d8 f8 => ?_)
            · rw [if_pos le] at hq
              obtain ⟨x1, x2, x3, x4, x5, x6, x7⟩ := w6
              refine hq _ rfl M8 ⟨⟨h7.mv f8.1, (x2.mv f7 (by decide) (by decide)).mv f8 (by decide) (by decide), (x3.mv f7 (by decide) (by decide)).mv f8 (by decide) (by decide), (x4.mv f7 (by decide)).mv f8 (by decide), (x5.mv f7 (by decide)).mv f8 (by decide), (x6.mv f7 (by decide)).mv f8 (by decide), ?_⟩, o8, z25⟩ ok6' ?_ (f7'.trans (f8.w (by decide)))
              · rw [f8.2.2 18 1 (by omega) (by decide), q7, i_is]
              · rw [f8.fld (by decide), f7.fld (by decide)]; exact e26
            · rw [if_neg le] at hd
              exact hd rfl M8 d8 (f7'.trans (f8.w (by decide)))
          · rw [I_le (by omega) (by omega) (by omega) (by omega)] at z; omega
        · rw [p38, I_le (by omega) (by omega) (by omega) (by omega)] at z; omega
      · rw [hr] at hd
        have h1 := h.mv f1.1
        refine ⟨h1.k0, fun _ M5 q5 => ?_, fun z => ?_⟩
        · rw [n1] at q5
          have g5 : fm m [136] M1 M5 := fm_o q5 (by decide)
          have f5 : fm m sP M M5 := (f1.w (by decide)).trans (g5.w (by decide))
          refine m_after (T := T) (n := n') (h1.mv g5.1) ((w0.2.2.1.mv f1 (by decide) (by decide)).mv g5 (by decide) (by decide)) b2 (by omega) ((v2.mv f1 (by decide)).mv g5 (by decide)) ((p2.mv f1 (by decide)).mv g5 (by decide)) l1 (by rw [q5, i_is]) (fun M6 q d7 q1 q2 q3 q4 inp e36 fK1 fK2 f6 => ?_)
          exact m_pip_d ((h1.mv g5.1).mv f6.1) (by rw [f6.fld (by decide), g5.fld (by decide)]; exact d1) (fun M7 d7 f7 => hd rfl M7 d7 ((f5.trans (f6.w (by decide))).trans f7))
        · rw [n1, I_le (by omega) (by omega) (by omega) (by omega)] at z; omega
    refine w188_1 ⟨fun z => ?_, fun _ => ⟨h.k0, fun z => absurd w25 z, fun _ => m_cmdEnd h w0.2.2.1 b2 b3 b4 (by omega) ⟨fun z => three false ?_, fun z => three true ?_⟩⟩⟩
    · rw [I_le (by omega) (by omega) (by omega) (by omega)] at z; omega
    · rw [I_eq (by omega) (by omega) (by omega) (by omega)] at z
      rw [decide_eq_false (by omega)]
    · rw [I_eq (by omega) (by omega) (by omega) (by omega)] at z
      rw [decide_eq_true (by omega)]
  | succ n ih =>
    intro i c t aw jn rd it ws g M v4 d6 d7 hn hi ht ha h5 he hc hg hp0 hp1 hpn hpl w ok h26 hin v2 p2 h0 hq hd
    obtain ⟨c1, c2, c3, b, rd2, ws2, b1, b2, b3, b4, b5, b6⟩ := enc_cmd ht ha h5 he
    obtain ⟨w0, wo, w25⟩ := w
    have h := w0.1
    have kl := w0.2.2.1.2.1
    have pn := hpn 1 (by omega) (by omega)
    have hal : alo cs c = false := by unfold alo; rw [pn]; simp
    have st : cmds s ps is cs (n + 1 + 1) c g = ((rcS s ps is (cs.getD c []) g.1.1 g.1.2.1 g.1.2.2.1 g.1.2.2.2.1 (if 0 < i then g.2.2 else [])).bind fun r => cmds s ps is cs (n + 1) (c + 1) ((g.1.1, g.1.2.1, r.2.1.2.2, g.1.2.2.2.1, g.1.2.2.2.2), (true, false, i + 1), r.1.2)) := by
      conv => lhs; unfold cmds
      rw [hc]
      unfold cmdX
      rw [hg, if_pos (show (true && !false) = true from rfl), if_pos (by omega), pn, hal]
      cases rcS s ps is (cs.getD c []) g.1.1 g.1.2.1 g.1.2.2.1 g.1.2.2.2.1 (if 0 < i then g.2.2 else []) with
      | none => rfl
      | some r =>
        show cmds s ps is cs (n + 1) (c + 1) ((g.1.1, g.1.2.1, r.2.1.2.2, g.1.2.2.2.1, g.1.2.2.2.2), (true, r.2.2 && false, i + 1), r.1.2) = _
        rw [Bool.and_false]; rfl
    rw [st] at hq hd
    have K1 : 1 < K := by omega
    have three : mX E 188 3 [some (.ref m), some (.int v1), some (.int (I K)), some (.int (I t)), some (.int v4), some (.int (I i)), some (.int (I b)), d7] [.int (I (bI false)), .int (I b), .int (I t), .ref m] M Q := by
      refine w188_3 ⟨h.k0, m_command w0 ok b2 (by omega) c3 b5 w25 h26 hin (fun r hr M1 w1 ok1 p1 l1 ch1 z26 f1 => ?_) (fun hr M1 x n' d1 n1 l1 f1 => ?_)⟩
      · rw [hr] at hq hd
        simp only [Option.bind_some] at hq hd
        have h1 := w1.1
        have p38 : mi M1 m 38 = I r.1.2.length := by rw [p1.1, show min r.1.2.length 240 = r.1.2.length by omega]
        have p25 : mi M1 m 25 = I 0 := by rw [p1.2.2, decide_eq_false (by omega)]; rfl
        refine ⟨h1.k0, fun _ M5 q5 => ?_, fun z => ?_⟩
        · rw [p38] at q5
          have g5 : fm m [136] M1 M5 := fm_o q5 (by decide)
          have w5 := w1.mv g5 (by decide)
          have f5 : fm m sP M M5 := (f1.w (by decide)).trans (g5.w (by decide))
          refine m_after (n := r.1.2.length) w5.1 w5.2.2.1 b2 (by omega) ((v2.mv f1 (by decide)).mv g5 (by decide)) ((p2.mv f1 (by decide)).mv g5 (by decide)) l1 (by rw [q5, i_is]) (fun M6 q d7 q1 q2 q3 q4 inp e36 fK1 fK2 f6 => ?_)
          have h6 := w5.1.mv f6.1
          have f6' : fm m sP M M6 := f5.trans (f6.w (by decide))
          have u6 : inX M6 m r.1.2 := ⟨e36, l1, fun j hj => by
            have cc : r.1.2.getD j 0 < 65536 := getD_lt ch1 (by omega) j
            rw [inp j hj, q5, i_ia (by omega), p1.2.1 j (by omega), I_cN (by omega) (by omega)], ch1⟩
          have o6 : ouX M6 m 1 g.1.2.2.2.2 := ((wo.mv f1 (by decide)).mv g5 (by decide)).mv f6 (by decide)
          have e25 : mi M6 m 25 = I 0 := by rw [f6.fld (by decide), g5.fld (by decide)]; exact p25
          have e26 : mi M6 m 26 = I 0 := by rw [f6.fld (by decide), g5.fld (by decide), z26, Bool.and_false]; rfl
          have k2 := fK2 K1
          have w6 : mW M6 m s T g.1.1 g.1.2.1 r.2.1.2.2 g.1.2.2.2.1 := by
            rw [(h0 K1).1, (h0 K1).2]
            exact w5.mvp f6 (by decide) k2.1 k2.2
          have ok6' : okW g.1.1 g.1.2.1 r.2.1.2.2 g.1.2.2.2.1 := ⟨ok1.1, ok.2.1, ok.2.2.1, ok.2.2.2.1, ok.2.2.2.2.1, ok1.2.2.2.2.2⟩
          obtain ⟨aw', jn', na, nq, ne⟩ := (enc_next b2 b4 b6 pn).2 q q1 q2 q3
          rw [I_add]
          refine ih (i + 1) (c + 1) q aw' jn' _ _ _ ((g.1.1, g.1.2.1, r.2.1.2.2, g.1.2.2.2.1, g.1.2.2.2.2), (true, false, i + 1), r.1.2) M6 _ _ _ (by omega) (by omega) nq na (q4 nq) ne ?_ rfl (fun z => by omega) (fun _ => pn) (fun j j1 j2 => ?_) ?_ ⟨w6, o6, e25⟩ ok6' e26 ?_ (((v2.mv f1 (by decide)).mv g5 (by decide)).mv f6 (by decide)) (((p2.mv f1 (by decide)).mv g5 (by decide)).mv f6 (by decide)) (fun _ => h0 K1) (fun G hG M' a1 a2 a3 a4 => hq G hG M' a1 a2 a3 (f6'.trans a4)) (fun hG M' a1 a4 => hd hG M' a1 (f6'.trans a4))
          · unfold cmd1; rw [if_pos pn, if_pos pn]
          · rw [show c + 1 + j = c + (j + 1) by omega]; exact hpn (j + 1) (by omega) (by omega)
          · rw [show c + 1 + (n + 1) = c + (n + 1 + 1) by omega]; exact hpl
          · rw [if_pos (by omega)]; exact u6
        · rw [p38, I_le (by omega) (by omega) (by omega) (by omega)] at z; omega
      · rw [hr] at hd
        have h1 := h.mv f1.1
        refine ⟨h1.k0, fun _ M5 q5 => ?_, fun z => ?_⟩
        · rw [n1] at q5
          have g5 : fm m [136] M1 M5 := fm_o q5 (by decide)
          have f5 : fm m sP M M5 := (f1.w (by decide)).trans (g5.w (by decide))
          refine m_after (T := T) (n := n') (h1.mv g5.1) ((w0.2.2.1.mv f1 (by decide) (by decide)).mv g5 (by decide) (by decide)) b2 (by omega) ((v2.mv f1 (by decide)).mv g5 (by decide)) ((p2.mv f1 (by decide)).mv g5 (by decide)) l1 (by rw [q5, i_is]) (fun M6 q d7 q1 q2 q3 q4 inp e36 fK1 fK2 f6 => ?_)
          exact m_pip_d ((h1.mv g5.1).mv f6.1) (by rw [f6.fld (by decide), g5.fld (by decide)]; exact d1) (fun M7 d7 f7 => hd rfl M7 d7 ((f5.trans (f6.w (by decide))).trans f7))
        · rw [n1, I_le (by omega) (by omega) (by omega) (by omega)] at z; omega
    refine w188_1 ⟨fun z => ?_, fun _ => ⟨h.k0, fun z => absurd w25 z, fun _ => m_cmdEnd h w0.2.2.1 b2 b3 b4 (by omega) ⟨fun z => three, fun z => ?_⟩⟩⟩
    · rw [I_le (by omega) (by omega) (by omega) (by omega)] at z; omega
    · rw [I_eq (by omega) (by omega) (by omega) (by omega)] at z; omega
end MPIP
