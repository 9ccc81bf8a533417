/-! THE REFERENCE: a run -/
abbrev sQ : List Nat := [12, 22, 11, 21, 41, 51, 31, 60, 61, 62, 63, 64, 65, 108, 125, 126, 127, 130, 131, 133, 136, 138, 140, 143, 144]
section MRUN
variable {E : mE} {M M' : mM} {Q : mQ} {m : Nat} {s : List Nat} {T : List tkn} {cs is ps : List (List Nat)} {vs fl : eL} {po : List (List Nat)} {stt : Nat}
theorem mP.mv {S : List Nat} {g : gS} (h : mP M m s T g) (f : fm m S M M') (n : nW.all (fun x => !S.contains x) = true) (n2 : S.contains 51 = false) (n3 : S.contains 125 = false) : mP M' m s T g := ⟨h.1.mv f n, h.2.1.mv f n2, by rw [f.fld n3]; exact h.2.2⟩
theorem m_runPipe {K c t aw jn rd it : Nat} {ws : Bool} {g : gS} (hK1 : 1 ≤ K) (hK : K ≤ 6) (ht : t < T.length) (ha : aw ≤ 1) (h5 : ¬ (tkD T t).1 = 5) (he : enc s cs is ps (T.drop t) aw jn rd ws c it) (hc : cmd1 s ps is cs c g = cmdX s ps is cs c g true 0) (hg : g.2.1.2.1 = false) (hp0 : pip cs c = false) (hpn : ∀ j, 1 ≤ j → j < K → pip cs (c + j) = true) (hpl : pip cs (c + K) = false) (w : mP M m s T g) (ok : okP g) (h26 : mi M m 26 = I 0)
    (hq : ∀ G, cmds s ps is cs K c g = some G → ∀ M', mP M' m s T G → okP G → mi M' m 26 = I (bI G.2.1.2.1) → fm m sQ M M' → Q (.inl none) M')
    (hd : cmds s ps is cs K c g = none → ∀ M', mi M' m 25 = I 1 → fm m sQ M M' → Q (.inl none) M') : mC E 188 [.ref m, .int (I t), .int (I K)] M Q := by
  refine w188_0 ⟨w.1.1.k0, fun M1 q1 => ?_⟩
  have f1 : fm m [136] M M1 := fm_o q1 (by decide)
  have w1 := w.mv f1 (by decide) (by decide) (by decide)
  refine m_copyV (a := 1) (b := 2) w1.1.1 (by omega) (by omega) (by decide) w1.1.2.2.2.1 w1.1.2.2.2.2.1 (fun M2 v2 p2 f2 => ?_)
  have f2' : fm m [12, 22] M1 M2 := f2
  have w2 := w1.mv f2' (by decide) (by decide) (by decide)
  have fa : fm m sQ M M2 := (f1.w (by decide)).trans (f2'.w (by decide))
  have k0 : K = (K - 1) + 1 := by omega
  rw [k0] at hq hd hpl
  refine m_pip_l (K := K) hK (K - 1) 0 c t aw jn rd it ws g M2 _ _ _ (by omega) (by omega) ht ha h5 he hc hg (fun _ => hp0) (fun z => absurd z (by decide)) (fun j j1 j2 => hpn j j1 (by omega)) hpl w2 ok (by rw [f2'.fld (by decide), f1.fld (by decide)]; exact h26) ?_ v2 p2 (fun _ => ⟨rfl, rfl⟩) (fun G hG M' a1 a2 a3 a4 => hq G hG M' a1 a2 a3 (fa.trans (a4.w (by decide)))) (fun hG M' a1 a4 => hd hG M' a1 (fa.trans (a4.w (by decide))))
  rw [if_neg (by decide)]
  exact ⟨by rw [f2'.fld (by decide), q1, i_is]; rfl, by show 0 ≤ 240; omega, fun k hk => absurd hk (Nat.not_lt_zero k), fun x hx => absurd hx List.not_mem_nil⟩
/-- how many commands, and where they end -/
theorem m_count {v1 v2 : Int32} (h : mS M m) (k : tkX M m T) (n : Nat) : ∀ (b K c jn rd it : Nat) (ws : Bool), T.length - b ≤ n → b ≤ T.length → K ≤ b → (b < T.length → (tkD T b).1 < 6) → enc s cs is ps (T.drop b) 2 jn rd ws c it →
    (∀ e b' jn' rd' it' ws', b ≤ b' → b' ≤ T.length → K + e ≤ b' → (b' < T.length → (tkD T b').1 < 6 ∧ ¬ (tkD T b').1 = 3) → enc s cs is ps (T.drop b') 2 jn' rd' ws' (c + e) it' → (∀ j, j < e → pip cs (c + j) = true) → pip cs (c + e) = false → mX E 187 2 [some (.ref m), some (.int v1), some (.int v2), some (.int (I ((K + e : Nat) : Int))), some (.int (I b'))] [] M Q) →
    mX E 187 1 [some (.ref m), some (.int v1), some (.int v2), some (.int (I K)), some (.int (I b))] [] M Q := by
  have kl := k.2.1
  induction n with
  | zero =>
    intro b K c jn rd it ws hn hb hK h6 he hq
    have en := enc_nil (by omega) he
    refine w187_1 ⟨h.k0, fun _ => hq 0 b jn rd it ws (Nat.le_refl _) hb hK (fun z => by omega) he (fun j hj => by omega) (pip_out (by omega)), fun z => ?_⟩
    rw [k.1, I_le (by omega) (by omega) (by omega) (by omega)] at z; omega
  | succ n ih =>
    intro b K c jn rd it ws hn hb hK h6 he hq
    by_cases lt : b < T.length
    · obtain ⟨k1, -, -, k4, -⟩ := k.2.2 b lt
      have d : tkD T b = T.getD b (0, 0, 0) := rfl
      rw [← d] at k1 k4
      refine w187_1 ⟨h.k0, fun z => ?_, fun _ => ⟨h.n5, by rw [h.f5]; exact h.k2, by rw [h.f5, h.l2]; exact I_in (by omega) (by omega) (by omega), ?_⟩⟩
      · rw [k.1, I_le (by omega) (by omega) (by omega) (by omega)] at z; omega
      · rw [h.f5, I_ntn (by omega), k1]
        refine ⟨fun z => ?_, fun z => ?_⟩
        · rw [I_eq (by omega) (by omega) (by omega) (by omega)] at z
          refine hq 0 b jn rd it ws (Nat.le_refl _) hb hK (fun z2 => ⟨h6 z2, by omega⟩) he (fun j hj => by omega) ?_
          rw [Nat.add_zero]
          have no : ∀ aw jn', aw ≤ 1 → ¬ jn' = 3 → enc s cs is ps (T.drop (b + 1)) aw jn' rd ws c it → pip cs c = false := by
            intro aw jn' a1 a3 e
            rcases enc_jn (by omega) a1 e with ⟨x1, x2⟩ | ⟨x1, -⟩
            · cases g : pip cs c with
              | false => rfl
              | true => rw [pip_3, x2] at g; exact absurd g a3
            · exact pip_out (by omega)
          rcases enc_sep lt (h6 lt) he with ⟨-, e⟩ | ⟨x, e⟩
          · exact no 0 0 (by omega) (by omega) e
          · exact no 1 _ (by omega) (by omega) e
        · rw [I_eq (by omega) (by omega) (by omega) (by omega)] at z
          have k3 : (tkD T b).1 = 3 := by omega
          rcases enc_sep lt (h6 lt) he with ⟨x, -⟩ | ⟨-, e⟩
          · omega
          · rw [k3] at e
            rw [I_add, show (b : Int) + 1 = ((b + 1 : Nat) : Int) by omega]
            refine m_skipN h k (by omega) (fun q q1 q2 q3 q4 => ⟨h.k0, ?_⟩)
            have q2' := q2 (by omega)
            have e2 := enc_nl _ (b + 1) q _ _ _ _ _ _ rfl q1 q2' q3 (by omega) e
            have ql : q < T.length := by
              by_cases y : q < T.length
              · exact y
              · have := (enc_nil (by omega) e2).1; omega
            obtain ⟨c1, c2, c3, b2, rd2, ws2, d1, d2, d3, d4, -, d6⟩ := enc_cmd ql (by omega) (q4 ql) e2
            refine m_cmdEnd h k d2 d3 d4 (by omega) ?_
            rw [I_add, show (K : Int) + 1 = ((K + 1 : Nat) : Int) by omega]
            have p0 : pip cs c = true := pip_3.mpr c2
            refine ih b2 (K + 1) (c + 1) _ _ _ _ (by omega) d2 (by omega) d4 d6 (fun e b' jn' rd' it' ws' g1 g2 g3 g4 g5 g6 g7 => ?_)
            have := hq (e + 1) b' jn' rd' it' ws' (by omega) g2 (by omega) g4 (by rw [show c + (e + 1) = c + 1 + e by omega]; exact g5) (fun j hj => ?_) (by rw [show c + (e + 1) = c + 1 + e by omega]; exact g7)
            · rw [show K + (e + 1) = K + 1 + e by omega] at this; exact this
            · by_cases j0 : j = 0
              · rw [j0, Nat.add_zero]; exact p0
              · rw [show c + j = c + 1 + (j - 1) by omega]; exact g6 (j - 1) (by omega)
    · have en := enc_nil (by omega) he
      refine w187_1 ⟨h.k0, fun _ => hq 0 b jn rd it ws (Nat.le_refl _) hb hK (fun z => by omega) he (fun j hj => by omega) (pip_out (by omega)), fun z => ?_⟩
      rw [k.1, I_le (by omega) (by omega) (by omega) (by omega)] at z; omega
theorem m_pipeline {c t aw jn rd it : Nat} {ws : Bool} {g : gS} (ht : t < T.length) (ha : aw ≤ 1) (h5 : ¬ (tkD T t).1 = 5) (he : enc s cs is ps (T.drop t) aw jn rd ws c it) (hg : g.2.1.2.1 = false) (hp0 : pip cs c = false) (w : mP M m s T g) (ok : okP g) (h26 : mi M m 26 = I 0)
    (hq : ∀ K b jn' rd' it' ws' G, t < b → b ≤ T.length → (b < T.length → (tkD T b).1 < 6 ∧ ¬ (tkD T b).1 = 3) → enc s cs is ps (T.drop b) 2 jn' rd' ws' (c + K) it' → pip cs (c + K) = false → cmds s ps is cs K c g = some G → ∀ M', mP M' m s T G → okP G → mi M' m 26 = I (bI G.2.1.2.1) → fm m sQ M M' → Q (.inl (some (.int (I b)))) M')
    (hd : ∀ K b, t < b → b ≤ T.length → c + K ≤ cs.length → cmds s ps is cs K c g = none → ∀ M', mi M' m 25 = I 1 → fm m sQ M M' → Q (.inl (some (.int (I b)))) M') : mC E 187 [.ref m, .int (I t), .int (I (bI (dueS jn g.1.2.2.2.1)))] M Q := by
  have h := w.1.1
  have k := w.1.2.2.1
  have kl := k.2.1
  obtain ⟨c1, c2, c3, b0, rd2, ws2, d1, d2, d3, d4, -, d6⟩ := enc_cmd ht ha h5 he
  refine w187_0 ⟨h.k0, m_cmdEnd h k d2 d3 d4 (by omega) (m_count h k _ b0 1 (c + 1) _ _ _ _ (Nat.le_refl _) d2 (by omega) d4 d6 (fun e b jn' rd' it' ws' g1 g2 g3 g4 g5 g6 g7 => ?_))⟩
  rw [show c + 1 + e = c + (1 + e) by omega] at g5 g7
  have hpn : ∀ j, 1 ≤ j → j < 1 + e → pip cs (c + j) = true := fun j j1 j2 => by
    rw [show c + j = c + 1 + (j - 1) by omega]; exact g6 (j - 1) (by omega)
  have cl : c + (1 + e) ≤ cs.length := by
    by_cases e0 : e = 0
    · omega
    · have := hpn e (by omega) (by omega)
      by_cases y : c + e < cs.length
      · omega
      · rw [pip_out (by omega)] at this; cases this
  have j3 : ¬ jn = 3 := fun z => by
    have : pip cs c = true := pip_3.mpr (c2.trans z)
    rw [hp0] at this; cases this
  cases hdue : dueS jn g.1.2.2.2.1 with
  | false =>
    have first : cmd1 s ps is cs c g = some (g.1, (false, false, 0), g.2.2) := by
      unfold cmd1
      rw [hp0, if_neg (by decide), if_neg (by decide), c2, hdue]
      unfold cmdX
      rw [hg]; rfl
    obtain ⟨G, e1, e2, e3⟩ := cmds_no (s := s) (ps := ps) (is := is) (cs := cs) e (c + 1) (g.1, (false, false, 0), g.2.2) rfl rfl (fun j hj => g6 j hj)
    have all : cmds s ps is cs (1 + e) c g = some G := by
      rw [Nat.add_comm]
      conv => lhs; unfold cmds
      rw [first]; exact e1
    have res := hq (1 + e) b jn' rd' it' ws' G (by omega) g2 g4 g5 g7 all M (by unfold mP; rw [e2]; exact w) (by unfold okP; rw [e2]; exact ok) (by rw [e3]; exact h26) (fm.refl _ _ _)
    exact w187_2 ⟨fun _ => w187_3 ⟨fun _ => res, fun z => absurd rfl z⟩, fun z => absurd rfl z⟩
  | true =>
    have hc : cmd1 s ps is cs c g = cmdX s ps is cs c g true 0 := by
      unfold cmd1
      rw [hp0, if_neg (by decide), if_neg (by decide), c2, hdue]
    refine w187_2 ⟨fun z => absurd z (by decide), fun _ => ⟨fun z => w187_3 ⟨fun z => absurd z (by decide), fun _ => ⟨h.k0, ?_⟩⟩, fun z => ⟨h.k0, fun M3 q3 => ?_⟩⟩⟩
    · rw [I_le (by omega) (by omega) (by omega) (by omega)] at z
      exact m_runPipe (K := 1 + e) (by omega) (by omega) ht ha h5 he hc hg hp0 hpn g7 w ok h26 (fun G hG M' a1 a2 a3 a4 => hq (1 + e) b jn' rd' it' ws' G (by omega) g2 g4 g5 g7 hG M' a1 a2 a3 a4) (fun hG M' a1 a4 => hd (1 + e) b (by omega) g2 cl hG M' a1 a4)
    · rw [I_le (by omega) (by omega) (by omega) (by omega)] at z
      refine hd (1 + e) b (by omega) g2 cl ?_ M3 (by rw [q3, i_is]) (fm_o q3 (by decide))
      rw [Nat.add_comm]
      conv => lhs; unfold cmds
      rw [hc]
      unfold cmdX
      rw [hg, if_pos (show (true && !false) = true from rfl), if_pos (by omega)]
      have p1 := g6 0 (by omega)
      rw [Nat.add_zero] at p1
      have al : alo cs c = false := by unfold alo; rw [p1]; simp
      cases rcS s ps is (cs.getD c []) g.1.1 g.1.2.1 g.1.2.2.1 g.1.2.2.2.1 (if 0 < 0 then g.2.2 else []) with
      | none => rfl
      | some r =>
        show Option.bind (if pip cs (c + 1) = true then _ else _) _ = none
        rw [if_pos p1]
        refine cmds_6 e (c + 1) 1 _ ?_ (by omega) (by omega) (by omega) (fun j hj => g6 j hj)
        show (true, r.2.2 && alo cs c, 0 + 1) = (true, false, 1)
        rw [al, Bool.and_false]
end MRUN
