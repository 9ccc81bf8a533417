/-! THE REFERENCE: a command's assignments -/
section MASG
variable {E : mE} {M M' : mM} {Q : mQ} {m : Nat} {s : List Nat} {T : List tkn} {vs fl : eL} {po : List (List Nat)} {stt : Nat} {F : List (List Nat)} {is ps : List (List Nat)} {S : List Nat}
theorem m_asgn {sp : List Nat} {p n : Nat} (h : mS M m) (t : mdT M m s) (k : mkX M m sp) (v : vrX M m 1 vs) (hp : p + n ≤ s.length)
    (hq : ∀ v1, opT 8 6 vs (seg s p (p + n)) = some v1 → ∀ M', vrX M' m 1 (stT v1 (fdT v1 (seg s p (p + n)) 0).toNat (sp.map unm)) → fm m [11] M M' → Q (.inl none) M')
    (hd : opT 8 6 vs (seg s p (p + n)) = none → ∀ M', mi M' m 25 = I 1 → fm m [125] M M' → Q (.inl none) M') : mC E 139 [.ref m, .int (I p), .int (I n)] M Q := by
  have hl := v.2.1
  have hs := t.2.1
  have sl : (seg s p (p + n)).length = n := by rw [seg_len]; omega
  have n1 : nt (I 1) = 1 := by decide
  have fr := fdT_r vs (seg s p (p + n)) 0
  unfold opT at hq hd
  refine w139_0 ⟨h.k0, m_findV h v t hp ⟨fun c => ?_, fun c => ⟨fun q => ⟨h.k0, fun M1 q1 => ?_⟩, fun q => ⟨h.k0, h.n9, by rw [h.f9]; exact h.k5, by rw [h.f9, h.l5]; exact I_in (by omega) (by omega) (by omega), fun q2 => ?_, fun q2 M1 q1 => ?_⟩⟩⟩⟩
  · rw [I_le (by omega) (by omega) (by omega) (by omega)] at c
    have hv := hq vs (by rw [if_pos c])
    show mX E 139 8 _ [] M Q
    rw [show fdT vs (seg s p (p + n)) 0 = (((fdT vs (seg s p (p + n)) 0).toNat : Nat) : Int) by omega]
    have fi : (fdT vs (seg s p (p + n)) 0).toNat < vs.length := by omega
    exact m_val h k ⟨v.1, hl, fi, fun j hj _ => v.2.2 j hj, (v.2.2 _ fi).1⟩ (fun M' g1 g2 => hv M' g1 g2)
  · rw [I_le (by omega) (by omega) (by omega) (by omega)] at c
    rw [I_lt (by omega) (by omega) (by omega) (by omega)] at q
    rw [if_neg c, if_neg (by omega)] at hd
    exact hd rfl M1 (by rw [q1, i_is]) (fm_o q1 (by decide))
  · rw [I_le (by omega) (by omega) (by omega) (by omega)] at c
    rw [I_lt (by omega) (by omega) (by omega) (by omega)] at q
    rw [h.f9, n1, v.1, I_eq (by omega) (by omega) (by omega) (by omega)] at q2
    rw [if_neg c, if_pos (by omega)] at hq
    have hv := hq _ rfl
    rw [h.f9, n1, v.1]
    unfold insT at hv
    have at' := fdT_at vs (seg s p (p + n)) [] (slT vs (seg s p (p + n)) vs.length) (slT_le _ _ _) 0 (by omega)
    rw [at'] at hv
    exact m_asg3 t.2.2.2 hp (by omega) vs.length M h t k (v.hole (by omega)) (fun M' g1 g2 => hv M' (by simpa using g1) g2)
  · rw [I_le (by omega) (by omega) (by omega) (by omega)] at c
    rw [I_lt (by omega) (by omega) (by omega) (by omega)] at q
    rw [h.f9, n1, v.1, I_eq (by omega) (by omega) (by omega) (by omega)] at q2
    rw [if_neg c, if_neg (by omega)] at hd
    exact hd rfl M1 (by rw [q1, i_is]) (fm_o q1 (by decide))
/-- behind the first word nothing is assigned -/
theorem asL_tail {b it2 : Nat} {e0 : Bool} (n : Nat) : ∀ (t it : Nat), b - t ≤ n → t ≤ b → itI s T is ps (b - t) t 0 true it it2 → asL s po stt ps is e0 (it2 - it) it vs = some vs := by
  induction n with
  | zero =>
    intro t it hn ht hi
    rw [show b - t = 0 by omega] at hi
    unfold itI at hi
    rw [show it2 - it = 0 by omega]; rfl
  | succ n ih =>
    intro t it hn ht hi
    by_cases hb : t = b
    · rw [show b - t = 0 by omega] at hi
      unfold itI at hi
      rw [show it2 - it = 0 by omega]; rfl
    have st : ∀ it', it' = it + 1 → it' ≤ it2 → ¬ (is.getD it []).getD 0 0 = 1 → asL s po stt ps is e0 (it2 - it) it vs = asL s po stt ps is e0 (it2 - it') it' vs := by
      intro it' e le k
      subst e
      rw [show it2 - it = (it2 - (it + 1)) + 1 by omega]
      conv => lhs; unfold asL
      rw [if_neg k]
    by_cases k9 : (tkD T t).1 = 9
    · obtain ⟨wd, rest⟩ := itI_wd (by omega) hi k9
      rw [wKd_as, if_neg (fun z => absurd z.1 (by decide))] at wd rest
      obtain ⟨e, R, -, -, -, e4, -⟩ := wdI_p wd
      rw [st (it + 1) rfl (itI_le _ _ _ _ _ _ rest) (by omega)]
      exact ih (t + 1) (it + 1) (by omega) (by omega) rest
    · obtain ⟨r1, r2, r3, wd, rest⟩ := itI_red (by omega) hi k9
      obtain ⟨e, R, -, -, -, e4, -⟩ := wdI_p wd
      rw [st (it + 1) rfl (itI_le _ _ _ _ _ _ rest) (by omega)]
      exact ih (t + 2) (it + 1) (by omega) (by omega) rest
abbrev sA : List Nat := [11, 131, 108, 60, 61, 125, 127, 130, 133]
abbrev nP : List Nat := [1, 102, 2, 104, 21, 31, 41]
theorem mW.mvv {vs' : eL} (h : mW M m s T vs po fl stt) (f : fm m S M M') (n : nP.all (fun x => !S.contains x) = true) (v : vrX M' m 1 vs') : mW M' m s T vs' po fl stt := by
  obtain ⟨h1, h2, h3, h4, h5, h6, h7⟩ := h
  simp only [nP, List.all_cons, List.all_nil, Bool.and_true, Bool.and_eq_true, Bool.not_eq_true'] at n
  obtain ⟨n1, n2, n3, n4, n6, n7, n8⟩ := n
  exact ⟨h1.mv f.1, h2.mv f n1 n2, h3.mv f n3 n4, v, h5.mv f n6, h6.mv f n7, by rw [f.2.2 18 1 (by omega) n8]; exact h7⟩
theorem m_asgs_l {v1 : Int32} {b it2 : Nat} {e0 : Bool} (hb : b ≤ T.length) (n : Nat) : ∀ (t it : Nat) (vs : eL) (M : mM) (d6 : Option Value), okW vs po fl stt → b - t ≤ n → t ≤ b → itI s T is ps (b - t) t 0 false it it2 → mW M m s T vs po fl stt → exB M m false F →
    (∀ v1, asL s po stt ps is e0 (it2 - it) it vs = some v1 → ∀ M', mW M' m s T v1 po fl stt → okW v1 po fl stt → exB M' m false F → fm m sA M M' → Q (.inl none) M') →
    (asL s po stt ps is e0 (it2 - it) it vs = none → ∀ M', mi M' m 25 = I 1 → fm m sA M M' → Q (.inl none) M') →
    mX E 160 1 [some (.ref m), some (.int v1), some (.int (I b)), some (.int (I (bI e0))), some (.int (I 1)), some (.int (I t)), d6] [] M Q := by
  have done : ∀ (t it : Nat) (vs : eL) (M : mM), t = b → itI s T is ps (b - t) t 0 false it it2 → asL s po stt ps is e0 (it2 - it) it vs = some vs := by
    intro t it vs M e hi
    rw [show b - t = 0 by omega] at hi
    unfold itI at hi
    rw [show it2 - it = 0 by omega]; rfl
  induction n with
  | zero =>
    intro t it vs M d6 ok hn ht hi w ex hq hd
    have kl := w.2.2.1.2.1
    refine w160_1 ⟨fun _ => hq vs (done t it vs M (by omega) hi) M w ok ex (fm.refl _ _ _), fun c => ?_⟩
    rw [I_le (by omega) (by omega) (by omega) (by omega)] at c; omega
  | succ n ih =>
    intro t it vs M d6 ok hn ht hi w ex hq hd
    have kl := w.2.2.1.2.1
    by_cases hb0 : t = b
    · refine w160_1 ⟨fun _ => hq vs (done t it vs M hb0 hi) M w ok ex (fm.refl _ _ _), fun c => ?_⟩
      rw [I_le (by omega) (by omega) (by omega) (by omega)] at c; omega
    have lt : t < b := by omega
    have h := w.1
    have k := w.2.2.1
    have tl := w.2.1.2.1
    obtain ⟨k1, k2, k3, k4, k5, -⟩ := k.2.2 t (by omega)
    have d : tkD T t = T.getD t (0, 0, 0) := rfl
    rw [← d] at k1 k2 k3 k4 k5
    have li : ∀ {a : Nat}, mln M a = 241 → vp_in (I t) (mln M a) := fun e => by rw [e]; exact I_in (by omega) (by omega) (by omega)
    refine w160_1 ⟨fun c => ?_, fun _ => ⟨fun z => absurd z (by decide), fun _ => ⟨h.k0, fun z => absurd ex.2.2 z, fun _ => ⟨h.n5, by rw [h.f5]; exact h.k2, by rw [h.f5]; exact li h.l2, ?_⟩⟩⟩⟩
    · rw [I_le (by omega) (by omega) (by omega) (by omega)] at c; omega
    · rw [h.f5, I_ntn (by omega), k1]
      refine ⟨fun c9 => ?_, fun c9 => ?_⟩
      · rw [I_eq (by omega) (by omega) (by omega) (by omega)] at c9
        have k9 : (tkD T t).1 = 9 := by omega
        obtain ⟨wd, rest⟩ := itI_wd lt hi k9
        have le := itI_le _ _ _ _ _ _ rest
        rw [wKd_as] at wd rest
        refine m_isAs h w.2.1 k (by omega) ⟨h.k0, h.n6, by rw [h.f6]; exact h.k3, by rw [h.f6]; exact li h.l3, ?_⟩
        rw [h.f6, k2]
        have nb := nE_bd s (tkD T t).2.1
        refine m_nameEnd h w.2.1 (by omega) ⟨fun c => ?_, fun c => ?_⟩
        · -- the first word
          have as0 : isAs s (tkD T t).2.1 = false := by
            cases g : isAs s (tkD T t).2.1 with
            | false => rfl
            | true => rw [g] at c; exact absurd c (by decide)
          rw [as0, if_neg (fun z => absurd z.2 (by decide))] at wd rest
          obtain ⟨e, R, -, -, -, e4, -⟩ := wdI_p wd
          have st : asL s po stt ps is e0 (it2 - it) it vs = some vs := by
            rw [show it2 - it = (it2 - (it + 1)) + 1 by omega]
            conv => lhs; unfold asL
            rw [if_neg (by omega)]
            exact asL_tail _ (t + 1) (it + 1) (Nat.le_refl _) (by omega) rest
          have fin := hq vs st M w ok ex (fm.refl _ _ _)
          rw [as0]
          exact w160_1 ⟨fun _ => fin, fun _ => ⟨fun _ => fin, fun z => absurd rfl z⟩⟩
        · have as1 : isAs s (tkD T t).2.1 = true := by
            cases g : isAs s (tkD T t).2.1 with
            | true => rfl
            | false => rw [g] at c; exact absurd rfl c
          rw [if_pos ⟨rfl, as1⟩] at wd rest
          obtain ⟨e, R, e1, e2, e3, e4, e7, e8, ⟨acc, e5⟩, e6⟩ := wdI_p wd
          rw [as1]
          have pa := of_decide_eq_true as1
          have nl : nE s (tkD T t).2.1 < s.length := by
            by_cases y : nE s (tkD T t).2.1 < s.length
            · exact y
            · have : s.getD (nE s (tkD T t).2.1) 0 = 0 := mdT.o (by omega)
              omega
          have st : asL s po stt ps is e0 (it2 - it) it vs = (exW s vs po stt ps (is.getD it [])).bind fun u => if e0 = true then ((opT 8 6 vs (seg s (tkD T t).2.1 (nE s (tkD T t).2.1))).bind fun v1 => asL s po stt ps is e0 (it2 - (it + 1)) (it + 1) (stT v1 (fdT v1 (seg s (tkD T t).2.1 (nE s (tkD T t).2.1)) 0).toNat u)) else asL s po stt ps is e0 (it2 - (it + 1)) (it + 1) vs := by
            rw [show it2 - it = (it2 - (it + 1)) + 1 by omega]
            conv => lhs; unfold asL
            rw [if_pos e4, e7, e8]
          rw [st] at hq hd
          refine ⟨h.k0, h.n7, by rw [h.f7]; exact h.k4, by rw [h.f7]; exact li h.l4, ?_⟩
          rw [h.f7, k3, e1, I_add]
          refine m_expand (k := nE s (tkD T t).2.1 + 1) w ok (by omega) e5 ex (fun M1 x1 f1 => ?_)
          have w1 := w.mv f1 (by decide)
          have h1 := w1.1
          have f1' : fm m sA M M1 := f1.w (by decide)
          have dead : ∀ (M2 : mM) (x : Int32) (d6 : Option Value), mS M2 m → mi M2 m 25 = I 1 → fm m sA M M2 → ((exW s vs po stt ps (is.getD it [])).bind fun u => if e0 = true then ((opT 8 6 vs (seg s (tkD T t).2.1 (nE s (tkD T t).2.1))).bind fun v1 => asL s po stt ps is e0 (it2 - (it + 1)) (it + 1) (stT v1 (fdT v1 (seg s (tkD T t).2.1 (nE s (tkD T t).2.1)) 0).toNat u)) else asL s po stt ps is e0 (it2 - (it + 1)) (it + 1) vs) = none → mX E 160 1 [some (.ref m), some (.int v1), some (.int (I b)), some (.int (I (bI e0))), some (.int (I 1)), some (.int x), d6] [] M2 Q := by
            intro M2 x d6 hs q25 f2 nn
            have fin := hd nn M2 q25 f2
            refine w160_1 ⟨fun _ => fin, fun _ => ⟨fun _ => fin, fun _ => ⟨hs.k0, fun _ => fin, fun z => ?_⟩⟩⟩
            rw [q25] at z; exact absurd z (by decide)
          rcases ex_same (fl := fl) (F := F) (vs := vs) (po := po) (stt := stt) e6 with ⟨g1, g2⟩ | ⟨sp, q', g1, g2⟩
          · rw [g2] at x1
            rw [g1] at dead
            refine ⟨fun _ => dead M1 _ _ h1 x1.1 f1' rfl, fun _ => ⟨h1.k0, fun _ => dead M1 _ _ h1 x1.1 f1' rfl, fun z => ?_⟩⟩
            rw [x1.1] at z; exact absurd z (by decide)
          · rw [g2] at x1
            rw [g1] at hq hd dead
            simp only [Option.bind_some] at hq hd dead
            have xb : exB M1 m false F := x1.B
            obtain ⟨xf, xm, -, x31, x25⟩ := x1
            have xf : fdX M1 m F := xf
            have xm : mkX M1 m sp := xm
            refine ⟨fun z => ?_, fun z => ⟨h1.k0, fun z2 => absurd x25 z2, fun _ => ⟨h1.n6, by rw [h1.f6]; exact h1.k3, by rw [h1.f6, h1.l3]; exact I_in (by omega) (by omega) (by omega), ?_⟩⟩⟩
            · have e0f : e0 = false := by
                cases e0 with
                | false => rfl
                | true => exact absurd z (by decide)
              rw [if_neg (by rw [e0f]; decide)] at hq hd
              rw [I_add]
              exact ih (t + 1) (it + 1) vs M1 _ ok (by omega) (by omega) rest w1 xb (fun v1 hv M' a1 a2 a3 a4 => hq v1 hv M' a1 a2 a3 (f1'.trans a4)) (fun hv M' a1 a4 => hd hv M' a1 (f1'.trans a4))
            · have e0t : e0 = true := by
                cases e0 with
                | true => rfl
                | false => exact absurd rfl z
              rw [if_pos e0t] at hq hd dead
              obtain ⟨-, k2', -⟩ := w1.2.2.1.2.2 t (by omega)
              rw [← d] at k2'
              rw [h1.f6, k2', I_sub, show ((nE s (tkD T t).2.1 : Nat) : Int) - ((tkD T t).2.1 : Nat) = ((nE s (tkD T t).2.1 - (tkD T t).2.1 : Nat) : Int) by omega]
              have pe : (tkD T t).2.1 + (nE s (tkD T t).2.1 - (tkD T t).2.1) = nE s (tkD T t).2.1 := by omega
              refine m_asgn h1 w1.2.1 xm w1.2.2.2.1 (by omega) (fun v1 hv M2 v2 f2 => ?_) (fun hv M2 d2 f2 => ?_)
              · rw [pe] at hv v2
                rw [hv] at hq hd
                simp only [Option.bind_some] at hq hd
                have f2' := f1'.trans (f2.w (S' := sA) (by decide))
                have so : ok1 s := w.2.1.2.2.2.ok1
                have okv : okE v1 := okE_opT ok.2.1 (ok1_seg so) hv
                have fd := opT_fd hv
                have fdr := fdT_r v1 (seg s (tkD T t).2.1 (nE s (tkD T t).2.1)) 0
                have ok2 : okW (stT v1 (fdT v1 (seg s (tkD T t).2.1 (nE s (tkD T t).2.1)) 0).toNat (sp.map unm)) po fl stt := ⟨ok.1, okE_stT okv xm.ok, ok.2.2.1, ok.2.2.2.1, (ok.2.2.2.2.1.op hv).st (by omega), ok.2.2.2.2.2⟩
                rw [I_add]
                exact ih (t + 1) (it + 1) _ M2 _ ok2 (by omega) (by omega) rest (w1.mvv f2 (by decide) v2) ⟨xb.1.mv f2 (by decide) (by decide), by rw [f2.fld (by decide)]; exact xb.2.1, by rw [f2.fld (by decide)]; exact xb.2.2⟩ (fun v1 hv M' a1 a2 a3 a4 => hq v1 hv M' a1 a2 a3 (f2'.trans a4)) (fun hv M' a1 a4 => hd hv M' a1 (f2'.trans a4))
              · rw [pe] at hv
                rw [hv] at dead
                exact dead M2 _ _ (h1.mv f2.1) d2 (f1'.trans (f2.w (by decide))) rfl
      · rw [I_eq (by omega) (by omega) (by omega) (by omega)] at c9
        obtain ⟨r1, r2, r3, r4, rest⟩ := itI_red lt hi (by omega)
        have le := itI_le _ _ _ _ _ _ rest
        obtain ⟨e, R, -, -, -, e4, -⟩ := wdI_p r4
        have st : asL s po stt ps is e0 (it2 - it) it vs = asL s po stt ps is e0 (it2 - (it + 1)) (it + 1) vs := by
          rw [show it2 - it = (it2 - (it + 1)) + 1 by omega]
          conv => lhs; unfold asL
          rw [if_neg (by omega)]
        rw [st] at hq hd
        rw [I_add, I_add]
        exact ih (t + 2) (it + 1) vs M _ ok (by omega) (by omega) rest w ex hq hd
theorem m_asgs {b t it it2 : Nat} {e0 : Bool} (w : mW M m s T vs po fl stt) (ok : okW vs po fl stt) (hb : b ≤ T.length) (ht : t ≤ b) (hi : itI s T is ps (b - t) t 0 false it it2) (hF : fdX M m F) (h25 : mi M m 25 = I 0)
    (hq : ∀ v1, asL s po stt ps is e0 (it2 - it) it vs = some v1 → ∀ M', mW M' m s T v1 po fl stt → okW v1 po fl stt → fdX M' m F → mi M' m 25 = I 0 → fm m sA M M' → Q (.inl none) M')
    (hd : asL s po stt ps is e0 (it2 - it) it vs = none → ∀ M', mi M' m 25 = I 1 → fm m sA M M' → Q (.inl none) M') : mC E 160 [.ref m, .int (I t), .int (I b), .int (I (bI e0))] M Q := by
  refine w160_0 ⟨w.1.k0, fun M1 q1 => ?_⟩
  have f1 : fm m [131] M M1 := fm_o q1 (by decide)
  have f1' : fm m sA M M1 := f1.w (by decide)
  exact m_asgs_l (F := F) hb _ t it vs M1 none ok (Nat.le_refl _) ht hi (w.mv f1 (by decide)) ⟨hF.mv f1 (by decide) (by decide), by rw [q1, i_is]; rfl, by rw [f1.fld (by decide)]; exact h25⟩ (fun v1 hv M' a1 a2 a3 a4 => hq v1 hv M' a1 a2 a3.1 a3.2.2 (f1'.trans a4)) (fun hv M' a1 a4 => hd hv M' a1 (f1'.trans a4))
end MASG
