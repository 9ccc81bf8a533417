/-! WHAT A COMMAND LEAVES IS PLAIN, its status at most 255 -/
theorem okN_of {es : eL} (h : okE es) : okN es := fun e he => (h e he).1
theorem okL_nil : okL [] := fun t ht => absurd ht List.not_mem_nil
theorem okL_snoc {fs : List (List Nat)} {u : List Nat} (h : okL fs) (hu : ok1 u) : okL (fs ++ [u]) := by
  intro t ht
  rcases List.mem_append.mp ht with q | q
  · exact h t q
  · rw [List.mem_singleton.mp q]; exact hu
theorem glL_ok {u : List Nat} : ∀ (es : eL) (fs : List (List Nat)) (f : Bool) (x : List (List Nat) × Bool), okN es → okL fs → glL u es fs f = some x → okL x.1
  | [], fs, f, x, hn, h, e => by unfold glL at e; cases e; exact h
  | y :: es, fs, f, x, hn, h, e => by
    have hn' : okN es := fun z hz => hn z (List.mem_cons_of_mem _ hz)
    unfold glL at e
    split at e
    · split at e
      · exact glL_ok es _ _ x hn' (okL_snoc h (hn y List.mem_cons_self)) e
      · cases e
    · exact glL_ok es _ _ x hn' h e
theorem addF_ok {fl : eL} {u : List Nat} {fs fs' : List (List Nat)} (hn : okN fl) (hu : ok2 u) (h : okL fs) (e : addF fl u fs = some fs') : okL fs' := by
  unfold addF at e
  have key : ∀ x : List (List Nat) × Bool, okL x.1 → (if x.2 = true then some x.1 else if x.1.length < 16 then some (x.1 ++ [u.map unm]) else none) = some fs' → okL fs' := by
    intro x hx ex
    split at ex
    · cases ex; exact hx
    · split at ex
      · cases ex; exact okL_snoc hx (ok1_unm hu)
      · cases ex
  split at e
  · cases g : glL u fl fs false with
    | none => rw [g] at e; cases e
    | some x => rw [g] at e; exact key x (glL_ok fl fs false x hn h g) e
  · exact key (fs, false) h e
theorem adFs_ok {fl : eL} (hn : okN fl) : ∀ (us fs fs' : List (List Nat)), (∀ t ∈ us, ok2 t) → okL fs → adFs fl us fs = some fs' → okL fs'
  | [], fs, fs', _, h, e => by unfold adFs at e; cases e; exact h
  | u :: us, fs, fs', hu, h, e => by
    unfold adFs at e
    cases g : addF fl u fs with
    | none => rw [g] at e; cases e
    | some f1 =>
      rw [g] at e
      exact adFs_ok hn us f1 fs' (fun t ht => hu t (List.mem_cons_of_mem _ ht)) (addF_ok hn (hu u List.mem_cons_self) h g) e
theorem exWs_ok {s : List Nat} {vs : eL} {po : List (List Nat)} {stt : Nat} {ps is : List (List Nat)} (hs : ok1 s) (hv : okE vs) (hp : okL po) : ∀ (n it : Nat) (ts : List (List Nat)) (sp : List Nat) (x : List (List Nat) × List Nat), (∀ t ∈ ts, ok2 t) → ok2 sp → exWs s vs po stt ps is n it ts sp = some x → ∀ t ∈ x.1, ok2 t
  | 0, it, ts, sp, x, h1, h2, e => by unfold exWs at e; cases e; exact h1
  | n + 1, it, ts, sp, x, h1, h2, e => by
    unfold exWs at e
    split at e
    · cases g : exI s vs po stt true ps (is.getD it []) ts sp with
      | none => rw [g] at e; cases e
      | some y =>
        rw [g] at e
        simp only [Option.bind_some] at e
        have oky : okS y := by
          unfold exI at g
          exact exN_ok hs hv hp _ _ _ _ ⟨h1, h2⟩ g
        cases g2 : tk y.1 y.2.1 y.2.2 with
        | none => rw [g2] at e; cases e
        | some z =>
          rw [g2] at e
          have okz := tk_ok oky.1 oky.2 g2
          exact exWs_ok hs hv hp n (it + 1) z.1 z.2 x okz.1 okz.2 e
    · exact exWs_ok hs hv hp n (it + 1) ts sp x h1 h2 e
theorem exF_ok {s : List Nat} {vs fl : eL} {po : List (List Nat)} {stt : Nat} {ps is : List (List Nat)} {cm : List Nat} {fs : List (List Nat)} (hs : ok1 s) (hv : okE vs) (hp : okL po) (hn : okN fl) (e : exF s vs po stt ps is fl cm = some fs) : okL fs := by
  unfold exF at e
  cases g : exWs s vs po stt ps is (cm.getD 2 0 - cm.getD 1 0) (cm.getD 1 0) [] [] with
  | none => rw [g] at e; cases e
  | some x =>
    rw [g] at e
    exact adFs_ok hn x.1 [] fs (exWs_ok hs hv hp _ _ _ _ x (fun t ht => absurd ht List.not_mem_nil) (fun t ht => absurd ht List.not_mem_nil) g) okL_nil e
theorem okN_ins {es : eL} {u tx : List Nat} (h : okN es) (hu : ok1 u) : okN (insT es u tx) := by
  intro e he
  unfold insT at he
  rcases List.mem_append.mp he with q | q
  · exact h e (List.mem_of_mem_take q)
  · rcases List.mem_cons.mp q with q | q
    · rw [q]; exact hu
    · exact h e (List.mem_of_mem_drop q)
theorem okN_opT {n cn : Nat} {es es' : eL} {u : List Nat} (h : okN es) (hu : ok1 u) (e : opT n cn es u = some es') : okN es' := by
  unfold opT at e
  split at e
  · cases e; exact h
  · split at e
    · cases e; exact okN_ins h hu
    · cases e
theorem okN_stT {es : eL} {k : Nat} {u : List Nat} (h : okN es) : okN (stT es k u) := by
  intro e he
  unfold stT at he
  rcases List.mem_or_eq_of_mem_set he with q | q
  · exact h e q
  · rw [q]
    show ok1 (es.getD k ([], [])).1
    rw [List.getD_eq_getElem?_getD]
    cases z : es[k]? with
    | none => intro c hc; simp at hc
    | some x => exact h x (List.mem_of_getElem? z)
theorem okN_del {es : eL} {k : Int} (h : okN es) : okN (delT es k) := by
  unfold delT; split
  · exact fun e he => h e (List.mem_of_mem_eraseIdx he)
  · exact h
theorem okE_del {es : eL} {k : Int} (h : okE es) : okE (delT es k) := by
  unfold delT; split
  · exact fun e he => h e (List.mem_of_mem_eraseIdx he)
  · exact h
theorem rdL_ok {s : List Nat} {vs : eL} {po : List (List Nat)} {stt : Nat} {ps is : List (List Nat)} (hs : ok1 s) (hv : okE vs) (hp : okL po) : ∀ (n it : Nat) (fl : eL) (i o : List Nat) (r : Bool × eL × List Nat × List Nat), okN fl → rdL s vs po stt ps is n it fl i o = some r → okN r.2.1
  | 0, it, fl, i, o, r, h, e => by unfold rdL at e; cases e; exact h
  | n + 1, it, fl, i, o, r, h, e => by
    unfold rdL at e
    split at e
    · exact rdL_ok hs hv hp n (it + 1) fl i o r h e
    · cases g : exW s vs po stt ps (is.getD it []) with
      | none => rw [g] at e; cases e
      | some u =>
        rw [g] at e
        simp only [Option.bind_some] at e
        have oku := exW_ok hs hv hp g
        split at e
        · cases e
        · split at e
          · cases e; exact h
          · split at e
            · exact rdL_ok hs hv hp n (it + 1) fl u o r h e
            · cases g2 : opT 8 8 fl u with
              | none => rw [g2] at e; cases e
              | some f1 =>
                rw [g2] at e
                simp only [Option.bind_some] at e
                refine rdL_ok hs hv hp n (it + 1) _ i u r ?_ e
                split
                · exact okN_stT (okN_opT h oku g2)
                · exact okN_opT h oku g2
theorem asL_ok {s : List Nat} {po : List (List Nat)} {stt : Nat} {ps is : List (List Nat)} {e0 : Bool} (hs : ok1 s) (hp : okL po) : ∀ (n it : Nat) (vs v' : eL), okE vs → asL s po stt ps is e0 n it vs = some v' → okE v'
  | 0, it, vs, v', h, e => by unfold asL at e; cases e; exact h
  | n + 1, it, vs, v', h, e => by
    unfold asL at e
    split at e
    · cases g : exW s vs po stt ps (is.getD it []) with
      | none => rw [g] at e; cases e
      | some u =>
        rw [g] at e
        simp only [Option.bind_some] at e
        have oku := exW_ok hs h hp g
        split at e
        · cases g2 : opT 8 6 vs (seg s ((is.getD it []).getD 3 0) ((is.getD it []).getD 4 0)) with
          | none => rw [g2] at e; cases e
          | some v1 =>
            rw [g2] at e
            exact asL_ok hs hp n (it + 1) _ v' (okE_stT (okE_opT h (ok1_seg hs) g2) oku) e
        · exact asL_ok hs hp n (it + 1) vs v' h e
    · exact asL_ok hs hp n (it + 1) vs v' h e
theorem unL_ok {fs : List (List Nat)} : ∀ (n i : Nat) (vs : eL), okE vs → okE (unL fs n i vs)
  | 0, i, vs, h => h
  | n + 1, i, vs, h => by unfold unL; exact unL_ok n (i + 1) _ (okE_del h)
theorem rmL_ok {fs : List (List Nat)} : ∀ (n i : Nat) (fl : eL) (st : Nat), okN fl → st ≤ 1 → okN (rmL fs n i fl st).1 ∧ (rmL fs n i fl st).2 ≤ 1
  | 0, i, fl, st, h, h1 => ⟨h, h1⟩
  | n + 1, i, fl, st, h, h1 => by
    unfold rmL; exact rmL_ok n (i + 1) _ _ (okN_del h) (by split <;> omega)
theorem ctS_le {fl : eL} {fs : List (List Nat)} : ∀ (n i st : Nat), st ≤ 1 → ctS fl fs n i st ≤ 1
  | 0, i, st, h => h
  | n + 1, i, st, h => by unfold ctS; exact ctS_le n (i + 1) _ (by split <;> omega)
theorem grS_le {u p : List Nat} : ∀ (rs : List (List Nat)) (st : Nat), st ≤ 1 → grS u p rs st ≤ 1
  | [], st, h => h
  | r :: rs, st, h => by unfold grS; exact grS_le rs _ (by split <;> omega)
theorem lim_eq {r r' : uR} (h : lim r = some r') : r' = r := by
  unfold lim at h; split at h
  · cases h; rfl
  · cases h
def okU (r : uR) : Prop := okE r.2.1.1 ∧ okL r.2.1.2.1 ∧ okN r.2.1.2.2 ∧ r.1.1 ≤ 255
theorem ut_ok {fs : List (List Nat)} {inp : List Nat} {vs fl : eL} {po : List (List Nat)} {stt : Nat} {r : uR} (hf : okL fs) (hv : okE vs) (hp : okL po) (hn : okN fl) (hst : stt ≤ 255) (e : ut fs inp vs po fl stt = some r) : okU r := by
  unfold ut at e
  split at e
  · cases e; exact ⟨hv, hp, hn, by show 2 ≤ 255; omega⟩
  · have z : ∀ k o, k ≤ 255 → okU ((k, o), (vs, po, fl), false) := fun k o hk => ⟨hv, hp, hn, hk⟩
    split at e
    · rw [lim_eq e]; exact z _ _ (by omega)
    · rw [lim_eq e]; exact z _ _ (by have := ctS_le (fl := fl) (fs := fs) (fs.length - 1) 1 0 (by omega); omega)
    · cases e; exact z _ _ (by omega)
    · cases e; exact z _ _ (by omega)
    · split at e
      · cases e; exact ⟨hv, fun t ht => hf t (List.mem_of_mem_drop ht), hn, by show 0 ≤ 255; omega⟩
      · cases e
    · cases e; exact ⟨unL_ok _ _ _ hv, hp, hn, by show 0 ≤ 255; omega⟩
    · cases e
      have := rmL_ok (fs := fs) (fs.length - 1) 1 fl 0 hn (by omega)
      exact ⟨hv, hp, this.1, Nat.le_trans this.2 (by omega)⟩
    · rw [lim_eq e]; exact z _ _ (by omega)
    · rw [lim_eq e]; exact z _ _ (by unfold hdS; split <;> omega)
    · rw [lim_eq e]; exact z _ _ (by omega)
    · rw [lim_eq e]; exact z _ _ (by omega)
    · rw [lim_eq e]; exact z _ _ (by omega)
    · rw [lim_eq e]; exact z _ _ (by have := grS_le (u := inp) (p := fs.getD 1 []) (lnL inp 240 0) 1 (by omega); omega)
    · rw [lim_eq e]; exact z _ _ (by unfold trS; split <;> omega)
    · cases e
      refine z _ _ ?_
      unfold tsS
      split
      · split <;> omega
      · split
        · split <;> omega
        · split
          · split <;> omega
          · split
            · split <;> omega
            · omega
    · split at e
      · cases e; exact z _ _ (by omega)
      · cases e
        exact ⟨hv, hp, hn, by show (exV fs stt).toNat ≤ 255; omega⟩
    · cases e; exact z _ _ (by omega)
theorem snF_ok {fl f2 : eL} {nm o : List Nat} (h : okN fl) (e : snF fl nm o = some f2) : okN f2 := by
  unfold snF at e
  split at e
  · split at e
    · cases e; exact okN_stT h
    · cases e
  · cases e; exact h
theorem rcS_ok {s : List Nat} {ps is : List (List Nat)} {cm : List Nat} {vs fl : eL} {po : List (List Nat)} {stt : Nat} {inp : List Nat} {r : uR} (hs : ok1 s) (hv : okE vs) (hp : okL po) (hn : okN fl) (hst : stt ≤ 255) (e : rcS s ps is cm vs po fl stt inp = some r) : okU r := by
  unfold rcS at e
  cases g1 : exF s vs po stt ps is fl cm with
  | none => rw [g1] at e; cases e
  | some fs =>
    rw [g1] at e
    simp only [Option.bind_some] at e
    have okf := exF_ok hs hv hp hn g1
    cases g2 : rdL s vs po stt ps is (cm.getD 2 0 - cm.getD 1 0) (cm.getD 1 0) fl [] [] with
    | none => rw [g2] at e; cases e
    | some q =>
      rw [g2] at e
      simp only [Option.bind_some] at e
      have okq := rdL_ok hs hv hp _ _ _ _ _ _ hn g2
      split at e
      · cases g3 : asL s po stt ps is (fs.isEmpty) (cm.getD 2 0 - cm.getD 1 0) (cm.getD 1 0) vs with
        | none => rw [g3] at e; cases e
        | some v1 =>
          rw [g3] at e
          simp only [Option.bind_some] at e
          have okv := asL_ok hs hp _ _ _ _ hv g3
          split at e
          · cases e; exact ⟨okv, hp, okq, by show 0 ≤ 255; omega⟩
          · cases g4 : ut fs (if q.2.2.1 = [] then inp else txL q.2.1 (fdT q.2.1 q.2.2.1 0)) v1 po q.2.1 stt with
            | none => rw [g4] at e; cases e
            | some u =>
              rw [g4] at e
              simp only [Option.bind_some] at e
              have oku := ut_ok okf okv hp okq hst g4
              split at e
              · cases e; exact oku
              · cases g5 : snF u.2.1.2.2 q.2.2.2 u.1.2 with
                | none => rw [g5] at e; cases e
                | some f2 =>
                  rw [g5] at e
                  cases e
                  exact ⟨oku.1, oku.2.1, snF_ok oku.2.2.1 g5, oku.2.2.2⟩
      · cases e; exact ⟨hv, hp, okq, by show 1 ≤ 255; omega⟩
/-- what holds from command to command -/
def okG (g : gS) : Prop := okE g.1.1 ∧ okL g.1.2.1 ∧ okN g.1.2.2.1 ∧ g.1.2.2.2.1 ≤ 255
theorem cmdX_ok {s : List Nat} {ps is cs : List (List Nat)} {c : Nat} {g g' : gS} {due : Bool} {inP : Nat} (hs : ok1 s) (h : okG g) (e : cmdX s ps is cs c g due inP = some g') : okG g' := by
  unfold cmdX at e
  split at e
  · split at e
    · generalize (if 0 < inP then g.2.2 else []) = inp at e
      cases g1 : rcS s ps is (cs.getD c []) g.1.1 g.1.2.1 g.1.2.2.1 g.1.2.2.2.1 inp with
      | none => rw [g1] at e; cases e
      | some r =>
        rw [g1] at e
        simp only [Option.bind_some] at e
        have okr := rcS_ok hs h.1 h.2.1 h.2.2.1 h.2.2.2 g1
        have a1 : okE (if alo cs c = true then r.2.1.1 else g.1.1) := by split; exact okr.1; exact h.1
        have a2 : okL (if alo cs c = true then r.2.1.2.1 else g.1.2.1) := by split; exact okr.2.1; exact h.2.1
        split at e
        · cases e; exact ⟨a1, a2, okr.2.2.1, h.2.2.2⟩
        · split at e
          · cases e; exact ⟨a1, a2, okr.2.2.1, okr.2.2.2⟩
          · cases e
    · cases e
  · cases e; exact h
theorem cmd1_ok {s : List Nat} {ps is cs : List (List Nat)} {c : Nat} {g g' : gS} (hs : ok1 s) (h : okG g) (e : cmd1 s ps is cs c g = some g') : okG g' := cmdX_ok hs h e
