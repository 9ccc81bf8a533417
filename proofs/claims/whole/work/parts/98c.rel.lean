/-! THE TWO EXPANSIONS GIVE THE SAME FIELDS -/
theorem adFs_sn (fl : eL) (u : List Nat) : ∀ (us fs : List (List Nat)), adFs fl (us ++ [u]) fs = (adFs fl us fs).bind (addF fl u)
  | [], fs => by
    show (addF fl u fs).bind (adFs fl []) = addF fl u fs
    cases addF fl u fs <;> rfl
  | x :: us, fs => by
    show (addF fl x fs).bind (adFs fl (us ++ [u])) = ((addF fl x fs).bind (adFs fl us)).bind (addF fl u)
    cases addF fl x fs with
    | none => rfl
    | some y => exact adFs_sn fl u us y
theorem glL_len (u : List Nat) : ∀ (es : eL) (fs : List (List Nat)) (f : Bool) (x : List (List Nat) × Bool), glL u es fs f = some x → fs.length ≤ x.1.length ∧ (x.2 = true → f = true ∨ fs.length + 1 ≤ x.1.length)
  | [], fs, f, x, h => by unfold glL at h; cases h; exact ⟨Nat.le_refl _, fun z => Or.inl z⟩
  | e :: es, fs, f, x, h => by
    unfold glL at h
    split at h
    · split at h
      · have := glL_len u es _ _ x h
        rw [List.length_append] at this
        simp only [List.length_cons, List.length_nil] at this
        exact ⟨by omega, fun _ => Or.inr (by omega)⟩
      · cases h
    · exact glL_len u es _ _ x h
theorem glL_16 (u : List Nat) : ∀ (es : eL) (fs : List (List Nat)), 16 ≤ fs.length → glL u es fs false = none ∨ glL u es fs false = some (fs, false)
  | [], fs, _ => Or.inr rfl
  | e :: es, fs, h => by
    unfold glL
    split
    · rw [if_neg (by omega)]; exact Or.inl rfl
    · exact glL_16 u es fs h
theorem addF_16 {fl : eL} {u : List Nat} {fs : List (List Nat)} (h : 16 ≤ fs.length) : addF fl u fs = none := by
  unfold addF
  by_cases q : isPat u = true
  · rw [if_pos q]
    rcases glL_16 u fl fs h with e | e
    · rw [e]; rfl
    · rw [e]
      show (if false = true then some fs else if fs.length < 16 then some (fs ++ [u.map unm]) else none) = none
      rw [if_neg (by decide), if_neg (by omega)]
  · rw [if_neg q]
    show (if false = true then some fs else if fs.length < 16 then some (fs ++ [u.map unm]) else none) = none
    rw [if_neg (by decide), if_neg (by omega)]
theorem addF_len {fl : eL} {u : List Nat} {fs fs' : List (List Nat)} (h : addF fl u fs = some fs') : fs.length + 1 ≤ fs'.length := by
  unfold addF at h
  by_cases q : isPat u = true
  · rw [if_pos q] at h
    cases e : glL u fl fs false with
    | none => rw [e] at h; cases h
    | some x =>
      rw [e] at h
      have l := glL_len u fl fs false x e
      have h2 : (if x.2 = true then some x.1 else if x.1.length < 16 then some (x.1 ++ [u.map unm]) else none) = some fs' := h
      by_cases y : x.2 = true
      · rw [if_pos y] at h2
        cases h2
        rcases l.2 y with w | w
        · exact absurd w (by decide)
        · exact w
      · rw [if_neg y] at h2
        by_cases w : x.1.length < 16
        · rw [if_pos w] at h2
          cases h2
          rw [List.length_append]; simp; omega
        · rw [if_neg w] at h2; cases h2
  · rw [if_neg q] at h
    have h2 : (if false = true then some fs else if fs.length < 16 then some (fs ++ [u.map unm]) else none) = some fs' := h
    rw [if_neg (by decide)] at h2
    by_cases w : fs.length < 16
    · rw [if_pos w] at h2
      cases h2
      rw [List.length_append]; simp
    · rw [if_neg w] at h2; cases h2
theorem adFs_len (fl : eL) : ∀ (us fs fs' : List (List Nat)), adFs fl us fs = some fs' → fs.length + us.length ≤ fs'.length
  | [], fs, fs', h => by unfold adFs at h; cases h; simp
  | u :: us, fs, fs', h => by
    unfold adFs at h
    cases e : addF fl u fs with
    | none => rw [e] at h; cases h
    | some x =>
      rw [e] at h
      have a := addF_len e
      have b := adFs_len fl us x fs' h
      rw [List.length_cons]; omega
/-- the class's words, the reference's fields -/
def exR (fl : eL) (g gM : fS) : Prop := adFs fl g.1 [] = some gM.1 ∧ g.2.1 = gM.2.1 ∧ (g.2.1 = [] → g.2.2 = gM.2.2)
def deC (fl : eL) (o : Option fS) : Prop := ∀ g, o = some g → adFs fl g.1 [] = none
def rlO (fl : eL) (oC : Option fS) : Option fS → Prop
  | some gM => ∃ g, oC = some g ∧ exR fl g gM
  | none => deC fl oC
section REL
variable {fl vs : eL} {s : List Nat} {po : List (List Nat)} {stt : Nat} {pa qu : Bool}
theorem adFs_no {u : List Nat} {ts : List (List Nat)} (h : adFs fl ts [] = none) : adFs fl (ts ++ [u]) [] = none := by rw [adFs_sn, h]; rfl
/-- a finished field -/
theorem tk_rel {g gM : fS} (h : exR fl g gM) : (∃ x gM', tk g.1 g.2.1 g.2.2 = some x ∧ gFi fl gM = some gM' ∧ exR fl (x.1, x.2, false) gM' ∧ x.2 = []) ∨ (gFi fl gM = none ∧ ∀ x, tk g.1 g.2.1 g.2.2 = some x → adFs fl x.1 [] = none) := by
  obtain ⟨h1, h2, h3⟩ := h
  unfold tk gFi
  by_cases q : g.2.1 = [] ∧ g.2.2 = false
  · have q2 : gM.2.1 = [] ∧ gM.2.2 = false := ⟨by rw [← h2]; exact q.1, by rw [← h3 q.1]; exact q.2⟩
    rw [if_pos q, if_pos q2]
    exact Or.inl ⟨_, _, rfl, rfl, ⟨h1, h2, fun _ => q2.2.symm⟩, q.1⟩
  · have q2 : ¬ (gM.2.1 = [] ∧ gM.2.2 = false) := fun z => q ⟨by rw [h2]; exact z.1, by rw [h3 (by rw [h2]; exact z.1)]; exact z.2⟩
    rw [if_neg q, if_neg q2]
    cases e : addF fl gM.2.1 gM.1 with
    | some F' =>
      left
      have lf : gM.1.length < 16 := by
        by_cases z : gM.1.length < 16
        · exact z
        · rw [addF_16 (by omega)] at e; cases e
      have lt := adFs_len fl g.1 [] gM.1 h1
      rw [List.length_nil] at lt
      rw [if_pos (by omega)]
      refine ⟨_, _, rfl, rfl, ⟨?_, rfl, fun _ => rfl⟩, rfl⟩
      show adFs fl (g.1 ++ [g.2.1]) [] = some F'
      rw [adFs_sn, h1, h2]; exact e
    | none =>
      right
      refine ⟨rfl, fun x hx => ?_⟩
      by_cases z : g.1.length < 16
      · rw [if_pos z] at hx
        cases hx
        show adFs fl (g.1 ++ [g.2.1]) [] = none
        rw [adFs_sn, h1, h2]; exact e
      · rw [if_neg z] at hx; cases hx
theorem fCh_rel {c : Nat} {g gM : fS} (h : exR fl g gM) : rlO fl (fCh pa qu c g) (gCh fl pa qu c gM) := by
  unfold fCh gCh
  by_cases q : pa = true ∧ qu = false ∧ (c = 32 ∨ c = 10)
  · rw [if_pos q, if_pos q]
    rcases tk_rel h with ⟨x, gM', e1, e2, e3, _⟩ | ⟨e1, e2⟩
    · rw [e1, e2]
      exact ⟨_, rfl, e3⟩
    · rw [e1]
      intro g' hg
      cases z : tk g.1 g.2.1 g.2.2 with
      | none => rw [z] at hg; cases hg
      | some x => rw [z] at hg; cases hg; exact e2 x z
  · rw [if_neg q, if_neg q]
    unfold gAd
    obtain ⟨h1, h2, h3⟩ := h
    rw [← h2]
    by_cases z : g.2.1.length < 40
    · rw [if_pos z, if_pos z]
      refine ⟨_, rfl, h1, rfl, fun y => ?_⟩
      exact absurd y (by simp)
    · rw [if_neg z, if_neg z]
      intro g' hg; cases hg
theorem fCh_de {c : Nat} {g g' : fS} (h : adFs fl g.1 [] = none) (e : fCh pa qu c g = some g') : adFs fl g'.1 [] = none := by
  unfold fCh at e
  split at e
  · cases z : tk g.1 g.2.1 g.2.2 with
    | none => rw [z] at e; cases e
    | some x =>
      rw [z] at e; cases e
      unfold tk at z
      split at z
      · cases z; exact h
      · split at z
        · cases z; exact adFs_no h
        · cases z
  · split at e
    · cases e; exact h
    · cases e
theorem fChs_de : ∀ (cs : List Nat) {g g' : fS}, adFs fl g.1 [] = none → fChs pa qu cs g = some g' → adFs fl g'.1 [] = none
  | [], g, g', h, e => by unfold fChs at e; cases e; exact h
  | c :: cs, g, g', h, e => by
    unfold fChs at e
    cases z : fCh pa qu c g with
    | none => rw [z] at e; cases e
    | some x => rw [z] at e; exact fChs_de cs (fCh_de h z) e
theorem fChs_rel : ∀ (cs : List Nat) {g gM : fS}, exR fl g gM → rlO fl (fChs pa qu cs g) (gChs fl pa qu cs gM)
  | [], g, gM, h => ⟨g, rfl, h⟩
  | c :: cs, g, gM, h => by
    have f := fCh_rel (pa := pa) (qu := qu) (c := c) h
    unfold fChs gChs
    cases z : gCh fl pa qu c gM with
    | some gM1 =>
      rw [z] at f
      obtain ⟨g1, e1, r1⟩ := f
      rw [e1]; exact fChs_rel cs r1
    | none =>
      rw [z] at f
      intro g' hg
      cases y : fCh pa qu c g with
      | none => rw [y] at hg; cases hg
      | some g1 => rw [y] at hg; exact fChs_de cs (f g1 y) hg
/-- a piece: an escaped character marks the reference's word alone, but then it is not empty -/
theorem exPc_rel {r : List Nat} {g gM : fS} (h : exR fl g gM) (hr : r.getD 0 0 = 1 → pcQ r = true ∧ ¬ pcC s vs po stt r = []) : rlO fl (exPc s vs po stt pa r g) (gPc fl s vs po stt pa r gM) := by
  unfold exPc gPc
  obtain ⟨h1, h2, h3⟩ := h
  by_cases q : r.getD 0 0 = 1
  · -- the mark comes before the first character
    obtain ⟨q1, q2⟩ := hr q
    have b2 : Nat.beq (r.getD 0 0) 2 = false := by rw [q]; rfl
    have b1 : Nat.beq (r.getD 0 0) 1 = true := by rw [q]; rfl
    rw [b2, b1, q1, Bool.or_false, Bool.false_or, Bool.or_true]
    cases e : pcC s vs po stt r with
    | nil => exact absurd e q2
    | cons c cs =>
      have : rlO fl (fCh pa true c (g.1, g.2.1, g.2.2)) (gCh fl pa true c (gM.1, gM.2.1, true)) := by
        unfold fCh gCh
        have nq : ¬ (pa = true ∧ true = false ∧ (c = 32 ∨ c = 10)) := fun z => absurd z.2.1 (by decide)
        rw [if_neg nq, if_neg nq]
        unfold gAd
        show rlO fl (if g.2.1.length < 40 then _ else none) (if gM.2.1.length < 40 then _ else none)
        rw [← h2]
        by_cases z : g.2.1.length < 40
        · rw [if_pos z, if_pos z]
          exact ⟨_, rfl, h1, rfl, fun y => absurd y (by simp)⟩
        · rw [if_neg z, if_neg z]
          intro g' hg; cases hg
      unfold fChs gChs
      cases z : gCh fl pa true c (gM.1, gM.2.1, true) with
      | some gM1 =>
        rw [z] at this
        obtain ⟨g1, e1, r1⟩ := this
        rw [e1]; exact fChs_rel cs r1
      | none =>
        rw [z] at this
        intro g' hg
        cases y : fCh pa true c (g.1, g.2.1, g.2.2) with
        | none => rw [y] at hg; cases hg
        | some g1 => rw [y] at hg; exact fChs_de cs (this g1 y) hg
  · have b1 : Nat.beq (r.getD 0 0) 1 = false := by rw [← Bool.not_eq_true, Nat.beq_eq]; exact q
    rw [b1, Bool.or_false]
    exact fChs_rel _ ⟨h1, h2, fun y => by rw [h3 y]⟩
/-- the class's fold over a list of pieces -/
def exLs (s : List Nat) (vs : eL) (po : List (List Nat)) (stt : Nat) (pa : Bool) : List (List Nat) → fS → Option fS
  | [], g => some g
  | r :: rs, g => (exPc s vs po stt pa r g).bind (exLs s vs po stt pa rs)
theorem exPc_de {r : List Nat} {g g' : fS} (h : adFs fl g.1 [] = none) (e : exPc s vs po stt pa r g = some g') : adFs fl g'.1 [] = none := by
  unfold exPc at e
  exact fChs_de _ (show adFs fl (g.1, g.2.1, g.2.2 || Nat.beq (r.getD 0 0) 2).1 [] = none from h) e
theorem exLs_de : ∀ (rs : List (List Nat)) {g g' : fS}, adFs fl g.1 [] = none → exLs s vs po stt pa rs g = some g' → adFs fl g'.1 [] = none
  | [], g, g', h, e => by unfold exLs at e; cases e; exact h
  | r :: rs, g, g', h, e => by
    unfold exLs at e
    cases z : exPc s vs po stt pa r g with
    | none => rw [z] at e; cases e
    | some x => rw [z] at e; exact exLs_de rs (exPc_de h z) e
theorem exLs_rel : ∀ (rs : List (List Nat)) {g gM : fS}, (∀ r ∈ rs, r.getD 0 0 = 1 → pcQ r = true ∧ ¬ pcC s vs po stt r = []) → exR fl g gM → rlO fl (exLs s vs po stt pa rs g) (gPs fl s vs po stt pa rs gM)
  | [], g, gM, _, h => ⟨g, rfl, h⟩
  | r :: rs, g, gM, hr, h => by
    have f := exPc_rel (fl := fl) (s := s) (vs := vs) (po := po) (stt := stt) (pa := pa) h (hr r List.mem_cons_self)
    unfold exLs gPs
    cases z : gPc fl s vs po stt pa r gM with
    | some gM1 =>
      rw [z] at f
      obtain ⟨g1, e1, r1⟩ := f
      rw [e1]; exact exLs_rel rs (fun x hx => hr x (List.mem_cons_of_mem _ hx)) r1
    | none =>
      rw [z] at f
      intro g' hg
      cases y : exPc s vs po stt pa r g with
      | none => rw [y] at hg; cases hg
      | some g1 => rw [y] at hg; exact exLs_de rs (f g1 y) hg
/-- by places -/
theorem exN_Ls {ps : List (List Nat)} : ∀ (n p : Nat) (g : fS), p + n ≤ ps.length → exN s vs po stt pa ps n p g = exLs s vs po stt pa ((ps.drop p).take n) g
  | 0, p, g, _ => by rw [List.take_zero]; rfl
  | n + 1, p, g, h => by
    rw [drop_getL (d := []) (by omega), List.take_succ_cons]
    unfold exN exLs
    cases exPc s vs po stt pa (ps.getD p []) g with
    | none => rfl
    | some x => exact exN_Ls n (p + 1) x (by omega)
/-- without parting: the same characters -/
theorem fChs_eq : ∀ (cs : List Nat) (g gM : fS), g.2.1 = gM.2.1 → (fChs false qu cs g = none ∧ gChs fl false qu cs gM = none) ∨ ∃ sp q q', fChs false qu cs g = some (g.1, sp, q) ∧ gChs fl false qu cs gM = some (gM.1, sp, q')
  | [], g, gM, h => Or.inr ⟨g.2.1, g.2.2, gM.2.2, rfl, by unfold gChs; rw [h]⟩
  | c :: cs, g, gM, h => by
    unfold fChs gChs fCh gCh
    have nq : ¬ (false = true ∧ qu = false ∧ (c = 32 ∨ c = 10)) := fun z => absurd z.1 (by decide)
    rw [if_neg nq, if_neg nq]
    unfold gAd
    rw [h]
    by_cases z : gM.2.1.length < 40
    · rw [if_pos z, if_pos z]
      exact fChs_eq cs (g.1, gM.2.1 ++ [if qu = true then c + 128 else c], g.2.2) (gM.1, gM.2.1 ++ [if qu = true then c + 128 else c], gM.2.2) rfl
    · rw [if_neg z, if_neg z]
      exact Or.inl ⟨rfl, rfl⟩
theorem exLs_eq : ∀ (rs : List (List Nat)) (g gM : fS), g.2.1 = gM.2.1 → (exLs s vs po stt false rs g = none ∧ gPs fl s vs po stt false rs gM = none) ∨ ∃ sp q q', exLs s vs po stt false rs g = some (g.1, sp, q) ∧ gPs fl s vs po stt false rs gM = some (gM.1, sp, q')
  | [], g, gM, h => Or.inr ⟨g.2.1, g.2.2, gM.2.2, rfl, by unfold gPs; rw [h]⟩
  | r :: rs, g, gM, h => by
    unfold exLs gPs exPc gPc
    rcases fChs_eq (fl := fl) (qu := pcQ r) (pcC s vs po stt r) (g.1, g.2.1, g.2.2 || Nat.beq (r.getD 0 0) 2) (gM.1, gM.2.1, gM.2.2 || (Nat.beq (r.getD 0 0) 2 || Nat.beq (r.getD 0 0) 1)) h with ⟨e1, e2⟩ | ⟨sp, q, q', e1, e2⟩
    · rw [e1, e2]; exact Or.inl ⟨rfl, rfl⟩
    · rw [e1, e2]
      exact exLs_eq rs (g.1, sp, q) (gM.1, sp, q') rfl
end REL
