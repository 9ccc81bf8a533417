/-! THE UTILITIES TOGETHER (the call itself is still owed); what a command's redirections and assignments do -/
def utW : List (List Nat) := [[101, 99, 104, 111], [99, 97, 116], [116, 114, 117, 101], [102, 97, 108, 115, 101], [115, 101, 116], [117, 110, 115, 101, 116], [114, 109], [119, 99], [104, 101, 97, 100], [114, 101, 118], [115, 111, 114, 116], [117, 110, 105, 113], [103, 114, 101, 112], [116, 114], [116, 101, 115, 116], [101, 120, 105, 116]]
def utMin : List Nat := [0, 0, 0, 0, 0, 0, 0, 0, 1, 0, 0, 0, 1, 2, 1, 0, 0]
def utMax : List Nat := [16, 16, 0, 0, 16, 16, 16, 0, 1, 0, 0, 0, 1, 2, 3, 1, 16]
/-- where a word stands among the names; 16 when it is none -/
def utI (w : List Nat) : List (List Nat) → Nat → Nat
  | [], k => k
  | x :: xs, k => if w = x then k else utI w xs (k + 1)
def utD (w : List Nat) : Nat := utI w utW 0
/-- test: 0, 1 or 2 -/
def tsS (fs : List (List Nat)) (fl : eL) : Nat :=
  if fs.length = 2 then (if (fs.getD 1 []).length = 0 then 1 else 0)
  else if fs.length = 3 ∧ fs.getD 1 [] = [45, 101] then (if 0 ≤ fdT fl (fs.getD 2 []) 0 then 0 else 1)
  else if fs.length = 4 ∧ fs.getD 2 [] = [61] then (if fs.getD 1 [] = fs.getD 3 [] then 0 else 1)
  else if fs.length = 4 ∧ fs.getD 2 [] = [33, 61] then (if fs.getD 1 [] = fs.getD 3 [] then 1 else 0)
  else 2
abbrev uR : Type := (Nat × List Nat) × (eL × List (List Nat) × eL) × Bool
/-- what is put out has its limit -/
def lim (r : uR) : Option uR := if r.1.2.length ≤ 240 then some r else none
def ut (fs : List (List Nat)) (inp : List Nat) (vs : eL) (po : List (List Nat)) (fl : eL) (stt : Nat) : Option uR :=
  if ¬ (utMin.getD (utD (fs.getD 0 [])) 0 ≤ fs.length - 1 ∧ fs.length - 1 ≤ utMax.getD (utD (fs.getD 0 [])) 0) then some ((2, []), (vs, po, fl), false)
  else match utD (fs.getD 0 []) with
  | 0 => lim ((0, ecL fs (fs.length - 1) 1), (vs, po, fl), false)
  | 1 => lim ((ctS fl fs (fs.length - 1) 1 0, catO fl fs inp), (vs, po, fl), false)
  | 2 => some ((0, []), (vs, po, fl), false)
  | 3 => some ((1, []), (vs, po, fl), false)
  | 4 => if fs.length ≤ 10 then some ((0, []), (vs, fs.drop 1, fl), false) else none
  | 5 => some ((0, []), (unL fs (fs.length - 1) 1 vs, po, fl), false)
  | 6 => some (((rmL fs (fs.length - 1) 1 fl 0).2, []), (vs, po, (rmL fs (fs.length - 1) 1 fl 0).1), false)
  | 7 => lim ((0, wcO inp), (vs, po, fl), false)
  | 8 => lim ((hdS fs, hdO fs inp (lnL inp 240 0)), (vs, po, fl), false)
  | 9 => lim ((0, rvL inp (lnL inp 240 0)), (vs, po, fl), false)
  | 10 => lim ((0, ptL inp (srN inp ((lnL inp 240 0).length - 1) 1 (lnL inp 240 0))), (vs, po, fl), false)
  | 11 => lim ((0, chL inp (lnL inp 240 0) (lnL inp 240 0).length 0), (vs, po, fl), false)
  | 12 => lim ((grS inp (fs.getD 1 []) (lnL inp 240 0) 1, grL inp (fs.getD 1 []) (lnL inp 240 0)), (vs, po, fl), false)
  | 13 => lim ((trS fs, trO fs inp), (vs, po, fl), false)
  | 14 => some ((tsS fs fl, []), (vs, po, fl), false)
  | 15 => if exV fs stt < 0 ∨ 255 < exV fs stt then some ((2, []), (vs, po, fl), false) else some (((exV fs stt).toNat, []), (vs, po, fl), true)
  | _ => some ((127, []), (vs, po, fl), false)
section CALL
variable {E : mE} {M : mM} {Q : mQ} {b : Nat} {R : RT} {fs : List (List Nat)} {sp inp : List Nat} {vs fl : eL} {po : List (List Nat)} {stt : Nat}
theorem u_call (h : RX b M R) (h23 : R 23 = vR fs sp) (h24 : (R 24).2.2.1 = inp) (h25 : R 25 = vT []) (h22 : R 22 = vI [0]) (h13 : (R 13).1 = vs) (h14 : (R 14).2.1 = po) (h15 : (R 15).1 = fl) (h12 : R 12 = vI [(stt : Int)]) (hst : stt ≤ 255) (hfs : 1 ≤ fs.length)
    (hq : ∀ r, ut fs inp vs po fl stt = some r → ∀ M' R', RX b M' R' → ag [13, 14, 15, 22, 25, 27] R R' → R' 25 = vT r.1.2 → (R' 13).1 = r.2.1.1 → (R' 14).2.1 = r.2.1.2.1 → (R' 15).1 = r.2.1.2.2 → R' 22 = vI [bI r.2.2] → fr M M' b (b + 369) → Q (.inl (some (.int (I r.1.1)))) M') (ht : ut fs inp vs po fl stt = none → TH E b M R Q) : mC E 94 [.ref (b + 258)] M Q := sorry
end CALL
/-- a name put into a table, unless it is there; its limits -/
def opT (n cn : Nat) (es : eL) (u : List Nat) : Option eL := if 0 ≤ fdT es u 0 then some es else if es.length < n ∧ u.length ≤ cn then some (insT es u []) else none
/-- the text at k written over -/
def stT (es : eL) (k : Nat) (u : List Nat) : eL := es.set k ((es.getD k ([], [])).1, u)
/-- redirections: whether all could be done, the files, the input's and the output's name -/
def rdL (s : List Nat) (vs : eL) (po : List (List Nat)) (stt : Nat) (ps is : List (List Nat)) : Nat → Nat → eL → List Nat → List Nat → Option (Bool × eL × List Nat × List Nat)
  | 0, _, fl, i, o => some (true, fl, i, o)
  | n + 1, it, fl, i, o =>
    if (is.getD it []).getD 0 0 = 0 ∨ (is.getD it []).getD 0 0 = 1 then rdL s vs po stt ps is n (it + 1) fl i o
    else (exW s vs po stt ps (is.getD it [])).bind fun u =>
      if 8 < u.length then none
      else if u = [] ∨ ((is.getD it []).getD 0 0 = 2 ∧ fdT fl u 0 < 0) then some (false, fl, i, o)
      else if (is.getD it []).getD 0 0 = 2 then rdL s vs po stt ps is n (it + 1) fl u o
      else (opT 8 8 fl u).bind fun fl1 => rdL s vs po stt ps is n (it + 1) (if (is.getD it []).getD 0 0 = 3 then stT fl1 (fdT fl1 u 0).toNat [] else fl1) i u
/-- assignments: all are expanded; the variables change if there are no fields -/
def asL (s : List Nat) (po : List (List Nat)) (stt : Nat) (ps is : List (List Nat)) (e0 : Bool) : Nat → Nat → eL → Option eL
  | 0, _, vs => some vs
  | n + 1, it, vs =>
    if (is.getD it []).getD 0 0 = 1 then (exW s vs po stt ps (is.getD it [])).bind fun u =>
      if e0 = true then ((opT 8 6 vs (seg s ((is.getD it []).getD 3 0) ((is.getD it []).getD 4 0))).bind fun v1 => asL s po stt ps is e0 n (it + 1) (stT v1 (fdT v1 (seg s ((is.getD it []).getD 3 0) ((is.getD it []).getD 4 0)) 0).toNat u))
      else asL s po stt ps is e0 n (it + 1) vs
    else asL s po stt ps is e0 n (it + 1) vs
theorem fdT_ins (es : eL) (u tx : List Nat) : ∀ k, k ≤ es.length → ∀ j : Nat, 0 ≤ fdT (es.take k ++ (u, tx) :: es.drop k) u j := by
  induction es with
  | nil => intro k hk j; simp [fdT]
  | cons e es ih =>
    intro k hk j
    cases k with
    | zero => simp [fdT]
    | succ k =>
      show 0 ≤ fdT (e :: (es.take k ++ (u, tx) :: es.drop k)) u j
      unfold fdT
      split
      · omega
      · exact ih k (by simpa using hk) (j + 1)
theorem opT_fd {n cn : Nat} {es es' : eL} {u : List Nat} (h : opT n cn es u = some es') : 0 ≤ fdT es' u 0 := by
  unfold opT at h
  split at h
  · cases h; assumption
  · split at h
    · cases h; exact fdT_ins es u [] _ (slT_le es u es.length) 0
    · cases h
theorem ok1_seg {s : List Nat} {f e : Nat} (h : ok1 s) : ok1 (seg s f e) := fun c hc => h c (seg_mem hc)
theorem okE_ins {es : eL} {u tx : List Nat} (h : okE es) (hu : ok1 u) (ht : ok1 tx) : okE (insT es u tx) := by
  intro e he
  unfold insT at he
  rcases List.mem_append.mp he with q | q
  · exact h e (List.mem_of_mem_take q)
  · rcases List.mem_cons.mp q with q | q
    · rw [q]; exact ⟨hu, ht⟩
    · exact h e (List.mem_of_mem_drop q)
theorem okE_opT {n cn : Nat} {es es' : eL} {u : List Nat} (h : okE es) (hu : ok1 u) (e : opT n cn es u = some es') : okE es' := by
  unfold opT at e
  split at e
  · cases e; exact h
  · split at e
    · cases e; exact okE_ins h hu (fun c hc => absurd hc List.not_mem_nil)
    · cases e
theorem okE_stT {es : eL} {k : Nat} {u : List Nat} (h : okE es) (hu : ok1 u) : okE (stT es k u) := by
  intro e he
  unfold stT at he
  rcases List.mem_or_eq_of_mem_set he with q | q
  · exact h e q
  · rw [q]
    refine ⟨?_, hu⟩
    rw [List.getD_eq_getElem?_getD]
    cases z : es[k]? with
    | none => intro c hc; simp at hc
    | some x => exact (h x (List.mem_of_getElem? z)).1
theorem ok1_unm {u : List Nat} (h : ok2 u) : ok1 (u.map unm) := by
  intro c hc
  obtain ⟨x, hx, rfl⟩ := List.mem_map.mp hc
  have := h x hx
  unfold unm; split <;> omega
theorem exW_ok {s : List Nat} {vs : eL} {po : List (List Nat)} {stt : Nat} {ps : List (List Nat)} {it u : List Nat} (hs : ok1 s) (hv : okE vs) (hp : okL po) (e : exW s vs po stt ps it = some u) : ok1 u := by
  unfold exW at e
  cases g : exI s vs po stt false ps it [] [] with
  | none => rw [g] at e; cases e
  | some x =>
    rw [g] at e
    cases e
    unfold exI at g
    exact ok1_unm (exN_ok hs hv hp _ _ _ _ ⟨fun t ht => absurd ht List.not_mem_nil, fun t ht => absurd ht List.not_mem_nil⟩ g).2
