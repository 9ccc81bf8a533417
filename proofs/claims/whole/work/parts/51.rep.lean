/-! THE CLASS IN MEMORY: 32 components behind the base b. Printed by wip/whole/gen6.py -/
abbrev Vl : Type := eL × List (List Nat) × List Nat × List Int
abbrev RT : Type := Nat → Vl
def vT (s : List Nat) : Vl := ([], [], s, [])
def vR (ts : List (List Nat)) (sp : List Nat) : Vl := ([], ts, sp, [])
def vE (es : eL) : Vl := (es, [], [], [])
def vS (rs : List (List Nat)) : Vl := ([], rs, [], [])
def vI (l : List Int) : Vl := ([], [], [], l)
def up (R : RT) (k : Nat) (v : Vl) : RT := fun j => match Nat.beq j k with
  | true => v
  | false => R j
theorem up_s (R : RT) (k : Nat) (v : Vl) : up R k v k = v := by simp [up]
theorem up_n {R : RT} {k j : Nat} {v : Vl} (h : ¬ j = k) : up R k v j = R j := by
  have : Nat.beq j k = false := by
    cases q : Nat.beq j k with
    | false => rfl
    | true => exact absurd (Nat.eq_of_beq_eq_true q) h
  unfold up; rw [this]
def cLo : Nat → Nat
  | 0 => 1
  | 1 => 0
  | 2 => 3
  | 3 => 4
  | 4 => 6
  | 5 => 8
  | 6 => 10
  | 7 => 11
  | 8 => 48
  | 9 => 72
  | 10 => 109
  | 11 => 111
  | 12 => 112
  | 13 => 113
  | 14 => 150
  | 15 => 174
  | 16 => 211
  | 17 => 213
  | 18 => 214
  | 19 => 252
  | 20 => 254
  | 21 => 256
  | 22 => 258
  | 23 => 259
  | 24 => 297
  | 25 => 299
  | 26 => 301
  | 27 => 302
  | 28 => 304
  | 29 => 341
  | 30 => 365
  | 31 => 367
  | _ => 0
def cHi : Nat → Nat
  | 0 => 3
  | 1 => 1
  | 2 => 4
  | 3 => 6
  | 4 => 8
  | 5 => 10
  | 6 => 11
  | 7 => 48
  | 8 => 72
  | 9 => 109
  | 10 => 111
  | 11 => 112
  | 12 => 113
  | 13 => 150
  | 14 => 174
  | 15 => 211
  | 16 => 213
  | 17 => 214
  | 18 => 252
  | 19 => 254
  | 20 => 256
  | 21 => 258
  | 22 => 259
  | 23 => 297
  | 24 => 299
  | 25 => 301
  | 26 => 302
  | 27 => 304
  | 28 => 341
  | 29 => 365
  | 30 => 367
  | 31 => 369
  | _ => 0
def cX (b : Nat) (M : mM) (v : Vl) : Nat → Prop
  | 0 => tX M (b + 1) 240 v.2.2.1
  | 1 => mkd M b = 100 ∧ mr M b 0 = b + 1 ∧ mr M b 1 = b + 3 ∧ mr M b 2 = b + 10 ∧ mr M b 3 = b + 111
  | 2 => mkd M (b + 3) = 106 ∧ mr M (b + 3) 0 = b + 4 ∧ mr M (b + 3) 1 = b + 6 ∧ mr M (b + 3) 2 = b + 8 ∧ mr M (b + 3) 4 = b + 1 ∧ mi M (b + 3) 3 = I (v.2.2.2.getD 0 0) ∧ mi M (b + 3) 5 = I (v.2.2.2.getD 1 0) ∧ mi M (b + 3) 6 = I (v.2.2.2.getD 2 0) ∧ mi M (b + 3) 7 = I (v.2.2.2.getD 3 0) ∧ mi M (b + 3) 8 = I (v.2.2.2.getD 4 0) ∧ mi M (b + 3) 9 = I (v.2.2.2.getD 5 0)
  | 3 => shX M (b + 4) 240 v.2.1
  | 4 => shX M (b + 6) 240 v.2.1
  | 5 => shX M (b + 8) 240 v.2.1
  | 6 => mkd M (b + 10) = 105 ∧ mr M (b + 10) 0 = b + 11 ∧ mr M (b + 10) 1 = b + 48 ∧ mr M (b + 10) 2 = b + 72 ∧ mr M (b + 10) 3 = b + 109 ∧ mi M (b + 10) 4 = I (v.2.2.2.getD 0 0)
  | 7 => tbX M (b + 11) 8 6 40 v.1
  | 8 => rX M (b + 48) 9 40 v.2.1 v.2.2.1
  | 9 => tbX M (b + 72) 8 8 80 v.1
  | 10 => tX M (b + 109) 240 v.2.2.1
  | 11 => mkd M (b + 111) = 108 ∧ mr M (b + 111) 0 = b + 112 ∧ mr M (b + 111) 1 = b + 3 ∧ mr M (b + 111) 2 = b + 213 ∧ mr M (b + 111) 3 = b + 258 ∧ mr M (b + 111) 4 = b + 304 ∧ mr M (b + 111) 5 = b + 341 ∧ mr M (b + 111) 6 = b + 365 ∧ mr M (b + 111) 7 = b + 367 ∧ mi M (b + 111) 8 = I (v.2.2.2.getD 0 0) ∧ mi M (b + 111) 9 = I (v.2.2.2.getD 1 0) ∧ mi M (b + 111) 10 = I (v.2.2.2.getD 2 0)
  | 12 => mkd M (b + 112) = 105 ∧ mr M (b + 112) 0 = b + 113 ∧ mr M (b + 112) 1 = b + 150 ∧ mr M (b + 112) 2 = b + 174 ∧ mr M (b + 112) 3 = b + 211 ∧ mi M (b + 112) 4 = I (v.2.2.2.getD 0 0)
  | 13 => tbX M (b + 113) 8 6 40 v.1
  | 14 => rX M (b + 150) 9 40 v.2.1 v.2.2.1
  | 15 => tbX M (b + 174) 8 8 80 v.1
  | 16 => tX M (b + 211) 240 v.2.2.1
  | 17 => mkd M (b + 213) = 107 ∧ mr M (b + 213) 0 = b + 1 ∧ mr M (b + 213) 1 = b + 3 ∧ mr M (b + 213) 2 = b + 112 ∧ mr M (b + 213) 3 = b + 214 ∧ mr M (b + 213) 4 = b + 252 ∧ mr M (b + 213) 5 = b + 254 ∧ mr M (b + 213) 6 = b + 256 ∧ mi M (b + 213) 7 = I (v.2.2.2.getD 0 0)
  | 18 => rX M (b + 214) 16 40 v.2.1 v.2.2.1
  | 19 => tX M (b + 252) 40 v.2.2.1
  | 20 => tX M (b + 254) 240 v.2.2.1
  | 21 => tX M (b + 256) 40 v.2.2.1
  | 22 => mkd M (b + 258) = 109 ∧ mr M (b + 258) 0 = b + 259 ∧ mr M (b + 258) 1 = b + 297 ∧ mr M (b + 258) 2 = b + 299 ∧ mr M (b + 258) 4 = b + 112 ∧ mr M (b + 258) 5 = b + 301 ∧ mi M (b + 258) 3 = I (v.2.2.2.getD 0 0)
  | 23 => rX M (b + 259) 16 40 v.2.1 v.2.2.1
  | 24 => tX M (b + 297) 240 v.2.2.1
  | 25 => tX M (b + 299) 240 v.2.2.1
  | 26 => mkd M (b + 301) = 110 ∧ mr M (b + 301) 0 = b + 297 ∧ mr M (b + 301) 1 = b + 299 ∧ mr M (b + 301) 2 = b + 302
  | 27 => shX M (b + 302) 240 v.2.1
  | 28 => tbX M (b + 304) 8 6 40 v.1
  | 29 => rX M (b + 341) 9 40 v.2.1 v.2.2.1
  | 30 => tX M (b + 365) 8 v.2.2.1
  | 31 => tX M (b + 367) 8 v.2.2.1
  | _ => True
theorem cX_mc0 {b : Nat} {M M' : mM} {v : Vl} (h : cX b M v 0) (f : ∀ x, b + 1 ≤ x → x < b + 3 → ceq M M' x) : cX b M' v 0 := by
  exact tX.mc (a := b + 1) h (fun x q1 q2 => f x (by omega) (by omega))
theorem cX_mc1 {b : Nat} {M M' : mM} {v : Vl} (h : cX b M v 1) (f : ∀ x, b + 0 ≤ x → x < b + 1 → ceq M M' x) : cX b M' v 1 := by
  obtain ⟨c1, c2, c3, c4, c5⟩ := f b (by omega) (by omega)
  obtain ⟨h0, h1, h2, h3, h4⟩ := h
  exact ⟨by rw [c1, h0], by rw [c4, h1], by rw [c4, h2], by rw [c4, h3], by rw [c4, h4]⟩
theorem cX_mc2 {b : Nat} {M M' : mM} {v : Vl} (h : cX b M v 2) (f : ∀ x, b + 3 ≤ x → x < b + 4 → ceq M M' x) : cX b M' v 2 := by
  obtain ⟨c1, c2, c3, c4, c5⟩ := f (b + 3) (by omega) (by omega)
  obtain ⟨h0, h1, h2, h3, h4, h5, h6, h7, h8, h9, h10⟩ := h
  exact ⟨by rw [c1, h0], by rw [c4, h1], by rw [c4, h2], by rw [c4, h3], by rw [c4, h4], by rw [c3, h5], by rw [c3, h6], by rw [c3, h7], by rw [c3, h8], by rw [c3, h9], by rw [c3, h10]⟩
theorem cX_mc3 {b : Nat} {M M' : mM} {v : Vl} (h : cX b M v 3) (f : ∀ x, b + 4 ≤ x → x < b + 6 → ceq M M' x) : cX b M' v 3 := by
  exact shX.mc (a := b + 4) h (fun x q1 q2 => f x (by omega) (by omega))
theorem cX_mc4 {b : Nat} {M M' : mM} {v : Vl} (h : cX b M v 4) (f : ∀ x, b + 6 ≤ x → x < b + 8 → ceq M M' x) : cX b M' v 4 := by
  exact shX.mc (a := b + 6) h (fun x q1 q2 => f x (by omega) (by omega))
theorem cX_mc5 {b : Nat} {M M' : mM} {v : Vl} (h : cX b M v 5) (f : ∀ x, b + 8 ≤ x → x < b + 10 → ceq M M' x) : cX b M' v 5 := by
  exact shX.mc (a := b + 8) h (fun x q1 q2 => f x (by omega) (by omega))
theorem cX_mc6 {b : Nat} {M M' : mM} {v : Vl} (h : cX b M v 6) (f : ∀ x, b + 10 ≤ x → x < b + 11 → ceq M M' x) : cX b M' v 6 := by
  obtain ⟨c1, c2, c3, c4, c5⟩ := f (b + 10) (by omega) (by omega)
  obtain ⟨h0, h1, h2, h3, h4, h5⟩ := h
  exact ⟨by rw [c1, h0], by rw [c4, h1], by rw [c4, h2], by rw [c4, h3], by rw [c4, h4], by rw [c3, h5]⟩
theorem cX_mc7 {b : Nat} {M M' : mM} {v : Vl} (h : cX b M v 7) (f : ∀ x, b + 11 ≤ x → x < b + 48 → ceq M M' x) : cX b M' v 7 := by
  exact tbX.mc (t := b + 11) h (fun x q1 q2 => f x (by omega) (by omega))
theorem cX_mc8 {b : Nat} {M M' : mM} {v : Vl} (h : cX b M v 8) (f : ∀ x, b + 48 ≤ x → x < b + 72 → ceq M M' x) : cX b M' v 8 := by
  exact rX.mc (r := b + 48) h (fun x q1 q2 => f x (by omega) (by omega))
theorem cX_mc9 {b : Nat} {M M' : mM} {v : Vl} (h : cX b M v 9) (f : ∀ x, b + 72 ≤ x → x < b + 109 → ceq M M' x) : cX b M' v 9 := by
  exact tbX.mc (t := b + 72) h (fun x q1 q2 => f x (by omega) (by omega))
theorem cX_mc10 {b : Nat} {M M' : mM} {v : Vl} (h : cX b M v 10) (f : ∀ x, b + 109 ≤ x → x < b + 111 → ceq M M' x) : cX b M' v 10 := by
  exact tX.mc (a := b + 109) h (fun x q1 q2 => f x (by omega) (by omega))
theorem cX_mc11 {b : Nat} {M M' : mM} {v : Vl} (h : cX b M v 11) (f : ∀ x, b + 111 ≤ x → x < b + 112 → ceq M M' x) : cX b M' v 11 := by
  obtain ⟨c1, c2, c3, c4, c5⟩ := f (b + 111) (by omega) (by omega)
  obtain ⟨h0, h1, h2, h3, h4, h5, h6, h7, h8, h9, h10, h11⟩ := h
  exact ⟨by rw [c1, h0], by rw [c4, h1], by rw [c4, h2], by rw [c4, h3], by rw [c4, h4], by rw [c4, h5], by rw [c4, h6], by rw [c4, h7], by rw [c4, h8], by rw [c3, h9], by rw [c3, h10], by rw [c3, h11]⟩
theorem cX_mc12 {b : Nat} {M M' : mM} {v : Vl} (h : cX b M v 12) (f : ∀ x, b + 112 ≤ x → x < b + 113 → ceq M M' x) : cX b M' v 12 := by
  obtain ⟨c1, c2, c3, c4, c5⟩ := f (b + 112) (by omega) (by omega)
  obtain ⟨h0, h1, h2, h3, h4, h5⟩ := h
  exact ⟨by rw [c1, h0], by rw [c4, h1], by rw [c4, h2], by rw [c4, h3], by rw [c4, h4], by rw [c3, h5]⟩
theorem cX_mc13 {b : Nat} {M M' : mM} {v : Vl} (h : cX b M v 13) (f : ∀ x, b + 113 ≤ x → x < b + 150 → ceq M M' x) : cX b M' v 13 := by
  exact tbX.mc (t := b + 113) h (fun x q1 q2 => f x (by omega) (by omega))
theorem cX_mc14 {b : Nat} {M M' : mM} {v : Vl} (h : cX b M v 14) (f : ∀ x, b + 150 ≤ x → x < b + 174 → ceq M M' x) : cX b M' v 14 := by
  exact rX.mc (r := b + 150) h (fun x q1 q2 => f x (by omega) (by omega))
theorem cX_mc15 {b : Nat} {M M' : mM} {v : Vl} (h : cX b M v 15) (f : ∀ x, b + 174 ≤ x → x < b + 211 → ceq M M' x) : cX b M' v 15 := by
  exact tbX.mc (t := b + 174) h (fun x q1 q2 => f x (by omega) (by omega))
theorem cX_mc16 {b : Nat} {M M' : mM} {v : Vl} (h : cX b M v 16) (f : ∀ x, b + 211 ≤ x → x < b + 213 → ceq M M' x) : cX b M' v 16 := by
  exact tX.mc (a := b + 211) h (fun x q1 q2 => f x (by omega) (by omega))
theorem cX_mc17 {b : Nat} {M M' : mM} {v : Vl} (h : cX b M v 17) (f : ∀ x, b + 213 ≤ x → x < b + 214 → ceq M M' x) : cX b M' v 17 := by
  obtain ⟨c1, c2, c3, c4, c5⟩ := f (b + 213) (by omega) (by omega)
  obtain ⟨h0, h1, h2, h3, h4, h5, h6, h7, h8⟩ := h
  exact ⟨by rw [c1, h0], by rw [c4, h1], by rw [c4, h2], by rw [c4, h3], by rw [c4, h4], by rw [c4, h5], by rw [c4, h6], by rw [c4, h7], by rw [c3, h8]⟩
theorem cX_mc18 {b : Nat} {M M' : mM} {v : Vl} (h : cX b M v 18) (f : ∀ x, b + 214 ≤ x → x < b + 252 → ceq M M' x) : cX b M' v 18 := by
  exact rX.mc (r := b + 214) h (fun x q1 q2 => f x (by omega) (by omega))
theorem cX_mc19 {b : Nat} {M M' : mM} {v : Vl} (h : cX b M v 19) (f : ∀ x, b + 252 ≤ x → x < b + 254 → ceq M M' x) : cX b M' v 19 := by
  exact tX.mc (a := b + 252) h (fun x q1 q2 => f x (by omega) (by omega))
theorem cX_mc20 {b : Nat} {M M' : mM} {v : Vl} (h : cX b M v 20) (f : ∀ x, b + 254 ≤ x → x < b + 256 → ceq M M' x) : cX b M' v 20 := by
  exact tX.mc (a := b + 254) h (fun x q1 q2 => f x (by omega) (by omega))
theorem cX_mc21 {b : Nat} {M M' : mM} {v : Vl} (h : cX b M v 21) (f : ∀ x, b + 256 ≤ x → x < b + 258 → ceq M M' x) : cX b M' v 21 := by
  exact tX.mc (a := b + 256) h (fun x q1 q2 => f x (by omega) (by omega))
theorem cX_mc22 {b : Nat} {M M' : mM} {v : Vl} (h : cX b M v 22) (f : ∀ x, b + 258 ≤ x → x < b + 259 → ceq M M' x) : cX b M' v 22 := by
  obtain ⟨c1, c2, c3, c4, c5⟩ := f (b + 258) (by omega) (by omega)
  obtain ⟨h0, h1, h2, h3, h4, h5, h6⟩ := h
  exact ⟨by rw [c1, h0], by rw [c4, h1], by rw [c4, h2], by rw [c4, h3], by rw [c4, h4], by rw [c4, h5], by rw [c3, h6]⟩
theorem cX_mc23 {b : Nat} {M M' : mM} {v : Vl} (h : cX b M v 23) (f : ∀ x, b + 259 ≤ x → x < b + 297 → ceq M M' x) : cX b M' v 23 := by
  exact rX.mc (r := b + 259) h (fun x q1 q2 => f x (by omega) (by omega))
theorem cX_mc24 {b : Nat} {M M' : mM} {v : Vl} (h : cX b M v 24) (f : ∀ x, b + 297 ≤ x → x < b + 299 → ceq M M' x) : cX b M' v 24 := by
  exact tX.mc (a := b + 297) h (fun x q1 q2 => f x (by omega) (by omega))
theorem cX_mc25 {b : Nat} {M M' : mM} {v : Vl} (h : cX b M v 25) (f : ∀ x, b + 299 ≤ x → x < b + 301 → ceq M M' x) : cX b M' v 25 := by
  exact tX.mc (a := b + 299) h (fun x q1 q2 => f x (by omega) (by omega))
theorem cX_mc26 {b : Nat} {M M' : mM} {v : Vl} (h : cX b M v 26) (f : ∀ x, b + 301 ≤ x → x < b + 302 → ceq M M' x) : cX b M' v 26 := by
  obtain ⟨c1, c2, c3, c4, c5⟩ := f (b + 301) (by omega) (by omega)
  obtain ⟨h0, h1, h2, h3⟩ := h
  exact ⟨by rw [c1, h0], by rw [c4, h1], by rw [c4, h2], by rw [c4, h3]⟩
theorem cX_mc27 {b : Nat} {M M' : mM} {v : Vl} (h : cX b M v 27) (f : ∀ x, b + 302 ≤ x → x < b + 304 → ceq M M' x) : cX b M' v 27 := by
  exact shX.mc (a := b + 302) h (fun x q1 q2 => f x (by omega) (by omega))
theorem cX_mc28 {b : Nat} {M M' : mM} {v : Vl} (h : cX b M v 28) (f : ∀ x, b + 304 ≤ x → x < b + 341 → ceq M M' x) : cX b M' v 28 := by
  exact tbX.mc (t := b + 304) h (fun x q1 q2 => f x (by omega) (by omega))
theorem cX_mc29 {b : Nat} {M M' : mM} {v : Vl} (h : cX b M v 29) (f : ∀ x, b + 341 ≤ x → x < b + 365 → ceq M M' x) : cX b M' v 29 := by
  exact rX.mc (r := b + 341) h (fun x q1 q2 => f x (by omega) (by omega))
theorem cX_mc30 {b : Nat} {M M' : mM} {v : Vl} (h : cX b M v 30) (f : ∀ x, b + 365 ≤ x → x < b + 367 → ceq M M' x) : cX b M' v 30 := by
  exact tX.mc (a := b + 365) h (fun x q1 q2 => f x (by omega) (by omega))
theorem cX_mc31 {b : Nat} {M M' : mM} {v : Vl} (h : cX b M v 31) (f : ∀ x, b + 367 ≤ x → x < b + 369 → ceq M M' x) : cX b M' v 31 := by
  exact tX.mc (a := b + 367) h (fun x q1 q2 => f x (by omega) (by omega))
theorem cX_mc {b : Nat} {M M' : mM} {v : Vl} {k : Nat} (hk : k < 32) (h : cX b M v k) (f : ∀ x, b + cLo k ≤ x → x < b + cHi k → ceq M M' x) : cX b M' v k := by
  match k, hk, h, f with
  | 0, _, h, f => exact cX_mc0 h f
  | 1, _, h, f => exact cX_mc1 h f
  | 2, _, h, f => exact cX_mc2 h f
  | 3, _, h, f => exact cX_mc3 h f
  | 4, _, h, f => exact cX_mc4 h f
  | 5, _, h, f => exact cX_mc5 h f
  | 6, _, h, f => exact cX_mc6 h f
  | 7, _, h, f => exact cX_mc7 h f
  | 8, _, h, f => exact cX_mc8 h f
  | 9, _, h, f => exact cX_mc9 h f
  | 10, _, h, f => exact cX_mc10 h f
  | 11, _, h, f => exact cX_mc11 h f
  | 12, _, h, f => exact cX_mc12 h f
  | 13, _, h, f => exact cX_mc13 h f
  | 14, _, h, f => exact cX_mc14 h f
  | 15, _, h, f => exact cX_mc15 h f
  | 16, _, h, f => exact cX_mc16 h f
  | 17, _, h, f => exact cX_mc17 h f
  | 18, _, h, f => exact cX_mc18 h f
  | 19, _, h, f => exact cX_mc19 h f
  | 20, _, h, f => exact cX_mc20 h f
  | 21, _, h, f => exact cX_mc21 h f
  | 22, _, h, f => exact cX_mc22 h f
  | 23, _, h, f => exact cX_mc23 h f
  | 24, _, h, f => exact cX_mc24 h f
  | 25, _, h, f => exact cX_mc25 h f
  | 26, _, h, f => exact cX_mc26 h f
  | 27, _, h, f => exact cX_mc27 h f
  | 28, _, h, f => exact cX_mc28 h f
  | 29, _, h, f => exact cX_mc29 h f
  | 30, _, h, f => exact cX_mc30 h f
  | 31, _, h, f => exact cX_mc31 h f
  | n + 32, hk, _, _ => exact absurd hk (by omega)
theorem c_dis : ∀ j, j < 32 → ∀ k, k < 32 → ¬ j = k → cHi j ≤ cLo k ∨ cHi k ≤ cLo j := by decide +kernel
theorem c_in : ∀ j, j < 32 → cLo j < cHi j ∧ cHi j ≤ 369 := by decide +kernel
def RX (b : Nat) (M : mM) (R : RT) : Prop := 0 < b ∧ ∀ k, k < 32 → cX b M (R k) k
theorem RX.upd {b : Nat} {M M' : mM} {R : RT} (h : RX b M R) (k : Nat) (hk : k < 32) {v : Vl} (hc : cX b M' v k) (f : fr M M' (b + cLo k) (b + cHi k)) : RX b M' (up R k v) := by
  refine ⟨h.1, fun j hj => ?_⟩
  by_cases q : j = k
  · subst q; rw [up_s]; exact hc
  · rw [up_n q]
    have := c_dis j hj k hk q
    exact cX_mc hj (h.2 j hj) (fun x q1 q2 => f.2.2 x (by omega))
theorem RX.mv {b : Nat} {M M' : mM} {R : RT} (h : RX b M R) (f : ∀ x, b ≤ x → x < b + 369 → ceq M M' x) : RX b M' R :=
  ⟨h.1, fun j hj => cX_mc hj (h.2 j hj) (fun x q1 q2 => f x (by omega) (by have := c_in j hj; omega))⟩
/-- R and R' are the same but for the components S -/
def ag (S : List Nat) (R R' : RT) : Prop := ∀ j, S.contains j = false → R' j = R j
theorem ag.refl (S : List Nat) (R : RT) : ag S R R := fun _ _ => rfl
theorem ag.trans {S : List Nat} {R R' R'' : RT} (h : ag S R R') (g : ag S R' R'') : ag S R R'' := fun j hj => (g j hj).trans (h j hj)
theorem ag.wide {S S' : List Nat} {R R' : RT} (h : ag S R R') (hs : ∀ j, S'.contains j = false → S.contains j = false) : ag S' R R' := fun j hj => h j (hs j hj)
theorem ag_up {S : List Nat} {R : RT} {k : Nat} {v : Vl} (hk : S.contains k = true) : ag S R (up R k v) := fun j hj => up_n (fun q => by rw [q, hk] at hj; exact absurd hj (by decide))
theorem ag_sub {S S' : List Nat} (h : S.all (fun x => S'.contains x) = true) : ∀ j, S'.contains j = false → S.contains j = false := by
  intro j hj
  cases q : S.contains j with
  | false => rfl
  | true =>
    have := List.all_eq_true.mp h j (by simpa using q)
    rw [hj] at this; exact absurd this (by decide)
theorem ag.w {S S' : List Nat} {R R' : RT} (h : ag S R R') (hs : S.all (fun x => S'.contains x) = true) : ag S' R R' := h.wide (ag_sub hs)
/-- a throw of kind 91 (TOO MUCH) may come from any memory in which script, syntax and the kept state are as they were -/
def TH (E : mE) (b : Nat) (M : mM) (R : RT) (Q : mQ) : Prop := ∀ M' R', RX b M' R' → (∀ j, j < 11 → R' j = R j) → fr M M' b (b + 369) → mTh E 91 M' Q
theorem TH.st {E : mE} {b : Nat} {M M1 : mM} {R R1 : RT} {Q : mQ} (h : TH E b M R Q) (f : fr M M1 b (b + 369)) (a : ∀ j, j < 11 → R1 j = R j) : TH E b M1 R1 Q := fun M' R' g1 g2 g3 => h M' R' g1 (fun j hj => (g2 j hj).trans (a j hj)) (f.then g3)
theorem TH.here {E : mE} {b : Nat} {M : mM} {R : RT} {Q : mQ} (h : TH E b M R Q) (g : RX b M R) : mTh E 91 M Q := h M R g (fun _ _ => rfl) (fr.refl _ _ _)
theorem ag.lo {S : List Nat} {R R' : RT} (h : ag S R R') (hs : (List.range 11).all (fun x => !S.contains x) = true) : ∀ j, j < 11 → R' j = R j := by
  intro j hj
  refine h j ?_
  have := List.all_eq_true.mp hs j (List.mem_range.mpr hj)
  simpa using this
theorem fr.all {M M' : mM} {b lo hi : Nat} (f : fr M M' lo hi) (h1 : b ≤ lo) (h2 : hi ≤ b + 369) : fr M M' b (b + 369) := f.wide h1 h2
theorem RX.c0 {b : Nat} {M : mM} {R : RT} (h : RX b M R) : tX M (b + 1) 240 (R 0).2.2.1 := h.2 0 (by decide)
theorem RX.u0 {b : Nat} {M M' : mM} {R : RT} (h : RX b M R) {s : List Nat} (t : tX M' (b + 1) 240 s) (f : fr M M' (b + 1) ((b + 1) + 2)) : RX b M' (up R 0 (vT s)) ∧ fr M M' b (b + 369) := ⟨h.upd 0 (by decide) t (f.wide (l := b + 1) (u := b + 3) (by omega) (by omega)), f.wide (by omega) (by omega)⟩
theorem RX.c1 {b : Nat} {M : mM} {R : RT} (h : RX b M R) : mkd M b = 100 ∧ mr M b 0 = b + 1 ∧ mr M b 1 = b + 3 ∧ mr M b 2 = b + 10 ∧ mr M b 3 = b + 111 := h.2 1 (by decide)
theorem RX.c2 {b : Nat} {M : mM} {R : RT} (h : RX b M R) : mkd M (b + 3) = 106 ∧ mr M (b + 3) 0 = b + 4 ∧ mr M (b + 3) 1 = b + 6 ∧ mr M (b + 3) 2 = b + 8 ∧ mr M (b + 3) 4 = b + 1 ∧ mi M (b + 3) 3 = I ((R 2).2.2.2.getD 0 0) ∧ mi M (b + 3) 5 = I ((R 2).2.2.2.getD 1 0) ∧ mi M (b + 3) 6 = I ((R 2).2.2.2.getD 2 0) ∧ mi M (b + 3) 7 = I ((R 2).2.2.2.getD 3 0) ∧ mi M (b + 3) 8 = I ((R 2).2.2.2.getD 4 0) ∧ mi M (b + 3) 9 = I ((R 2).2.2.2.getD 5 0) := h.2 2 (by decide)
theorem RX.u2 {b : Nat} {M M' : mM} {R : RT} (h : RX b M R) {k : Nat} {v : Int32} (q : M' = msi M (b + 3) k v) {x0 x1 x2 x3 x4 x5 : Int} (g0 : (if 3 = k then v else I ((R 2).2.2.2.getD 0 0)) = I x0) (g1 : (if 5 = k then v else I ((R 2).2.2.2.getD 1 0)) = I x1) (g2 : (if 6 = k then v else I ((R 2).2.2.2.getD 2 0)) = I x2) (g3 : (if 7 = k then v else I ((R 2).2.2.2.getD 3 0)) = I x3) (g4 : (if 8 = k then v else I ((R 2).2.2.2.getD 4 0)) = I x4) (g5 : (if 9 = k then v else I ((R 2).2.2.2.getD 5 0)) = I x5) : RX b M' (up R 2 (vI [x0, x1, x2, x3, x4, x5])) ∧ fr M M' b (b + 369) := by
  obtain ⟨h0, h1, h2, h3, h4, h5, h6, h7, h8, h9, h10⟩ := h.c2
  have f : fr M M' (b + 3) ((b + 3) + 1) := by rw [q]; exact fr_i (by omega) (by omega)
  have e : ∀ j, mi M' (b + 3) j = if j = k then v else mi M (b + 3) j := fun j => by rw [q, i_i]; simp
  exact ⟨h.upd 2 (by decide) (v := vI [x0, x1, x2, x3, x4, x5]) ⟨by rw [q]; exact h0, by rw [q]; exact h1, by rw [q]; exact h2, by rw [q]; exact h3, by rw [q]; exact h4, by rw [e, h5]; exact g0, by rw [e, h6]; exact g1, by rw [e, h7]; exact g2, by rw [e, h8]; exact g3, by rw [e, h9]; exact g4, by rw [e, h10]; exact g5⟩ (f.wide (l := b + 3) (u := b + 4) (by omega) (by omega)), f.wide (by omega) (by omega)⟩
theorem RX.c3 {b : Nat} {M : mM} {R : RT} (h : RX b M R) : shX M (b + 4) 240 (R 3).2.1 := h.2 3 (by decide)
theorem RX.u3 {b : Nat} {M M' : mM} {R : RT} (h : RX b M R) {rs : List (List Nat)} (t : shX M' (b + 4) 240 rs) (f : fr M M' (b + 4) ((b + 4) + 2)) : RX b M' (up R 3 (vS rs)) ∧ fr M M' b (b + 369) := ⟨h.upd 3 (by decide) t (f.wide (l := b + 4) (u := b + 6) (by omega) (by omega)), f.wide (by omega) (by omega)⟩
theorem RX.c4 {b : Nat} {M : mM} {R : RT} (h : RX b M R) : shX M (b + 6) 240 (R 4).2.1 := h.2 4 (by decide)
theorem RX.u4 {b : Nat} {M M' : mM} {R : RT} (h : RX b M R) {rs : List (List Nat)} (t : shX M' (b + 6) 240 rs) (f : fr M M' (b + 6) ((b + 6) + 2)) : RX b M' (up R 4 (vS rs)) ∧ fr M M' b (b + 369) := ⟨h.upd 4 (by decide) t (f.wide (l := b + 6) (u := b + 8) (by omega) (by omega)), f.wide (by omega) (by omega)⟩
theorem RX.c5 {b : Nat} {M : mM} {R : RT} (h : RX b M R) : shX M (b + 8) 240 (R 5).2.1 := h.2 5 (by decide)
theorem RX.u5 {b : Nat} {M M' : mM} {R : RT} (h : RX b M R) {rs : List (List Nat)} (t : shX M' (b + 8) 240 rs) (f : fr M M' (b + 8) ((b + 8) + 2)) : RX b M' (up R 5 (vS rs)) ∧ fr M M' b (b + 369) := ⟨h.upd 5 (by decide) t (f.wide (l := b + 8) (u := b + 10) (by omega) (by omega)), f.wide (by omega) (by omega)⟩
theorem RX.c6 {b : Nat} {M : mM} {R : RT} (h : RX b M R) : mkd M (b + 10) = 105 ∧ mr M (b + 10) 0 = b + 11 ∧ mr M (b + 10) 1 = b + 48 ∧ mr M (b + 10) 2 = b + 72 ∧ mr M (b + 10) 3 = b + 109 ∧ mi M (b + 10) 4 = I ((R 6).2.2.2.getD 0 0) := h.2 6 (by decide)
theorem RX.u6 {b : Nat} {M M' : mM} {R : RT} (h : RX b M R) {k : Nat} {v : Int32} (q : M' = msi M (b + 10) k v) {x0 : Int} (g0 : (if 4 = k then v else I ((R 6).2.2.2.getD 0 0)) = I x0) : RX b M' (up R 6 (vI [x0])) ∧ fr M M' b (b + 369) := by
  obtain ⟨h0, h1, h2, h3, h4, h5⟩ := h.c6
  have f : fr M M' (b + 10) ((b + 10) + 1) := by rw [q]; exact fr_i (by omega) (by omega)
  have e : ∀ j, mi M' (b + 10) j = if j = k then v else mi M (b + 10) j := fun j => by rw [q, i_i]; simp
  exact ⟨h.upd 6 (by decide) (v := vI [x0]) ⟨by rw [q]; exact h0, by rw [q]; exact h1, by rw [q]; exact h2, by rw [q]; exact h3, by rw [q]; exact h4, by rw [e, h5]; exact g0⟩ (f.wide (l := b + 10) (u := b + 11) (by omega) (by omega)), f.wide (by omega) (by omega)⟩
theorem RX.c7 {b : Nat} {M : mM} {R : RT} (h : RX b M R) : tbX M (b + 11) 8 6 40 (R 7).1 := h.2 7 (by decide)
theorem RX.u7 {b : Nat} {M M' : mM} {R : RT} (h : RX b M R) {es : eL} (t : tbX M' (b + 11) 8 6 40 es) (f : fr M M' (b + 11) ((b + 11) + 4 * 8 + 5)) : RX b M' (up R 7 (vE es)) ∧ fr M M' b (b + 369) := ⟨h.upd 7 (by decide) t (f.wide (l := b + 11) (u := b + 48) (by omega) (by omega)), f.wide (by omega) (by omega)⟩
theorem RX.c8 {b : Nat} {M : mM} {R : RT} (h : RX b M R) : rX M (b + 48) 9 40 (R 8).2.1 (R 8).2.2.1 := h.2 8 (by decide)
theorem RX.u8 {b : Nat} {M M' : mM} {R : RT} (h : RX b M R) {ts : List (List Nat)} {sp : List Nat} (t : rX M' (b + 48) 9 40 ts sp) (f : fr M M' (b + 48) ((b + 48) + 2 * 9 + 6)) : RX b M' (up R 8 (vR ts sp)) ∧ fr M M' b (b + 369) := ⟨h.upd 8 (by decide) t (f.wide (l := b + 48) (u := b + 72) (by omega) (by omega)), f.wide (by omega) (by omega)⟩
theorem RX.c9 {b : Nat} {M : mM} {R : RT} (h : RX b M R) : tbX M (b + 72) 8 8 80 (R 9).1 := h.2 9 (by decide)
theorem RX.u9 {b : Nat} {M M' : mM} {R : RT} (h : RX b M R) {es : eL} (t : tbX M' (b + 72) 8 8 80 es) (f : fr M M' (b + 72) ((b + 72) + 4 * 8 + 5)) : RX b M' (up R 9 (vE es)) ∧ fr M M' b (b + 369) := ⟨h.upd 9 (by decide) t (f.wide (l := b + 72) (u := b + 109) (by omega) (by omega)), f.wide (by omega) (by omega)⟩
theorem RX.c10 {b : Nat} {M : mM} {R : RT} (h : RX b M R) : tX M (b + 109) 240 (R 10).2.2.1 := h.2 10 (by decide)
theorem RX.u10 {b : Nat} {M M' : mM} {R : RT} (h : RX b M R) {s : List Nat} (t : tX M' (b + 109) 240 s) (f : fr M M' (b + 109) ((b + 109) + 2)) : RX b M' (up R 10 (vT s)) ∧ fr M M' b (b + 369) := ⟨h.upd 10 (by decide) t (f.wide (l := b + 109) (u := b + 111) (by omega) (by omega)), f.wide (by omega) (by omega)⟩
theorem RX.c11 {b : Nat} {M : mM} {R : RT} (h : RX b M R) : mkd M (b + 111) = 108 ∧ mr M (b + 111) 0 = b + 112 ∧ mr M (b + 111) 1 = b + 3 ∧ mr M (b + 111) 2 = b + 213 ∧ mr M (b + 111) 3 = b + 258 ∧ mr M (b + 111) 4 = b + 304 ∧ mr M (b + 111) 5 = b + 341 ∧ mr M (b + 111) 6 = b + 365 ∧ mr M (b + 111) 7 = b + 367 ∧ mi M (b + 111) 8 = I ((R 11).2.2.2.getD 0 0) ∧ mi M (b + 111) 9 = I ((R 11).2.2.2.getD 1 0) ∧ mi M (b + 111) 10 = I ((R 11).2.2.2.getD 2 0) := h.2 11 (by decide)
theorem RX.u11 {b : Nat} {M M' : mM} {R : RT} (h : RX b M R) {k : Nat} {v : Int32} (q : M' = msi M (b + 111) k v) {x0 x1 x2 : Int} (g0 : (if 8 = k then v else I ((R 11).2.2.2.getD 0 0)) = I x0) (g1 : (if 9 = k then v else I ((R 11).2.2.2.getD 1 0)) = I x1) (g2 : (if 10 = k then v else I ((R 11).2.2.2.getD 2 0)) = I x2) : RX b M' (up R 11 (vI [x0, x1, x2])) ∧ fr M M' b (b + 369) := by
  obtain ⟨h0, h1, h2, h3, h4, h5, h6, h7, h8, h9, h10, h11⟩ := h.c11
  have f : fr M M' (b + 111) ((b + 111) + 1) := by rw [q]; exact fr_i (by omega) (by omega)
  have e : ∀ j, mi M' (b + 111) j = if j = k then v else mi M (b + 111) j := fun j => by rw [q, i_i]; simp
  exact ⟨h.upd 11 (by decide) (v := vI [x0, x1, x2]) ⟨by rw [q]; exact h0, by rw [q]; exact h1, by rw [q]; exact h2, by rw [q]; exact h3, by rw [q]; exact h4, by rw [q]; exact h5, by rw [q]; exact h6, by rw [q]; exact h7, by rw [q]; exact h8, by rw [e, h9]; exact g0, by rw [e, h10]; exact g1, by rw [e, h11]; exact g2⟩ (f.wide (l := b + 111) (u := b + 112) (by omega) (by omega)), f.wide (by omega) (by omega)⟩
theorem RX.c12 {b : Nat} {M : mM} {R : RT} (h : RX b M R) : mkd M (b + 112) = 105 ∧ mr M (b + 112) 0 = b + 113 ∧ mr M (b + 112) 1 = b + 150 ∧ mr M (b + 112) 2 = b + 174 ∧ mr M (b + 112) 3 = b + 211 ∧ mi M (b + 112) 4 = I ((R 12).2.2.2.getD 0 0) := h.2 12 (by decide)
theorem RX.u12 {b : Nat} {M M' : mM} {R : RT} (h : RX b M R) {k : Nat} {v : Int32} (q : M' = msi M (b + 112) k v) {x0 : Int} (g0 : (if 4 = k then v else I ((R 12).2.2.2.getD 0 0)) = I x0) : RX b M' (up R 12 (vI [x0])) ∧ fr M M' b (b + 369) := by
  obtain ⟨h0, h1, h2, h3, h4, h5⟩ := h.c12
  have f : fr M M' (b + 112) ((b + 112) + 1) := by rw [q]; exact fr_i (by omega) (by omega)
  have e : ∀ j, mi M' (b + 112) j = if j = k then v else mi M (b + 112) j := fun j => by rw [q, i_i]; simp
  exact ⟨h.upd 12 (by decide) (v := vI [x0]) ⟨by rw [q]; exact h0, by rw [q]; exact h1, by rw [q]; exact h2, by rw [q]; exact h3, by rw [q]; exact h4, by rw [e, h5]; exact g0⟩ (f.wide (l := b + 112) (u := b + 113) (by omega) (by omega)), f.wide (by omega) (by omega)⟩
theorem RX.c13 {b : Nat} {M : mM} {R : RT} (h : RX b M R) : tbX M (b + 113) 8 6 40 (R 13).1 := h.2 13 (by decide)
theorem RX.u13 {b : Nat} {M M' : mM} {R : RT} (h : RX b M R) {es : eL} (t : tbX M' (b + 113) 8 6 40 es) (f : fr M M' (b + 113) ((b + 113) + 4 * 8 + 5)) : RX b M' (up R 13 (vE es)) ∧ fr M M' b (b + 369) := ⟨h.upd 13 (by decide) t (f.wide (l := b + 113) (u := b + 150) (by omega) (by omega)), f.wide (by omega) (by omega)⟩
theorem RX.c14 {b : Nat} {M : mM} {R : RT} (h : RX b M R) : rX M (b + 150) 9 40 (R 14).2.1 (R 14).2.2.1 := h.2 14 (by decide)
theorem RX.u14 {b : Nat} {M M' : mM} {R : RT} (h : RX b M R) {ts : List (List Nat)} {sp : List Nat} (t : rX M' (b + 150) 9 40 ts sp) (f : fr M M' (b + 150) ((b + 150) + 2 * 9 + 6)) : RX b M' (up R 14 (vR ts sp)) ∧ fr M M' b (b + 369) := ⟨h.upd 14 (by decide) t (f.wide (l := b + 150) (u := b + 174) (by omega) (by omega)), f.wide (by omega) (by omega)⟩
theorem RX.c15 {b : Nat} {M : mM} {R : RT} (h : RX b M R) : tbX M (b + 174) 8 8 80 (R 15).1 := h.2 15 (by decide)
theorem RX.u15 {b : Nat} {M M' : mM} {R : RT} (h : RX b M R) {es : eL} (t : tbX M' (b + 174) 8 8 80 es) (f : fr M M' (b + 174) ((b + 174) + 4 * 8 + 5)) : RX b M' (up R 15 (vE es)) ∧ fr M M' b (b + 369) := ⟨h.upd 15 (by decide) t (f.wide (l := b + 174) (u := b + 211) (by omega) (by omega)), f.wide (by omega) (by omega)⟩
theorem RX.c16 {b : Nat} {M : mM} {R : RT} (h : RX b M R) : tX M (b + 211) 240 (R 16).2.2.1 := h.2 16 (by decide)
theorem RX.u16 {b : Nat} {M M' : mM} {R : RT} (h : RX b M R) {s : List Nat} (t : tX M' (b + 211) 240 s) (f : fr M M' (b + 211) ((b + 211) + 2)) : RX b M' (up R 16 (vT s)) ∧ fr M M' b (b + 369) := ⟨h.upd 16 (by decide) t (f.wide (l := b + 211) (u := b + 213) (by omega) (by omega)), f.wide (by omega) (by omega)⟩
theorem RX.c17 {b : Nat} {M : mM} {R : RT} (h : RX b M R) : mkd M (b + 213) = 107 ∧ mr M (b + 213) 0 = b + 1 ∧ mr M (b + 213) 1 = b + 3 ∧ mr M (b + 213) 2 = b + 112 ∧ mr M (b + 213) 3 = b + 214 ∧ mr M (b + 213) 4 = b + 252 ∧ mr M (b + 213) 5 = b + 254 ∧ mr M (b + 213) 6 = b + 256 ∧ mi M (b + 213) 7 = I ((R 17).2.2.2.getD 0 0) := h.2 17 (by decide)
theorem RX.u17 {b : Nat} {M M' : mM} {R : RT} (h : RX b M R) {k : Nat} {v : Int32} (q : M' = msi M (b + 213) k v) {x0 : Int} (g0 : (if 7 = k then v else I ((R 17).2.2.2.getD 0 0)) = I x0) : RX b M' (up R 17 (vI [x0])) ∧ fr M M' b (b + 369) := by
  obtain ⟨h0, h1, h2, h3, h4, h5, h6, h7, h8⟩ := h.c17
  have f : fr M M' (b + 213) ((b + 213) + 1) := by rw [q]; exact fr_i (by omega) (by omega)
  have e : ∀ j, mi M' (b + 213) j = if j = k then v else mi M (b + 213) j := fun j => by rw [q, i_i]; simp
  exact ⟨h.upd 17 (by decide) (v := vI [x0]) ⟨by rw [q]; exact h0, by rw [q]; exact h1, by rw [q]; exact h2, by rw [q]; exact h3, by rw [q]; exact h4, by rw [q]; exact h5, by rw [q]; exact h6, by rw [q]; exact h7, by rw [e, h8]; exact g0⟩ (f.wide (l := b + 213) (u := b + 214) (by omega) (by omega)), f.wide (by omega) (by omega)⟩
theorem RX.c18 {b : Nat} {M : mM} {R : RT} (h : RX b M R) : rX M (b + 214) 16 40 (R 18).2.1 (R 18).2.2.1 := h.2 18 (by decide)
theorem RX.u18 {b : Nat} {M M' : mM} {R : RT} (h : RX b M R) {ts : List (List Nat)} {sp : List Nat} (t : rX M' (b + 214) 16 40 ts sp) (f : fr M M' (b + 214) ((b + 214) + 2 * 16 + 6)) : RX b M' (up R 18 (vR ts sp)) ∧ fr M M' b (b + 369) := ⟨h.upd 18 (by decide) t (f.wide (l := b + 214) (u := b + 252) (by omega) (by omega)), f.wide (by omega) (by omega)⟩
theorem RX.c19 {b : Nat} {M : mM} {R : RT} (h : RX b M R) : tX M (b + 252) 40 (R 19).2.2.1 := h.2 19 (by decide)
theorem RX.u19 {b : Nat} {M M' : mM} {R : RT} (h : RX b M R) {s : List Nat} (t : tX M' (b + 252) 40 s) (f : fr M M' (b + 252) ((b + 252) + 2)) : RX b M' (up R 19 (vT s)) ∧ fr M M' b (b + 369) := ⟨h.upd 19 (by decide) t (f.wide (l := b + 252) (u := b + 254) (by omega) (by omega)), f.wide (by omega) (by omega)⟩
theorem RX.c20 {b : Nat} {M : mM} {R : RT} (h : RX b M R) : tX M (b + 254) 240 (R 20).2.2.1 := h.2 20 (by decide)
theorem RX.u20 {b : Nat} {M M' : mM} {R : RT} (h : RX b M R) {s : List Nat} (t : tX M' (b + 254) 240 s) (f : fr M M' (b + 254) ((b + 254) + 2)) : RX b M' (up R 20 (vT s)) ∧ fr M M' b (b + 369) := ⟨h.upd 20 (by decide) t (f.wide (l := b + 254) (u := b + 256) (by omega) (by omega)), f.wide (by omega) (by omega)⟩
theorem RX.c21 {b : Nat} {M : mM} {R : RT} (h : RX b M R) : tX M (b + 256) 40 (R 21).2.2.1 := h.2 21 (by decide)
theorem RX.u21 {b : Nat} {M M' : mM} {R : RT} (h : RX b M R) {s : List Nat} (t : tX M' (b + 256) 40 s) (f : fr M M' (b + 256) ((b + 256) + 2)) : RX b M' (up R 21 (vT s)) ∧ fr M M' b (b + 369) := ⟨h.upd 21 (by decide) t (f.wide (l := b + 256) (u := b + 258) (by omega) (by omega)), f.wide (by omega) (by omega)⟩
theorem RX.c22 {b : Nat} {M : mM} {R : RT} (h : RX b M R) : mkd M (b + 258) = 109 ∧ mr M (b + 258) 0 = b + 259 ∧ mr M (b + 258) 1 = b + 297 ∧ mr M (b + 258) 2 = b + 299 ∧ mr M (b + 258) 4 = b + 112 ∧ mr M (b + 258) 5 = b + 301 ∧ mi M (b + 258) 3 = I ((R 22).2.2.2.getD 0 0) := h.2 22 (by decide)
theorem RX.u22 {b : Nat} {M M' : mM} {R : RT} (h : RX b M R) {k : Nat} {v : Int32} (q : M' = msi M (b + 258) k v) {x0 : Int} (g0 : (if 3 = k then v else I ((R 22).2.2.2.getD 0 0)) = I x0) : RX b M' (up R 22 (vI [x0])) ∧ fr M M' b (b + 369) := by
  obtain ⟨h0, h1, h2, h3, h4, h5, h6⟩ := h.c22
  have f : fr M M' (b + 258) ((b + 258) + 1) := by rw [q]; exact fr_i (by omega) (by omega)
  have e : ∀ j, mi M' (b + 258) j = if j = k then v else mi M (b + 258) j := fun j => by rw [q, i_i]; simp
  exact ⟨h.upd 22 (by decide) (v := vI [x0]) ⟨by rw [q]; exact h0, by rw [q]; exact h1, by rw [q]; exact h2, by rw [q]; exact h3, by rw [q]; exact h4, by rw [q]; exact h5, by rw [e, h6]; exact g0⟩ (f.wide (l := b + 258) (u := b + 259) (by omega) (by omega)), f.wide (by omega) (by omega)⟩
theorem RX.c23 {b : Nat} {M : mM} {R : RT} (h : RX b M R) : rX M (b + 259) 16 40 (R 23).2.1 (R 23).2.2.1 := h.2 23 (by decide)
theorem RX.u23 {b : Nat} {M M' : mM} {R : RT} (h : RX b M R) {ts : List (List Nat)} {sp : List Nat} (t : rX M' (b + 259) 16 40 ts sp) (f : fr M M' (b + 259) ((b + 259) + 2 * 16 + 6)) : RX b M' (up R 23 (vR ts sp)) ∧ fr M M' b (b + 369) := ⟨h.upd 23 (by decide) t (f.wide (l := b + 259) (u := b + 297) (by omega) (by omega)), f.wide (by omega) (by omega)⟩
theorem RX.c24 {b : Nat} {M : mM} {R : RT} (h : RX b M R) : tX M (b + 297) 240 (R 24).2.2.1 := h.2 24 (by decide)
theorem RX.u24 {b : Nat} {M M' : mM} {R : RT} (h : RX b M R) {s : List Nat} (t : tX M' (b + 297) 240 s) (f : fr M M' (b + 297) ((b + 297) + 2)) : RX b M' (up R 24 (vT s)) ∧ fr M M' b (b + 369) := ⟨h.upd 24 (by decide) t (f.wide (l := b + 297) (u := b + 299) (by omega) (by omega)), f.wide (by omega) (by omega)⟩
theorem RX.c25 {b : Nat} {M : mM} {R : RT} (h : RX b M R) : tX M (b + 299) 240 (R 25).2.2.1 := h.2 25 (by decide)
theorem RX.u25 {b : Nat} {M M' : mM} {R : RT} (h : RX b M R) {s : List Nat} (t : tX M' (b + 299) 240 s) (f : fr M M' (b + 299) ((b + 299) + 2)) : RX b M' (up R 25 (vT s)) ∧ fr M M' b (b + 369) := ⟨h.upd 25 (by decide) t (f.wide (l := b + 299) (u := b + 301) (by omega) (by omega)), f.wide (by omega) (by omega)⟩
theorem RX.c26 {b : Nat} {M : mM} {R : RT} (h : RX b M R) : mkd M (b + 301) = 110 ∧ mr M (b + 301) 0 = b + 297 ∧ mr M (b + 301) 1 = b + 299 ∧ mr M (b + 301) 2 = b + 302 := h.2 26 (by decide)
theorem RX.c27 {b : Nat} {M : mM} {R : RT} (h : RX b M R) : shX M (b + 302) 240 (R 27).2.1 := h.2 27 (by decide)
theorem RX.u27 {b : Nat} {M M' : mM} {R : RT} (h : RX b M R) {rs : List (List Nat)} (t : shX M' (b + 302) 240 rs) (f : fr M M' (b + 302) ((b + 302) + 2)) : RX b M' (up R 27 (vS rs)) ∧ fr M M' b (b + 369) := ⟨h.upd 27 (by decide) t (f.wide (l := b + 302) (u := b + 304) (by omega) (by omega)), f.wide (by omega) (by omega)⟩
theorem RX.c28 {b : Nat} {M : mM} {R : RT} (h : RX b M R) : tbX M (b + 304) 8 6 40 (R 28).1 := h.2 28 (by decide)
theorem RX.u28 {b : Nat} {M M' : mM} {R : RT} (h : RX b M R) {es : eL} (t : tbX M' (b + 304) 8 6 40 es) (f : fr M M' (b + 304) ((b + 304) + 4 * 8 + 5)) : RX b M' (up R 28 (vE es)) ∧ fr M M' b (b + 369) := ⟨h.upd 28 (by decide) t (f.wide (l := b + 304) (u := b + 341) (by omega) (by omega)), f.wide (by omega) (by omega)⟩
theorem RX.c29 {b : Nat} {M : mM} {R : RT} (h : RX b M R) : rX M (b + 341) 9 40 (R 29).2.1 (R 29).2.2.1 := h.2 29 (by decide)
theorem RX.u29 {b : Nat} {M M' : mM} {R : RT} (h : RX b M R) {ts : List (List Nat)} {sp : List Nat} (t : rX M' (b + 341) 9 40 ts sp) (f : fr M M' (b + 341) ((b + 341) + 2 * 9 + 6)) : RX b M' (up R 29 (vR ts sp)) ∧ fr M M' b (b + 369) := ⟨h.upd 29 (by decide) t (f.wide (l := b + 341) (u := b + 365) (by omega) (by omega)), f.wide (by omega) (by omega)⟩
theorem RX.c30 {b : Nat} {M : mM} {R : RT} (h : RX b M R) : tX M (b + 365) 8 (R 30).2.2.1 := h.2 30 (by decide)
theorem RX.u30 {b : Nat} {M M' : mM} {R : RT} (h : RX b M R) {s : List Nat} (t : tX M' (b + 365) 8 s) (f : fr M M' (b + 365) ((b + 365) + 2)) : RX b M' (up R 30 (vT s)) ∧ fr M M' b (b + 369) := ⟨h.upd 30 (by decide) t (f.wide (l := b + 365) (u := b + 367) (by omega) (by omega)), f.wide (by omega) (by omega)⟩
theorem RX.c31 {b : Nat} {M : mM} {R : RT} (h : RX b M R) : tX M (b + 367) 8 (R 31).2.2.1 := h.2 31 (by decide)
theorem RX.u31 {b : Nat} {M M' : mM} {R : RT} (h : RX b M R) {s : List Nat} (t : tX M' (b + 367) 8 s) (f : fr M M' (b + 367) ((b + 367) + 2)) : RX b M' (up R 31 (vT s)) ∧ fr M M' b (b + 369) := ⟨h.upd 31 (by decide) t (f.wide (l := b + 367) (u := b + 369) (by omega) (by omega)), f.wide (by omega) (by omega)⟩
theorem RX.k1 {b : Nat} {M : mM} {R : RT} (h : RX b M R) : mkd M b = 100 := h.c1.1
theorem RX.f1_0 {b : Nat} {M : mM} {R : RT} (h : RX b M R) : mr M b 0 = b + 1 := h.c1.2.1
theorem RX.f1_1 {b : Nat} {M : mM} {R : RT} (h : RX b M R) : mr M b 1 = b + 3 := h.c1.2.2.1
theorem RX.f1_2 {b : Nat} {M : mM} {R : RT} (h : RX b M R) : mr M b 2 = b + 10 := h.c1.2.2.2.1
theorem RX.f1_3 {b : Nat} {M : mM} {R : RT} (h : RX b M R) : mr M b 3 = b + 111 := h.c1.2.2.2.2
theorem RX.k2 {b : Nat} {M : mM} {R : RT} (h : RX b M R) : mkd M (b + 3) = 106 := h.c2.1
theorem RX.f2_0 {b : Nat} {M : mM} {R : RT} (h : RX b M R) : mr M (b + 3) 0 = b + 4 := h.c2.2.1
theorem RX.f2_1 {b : Nat} {M : mM} {R : RT} (h : RX b M R) : mr M (b + 3) 1 = b + 6 := h.c2.2.2.1
theorem RX.f2_2 {b : Nat} {M : mM} {R : RT} (h : RX b M R) : mr M (b + 3) 2 = b + 8 := h.c2.2.2.2.1
theorem RX.f2_4 {b : Nat} {M : mM} {R : RT} (h : RX b M R) : mr M (b + 3) 4 = b + 1 := h.c2.2.2.2.2.1
theorem RX.i2_3 {b : Nat} {M : mM} {R : RT} (h : RX b M R) : mi M (b + 3) 3 = I ((R 2).2.2.2.getD 0 0) := h.c2.2.2.2.2.2.1
theorem RX.i2_5 {b : Nat} {M : mM} {R : RT} (h : RX b M R) : mi M (b + 3) 5 = I ((R 2).2.2.2.getD 1 0) := h.c2.2.2.2.2.2.2.1
theorem RX.i2_6 {b : Nat} {M : mM} {R : RT} (h : RX b M R) : mi M (b + 3) 6 = I ((R 2).2.2.2.getD 2 0) := h.c2.2.2.2.2.2.2.2.1
theorem RX.i2_7 {b : Nat} {M : mM} {R : RT} (h : RX b M R) : mi M (b + 3) 7 = I ((R 2).2.2.2.getD 3 0) := h.c2.2.2.2.2.2.2.2.2.1
theorem RX.i2_8 {b : Nat} {M : mM} {R : RT} (h : RX b M R) : mi M (b + 3) 8 = I ((R 2).2.2.2.getD 4 0) := h.c2.2.2.2.2.2.2.2.2.2.1
theorem RX.i2_9 {b : Nat} {M : mM} {R : RT} (h : RX b M R) : mi M (b + 3) 9 = I ((R 2).2.2.2.getD 5 0) := h.c2.2.2.2.2.2.2.2.2.2.2
theorem RX.k6 {b : Nat} {M : mM} {R : RT} (h : RX b M R) : mkd M (b + 10) = 105 := h.c6.1
theorem RX.f6_0 {b : Nat} {M : mM} {R : RT} (h : RX b M R) : mr M (b + 10) 0 = b + 11 := h.c6.2.1
theorem RX.f6_1 {b : Nat} {M : mM} {R : RT} (h : RX b M R) : mr M (b + 10) 1 = b + 48 := h.c6.2.2.1
theorem RX.f6_2 {b : Nat} {M : mM} {R : RT} (h : RX b M R) : mr M (b + 10) 2 = b + 72 := h.c6.2.2.2.1
theorem RX.f6_3 {b : Nat} {M : mM} {R : RT} (h : RX b M R) : mr M (b + 10) 3 = b + 109 := h.c6.2.2.2.2.1
theorem RX.i6_4 {b : Nat} {M : mM} {R : RT} (h : RX b M R) : mi M (b + 10) 4 = I ((R 6).2.2.2.getD 0 0) := h.c6.2.2.2.2.2
theorem RX.k11 {b : Nat} {M : mM} {R : RT} (h : RX b M R) : mkd M (b + 111) = 108 := h.c11.1
theorem RX.f11_0 {b : Nat} {M : mM} {R : RT} (h : RX b M R) : mr M (b + 111) 0 = b + 112 := h.c11.2.1
theorem RX.f11_1 {b : Nat} {M : mM} {R : RT} (h : RX b M R) : mr M (b + 111) 1 = b + 3 := h.c11.2.2.1
theorem RX.f11_2 {b : Nat} {M : mM} {R : RT} (h : RX b M R) : mr M (b + 111) 2 = b + 213 := h.c11.2.2.2.1
theorem RX.f11_3 {b : Nat} {M : mM} {R : RT} (h : RX b M R) : mr M (b + 111) 3 = b + 258 := h.c11.2.2.2.2.1
theorem RX.f11_4 {b : Nat} {M : mM} {R : RT} (h : RX b M R) : mr M (b + 111) 4 = b + 304 := h.c11.2.2.2.2.2.1
theorem RX.f11_5 {b : Nat} {M : mM} {R : RT} (h : RX b M R) : mr M (b + 111) 5 = b + 341 := h.c11.2.2.2.2.2.2.1
theorem RX.f11_6 {b : Nat} {M : mM} {R : RT} (h : RX b M R) : mr M (b + 111) 6 = b + 365 := h.c11.2.2.2.2.2.2.2.1
theorem RX.f11_7 {b : Nat} {M : mM} {R : RT} (h : RX b M R) : mr M (b + 111) 7 = b + 367 := h.c11.2.2.2.2.2.2.2.2.1
theorem RX.i11_8 {b : Nat} {M : mM} {R : RT} (h : RX b M R) : mi M (b + 111) 8 = I ((R 11).2.2.2.getD 0 0) := h.c11.2.2.2.2.2.2.2.2.2.1
theorem RX.i11_9 {b : Nat} {M : mM} {R : RT} (h : RX b M R) : mi M (b + 111) 9 = I ((R 11).2.2.2.getD 1 0) := h.c11.2.2.2.2.2.2.2.2.2.2.1
theorem RX.i11_10 {b : Nat} {M : mM} {R : RT} (h : RX b M R) : mi M (b + 111) 10 = I ((R 11).2.2.2.getD 2 0) := h.c11.2.2.2.2.2.2.2.2.2.2.2
theorem RX.k12 {b : Nat} {M : mM} {R : RT} (h : RX b M R) : mkd M (b + 112) = 105 := h.c12.1
theorem RX.f12_0 {b : Nat} {M : mM} {R : RT} (h : RX b M R) : mr M (b + 112) 0 = b + 113 := h.c12.2.1
theorem RX.f12_1 {b : Nat} {M : mM} {R : RT} (h : RX b M R) : mr M (b + 112) 1 = b + 150 := h.c12.2.2.1
theorem RX.f12_2 {b : Nat} {M : mM} {R : RT} (h : RX b M R) : mr M (b + 112) 2 = b + 174 := h.c12.2.2.2.1
theorem RX.f12_3 {b : Nat} {M : mM} {R : RT} (h : RX b M R) : mr M (b + 112) 3 = b + 211 := h.c12.2.2.2.2.1
theorem RX.i12_4 {b : Nat} {M : mM} {R : RT} (h : RX b M R) : mi M (b + 112) 4 = I ((R 12).2.2.2.getD 0 0) := h.c12.2.2.2.2.2
theorem RX.k17 {b : Nat} {M : mM} {R : RT} (h : RX b M R) : mkd M (b + 213) = 107 := h.c17.1
theorem RX.f17_0 {b : Nat} {M : mM} {R : RT} (h : RX b M R) : mr M (b + 213) 0 = b + 1 := h.c17.2.1
theorem RX.f17_1 {b : Nat} {M : mM} {R : RT} (h : RX b M R) : mr M (b + 213) 1 = b + 3 := h.c17.2.2.1
theorem RX.f17_2 {b : Nat} {M : mM} {R : RT} (h : RX b M R) : mr M (b + 213) 2 = b + 112 := h.c17.2.2.2.1
theorem RX.f17_3 {b : Nat} {M : mM} {R : RT} (h : RX b M R) : mr M (b + 213) 3 = b + 214 := h.c17.2.2.2.2.1
theorem RX.f17_4 {b : Nat} {M : mM} {R : RT} (h : RX b M R) : mr M (b + 213) 4 = b + 252 := h.c17.2.2.2.2.2.1
theorem RX.f17_5 {b : Nat} {M : mM} {R : RT} (h : RX b M R) : mr M (b + 213) 5 = b + 254 := h.c17.2.2.2.2.2.2.1
theorem RX.f17_6 {b : Nat} {M : mM} {R : RT} (h : RX b M R) : mr M (b + 213) 6 = b + 256 := h.c17.2.2.2.2.2.2.2.1
theorem RX.i17_7 {b : Nat} {M : mM} {R : RT} (h : RX b M R) : mi M (b + 213) 7 = I ((R 17).2.2.2.getD 0 0) := h.c17.2.2.2.2.2.2.2.2
theorem RX.k22 {b : Nat} {M : mM} {R : RT} (h : RX b M R) : mkd M (b + 258) = 109 := h.c22.1
theorem RX.f22_0 {b : Nat} {M : mM} {R : RT} (h : RX b M R) : mr M (b + 258) 0 = b + 259 := h.c22.2.1
theorem RX.f22_1 {b : Nat} {M : mM} {R : RT} (h : RX b M R) : mr M (b + 258) 1 = b + 297 := h.c22.2.2.1
theorem RX.f22_2 {b : Nat} {M : mM} {R : RT} (h : RX b M R) : mr M (b + 258) 2 = b + 299 := h.c22.2.2.2.1
theorem RX.f22_4 {b : Nat} {M : mM} {R : RT} (h : RX b M R) : mr M (b + 258) 4 = b + 112 := h.c22.2.2.2.2.1
theorem RX.f22_5 {b : Nat} {M : mM} {R : RT} (h : RX b M R) : mr M (b + 258) 5 = b + 301 := h.c22.2.2.2.2.2.1
theorem RX.i22_3 {b : Nat} {M : mM} {R : RT} (h : RX b M R) : mi M (b + 258) 3 = I ((R 22).2.2.2.getD 0 0) := h.c22.2.2.2.2.2.2
theorem RX.k26 {b : Nat} {M : mM} {R : RT} (h : RX b M R) : mkd M (b + 301) = 110 := h.c26.1
theorem RX.f26_0 {b : Nat} {M : mM} {R : RT} (h : RX b M R) : mr M (b + 301) 0 = b + 297 := h.c26.2.1
theorem RX.f26_1 {b : Nat} {M : mM} {R : RT} (h : RX b M R) : mr M (b + 301) 1 = b + 299 := h.c26.2.2.1
theorem RX.f26_2 {b : Nat} {M : mM} {R : RT} (h : RX b M R) : mr M (b + 301) 2 = b + 302 := h.c26.2.2.2
theorem RX.g0 {b : Nat} {M : mM} {R : RT} (h : RX b M R) {s : List Nat} (e : R 0 = vT s) : tX M (b + 1) 240 s := by have z := h.c0; rw [e] at z; exact z
theorem RX.g3 {b : Nat} {M : mM} {R : RT} (h : RX b M R) {rs : List (List Nat)} (e : (R 3).2.1 = rs) : shX M (b + 4) 240 rs := by have z := h.c3; rw [e] at z; exact z
theorem RX.g4 {b : Nat} {M : mM} {R : RT} (h : RX b M R) {rs : List (List Nat)} (e : (R 4).2.1 = rs) : shX M (b + 6) 240 rs := by have z := h.c4; rw [e] at z; exact z
theorem RX.g5 {b : Nat} {M : mM} {R : RT} (h : RX b M R) {rs : List (List Nat)} (e : (R 5).2.1 = rs) : shX M (b + 8) 240 rs := by have z := h.c5; rw [e] at z; exact z
theorem RX.g7 {b : Nat} {M : mM} {R : RT} (h : RX b M R) {es : eL} (e : (R 7).1 = es) : tbX M (b + 11) 8 6 40 es := by have z := h.c7; rw [e] at z; exact z
theorem RX.g8 {b : Nat} {M : mM} {R : RT} (h : RX b M R) {ts : List (List Nat)} (e : (R 8).2.1 = ts) : rX M (b + 48) 9 40 ts (R 8).2.2.1 := by have z := h.c8; rw [e] at z; exact z
theorem RX.g9 {b : Nat} {M : mM} {R : RT} (h : RX b M R) {es : eL} (e : (R 9).1 = es) : tbX M (b + 72) 8 8 80 es := by have z := h.c9; rw [e] at z; exact z
theorem RX.g10 {b : Nat} {M : mM} {R : RT} (h : RX b M R) {s : List Nat} (e : R 10 = vT s) : tX M (b + 109) 240 s := by have z := h.c10; rw [e] at z; exact z
theorem RX.g13 {b : Nat} {M : mM} {R : RT} (h : RX b M R) {es : eL} (e : (R 13).1 = es) : tbX M (b + 113) 8 6 40 es := by have z := h.c13; rw [e] at z; exact z
theorem RX.g14 {b : Nat} {M : mM} {R : RT} (h : RX b M R) {ts : List (List Nat)} (e : (R 14).2.1 = ts) : rX M (b + 150) 9 40 ts (R 14).2.2.1 := by have z := h.c14; rw [e] at z; exact z
theorem RX.g15 {b : Nat} {M : mM} {R : RT} (h : RX b M R) {es : eL} (e : (R 15).1 = es) : tbX M (b + 174) 8 8 80 es := by have z := h.c15; rw [e] at z; exact z
theorem RX.g16 {b : Nat} {M : mM} {R : RT} (h : RX b M R) {s : List Nat} (e : R 16 = vT s) : tX M (b + 211) 240 s := by have z := h.c16; rw [e] at z; exact z
theorem RX.g18 {b : Nat} {M : mM} {R : RT} (h : RX b M R) {ts : List (List Nat)} (e : (R 18).2.1 = ts) : rX M (b + 214) 16 40 ts (R 18).2.2.1 := by have z := h.c18; rw [e] at z; exact z
theorem RX.g19 {b : Nat} {M : mM} {R : RT} (h : RX b M R) {s : List Nat} (e : R 19 = vT s) : tX M (b + 252) 40 s := by have z := h.c19; rw [e] at z; exact z
theorem RX.g20 {b : Nat} {M : mM} {R : RT} (h : RX b M R) {s : List Nat} (e : R 20 = vT s) : tX M (b + 254) 240 s := by have z := h.c20; rw [e] at z; exact z
theorem RX.g21 {b : Nat} {M : mM} {R : RT} (h : RX b M R) {s : List Nat} (e : R 21 = vT s) : tX M (b + 256) 40 s := by have z := h.c21; rw [e] at z; exact z
theorem RX.g23 {b : Nat} {M : mM} {R : RT} (h : RX b M R) {ts : List (List Nat)} (e : (R 23).2.1 = ts) : rX M (b + 259) 16 40 ts (R 23).2.2.1 := by have z := h.c23; rw [e] at z; exact z
theorem RX.g24 {b : Nat} {M : mM} {R : RT} (h : RX b M R) {s : List Nat} (e : R 24 = vT s) : tX M (b + 297) 240 s := by have z := h.c24; rw [e] at z; exact z
theorem RX.g25 {b : Nat} {M : mM} {R : RT} (h : RX b M R) {s : List Nat} (e : R 25 = vT s) : tX M (b + 299) 240 s := by have z := h.c25; rw [e] at z; exact z
theorem RX.g27 {b : Nat} {M : mM} {R : RT} (h : RX b M R) {rs : List (List Nat)} (e : (R 27).2.1 = rs) : shX M (b + 302) 240 rs := by have z := h.c27; rw [e] at z; exact z
theorem RX.g28 {b : Nat} {M : mM} {R : RT} (h : RX b M R) {es : eL} (e : (R 28).1 = es) : tbX M (b + 304) 8 6 40 es := by have z := h.c28; rw [e] at z; exact z
theorem RX.g29 {b : Nat} {M : mM} {R : RT} (h : RX b M R) {ts : List (List Nat)} (e : (R 29).2.1 = ts) : rX M (b + 341) 9 40 ts (R 29).2.2.1 := by have z := h.c29; rw [e] at z; exact z
theorem RX.g30 {b : Nat} {M : mM} {R : RT} (h : RX b M R) {s : List Nat} (e : R 30 = vT s) : tX M (b + 365) 8 s := by have z := h.c30; rw [e] at z; exact z
theorem RX.g31 {b : Nat} {M : mM} {R : RT} (h : RX b M R) {s : List Nat} (e : R 31 = vT s) : tX M (b + 367) 8 s := by have z := h.c31; rw [e] at z; exact z
