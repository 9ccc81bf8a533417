/-! WORDS OF THE PRINTED PRECONDITIONS: ints by Int, calls by what is behind them -/
abbrev I (z : Int) : Int32 := Int32.ofInt z
abbrev nt (x : Int32) : Nat := x.toNatClampNeg
def cN (x : Int32) : Int32 := vp_nar .char x
def bN (x : Int32) : Int32 := vp_nar .boolean x
def i2c (x : Int32) : Int32 := (x.toUInt32 % 65536).toInt32
def ishl (x y : Int32) : Int32 := x <<< (y &&& 31)
def ishr (x y : Int32) : Int32 := x >>> (y &&& 31)
def lshl (x : Int64) (y : Int32) : Int64 := x <<< (y.toInt64 &&& 63)
def lshr (x : Int64) (y : Int32) : Int64 := x >>> (y.toInt64 &&& 63)
def lushr (x : Int64) (y : Int32) : Int64 := (x.toUInt64 >>> (y.toInt64.toUInt64 &&& Int64.toUInt64 63)).toInt64
/-- a call of method y -/
def mC (E : mE) (y : Nat) (as : List Value) (M : mM) (Q : mQ) : Prop := mX E y 0 (m_ent as (mNL y)) [] M Q
/-- a throw -/
def mTh (E : mE) (kd : Nat) (M : mM) (Q : mQ) : Prop := m_room E M 6 ∧ Q (.inr (msz M)) (mnw M kd 0 6)
def kVo (Q : mQ) (F : mM → Prop) : mQ := fun o M => match o with
  | .inl none => F M
  | .inl (some _) => False
  | .inr a => Q (.inr a) M
def kI (Q : mQ) (F : Int32 → mM → Prop) : mQ := fun o M => match o with
  | .inl none => False
  | .inl (some v) => match v with
    | .int x => F x M
    | _ => False
  | .inr a => Q (.inr a) M
def kJ (Q : mQ) (F : Int64 → mM → Prop) : mQ := fun o M => match o with
  | .inl none => False
  | .inl (some v) => match v with
    | .long x => F x M
    | _ => False
  | .inr a => Q (.inr a) M
def kR (Q : mQ) (F : Nat → mM → Prop) : mQ := fun o M => match o with
  | .inl none => False
  | .inl (some v) => match v with
    | .ref x => F x M
    | _ => False
  | .inr a => Q (.inr a) M
section CALLS
variable {E : mE} {y : Nat} {as : List Value} {M : mM} {Q : mQ} {k : mK} {L : mL} {rest : List Value}
theorem mC_V {F : mM → Prop} (hl : (m_arg as).length ≤ mNL y) (h : mC E y as M (kVo Q F)) (hk : ∀ M1, F M1 → k L rest M1) : mIn (mX E) y as M (m_back Q k L rest) := ⟨hl, mX_mono (fun o M1 q => by
  match o, q with
  | .inl none, q => exact hk _ q
  | .inr a, q => exact q) h⟩
theorem mC_I {F : Int32 → mM → Prop} (hl : (m_arg as).length ≤ mNL y) (h : mC E y as M (kI Q F)) (hk : ∀ x M1, F x M1 → k L (.int x :: rest) M1) : mIn (mX E) y as M (m_back Q k L rest) := ⟨hl, mX_mono (fun o M1 q => by
  match o, q with
  | .inl (some (.int x)), q => exact hk _ _ q
  | .inr a, q => exact q) h⟩
theorem mC_J {F : Int64 → mM → Prop} (hl : (m_arg as).length ≤ mNL y) (h : mC E y as M (kJ Q F)) (hk : ∀ x M1, F x M1 → k L (.long x :: rest) M1) : mIn (mX E) y as M (m_back Q k L rest) := ⟨hl, mX_mono (fun o M1 q => by
  match o, q with
  | .inl (some (.long x)), q => exact hk _ _ q
  | .inr a, q => exact q) h⟩
theorem mC_R {F : Nat → mM → Prop} (hl : (m_arg as).length ≤ mNL y) (h : mC E y as M (kR Q F)) (hk : ∀ x M1, F x M1 → k L (.ref x :: rest) M1) : mIn (mX E) y as M (m_back Q k L rest) := ⟨hl, mX_mono (fun o M1 q => by
  match o, q with
  | .inl (some (.ref x)), q => exact hk _ _ q
  | .inr a, q => exact q) h⟩
theorem mC_mono {Q' : mQ} (h : ∀ o M, Q o M → Q' o M) (q : mC E y as M Q) : mC E y as M Q' := mX_mono h q
end CALLS
