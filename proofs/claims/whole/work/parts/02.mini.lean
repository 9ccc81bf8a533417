/-! A SMALL MACHINE over a small memory, and its weakest preconditions. A cell has a kind (a number; 0: none that this machine knows), a length, ints, references (0: null) and longs. -/
abbrev mM : Type := (Nat → Nat) × (Nat → Nat) × (Nat → Nat → Int32) × (Nat → Nat → Nat) × (Nat → Nat → Int64) × Nat × Nat
def mkd (M : mM) (a : Nat) : Nat := M.1 a
def mln (M : mM) (a : Nat) : Nat := M.2.1 a
def mi (M : mM) (a k : Nat) : Int32 := M.2.2.1 a k
def mr (M : mM) (a k : Nat) : Nat := M.2.2.2.1 a k
def mj (M : mM) (a k : Nat) : Int64 := M.2.2.2.2.1 a k
def msz (M : mM) : Nat := M.2.2.2.2.2.1
def mns (M : mM) : Nat := M.2.2.2.2.2.2
def mup {α : Type} (f : Nat → α) (a : Nat) (v : α) : Nat → α := fun b => if b = a then v else f b
def mup2 {α : Type} (f : Nat → Nat → α) (a k : Nat) (v : α) : Nat → Nat → α := fun b j => if b = a ∧ j = k then v else f b j
def msi (M : mM) (a k : Nat) (v : Int32) : mM := (M.1, M.2.1, mup2 M.2.2.1 a k v, M.2.2.2)
def msr (M : mM) (a k : Nat) (v : Nat) : mM := (M.1, M.2.1, M.2.2.1, mup2 M.2.2.2.1 a k v, M.2.2.2.2)
def msj (M : mM) (a k : Nat) (v : Int64) : mM := (M.1, M.2.1, M.2.2.1, M.2.2.2.1, mup2 M.2.2.2.2.1 a k v, M.2.2.2.2.2)
/-- a new cell of kind kd and length n, that costs c slots: zeros and nulls -/
def mnw (M : mM) (kd n c : Nat) : mM := (mup M.1 (msz M) kd, mup M.2.1 (msz M) n, mup M.2.2.1 (msz M) (fun _ => 0), mup M.2.2.2.1 (msz M) (fun _ => 0), mup M.2.2.2.2.1 (msz M) (fun _ => 0), msz M + 1, mns M + c)
abbrev mL : Type := List (Option Value)
/-- returned (a value, or none), or threw the object at an address -/
abbrev mO : Type := Option Value ⊕ Nat
/-- an instruction, its length, what it was resolved to -/
abbrev mOp : Type := Instr × Nat × List Nat
/-- the first address of the cells that the machine makes; the addresses of constants -/
abbrev mE : Type := Nat × (Nat → Nat)
def m_at : mL → Nat → Option Value
  | [], _ => none
  | v :: _, 0 => v
  | _ :: l, n + 1 => m_at l n
def m_set : mL → Nat → Option Value → mL
  | [], _, _ => []
  | _ :: l, 0, v => v :: l
  | w :: l, n + 1, v => w :: m_set l n v
/-- what a store at i does to a long that begins one place before it -/
def m_kill (L : mL) : Nat → mL
  | 0 => L
  | i + 1 => match m_at L i with
    | some (.long _) => m_set L i none
    | some (.double _) => m_set L i none
    | _ => L
def m_st1 (L : mL) (i : Nat) (v : Value) : mL := m_set (m_kill L i) i (some v)
def m_st2 (L : mL) (i : Nat) (v : Value) : mL := m_set (m_set (m_kill L i) (i + 1) none) i (some v)
/-- the locals at a method's entry -/
def m_arg : List Value → mL
  | [] => []
  | .long x :: l => some (.long x) :: none :: m_arg l
  | .double x :: l => some (.double x) :: none :: m_arg l
  | v :: l => some v :: m_arg l
def m_ent (as : List Value) (n : Nat) : mL := m_arg as ++ List.replicate (n - (m_arg as).length) none
def m_I (st : List Value) (k : Int32 → List Value → Prop) : Prop := match st with
  | .int x :: r => k x r
  | _ => False
def m_J (st : List Value) (k : Int64 → List Value → Prop) : Prop := match st with
  | .long x :: r => k x r
  | _ => False
def m_R (st : List Value) (k : Nat → List Value → Prop) : Prop := match st with
  | .ref x :: r => k x r
  | _ => False
/-- two ints, the second on top -/
def m_II (st : List Value) (k : Int32 → Int32 → List Value → Prop) : Prop := m_I st fun y r => m_I r fun x r => k x y r
def m_JJ (st : List Value) (k : Int64 → Int64 → List Value → Prop) : Prop := m_J st fun y r => m_J r fun x r => k x y r
def m_JI (st : List Value) (k : Int64 → Int32 → List Value → Prop) : Prop := m_I st fun y r => m_J r fun x r => k x y r
/-- an array's reference, then a place on top -/
def m_RI (st : List Value) (k : Nat → Int32 → List Value → Prop) : Prop := m_I st fun j r => m_R r fun a r => k a j r
def m_lI (L : mL) (i : Nat) (k : Int32 → Prop) : Prop := match m_at L i with
  | some (.int x) => k x
  | _ => False
def m_lJ (L : mL) (i : Nat) (k : Int64 → Prop) : Prop := match m_at L i with
  | some (.long x) => k x
  | _ => False
def m_lR (L : mL) (i : Nat) (k : Nat → Prop) : Prop := match m_at L i with
  | some (.ref x) => k x
  | _ => False
def m_br (c : Prop) (t f : Prop) : Prop := (c → t) ∧ (¬ c → f)
def m_cat (st : List Value) : Nat := (st.map fun v => v.category).sum
/-- how many cells and slots there may be in all -/
def mCC : Nat := 601024
def mCS : Nat := 7293034
def m_room (E : mE) (M : mM) (c : Nat) : Prop := msz M - E.1 + 1 ≤ mCC ∧ mns M + c ≤ mCS
abbrev mG : Type := Nat → mL → List Value → mM → Prop
abbrev mQ : Type := mO → mM → Prop
abbrev mK : Type := mL → List Value → mM → Prop
abbrev mCl : Type := Nat → List Value → mM → mQ → Prop
/-- what is behind a call: a value goes on the stack, an exception goes out -/
def m_back (Q : mQ) (k : mK) (L : mL) (rest : List Value) : mQ := fun o M => match o with
  | .inl none => k L rest M
  | .inl (some v) => k L (v :: rest) M
  | .inr a => Q (.inr a) M
def m_catch (go : mG) (k : mK) (L : mL) (rest : List Value) (h0 h1 : Nat) : mQ := fun o M => match o with
  | .inl none => k L rest M
  | .inl (some v) => k L (v :: rest) M
  | .inr a => (mkd M a = 90 → go h0 L [.ref a] M) ∧ (mkd M a = 91 → go h1 L [.ref a] M) ∧ (mkd M a = 90 ∨ mkd M a = 91)
/-- the block of a tableswitch: the first of ps is the default's -/
def m_tab (lo hi x : Int) (ps : List Nat) : Nat := if x < lo ∨ hi < x then ps.getD 0 0 else ps.getD ((x - lo).toNat + 1) 0
/-- the block of a lookupswitch -/
def m_lks : List (Int × Int) → List Nat → Nat → Int → Nat
  | (a, _) :: r, t :: ts, d, x => if a = x then t else m_lks r ts d x
  | _, _, d, _ => d
def m_call (call : mCl) (Q : mQ) (y n : Nat) (k : mK) (L : mL) (st : List Value) (M : mM) : Prop := match Nat.ble (m_cat (st.drop n)) 8 && Nat.ble n st.length with
  | true => call y (st.take n).reverse M (m_back Q k L (st.drop n))
  | false => False
def m_callC (go : mG) (call : mCl) (y n h0 h1 : Nat) (k : mK) (L : mL) (st : List Value) (M : mM) : Prop := match Nat.ble (m_cat (st.drop n)) 8 && Nat.ble n st.length with
  | true => call y (st.take n).reverse M (m_catch go k L (st.drop n) h0 h1)
  | false => False
def m_recv (st : List Value) (n kd : Nat) (M : mM) (k : Prop) : Prop := match (st.take n).reverse with
  | .ref a :: _ => mkd M a = kd ∧ k
  | _ => False
def m_self (st : List Value) (n : Nat) (k : Prop) : Prop := match (st.take n).reverse with
  | .ref _ :: _ => k
  | _ => False
/-! constants: places of their addresses: 100 + i a String, 200 + i its bytes, 300 + i a Utility, 400 ALL, 401 the map of a switch, 402 a formatter (0: null, a + 1: at a), 403 a boolean -/
def kWs : List (List Nat) := [[101, 99, 104, 111], [99, 97, 116], [116, 114, 117, 101], [102, 97, 108, 115, 101], [115, 101, 116], [117, 110, 115, 101, 116], [114, 109], [119, 99], [104, 101, 97, 100], [114, 101, 118], [115, 111, 114, 116], [117, 110, 105, 113], [103, 114, 101, 112], [116, 114], [116, 101, 115, 116], [101, 120, 105, 116], [], [45, 101], [61], [33, 61]]
def kLen (i : Nat) : Nat := (kWs.getD i []).length
def kMin (i : Nat) : Nat := [0, 0, 0, 0, 0, 0, 0, 0, 1, 0, 0, 0, 1, 2, 1, 0, 0].getD i 0
def kMax (i : Nat) : Nat := [16, 16, 0, 0, 16, 16, 16, 0, 1, 0, 0, 0, 1, 2, 3, 1, 16].getD i 0
def kSw (j : Nat) : Nat := if j < 16 then j + 1 else 0
/-- what a static holds -/
def kV (d : Nat → Nat) (c : Nat) : Value := match c with
  | 402 => if d 402 = 0 then .null else .ref (d 402 - 1)
  | 403 => .int 1
  | c => .ref (d c)
/-- a constant object's field f: how many such objects, where they begin, what it holds -/
def kN (f : Nat) : Nat := match f with
  | 0 => 20
  | 1 => 20
  | _ => 17
def kB (f : Nat) : Nat := match f with
  | 0 => 100
  | 1 => 100
  | _ => 300
def kW (d : Nat → Nat) (f i : Nat) : Value := match f with
  | 0 => .ref (d (200 + i))
  | 1 => .int 0
  | 2 => .ref (d (100 + i))
  | 3 => .int (nI i)
  | 4 => .int (nI (kMin i))
  | _ => .int (nI (kMax i))
/-- constant arrays of the sort t: how many, where they begin, their length, what they hold -/
def kM (t : Nat) : Nat := match t with
  | 1 => 20
  | _ => 1
def kD (t : Nat) : Nat := match t with
  | 0 => 400
  | 1 => 200
  | _ => 401
def kQ (t i : Nat) : Nat := match t with
  | 1 => kLen i
  | _ => 17
def kX (d : Nat → Nat) (t i j : Nat) : Value := match t with
  | 0 => .ref (d (300 + j))
  | 1 => .int (nI ((kWs.getD i []).getD j 0))
  | _ => .int (nI (kSw j))
/-- a constant object as a receiver: 212 a Utility, else a String -/
def m_recvK (E : mE) (st : List Value) (n kd : Nat) (k : Prop) : Prop := match (st.take n).reverse with
  | .ref a :: _ => ∃ i, i < kN (cond (Nat.beq kd 212) 2 0) ∧ a = E.2 (kB (cond (Nat.beq kd 212) 2 0) + i) ∧ k
  | _ => False
/-- one instruction -/
def mStep (E : mE) (go : mG) (call : mCl) (Q : mQ) (o : mOp) (k : mK) (L : mL) (st : List Value) (M : mM) : Prop := match o.1 with
  | .iconst n => k L (.int (Int32.ofInt n) :: st) M
  | .bipush n => k L (.int (Int8.ofInt n).toInt32 :: st) M
  | .sipush n => k L (.int (Int16.ofInt n).toInt32 :: st) M
  | .lconst n => k L (.long (Int64.ofNat n.val) :: st) M
  | .ldc2_w _ => k L (.long (lN (o.2.2.getD 0 0)) :: st) M
  | .iload_n i => m_lI L i.val fun x => k L (.int x :: st) M
  | .iload i => m_lI L i fun x => k L (.int x :: st) M
  | .lload_n i => m_lJ L i.val fun x => k L (.long x :: st) M
  | .lload i => m_lJ L i fun x => k L (.long x :: st) M
  | .aload_n i => m_lR L i.val fun x => k L (.ref x :: st) M
  | .aload i => m_lR L i fun x => k L (.ref x :: st) M
  | .istore_n i => m_I st fun x r => k (m_st1 L i.val (.int x)) r M
  | .istore i => m_I st fun x r => k (m_st1 L i (.int x)) r M
  | .lstore_n i => m_J st fun x r => k (m_st2 L i.val (.long x)) r M
  | .lstore i => m_J st fun x r => k (m_st2 L i (.long x)) r M
  | .astore_n i => m_R st fun x r => k (m_st1 L i.val (.ref x)) r M
  | .astore i => m_R st fun x r => k (m_st1 L i (.ref x)) r M
  | .iinc i n => m_lI L i fun x => k (m_st1 L i (.int (x + Int32.ofInt n))) st M
  | .iadd => m_II st fun x y r => k L (.int (x + y) :: r) M
  | .isub => m_II st fun x y r => k L (.int (x - y) :: r) M
  | .imul => m_II st fun x y r => k L (.int (x * y) :: r) M
  | .iand => m_II st fun x y r => k L (.int (x &&& y) :: r) M
  | .ior => m_II st fun x y r => k L (.int (x ||| y) :: r) M
  | .idiv => m_II st fun x y r => ¬ y = 0 ∧ k L (.int (x / y) :: r) M
  | .irem => m_II st fun x y r => ¬ y = 0 ∧ k L (.int (x - x / y * y) :: r) M
  | .ineg => m_I st fun x r => k L (.int (-x) :: r) M
  | .ishl => m_II st fun x y r => k L (.int (x <<< (y &&& 31)) :: r) M
  | .ishr => m_II st fun x y r => k L (.int (x >>> (y &&& 31)) :: r) M
  | .land => m_JJ st fun x y r => k L (.long (x &&& y) :: r) M
  | .lor => m_JJ st fun x y r => k L (.long (x ||| y) :: r) M
  | .lshl => m_JI st fun x y r => k L (.long (x <<< (y.toInt64 &&& 63)) :: r) M
  | .lshr => m_JI st fun x y r => k L (.long (x >>> (y.toInt64 &&& 63)) :: r) M
  | .lushr => m_JI st fun x y r => k L (.long (x.toUInt64 >>> (y.toInt64.toUInt64 &&& Int64.toUInt64 63)).toInt64 :: r) M
  | .lcmp => m_JJ st fun x y r => k L (.int (lg_cmp x y) :: r) M
  | .i2l => m_I st fun x r => k L (.long x.toInt64 :: r) M
  | .l2i => m_J st fun x r => k L (.int x.toInt32 :: r) M
  | .i2c => m_I st fun x r => k L (.int (x.toUInt32 % 65536).toInt32 :: r) M
  | .dup => match st with
    | .int x :: r => k L (.int x :: .int x :: r) M
    | .ref x :: r => k L (.ref x :: .ref x :: r) M
    | _ => False
  | .dup2 => match st with
    | .int y :: .int x :: r => k L (.int y :: .int x :: .int y :: .int x :: r) M
    | .int y :: .ref x :: r => k L (.int y :: .ref x :: .int y :: .ref x :: r) M
    | _ => False
  | .ifCond c _ => m_I st fun x r => match c with
    | .eq => m_br (x = 0) (go (o.2.2.getD 0 0) L r M) (k L r M)
    | .ne => m_br (¬ x = 0) (go (o.2.2.getD 0 0) L r M) (k L r M)
    | .lt => m_br (x < 0) (go (o.2.2.getD 0 0) L r M) (k L r M)
    | .ge => m_br (0 ≤ x) (go (o.2.2.getD 0 0) L r M) (k L r M)
    | .gt => m_br (0 < x) (go (o.2.2.getD 0 0) L r M) (k L r M)
    | .le => m_br (x ≤ 0) (go (o.2.2.getD 0 0) L r M) (k L r M)
  | .if_icmp c _ => m_II st fun x y r => match c with
    | .eq => m_br (x = y) (go (o.2.2.getD 0 0) L r M) (k L r M)
    | .ne => m_br (¬ x = y) (go (o.2.2.getD 0 0) L r M) (k L r M)
    | .lt => m_br (x < y) (go (o.2.2.getD 0 0) L r M) (k L r M)
    | .ge => m_br (y ≤ x) (go (o.2.2.getD 0 0) L r M) (k L r M)
    | .gt => m_br (y < x) (go (o.2.2.getD 0 0) L r M) (k L r M)
    | .le => m_br (x ≤ y) (go (o.2.2.getD 0 0) L r M) (k L r M)
  | .goto _ => go (o.2.2.getD 0 0) L st M
  | .tableswitch _ lo hi _ => m_I st fun x r => go (m_tab lo hi x.toInt o.2.2) L r M
  | .lookupswitch _ prs => m_I st fun x r => go (m_lks prs.toList (o.2.2.drop 1) (o.2.2.getD 0 0) x.toInt) L r M
  | .arraylength => match o.2.2 with
    | [_, t] => m_R st fun a r => ∃ i, i < kM t ∧ a = E.2 (kD t + i) ∧ k L (.int (nI (kQ t i)) :: r) M
    | _ => m_R st fun a r => mkd M a = o.2.2.getD 0 0 ∧ k L (.int (nI (mln M a)) :: r) M
  | .iaload => match o.2.2 with
    | [_, t] => m_RI st fun a j r => ∃ i, i < kM t ∧ a = E.2 (kD t + i) ∧ vp_in j (kQ t i) ∧ k L (kX E.2 t i j.toNatClampNeg :: r) M
    | _ => m_RI st fun a j r => mkd M a = o.2.2.getD 0 0 ∧ vp_in j (mln M a) ∧ k L (.int (mi M a j.toNatClampNeg) :: r) M
  | .caload => m_RI st fun a j r => mkd M a = 2 ∧ vp_in j (mln M a) ∧ k L (.int (mi M a j.toNatClampNeg) :: r) M
  | .baload => match o.2.2 with
    | [_, t] => m_RI st fun a j r => ∃ i, i < kM t ∧ a = E.2 (kD t + i) ∧ vp_in j (kQ t i) ∧ k L (kX E.2 t i j.toNatClampNeg :: r) M
    | _ => m_RI st fun a j r => mkd M a = o.2.2.getD 0 0 ∧ vp_in j (mln M a) ∧ k L (.int (mi M a j.toNatClampNeg) :: r) M
  | .laload => m_RI st fun a j r => mkd M a = 4 ∧ vp_in j (mln M a) ∧ k L (.long (mj M a j.toNatClampNeg) :: r) M
  | .aaload => match o.2.2 with
    | [_, t] => m_RI st fun a j r => ∃ i, i < kM t ∧ a = E.2 (kD t + i) ∧ vp_in j (kQ t i) ∧ k L (kX E.2 t i j.toNatClampNeg :: r) M
    | _ => m_RI st fun a j r => mkd M a = o.2.2.getD 0 0 ∧ vp_in j (mln M a) ∧ ¬ mr M a j.toNatClampNeg = 0 ∧ k L (.ref (mr M a j.toNatClampNeg) :: r) M
  | .pop => m_I st fun _ r => k L r M
  | .getstatic _ => k L (kV E.2 (o.2.2.getD 0 0) :: st) M
  | .ldc _ => k L (.ref (E.2 (o.2.2.getD 0 0)) :: st) M
  | .iastore => m_I st fun x r => m_RI r fun a j r => mkd M a = 1 ∧ vp_in j (mln M a) ∧ k L r (msi M a j.toNatClampNeg x)
  | .castore => m_I st fun x r => m_RI r fun a j r => mkd M a = 2 ∧ vp_in j (mln M a) ∧ k L r (msi M a j.toNatClampNeg (vp_nar .char x))
  | .bastore => m_I st fun x r => m_RI r fun a j r => mkd M a = 3 ∧ vp_in j (mln M a) ∧ k L r (msi M a j.toNatClampNeg (vp_nar .boolean x))
  | .lastore => m_J st fun x r => m_RI r fun a j r => mkd M a = 4 ∧ vp_in j (mln M a) ∧ k L r (msj M a j.toNatClampNeg x)
  | .aastore => m_R st fun x r => m_RI r fun a j r => mkd M a = 5 ∧ vp_in j (mln M a) ∧ mkd M x = 101 ∧ k L r (msr M a j.toNatClampNeg x)
  | .getfield _ => match o.2.2 with
    | [kd, f, 1] => m_R st fun a r => mkd M a = kd ∧ ¬ mr M a f = 0 ∧ k L (.ref (mr M a f) :: r) M
    | [kd, f, _] => m_R st fun a r => mkd M a = kd ∧ k L (.int (mi M a f) :: r) M
    | [_, f, _, _] => m_R st fun a r => ∃ i, i < kN f ∧ a = E.2 (kB f + i) ∧ k L (kW E.2 f i :: r) M
    | _ => False
  | .putfield _ => match o.2.2 with
    | [kd, f, 1] => m_R st fun x r => m_R r fun a r => mkd M a = kd ∧ ¬ x = 0 ∧ k L r (msr M a f x)
    | [kd, f, 2] => m_I st fun x r => m_R r fun a r => mkd M a = kd ∧ (x = 0 ∨ x = 1) ∧ k L r (msi M a f x)
    | [kd, f, 0] => m_I st fun x r => m_R r fun a r => mkd M a = kd ∧ k L r (msi M a f x)
    | _ => False
  | .new _ => match o.2.2 with
    | [kd, n] => m_room E M n ∧ k L (.ref (msz M) :: st) (mnw M kd 0 n)
    | [kd, _, _] => (match Nat.ble (m_cat st) 8 with
      | true => m_room E M 6 ∧ Q (.inr (msz M)) (mnw M kd 0 6)
      | false => False)
    | _ => False
  | .newarray _ => m_I st fun n r => ¬ n < 0 ∧ n.toNatClampNeg ≤ 1000000 ∧ m_room E M n.toNatClampNeg ∧ k L (.ref (msz M) :: r) (mnw M (o.2.2.getD 0 0) n.toNatClampNeg n.toNatClampNeg)
  | .anewarray _ => m_I st fun n r => ¬ n < 0 ∧ n.toNatClampNeg ≤ 1000000 ∧ m_room E M n.toNatClampNeg ∧ k L (.ref (msz M) :: r) (mnw M 5 n.toNatClampNeg n.toNatClampNeg)
  | .invokespecial _ => match o.2.2 with
    | [] => m_R st fun _ r => match Nat.ble (m_cat r) 8 with
      | true => k L r M
      | false => False
    | [y, n] => m_self st n (m_call call Q y n k L st M)
    | _ => False
  | .invokestatic _ => match o.2.2 with
    | [y, n] => m_call call Q y n k L st M
    | _ => False
  | .invokevirtual _ => match o.2.2 with
    | [y, n, kd] => m_recv st n kd M (m_call call Q y n k L st M)
    | [y, n, kd, _] => m_recvK E st n kd (m_call call Q y n k L st M)
    | [y, n, kd, h0, h1] => m_recv st n kd M (m_callC go call y n h0 h1 k L st M)
    | _ => False
  | .ireturn => match st, o.2.2 with
    | [.int x], [0] => Q (.inl (some (.int x))) M
    | [.int x], [1] => (x = 0 ∨ x = 1) ∧ Q (.inl (some (.int x))) M
    | [.int x], [2] => narrow .char (.int x) = .int x ∧ Q (.inl (some (.int x))) M
    | [.int x], [3] => narrow .byte (.int x) = .int x ∧ Q (.inl (some (.int x))) M
    | _, _ => False
  | .lreturn => match st with
    | [.long x] => Q (.inl (some (.long x))) M
    | _ => False
  | .areturn => match st with
    | [.ref x] => Q (.inl (some (.ref x))) M
    | _ => False
  | .return_ => match st with
    | [] => Q (.inl none) M
    | _ => False
  | _ => False
def mBlk (E : mE) (go : mG) (call : mCl) (Q : mQ) (nx : Nat) : List mOp → mK
  | [] => go nx
  | o :: os => mStep E go call Q o (mBlk E go call Q nx os)
/-- the weakest precondition of method y at block b, within f blocks -/
def mWp (Pr : Nat → Nat → List mOp × Nat) (nL : Nat → Nat) (E : mE) : Nat → Nat → Nat → mL → List Value → mM → mQ → Prop
  | 0, _, _, _, _, _, _ => False
  | f + 1, y, b, L, st, M, Q => mBlk E (fun b' L' st' M' => mWp Pr nL E f y b' L' st' M' Q) (fun y' as M' K => match Nat.ble (m_arg as).length (nL y') with
    | true => mWp Pr nL E f y' 0 (m_ent as (nL y')) [] M' K
    | false => False) Q (Pr y b).2 (Pr y b).1 L st M
