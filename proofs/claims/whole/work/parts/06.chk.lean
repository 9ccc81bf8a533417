/-! WHAT IS CHECKED OF EACH INSTRUCTION, BY PROGRAM -/
def mW1 (w : Cond) : Bool := decide (w ∈ lw_tbl) && goodWord w
def mOwn (y : Nat) : String := (mYn y).cls
def mNb (y : Nat) : Nat := (mJ y).2.2.2.2.2.2.length
def mTgt (y pc : Nat) (off : Int) (t : Nat) : Bool := decide ((pc : Int) + off = (mPc y t : Int)) && Nat.blt t (mNb y)
def mFld (y ix kd f : Nat) : Bool := Nat.ble 100 kd && Nat.blt kd 112 && Nat.blt f (mN kd) && mW1 (.fieldLink (mOwn y) ix (mNm kd) (mT kd f).2.1 (mT kd f).2.2.1) && decide ((mT kd f).1 = mNm kd)
/-- the handlers of method 0, the law's own 'run' -/
def mHnd : List (Nat × Nat × Nat × Nat) := [(0, 8, 11, 13), (0, 8, 14, 15)]
def mCdW (y : Nat) : Bool := if y = 0 then mW1 (.codeWith (mYn y) (mBy y) (mNL y) (mRt y) mHnd) else mW1 (.code (mYn y) (mBy y) (mNL y) (mRt y))
def mCal (y ix y' n : Nat) (inst : Nat) : Bool := Nat.blt y' mNum && decide (mPc y' 0 = 0) && Nat.blt 0 (mNb y') && mW1 (.methodLink (mOwn y) ix (mYn y')) && mCdW y' && mW1 (.initialized (mYn y').cls) &&
  (decide ((mYn y').cls ≠ "java/lang/invoke/MethodHandle") && decide ((mYn y').cls ≠ "java/lang/invoke/VarHandle")) && decide ((parseMethodDescriptor (mYn y').desc).map (fun sg => sg.parameters.length) = some (n - inst)) && Nat.ble inst n &&
  Nat.ble (mFrm y' + 1) (mFrm y) && Nat.ble (8 + (mNL y' + 11) + mLoc y') (mLoc y) && plainFor (mYn y')
/-! constants: the statics, the fields, the arrays, the classes; Strings that are loaded: class, entry, text, place -/
def kG (c : Nat) : String × String × String := match c with
  | 400 => ("TinyShell$Utility", "ALL", "[LTinyShell$Utility;")
  | 316 => ("TinyShell$Utility", "UNKNOWN", "LTinyShell$Utility;")
  | 401 => ("TinyShell$1", "$SwitchMap$TinyShell$Utility", "[I")
  | 402 => ("jdk/internal/util/Preconditions", "SIOOBE_FORMATTER", "Ljava/util/function/BiFunction;")
  | _ => ("java/lang/String", "COMPACT_STRINGS", "Z")
def kCs : List Nat := [400, 316, 401, 402, 403]
def kH (f : Nat) : String × String × String := match f with
  | 0 => ("java/lang/String", "value", "[B")
  | 1 => ("java/lang/String", "coder", "B")
  | 2 => ("TinyShell$Utility", "word", "Ljava/lang/String;")
  | 3 => ("java/lang/Enum", "ordinal", "I")
  | 4 => ("TinyShell$Utility", "fewest", "I")
  | _ => ("TinyShell$Utility", "most", "I")
def kTy (t : Nat) : FieldType := match t with
  | 0 => .object "TinyShell$Utility"
  | 1 => .byte
  | _ => .int
def kC (kd : Nat) : String := cond (Nat.beq kd 212) "TinyShell$Utility" "java/lang/String"
def kLds : List (String × Nat × String × Nat) := [("TinyShell$Tools", 170, "-e", 117), ("TinyShell$Tools", 176, "=", 118), ("TinyShell$Tools", 181, "!=", 119)]
/-- an instruction on a constant -/
def mCst (i : Instr) (ps : List Nat) : Bool := match i with
  | .getstatic _ | .ldc _ => true
  | .arraylength | .iaload | .baload | .aaload => (match ps with
    | [_, _] => true
    | _ => false)
  | .getfield _ | .invokevirtual _ => (match ps with
    | [_, _, _, _] => true
    | _ => false)
  | _ => false
/-- what a call needs of the callee, its link apart -/
def mCalU (y y' n : Nat) (inst : Nat) : Bool := Nat.blt y' mNum && decide (mPc y' 0 = 0) && Nat.blt 0 (mNb y') && mCdW y' && mW1 (.initialized (mYn y').cls) &&
  (decide ((mYn y').cls ≠ "java/lang/invoke/MethodHandle") && decide ((mYn y').cls ≠ "java/lang/invoke/VarHandle")) && decide ((parseMethodDescriptor (mYn y').desc).map (fun sg => sg.parameters.length) = some (n - inst)) && Nat.ble inst n &&
  Nat.ble (mFrm y' + 1) (mFrm y) && Nat.ble (8 + (mNL y' + 11) + mLoc y') (mLoc y) && plainFor (mYn y')
/-- the Strings that instructions load: class, entry, text -/
def mStr : List (String × Nat × String) := [("TinyShell$Text", 25, "too much"), ("TinyShell$Row", 44, "too much"), ("TinyShell$Table", 44, "too much"), ("TinyShell$Syntax", 64, "malformed"), ("TinyShell$Runner", 107, "too much")]
def mThr (y pc kd li ii : Nat) : Bool :=
  decide (decode (mBy y) (pc + 3) = .ok (.dup, 1)) && decide (decode (mBy y) (pc + 4) = .ok (.ldc li, 2)) && decide (decode (mBy y) (pc + 6) = .ok (.invokespecial ii, 3)) && decide (decode (mBy y) (pc + 9) = .ok (.athrow, 1)) &&
  (decide (kd = 90) || decide (kd = 91)) && mW1 (.instantiable (mNm kd) 6) && mW1 (.initialized (mNm kd)) && (mStr.any fun r => decide (r.1 = mOwn y) && decide (r.2.1 = li)) && Nat.ble 6 (mFrm y) && Nat.ble 90 (mLoc y) &&
  ((Bundle.ownAtoms (mOwn y) ii (mNm kd) ["java/lang/RuntimeException", "java/lang/Exception"]).all fun w => mW1 w || (decide (w ∈ lw_tbl) && w.faceAtom) ||
    decide (w = .laysStatic "java/lang/Throwable" "UNASSIGNED_STACK" "[Ljava/lang/StackTraceElement;") || decide (w = .laysStatic "java/lang/Throwable" "SUPPRESSED_SENTINEL" "Ljava/util/List;") ||
    decide (w = .isRef (.static "java/lang/Throwable" "UNASSIGNED_STACK" "[Ljava/lang/StackTraceElement;")) || decide (w = .isRef (.static "java/lang/Throwable" "SUPPRESSED_SENTINEL" "Ljava/util/List;")))
def mDfl (ty : FieldType) : Bool := match ty with
  | .object _ | .array _ | .int | .boolean | .char | .byte | .short => true
  | _ => false
def mLen (i : Instr) : Nat := match i with
  | .bipush _ | .iload _ | .lload _ | .aload _ | .istore _ | .lstore _ | .astore _ | .newarray _ | .ldc _ => 2
  | .getstatic _ | .sipush _ | .ldc2_w _ | .iinc _ _ | .getfield _ | .putfield _ | .invokevirtual _ | .invokespecial _ | .invokestatic _ | .new _ | .anewarray _ | .goto _ | .ifCond _ _ | .if_icmp _ _ => 3
  | _ => 1
def mTabs (y pc : Nat) : List Int → List Nat → Bool
  | [], [] => true
  | o :: os, t :: ts => mTgt y pc o t && mTabs y pc os ts
  | _, _ => false
def mChk2 (y pc : Nat) (i : Instr) (ps : List Nat) : Bool := match i with
  | .ldc2_w ix => mW1 (.constantLong (mOwn y) ix (lN (ps.getD 0 0)))
  | .istore_n i => Nat.blt i.val (mNL y)
  | .istore i => Nat.blt i (mNL y)
  | .astore_n i => Nat.blt i.val (mNL y)
  | .astore i => Nat.blt i (mNL y)
  | .iinc i _ => Nat.blt i (mNL y)
  | .lstore_n i => Nat.blt (i.val + 1) (mNL y)
  | .lstore i => Nat.blt (i + 1) (mNL y)
  | .ifCond _ off => mTgt y pc off (ps.getD 0 0)
  | .if_icmp _ off => mTgt y pc off (ps.getD 0 0)
  | .goto off => mTgt y pc off (ps.getD 0 0)
  | .arraylength => (match ps with
    | [_, t] => Nat.blt t 3
    | _ => Nat.blt (ps.getD 0 0) 6 && Nat.blt 0 (ps.getD 0 0) || decide (ps.getD 0 0 = 208))
  | .iaload => (match ps with
    | [_, t] => decide (t = 2)
    | _ => decide (ps.getD 0 0 = 1) || decide (ps.getD 0 0 = 208))
  | .baload => (match ps with
    | [_, t] => decide (t = 1)
    | _ => decide (ps.getD 0 0 = 3))
  | .aaload => (match ps with
    | [_, t] => decide (t = 0)
    | _ => decide (ps.getD 0 0 = 5))
  | .getstatic ix => mW1 (.fieldLink (mOwn y) ix (kG (ps.getD 0 0)).1 (kG (ps.getD 0 0)).2.1 (kG (ps.getD 0 0)).2.2) && kCs.contains (ps.getD 0 0)
  | .ldc ix => kLds.any fun r => decide (r.1 = mOwn y) && Nat.beq r.2.1 ix && Nat.beq r.2.2.2 (ps.getD 0 0)
  | .getfield ix => (match ps with
    | [kd, f, 1] => mFld y ix kd f && mIsR (mY kd f)
    | [kd, f, _] => mFld y ix kd f && !mIsR (mY kd f)
    | [_, f, _, _] => Nat.blt f 6 && mW1 (.fieldLink (mOwn y) ix (kH f).1 (kH f).2.1 (kH f).2.2)
    | _ => false)
  | .putfield ix => (match ps with
    | [kd, f, 1] => mFld y ix kd f && mIsR (mY kd f) && (!(mT kd f).2.2.2 || decide ((mYn y).name = "<init>") && decide (mOwn y = mNm kd))
    | [kd, f, 2] => mFld y ix kd f && decide (mY kd f = .boolean) && (!(mT kd f).2.2.2 || decide ((mYn y).name = "<init>") && decide (mOwn y = mNm kd))
    | [kd, f, 0] => mFld y ix kd f && decide (mY kd f = .int) && (!(mT kd f).2.2.2 || decide ((mYn y).name = "<init>") && decide (mOwn y = mNm kd))
    | _ => false)
  | .new ix => (match ps with
    | [kd, n] => Nat.ble 100 kd && Nat.blt kd 112 && decide (n = mN kd) && ((List.range n).all fun f => mDfl (mY kd f)) && mW1 (.classLink (mOwn y) ix (mNm kd)) && mW1 (.instantiable (mNm kd) n) && mW1 (.initialized (mNm kd))
    | [kd, li, ii] => mW1 (.classLink (mOwn y) ix (mNm kd)) && mThr y pc kd li ii && Nat.blt 0 y
    | _ => false)
  | .newarray t => mW1 (.arrayClass (newarray.typeOf t)) && decide (newarray.typeOf t = mTy (ps.getD 0 0)) && Nat.blt (ps.getD 0 0) 5 && Nat.blt 0 (ps.getD 0 0)
  | .anewarray ix => mW1 (.classLink (mOwn y) ix "TinyShell$Text")
  | .invokespecial ix => (match ps with
    | [] => mW1 (.methodLink (mOwn y) ix objectInit) && mW1 (.instanceMethod objectInit) && mW1 (.code objectInit ⟨#[0xb1]⟩ 1 none) && Nat.ble 1 (mFrm y) && Nat.ble 20 (mLoc y)
    | [y', n] => mCal y ix y' n 1 && mW1 (.instanceMethod (mYn y')) && decide ((mYn y').name = "<init>") && mW1 (.code (mYn y') (mBy y') (mNL y') none) && Nat.blt 0 y
    | _ => false)
  | .invokestatic ix => (match ps with
    | [y', n] => mCal y ix y' n 0 && mW1 (.static (mYn y')) && Nat.blt 0 y
    | _ => false)
  | .invokevirtual ix => (match ps with
    | [y', n, kd] => mCal y ix y' n 1 && mW1 (.instanceMethod (mYn y')) && mW1 (.selects (mNm kd) (mYn y') (mYn y')) && Nat.ble 100 kd && Nat.blt kd 112 && Nat.blt 0 y
    | [y', n, kd, 0] => mCal y ix y' n 1 && mW1 (.instanceMethod (mYn y')) && mW1 (.selects (kC kd) (mYn y') (mYn y')) && (Nat.beq kd 212 || Nat.beq kd 213) && Nat.blt 0 y
    | [y', n, kd, _] => mCalU y y' n 1 && mW1 (.instanceMethod (mYn y')) && mW1 (.methodLink (mOwn y) ix ⟨kC kd, (mYn y').name, (mYn y').desc⟩) && mW1 (.sameMethod (kC kd) (mYn y').cls (mYn y').name (mYn y').desc) && mW1 (.selects (kC kd) ⟨kC kd, (mYn y').name, (mYn y').desc⟩ (mYn y')) && (Nat.beq kd 212 || Nat.beq kd 213) && Nat.blt 0 y
    | [y', n, kd, h0, h1] => mCal y ix y' n 1 && mW1 (.instanceMethod (mYn y')) && mW1 (.selects (mNm kd) (mYn y') (mYn y')) && Nat.ble 100 kd && Nat.blt kd 112 && (decide (y = 0) && decide (pc = 3) && decide (mPc y h0 = 11) && decide (mPc y h1 = 14) && Nat.blt h0 (mNb y) && Nat.blt h1 (mNb y) && mW1 (.classLink (mOwn y) 13 (mNm 90)) && mW1 (.classLink (mOwn y) 15 (mNm 91)))
    | _ => false)
  | .ireturn => (match ps with
    | [0] => decide (mRt y = some .int)
    | [1] => decide (mRt y = some .boolean)
    | [2] => decide (mRt y = some .char)
    | [3] => decide (mRt y = some .byte)
    | _ => false)
  | .lreturn => decide (mRt y = some .long)
  | .areturn => (match mRt y with
    | some (.object _) => true
    | _ => false)
  | .return_ => decide (mRt y = none)
  | _ => true
def mChk (y pc : Nat) (o : mOp) : Bool := decide (decode (mBy y) pc = .ok (o.1, o.2.1)) && match o.1 with
  | .tableswitch d lo hi offs => (match o.2.2 with
    | t :: ts => mTgt y pc d t && mTabs y pc offs.toList ts && decide (hi - lo + 1 = (offs.size : Int))
    | [] => false)
  | .lookupswitch d prs => (match o.2.2 with
    | t :: ts => mTgt y pc d t && mTabs y pc (prs.toList.map fun q => q.2) ts && (prs.toList.zip (prs.toList.drop 1)).all (fun (a, next) => a.1 < next.1)
    | [] => false)
  | i => decide (o.2.1 = mLen i) && mChk2 y pc i o.2.2
theorem mChk_el {y pc : Nat} {i : Instr} {len : Nat} {ps : List Nat} (h : mChk y pc (i, len, ps) = true) (hn : (∀ a b c d, i ≠ .tableswitch a b c d) ∧ ∀ a b, i ≠ .lookupswitch a b) : decode (mBy y) pc = .ok (i, len) ∧ len = mLen i ∧ mChk2 y pc i ps = true := by
  unfold mChk at h
  rw [Bool.and_eq_true, decide_eq_true_eq] at h
  obtain ⟨h1, h2⟩ := h
  refine ⟨h1, ?_⟩
  dsimp only at h2
  split at h2
  next a b c d _ => exact absurd rfl (hn.1 _ _ _ _)
  next a b _ => exact absurd rfl (hn.2 _ _)
  next =>
    rw [Bool.and_eq_true, decide_eq_true_eq] at h2
    exact h2
/-- an instruction that the small machine never passes -/
def mDead (i : Instr) : Bool := match i with
  | .monitorenter => true
  | _ => false
def mChkB (y : Nat) (nx : Nat) : Nat → List mOp → Bool
  | pc, [] => decide (pc = mPc y nx) && Nat.blt nx (mNb y)
  | pc, o :: os => mDead o.1 || mChk y pc o && (mChkB y nx (pc + o.2.1) os || (os.isEmpty && match o.1 with
    | .goto _ | .tableswitch _ _ _ _ | .lookupswitch _ _ | .ireturn | .lreturn | .areturn | .return_ => true
    | .new _ => decide (o.2.2.length = 3)
    | _ => false))
def mChkM (y : Nat) : Bool := (List.range (mNb y)).all fun b => mChkB y (mPr y b).2 (mPc y b) (mPr y b).1
