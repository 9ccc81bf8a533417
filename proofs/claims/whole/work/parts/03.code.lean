/-! printed by wip/whole/gen.py out of the listing of the classes: kinds, fields, methods, blocks -/
def mNm (k : Nat) : String := match k with
  | 90 => "java/lang/IllegalArgumentException"
  | 91 => "java/lang/UnsupportedOperationException"
  | 100 => "TinyShell"
  | 101 => "TinyShell$Text"
  | 102 => "TinyShell$Row"
  | 103 => "TinyShell$Table"
  | 104 => "TinyShell$Sheet"
  | 105 => "TinyShell$State"
  | 106 => "TinyShell$Syntax"
  | 107 => "TinyShell$Expander"
  | 108 => "TinyShell$Runner"
  | 109 => "TinyShell$Tools"
  | 110 => "TinyShell$Lines"
  | 111 => "TinyShellModel"
  | _ => ""
def mT100 : u_T := fun f => match f with
  | 0 => ("TinyShell", "script", "LTinyShell$Text;", true)
  | 1 => ("TinyShell", "syntax", "LTinyShell$Syntax;", true)
  | 2 => ("TinyShell", "kept", "LTinyShell$State;", true)
  | _ => ("TinyShell", "runner", "LTinyShell$Runner;", true)
def mY100 : Nat → FieldType := fun f => match f with
  | 0 => (.object "TinyShell$Text")
  | 1 => (.object "TinyShell$Syntax")
  | 2 => (.object "TinyShell$State")
  | _ => (.object "TinyShell$Runner")
def mT101 : u_T := fun f => match f with
  | 0 => ("TinyShell$Text", "chars", "[C", true)
  | _ => ("TinyShell$Text", "size", "I", false)
def mY101 : Nat → FieldType := fun f => match f with
  | 0 => (.array .char)
  | _ => .int
def mT102 : u_T := fun f => match f with
  | 0 => ("TinyShell$Row", "texts", "[LTinyShell$Text;", true)
  | 1 => ("TinyShell$Row", "none", "LTinyShell$Text;", true)
  | _ => ("TinyShell$Row", "size", "I", false)
def mY102 : Nat → FieldType := fun f => match f with
  | 0 => (.array (.object "TinyShell$Text"))
  | 1 => (.object "TinyShell$Text")
  | _ => .int
def mT103 : u_T := fun f => match f with
  | 0 => ("TinyShell$Table", "names", "[LTinyShell$Text;", true)
  | 1 => ("TinyShell$Table", "texts", "[LTinyShell$Text;", true)
  | 2 => ("TinyShell$Table", "none", "LTinyShell$Text;", true)
  | _ => ("TinyShell$Table", "size", "I", false)
def mY103 : Nat → FieldType := fun f => match f with
  | 0 => (.array (.object "TinyShell$Text"))
  | 1 => (.array (.object "TinyShell$Text"))
  | 2 => (.object "TinyShell$Text")
  | _ => .int
def mT104 : u_T := fun f => match f with
  | 0 => ("TinyShell$Sheet", "cells", "[I", true)
  | _ => ("TinyShell$Sheet", "size", "I", false)
def mY104 : Nat → FieldType := fun f => match f with
  | 0 => (.array .int)
  | _ => .int
def mT105 : u_T := fun f => match f with
  | 0 => ("TinyShell$State", "variables", "LTinyShell$Table;", true)
  | 1 => ("TinyShell$State", "positions", "LTinyShell$Row;", true)
  | 2 => ("TinyShell$State", "files", "LTinyShell$Table;", true)
  | 3 => ("TinyShell$State", "output", "LTinyShell$Text;", true)
  | _ => ("TinyShell$State", "status", "I", false)
def mY105 : Nat → FieldType := fun f => match f with
  | 0 => (.object "TinyShell$Table")
  | 1 => (.object "TinyShell$Row")
  | 2 => (.object "TinyShell$Table")
  | 3 => (.object "TinyShell$Text")
  | _ => .int
def mT106 : u_T := fun f => match f with
  | 0 => ("TinyShell$Syntax", "commands", "LTinyShell$Sheet;", true)
  | 1 => ("TinyShell$Syntax", "items", "LTinyShell$Sheet;", true)
  | 2 => ("TinyShell$Syntax", "pieces", "LTinyShell$Sheet;", true)
  | 3 => ("TinyShell$Syntax", "badPlace", "I", false)
  | 4 => ("TinyShell$Syntax", "script", "LTinyShell$Text;", true)
  | 5 => ("TinyShell$Syntax", "at", "I", false)
  | 6 => ("TinyShell$Syntax", "awaited", "I", false)
  | 7 => ("TinyShell$Syntax", "join", "I", false)
  | 8 => ("TinyShell$Syntax", "redirection", "I", false)
  | _ => ("TinyShell$Syntax", "wordSeen", "Z", false)
def mY106 : Nat → FieldType := fun f => match f with
  | 0 => (.object "TinyShell$Sheet")
  | 1 => (.object "TinyShell$Sheet")
  | 2 => (.object "TinyShell$Sheet")
  | 3 => .int
  | 4 => (.object "TinyShell$Text")
  | 5 => .int
  | 6 => .int
  | 7 => .int
  | 8 => .int
  | _ => .boolean
def mT107 : u_T := fun f => match f with
  | 0 => ("TinyShell$Expander", "script", "LTinyShell$Text;", true)
  | 1 => ("TinyShell$Expander", "syntax", "LTinyShell$Syntax;", true)
  | 2 => ("TinyShell$Expander", "state", "LTinyShell$State;", true)
  | 3 => ("TinyShell$Expander", "marked", "LTinyShell$Row;", true)
  | 4 => ("TinyShell$Expander", "number", "LTinyShell$Text;", true)
  | 5 => ("TinyShell$Expander", "nameText", "LTinyShell$Text;", true)
  | 6 => ("TinyShell$Expander", "plain", "LTinyShell$Text;", true)
  | _ => ("TinyShell$Expander", "quotes", "Z", false)
def mY107 : Nat → FieldType := fun f => match f with
  | 0 => (.object "TinyShell$Text")
  | 1 => (.object "TinyShell$Syntax")
  | 2 => (.object "TinyShell$State")
  | 3 => (.object "TinyShell$Row")
  | 4 => (.object "TinyShell$Text")
  | 5 => (.object "TinyShell$Text")
  | 6 => (.object "TinyShell$Text")
  | _ => .boolean
def mT108 : u_T := fun f => match f with
  | 0 => ("TinyShell$Runner", "state", "LTinyShell$State;", true)
  | 1 => ("TinyShell$Runner", "syntax", "LTinyShell$Syntax;", true)
  | 2 => ("TinyShell$Runner", "expander", "LTinyShell$Expander;", true)
  | 3 => ("TinyShell$Runner", "tools", "LTinyShell$Tools;", true)
  | 4 => ("TinyShell$Runner", "savedVariables", "LTinyShell$Table;", true)
  | 5 => ("TinyShell$Runner", "savedPositions", "LTinyShell$Row;", true)
  | 6 => ("TinyShell$Runner", "inputName", "LTinyShell$Text;", true)
  | 7 => ("TinyShell$Runner", "outputName", "LTinyShell$Text;", true)
  | 8 => ("TinyShell$Runner", "due", "Z", false)
  | 9 => ("TinyShell$Runner", "ended", "Z", false)
  | _ => ("TinyShell$Runner", "inPipeline", "I", false)
def mY108 : Nat → FieldType := fun f => match f with
  | 0 => (.object "TinyShell$State")
  | 1 => (.object "TinyShell$Syntax")
  | 2 => (.object "TinyShell$Expander")
  | 3 => (.object "TinyShell$Tools")
  | 4 => (.object "TinyShell$Table")
  | 5 => (.object "TinyShell$Row")
  | 6 => (.object "TinyShell$Text")
  | 7 => (.object "TinyShell$Text")
  | 8 => .boolean
  | 9 => .boolean
  | _ => .int
def mT109 : u_T := fun f => match f with
  | 0 => ("TinyShell$Tools", "fields", "LTinyShell$Row;", true)
  | 1 => ("TinyShell$Tools", "input", "LTinyShell$Text;", true)
  | 2 => ("TinyShell$Tools", "out", "LTinyShell$Text;", true)
  | 3 => ("TinyShell$Tools", "exiting", "Z", false)
  | 4 => ("TinyShell$Tools", "state", "LTinyShell$State;", true)
  | _ => ("TinyShell$Tools", "lines", "LTinyShell$Lines;", true)
def mY109 : Nat → FieldType := fun f => match f with
  | 0 => (.object "TinyShell$Row")
  | 1 => (.object "TinyShell$Text")
  | 2 => (.object "TinyShell$Text")
  | 3 => .boolean
  | 4 => (.object "TinyShell$State")
  | _ => (.object "TinyShell$Lines")
def mT110 : u_T := fun f => match f with
  | 0 => ("TinyShell$Lines", "input", "LTinyShell$Text;", true)
  | 1 => ("TinyShell$Lines", "out", "LTinyShell$Text;", true)
  | _ => ("TinyShell$Lines", "lines", "LTinyShell$Sheet;", true)
def mY110 : Nat → FieldType := fun f => match f with
  | 0 => (.object "TinyShell$Text")
  | 1 => (.object "TinyShell$Text")
  | _ => (.object "TinyShell$Sheet")
def mT111 : u_T := fun f => match f with
  | 0 => ("TinyShellModel", "thrown", "I", false)
  | 1 => ("TinyShellModel", "place", "I", false)
  | 2 => ("TinyShellModel", "size", "I", false)
  | 3 => ("TinyShellModel", "text", "[C", true)
  | 4 => ("TinyShellModel", "tokens", "I", false)
  | 5 => ("TinyShellModel", "kind", "[I", true)
  | 6 => ("TinyShellModel", "start", "[I", true)
  | 7 => ("TinyShellModel", "end", "[I", true)
  | 8 => ("TinyShellModel", "wrong", "I", false)
  | 9 => ("TinyShellModel", "variables", "[I", true)
  | 10 => ("TinyShellModel", "variableName", "[C", true)
  | 11 => ("TinyShellModel", "variableNameSize", "[I", true)
  | 12 => ("TinyShellModel", "variable", "[C", true)
  | 13 => ("TinyShellModel", "variableSize", "[I", true)
  | 14 => ("TinyShellModel", "positions", "[I", true)
  | 15 => ("TinyShellModel", "position", "[C", true)
  | 16 => ("TinyShellModel", "positionSize", "[I", true)
  | 17 => ("TinyShellModel", "files", "[I", true)
  | 18 => ("TinyShellModel", "fileName", "[C", true)
  | 19 => ("TinyShellModel", "fileNameSize", "[I", true)
  | 20 => ("TinyShellModel", "file", "[C", true)
  | 21 => ("TinyShellModel", "fileSize", "[I", true)
  | 22 => ("TinyShellModel", "status", "[I", true)
  | 23 => ("TinyShellModel", "outputs", "[I", true)
  | 24 => ("TinyShellModel", "output", "[C", true)
  | 25 => ("TinyShellModel", "tooMuch", "Z", false)
  | 26 => ("TinyShellModel", "stopped", "Z", false)
  | 27 => ("TinyShellModel", "width", "I", false)
  | 28 => ("TinyShellModel", "made", "[C", true)
  | 29 => ("TinyShellModel", "plain", "[Z", true)
  | 30 => ("TinyShellModel", "marked", "Z", false)
  | 31 => ("TinyShellModel", "parts", "Z", false)
  | 32 => ("TinyShellModel", "asName", "Z", false)
  | 33 => ("TinyShellModel", "fields", "I", false)
  | 34 => ("TinyShellModel", "field", "[C", true)
  | 35 => ("TinyShellModel", "fieldSize", "[I", true)
  | 36 => ("TinyShellModel", "inputSize", "I", false)
  | 37 => ("TinyShellModel", "input", "[C", true)
  | 38 => ("TinyShellModel", "putSize", "I", false)
  | 39 => ("TinyShellModel", "put", "[C", true)
  | 40 => ("TinyShellModel", "lines", "I", false)
  | 41 => ("TinyShellModel", "lineAt", "[I", true)
  | 42 => ("TinyShellModel", "lineSize", "[I", true)
  | 43 => ("TinyShellModel", "inputFile", "I", false)
  | _ => ("TinyShellModel", "outputFile", "I", false)
def mY111 : Nat → FieldType := fun f => match f with
  | 0 => .int
  | 1 => .int
  | 2 => .int
  | 3 => (.array .char)
  | 4 => .int
  | 5 => (.array .int)
  | 6 => (.array .int)
  | 7 => (.array .int)
  | 8 => .int
  | 9 => (.array .int)
  | 10 => (.array .char)
  | 11 => (.array .int)
  | 12 => (.array .char)
  | 13 => (.array .int)
  | 14 => (.array .int)
  | 15 => (.array .char)
  | 16 => (.array .int)
  | 17 => (.array .int)
  | 18 => (.array .char)
  | 19 => (.array .int)
  | 20 => (.array .char)
  | 21 => (.array .int)
  | 22 => (.array .int)
  | 23 => (.array .int)
  | 24 => (.array .char)
  | 25 => .boolean
  | 26 => .boolean
  | 27 => .int
  | 28 => (.array .char)
  | 29 => (.array .boolean)
  | 30 => .boolean
  | 31 => .boolean
  | 32 => .boolean
  | 33 => .int
  | 34 => (.array .char)
  | 35 => (.array .int)
  | 36 => .int
  | 37 => (.array .char)
  | 38 => .int
  | 39 => (.array .char)
  | 40 => .int
  | 41 => (.array .int)
  | 42 => (.array .int)
  | 43 => .int
  | _ => .int
def mT (k : Nat) : u_T := match k with
  | 100 => mT100
  | 101 => mT101
  | 102 => mT102
  | 103 => mT103
  | 104 => mT104
  | 105 => mT105
  | 106 => mT106
  | 107 => mT107
  | 108 => mT108
  | 109 => mT109
  | 110 => mT110
  | 111 => mT111
  | _ => fun _ => ("", "", "", false)
def mY (k : Nat) : Nat → FieldType := match k with
  | 100 => mY100
  | 101 => mY101
  | 102 => mY102
  | 103 => mY103
  | 104 => mY104
  | 105 => mY105
  | 106 => mY106
  | 107 => mY107
  | 108 => mY108
  | 109 => mY109
  | 110 => mY110
  | 111 => mY111
  | _ => fun _ => .int
def mN (k : Nat) : Nat := match k with
  | 100 => 4
  | 101 => 2
  | 102 => 3
  | 103 => 4
  | 104 => 2
  | 105 => 5
  | 106 => 10
  | 107 => 8
  | 108 => 11
  | 109 => 6
  | 110 => 3
  | 111 => 45
  | _ => 0
/-- the type of an array by its kind -/
def mTy (k : Nat) : FieldType := match k with
  | 1 => .int
  | 2 => .char
  | 3 => .boolean
  | 4 => .long
  | _ => .object "TinyShell$Text"
def k_0_0 : List mOp := [(.aload_n 1, 1, []), (.iconst 0, 1, []), (.aload_n 0, 1, []), (.invokevirtual 7, 3, [5, 1, 100, 1, 2]), (.i2l, 1, []), (.lastore, 1, []), (.goto (9), 3, [3])]
def k_0_1 : List mOp := [(.astore_n 2, 1, []), (.iconst 1, 1, []), (.ireturn, 1, [0])]
def k_0_2 : List mOp := [(.astore_n 2, 1, []), (.iconst 2, 1, []), (.ireturn, 1, [0])]
def k_0_3 : List mOp := [(.iconst 0, 1, []), (.ireturn, 1, [0])]
/-- TinyShellLaw.run(LTinyShell;[J)I -/
def P_0 (b : Nat) : List mOp × Nat := cond (Nat.blt b 2) (cond (Nat.blt b 1) ((k_0_0, 0)) ((k_0_1, 0))) (cond (Nat.blt b 3) ((k_0_2, 0)) ((k_0_3, 0)))
def J_0 : MethodName × ByteArray × Nat × Option FieldType × Nat × Nat × List Nat := (⟨"TinyShellLaw", "run", "(LTinyShell;[J)I"⟩, method_3_code, 3, some (Jvm.ClassFile.FieldType.int), 13, 258, [0, 11, 14, 17])
def k_1_0 : List mOp := [(.new 8, 3, [100, 4]), (.dup, 1, []), (.invokespecial 17, 3, [2, 1]), (.astore_n 1, 1, []), (.new 18, 3, [111, 45]), (.dup, 1, []), (.invokespecial 20, 3, [117, 1]), (.astore_n 2, 1, []), (.iconst 1, 1, []), (.newarray .long, 2, [4]), (.astore_n 3, 1, []), (.iconst 0, 1, []), (.istore 4, 2, [])]
def k_1_1 : List mOp := [(.iload 4, 2, []), (.aload_n 0, 1, []), (.arraylength, 1, [208]), (.iconst 4, 1, []), (.isub, 1, []), (.if_icmp .gt (420), 3, [19]), (.aload_n 0, 1, []), (.iload 4, 2, []), (.iaload, 1, [208]), (.bipush 15, 2, []), (.iand, 1, []), (.tableswitch (404) 0 9 #[53, 110, 121, 165, 178, 203, 228, 265, 302, 339], 53, [18, 2, 3, 4, 7, 8, 9, 10, 11, 12, 13])]
def k_1_2 : List mOp := [(.aload_n 1, 1, []), (.aload_n 0, 1, []), (.iload 4, 2, []), (.iconst 1, 1, []), (.iadd, 1, []), (.iaload, 1, [208]), (.i2l, 1, []), (.bipush 32, 2, []), (.lshl, 1, []), (.aload_n 0, 1, []), (.iload 4, 2, []), (.iconst 2, 1, []), (.iadd, 1, []), (.iaload, 1, [208]), (.i2l, 1, []), (.ldc2_w 21, 3, [4294967295]), (.land, 1, []), (.lor, 1, []), (.invokevirtual 23, 3, [3, 2, 100]), (.aload_n 2, 1, []), (.aload_n 0, 1, []), (.iload 4, 2, []), (.iconst 1, 1, []), (.iadd, 1, []), (.iaload, 1, [208]), (.i2l, 1, []), (.bipush 32, 2, []), (.lshl, 1, []), (.aload_n 0, 1, []), (.iload 4, 2, []), (.iconst 2, 1, []), (.iadd, 1, []), (.iaload, 1, [208]), (.i2l, 1, []), (.ldc2_w 21, 3, [4294967295]), (.land, 1, []), (.lor, 1, []), (.invokevirtual 27, 3, [120, 2, 111]), (.if_icmp .eq (299), 3, [18]), (.iconst 0, 1, []), (.ireturn, 1, [1])]
def k_1_3 : List mOp := [(.aload_n 1, 1, []), (.invokevirtual 28, 3, [4, 1, 100]), (.aload_n 2, 1, []), (.invokevirtual 31, 3, [121, 1, 111]), (.goto (286), 3, [18])]
def k_1_4 : List mOp := [(.aload_n 1, 1, []), (.aload_n 3, 1, []), (.invokestatic 32, 3, [0, 2]), (.istore 5, 2, []), (.aload_n 2, 1, []), (.invokevirtual 37, 3, [189, 1, 111]), (.istore 6, 2, []), (.aload_n 2, 1, []), (.invokevirtual 38, 3, [118, 1, 111]), (.iload 5, 2, []), (.if_icmp .eq (5), 3, [5]), (.iconst 0, 1, []), (.ireturn, 1, [1])]
def k_1_5 : List mOp := [(.iload 5, 2, []), (.ifCond .ne (15), 3, [6]), (.aload_n 3, 1, []), (.iconst 0, 1, []), (.laload, 1, []), (.iload 6, 2, []), (.i2l, 1, []), (.lcmp, 1, []), (.ifCond .eq (5), 3, [6]), (.iconst 0, 1, []), (.ireturn, 1, [1])]
def k_1_6 : List mOp := [(.goto (242), 3, [18])]
def k_1_7 : List mOp := [(.aload_n 1, 1, []), (.invokevirtual 41, 3, [6, 1, 100]), (.aload_n 2, 1, []), (.invokevirtual 44, 3, [190, 1, 111]), (.if_icmp .eq (231), 3, [18]), (.iconst 0, 1, []), (.ireturn, 1, [1])]
def k_1_8 : List mOp := [(.aload_n 1, 1, []), (.aload_n 0, 1, []), (.iload 4, 2, []), (.iconst 1, 1, []), (.iadd, 1, []), (.iaload, 1, [208]), (.invokevirtual 45, 3, [7, 2, 100]), (.aload_n 2, 1, []), (.aload_n 0, 1, []), (.iload 4, 2, []), (.iconst 1, 1, []), (.iadd, 1, []), (.iaload, 1, [208]), (.invokevirtual 49, 3, [191, 2, 111]), (.if_icmp .eq (206), 3, [18]), (.iconst 0, 1, []), (.ireturn, 1, [1])]
def k_1_9 : List mOp := [(.aload_n 1, 1, []), (.aload_n 0, 1, []), (.iload 4, 2, []), (.iconst 1, 1, []), (.iadd, 1, []), (.iaload, 1, [208]), (.invokevirtual 50, 3, [8, 2, 100]), (.aload_n 2, 1, []), (.aload_n 0, 1, []), (.iload 4, 2, []), (.iconst 1, 1, []), (.iadd, 1, []), (.iaload, 1, [208]), (.invokevirtual 54, 3, [192, 2, 111]), (.if_icmp .eq (181), 3, [18]), (.iconst 0, 1, []), (.ireturn, 1, [1])]
def k_1_10 : List mOp := [(.aload_n 1, 1, []), (.aload_n 0, 1, []), (.iload 4, 2, []), (.iconst 1, 1, []), (.iadd, 1, []), (.iaload, 1, [208]), (.aload_n 0, 1, []), (.iload 4, 2, []), (.iconst 2, 1, []), (.iadd, 1, []), (.iaload, 1, [208]), (.invokevirtual 55, 3, [9, 3, 100]), (.aload_n 2, 1, []), (.aload_n 0, 1, []), (.iload 4, 2, []), (.iconst 1, 1, []), (.iadd, 1, []), (.iaload, 1, [208]), (.aload_n 0, 1, []), (.iload 4, 2, []), (.iconst 2, 1, []), (.iadd, 1, []), (.iaload, 1, [208]), (.invokevirtual 59, 3, [193, 3, 111]), (.if_icmp .eq (144), 3, [18]), (.iconst 0, 1, []), (.ireturn, 1, [1])]
def k_1_11 : List mOp := [(.aload_n 1, 1, []), (.aload_n 0, 1, []), (.iload 4, 2, []), (.iconst 1, 1, []), (.iadd, 1, []), (.iaload, 1, [208]), (.aload_n 0, 1, []), (.iload 4, 2, []), (.iconst 2, 1, []), (.iadd, 1, []), (.iaload, 1, [208]), (.invokevirtual 60, 3, [10, 3, 100]), (.aload_n 2, 1, []), (.aload_n 0, 1, []), (.iload 4, 2, []), (.iconst 1, 1, []), (.iadd, 1, []), (.iaload, 1, [208]), (.aload_n 0, 1, []), (.iload 4, 2, []), (.iconst 2, 1, []), (.iadd, 1, []), (.iaload, 1, [208]), (.invokevirtual 63, 3, [194, 3, 111]), (.if_icmp .eq (107), 3, [18]), (.iconst 0, 1, []), (.ireturn, 1, [1])]
def k_1_12 : List mOp := [(.aload_n 1, 1, []), (.aload_n 0, 1, []), (.iload 4, 2, []), (.iconst 1, 1, []), (.iadd, 1, []), (.iaload, 1, [208]), (.aload_n 0, 1, []), (.iload 4, 2, []), (.iconst 2, 1, []), (.iadd, 1, []), (.iaload, 1, [208]), (.invokevirtual 64, 3, [11, 3, 100]), (.aload_n 2, 1, []), (.aload_n 0, 1, []), (.iload 4, 2, []), (.iconst 1, 1, []), (.iadd, 1, []), (.iaload, 1, [208]), (.aload_n 0, 1, []), (.iload 4, 2, []), (.iconst 2, 1, []), (.iadd, 1, []), (.iaload, 1, [208]), (.invokevirtual 67, 3, [195, 3, 111]), (.if_icmp .eq (70), 3, [18]), (.iconst 0, 1, []), (.ireturn, 1, [1])]
def k_1_13 : List mOp := [(.aload_n 1, 1, []), (.aload_n 0, 1, []), (.iload 4, 2, []), (.iconst 1, 1, []), (.iadd, 1, []), (.iaload, 1, [208]), (.ifCond .eq (7), 3, [14]), (.iconst 1, 1, []), (.goto (4), 3, [15])]
def k_1_14 : List mOp := [(.iconst 0, 1, [])]
def k_1_15 : List mOp := [(.aload_n 0, 1, []), (.iload 4, 2, []), (.iconst 2, 1, []), (.iadd, 1, []), (.iaload, 1, [208]), (.aload_n 0, 1, []), (.iload 4, 2, []), (.iconst 3, 1, []), (.iadd, 1, []), (.iaload, 1, [208]), (.invokevirtual 68, 3, [12, 4, 100]), (.aload_n 2, 1, []), (.aload_n 0, 1, []), (.iload 4, 2, []), (.iconst 1, 1, []), (.iadd, 1, []), (.iaload, 1, [208]), (.ifCond .eq (7), 3, [16]), (.iconst 1, 1, []), (.goto (4), 3, [17])]
def k_1_16 : List mOp := [(.iconst 0, 1, [])]
def k_1_17 : List mOp := [(.aload_n 0, 1, []), (.iload 4, 2, []), (.iconst 2, 1, []), (.iadd, 1, []), (.iaload, 1, [208]), (.aload_n 0, 1, []), (.iload 4, 2, []), (.iconst 3, 1, []), (.iadd, 1, []), (.iaload, 1, [208]), (.invokevirtual 72, 3, [196, 4, 111]), (.if_icmp .eq (5), 3, [18]), (.iconst 0, 1, []), (.ireturn, 1, [1])]
def k_1_18 : List mOp := [(.iinc 4 4, 3, []), (.goto (-423), 3, [1])]
def k_1_19 : List mOp := [(.iconst 1, 1, []), (.ireturn, 1, [1])]
/-- TinyShellLaw.law([I)Z -/
def P_1 (b : Nat) : List mOp × Nat := cond (Nat.blt b 10) (cond (Nat.blt b 5) (cond (Nat.blt b 2) (cond (Nat.blt b 1) ((k_1_0, 1)) ((k_1_1, 0))) (cond (Nat.blt b 3) ((k_1_2, 0)) (cond (Nat.blt b 4) ((k_1_3, 0)) ((k_1_4, 0))))) (cond (Nat.blt b 7) (cond (Nat.blt b 6) ((k_1_5, 0)) ((k_1_6, 0))) (cond (Nat.blt b 8) ((k_1_7, 0)) (cond (Nat.blt b 9) ((k_1_8, 0)) ((k_1_9, 0)))))) (cond (Nat.blt b 15) (cond (Nat.blt b 12) (cond (Nat.blt b 11) ((k_1_10, 0)) ((k_1_11, 0))) (cond (Nat.blt b 13) ((k_1_12, 0)) (cond (Nat.blt b 14) ((k_1_13, 0)) ((k_1_14, 15))))) (cond (Nat.blt b 17) (cond (Nat.blt b 16) ((k_1_15, 0)) ((k_1_16, 17))) (cond (Nat.blt b 18) ((k_1_17, 0)) (cond (Nat.blt b 19) ((k_1_18, 0)) ((k_1_19, 0))))))
def J_1 : MethodName × ByteArray × Nat × Option FieldType × Nat × Nat × List Nat := (⟨"TinyShellLaw", "law", "([I)Z"⟩, code, 7, some (Jvm.ClassFile.FieldType.boolean), 14, 324, [0, 23, 92, 149, 160, 184, 201, 204, 217, 242, 267, 304, 341, 378, 392, 393, 422, 423, 443, 449])
def k_2_0 : List mOp := [(.aload_n 0, 1, []), (.invokespecial 1, 3, []), (.aload_n 0, 1, []), (.new 7, 3, [101, 2]), (.dup, 1, []), (.sipush 240, 3, []), (.invokespecial 11, 3, [13, 2]), (.putfield 14, 3, [100, 0, 1]), (.aload_n 0, 1, []), (.new 18, 3, [106, 10]), (.dup, 1, []), (.aload_n 0, 1, []), (.getfield 14, 3, [100, 0, 1]), (.invokespecial 20, 3, [50, 2]), (.putfield 23, 3, [100, 1, 1]), (.aload_n 0, 1, []), (.new 27, 3, [105, 5]), (.dup, 1, []), (.invokespecial 29, 3, [48, 1]), (.putfield 30, 3, [100, 2, 1]), (.aload_n 0, 1, []), (.new 34, 3, [108, 11]), (.dup, 1, []), (.aload_n 0, 1, []), (.getfield 14, 3, [100, 0, 1]), (.aload_n 0, 1, []), (.getfield 23, 3, [100, 1, 1]), (.invokespecial 36, 3, [81, 3]), (.putfield 39, 3, [100, 3, 1]), (.return_, 1, [])]
/-- TinyShell.<init>()V -/
def P_2 (b : Nat) : List mOp × Nat := (k_2_0, 0)
def J_2 : MethodName × ByteArray × Nat × Option FieldType × Nat × Nat × List Nat := (⟨"TinyShell", "<init>", "()V"⟩, prog_1_method_1_code, 1, none, 5, 110, [0])
def k_3_0 : List mOp := [(.iconst 0, 1, []), (.istore_n 3, 1, []), (.bipush 56, 2, []), (.istore 4, 2, [])]
def k_3_1 : List mOp := [(.iload 4, 2, []), (.ifCond .lt (61), 3, [6]), (.lload_n 1, 1, []), (.iload 4, 2, []), (.lushr, 1, []), (.l2i, 1, []), (.sipush 255, 3, []), (.iand, 1, []), (.istore 5, 2, []), (.iload 5, 2, []), (.ifCond .eq (26), 3, [3]), (.iload 5, 2, []), (.bipush 10, 2, []), (.if_icmp .eq (19), 3, [3]), (.iload 5, 2, []), (.bipush 32, 2, []), (.if_icmp .lt (10), 3, [2]), (.iload 5, 2, []), (.bipush 126, 2, []), (.if_icmp .le (5), 3, [3])]
def k_3_2 : List mOp := [(.iconst 0, 1, []), (.ireturn, 1, [1])]
def k_3_3 : List mOp := [(.iload_n 3, 1, []), (.iload 5, 2, []), (.ifCond .ne (7), 3, [4]), (.iconst 0, 1, []), (.goto (4), 3, [5])]
def k_3_4 : List mOp := [(.iconst 1, 1, [])]
def k_3_5 : List mOp := [(.iadd, 1, []), (.istore_n 3, 1, []), (.iinc 4 (-8), 3, []), (.goto (-60), 3, [1])]
def k_3_6 : List mOp := [(.aload_n 0, 1, []), (.getfield 14, 3, [100, 0, 1]), (.invokevirtual 43, 3, [14, 1, 101]), (.iload_n 3, 1, []), (.iadd, 1, []), (.sipush 240, 3, []), (.if_icmp .le (5), 3, [7]), (.iconst 0, 1, []), (.ireturn, 1, [1])]
def k_3_7 : List mOp := [(.bipush 56, 2, []), (.istore 4, 2, [])]
def k_3_8 : List mOp := [(.iload 4, 2, []), (.ifCond .lt (35), 3, [10]), (.lload_n 1, 1, []), (.iload 4, 2, []), (.lushr, 1, []), (.l2i, 1, []), (.sipush 255, 3, []), (.iand, 1, []), (.istore 5, 2, []), (.iload 5, 2, []), (.ifCond .eq (13), 3, [9]), (.aload_n 0, 1, []), (.getfield 14, 3, [100, 0, 1]), (.iload 5, 2, []), (.i2c, 1, []), (.invokevirtual 47, 3, [17, 2, 101])]
def k_3_9 : List mOp := [(.iinc 4 (-8), 3, []), (.goto (-34), 3, [8])]
def k_3_10 : List mOp := [(.iconst 1, 1, []), (.ireturn, 1, [1])]
/-- TinyShell.type(J)Z -/
def P_3 (b : Nat) : List mOp × Nat := cond (Nat.blt b 5) (cond (Nat.blt b 2) (cond (Nat.blt b 1) ((k_3_0, 1)) ((k_3_1, 2))) (cond (Nat.blt b 3) ((k_3_2, 0)) (cond (Nat.blt b 4) ((k_3_3, 0)) ((k_3_4, 5))))) (cond (Nat.blt b 8) (cond (Nat.blt b 6) ((k_3_5, 0)) (cond (Nat.blt b 7) ((k_3_6, 0)) ((k_3_7, 8)))) (cond (Nat.blt b 9) ((k_3_8, 9)) (cond (Nat.blt b 10) ((k_3_9, 0)) ((k_3_10, 0)))))
def J_3 : MethodName × ByteArray × Nat × Option FieldType × Nat × Nat × List Nat := (⟨"TinyShell", "type", "(J)Z"⟩, prog_1_method_2_code, 6, some (Jvm.ClassFile.FieldType.boolean), 7, 111, [0, 6, 48, 50, 60, 61, 69, 86, 90, 121, 127])
def k_4_0 : List mOp := [(.aload_n 0, 1, []), (.getfield 14, 3, [100, 0, 1]), (.invokevirtual 51, 3, [16, 1, 101]), (.return_, 1, [])]
/-- TinyShell.wipe()V -/
def P_4 (b : Nat) : List mOp × Nat := (k_4_0, 0)
def J_4 : MethodName × ByteArray × Nat × Option FieldType × Nat × Nat × List Nat := (⟨"TinyShell", "wipe", "()V"⟩, prog_1_method_3_code, 1, none, 1, 20, [0])
def k_5_0 : List mOp := [(.aload_n 0, 1, []), (.getfield 23, 3, [100, 1, 1]), (.invokevirtual 54, 3, [51, 1, 106]), (.aload_n 0, 1, []), (.getfield 39, 3, [100, 3, 1]), (.aload_n 0, 1, []), (.getfield 30, 3, [100, 2, 1]), (.invokevirtual 57, 3, [82, 2, 108]), (.iconst 0, 1, []), (.istore_n 1, 1, [])]
def k_5_1 : List mOp := [(.iload_n 1, 1, []), (.aload_n 0, 1, []), (.getfield 23, 3, [100, 1, 1]), (.getfield 61, 3, [106, 0, 1]), (.invokevirtual 65, 3, [42, 1, 104]), (.if_icmp .ge (44), 3, [3]), (.aload_n 0, 1, []), (.getfield 39, 3, [100, 3, 1]), (.iload_n 1, 1, []), (.invokevirtual 68, 3, [83, 2, 108]), (.ifCond .eq (27), 3, [2]), (.aload_n 0, 1, []), (.getfield 39, 3, [100, 3, 1]), (.iload_n 1, 1, []), (.invokevirtual 72, 3, [84, 2, 108]), (.aload_n 0, 1, []), (.getfield 39, 3, [100, 3, 1]), (.iload_n 1, 1, []), (.aload_n 0, 1, []), (.getfield 39, 3, [100, 3, 1]), (.iload_n 1, 1, []), (.invokevirtual 75, 3, [85, 2, 108]), (.invokevirtual 79, 3, [86, 3, 108])]
def k_5_2 : List mOp := [(.iinc 1 1, 3, []), (.goto (-52), 3, [1])]
def k_5_3 : List mOp := [(.aload_n 0, 1, []), (.getfield 30, 3, [100, 2, 1]), (.aload_n 0, 1, []), (.getfield 39, 3, [100, 3, 1]), (.getfield 83, 3, [108, 0, 1]), (.invokevirtual 86, 3, [49, 2, 105]), (.aload_n 0, 1, []), (.getfield 30, 3, [100, 2, 1]), (.getfield 89, 3, [105, 4, 0]), (.ireturn, 1, [0])]
/-- TinyShell.run()I -/
def P_5 (b : Nat) : List mOp × Nat := cond (Nat.blt b 2) (cond (Nat.blt b 1) ((k_5_0, 1)) ((k_5_1, 2))) (cond (Nat.blt b 3) ((k_5_2, 0)) ((k_5_3, 0)))
def J_5 : MethodName × ByteArray × Nat × Option FieldType × Nat × Nat × List Nat := (⟨"TinyShell", "run", "()I"⟩, prog_1_method_4_code, 2, some (Jvm.ClassFile.FieldType.int), 12, 237, [0, 20, 69, 75])
def k_6_0 : List mOp := [(.aload_n 0, 1, []), (.getfield 23, 3, [100, 1, 1]), (.getfield 93, 3, [106, 3, 0]), (.ireturn, 1, [0])]
/-- TinyShell.place()I -/
def P_6 (b : Nat) : List mOp × Nat := (k_6_0, 0)
def J_6 : MethodName × ByteArray × Nat × Option FieldType × Nat × Nat × List Nat := (⟨"TinyShell", "place", "()I"⟩, prog_1_method_5_code, 1, some (Jvm.ClassFile.FieldType.int), 0, 0, [0])
def k_7_0 : List mOp := [(.aload_n 0, 1, []), (.getfield 30, 3, [100, 2, 1]), (.getfield 96, 3, [105, 3, 1]), (.iload_n 1, 1, []), (.invokevirtual 99, 3, [15, 2, 101]), (.ireturn, 1, [2])]
/-- TinyShell.output(I)C -/
def P_7 (b : Nat) : List mOp × Nat := (k_7_0, 0)
def J_7 : MethodName × ByteArray × Nat × Option FieldType × Nat × Nat × List Nat := (⟨"TinyShell", "output", "(I)C"⟩, prog_1_method_6_code, 2, some (Jvm.ClassFile.FieldType.char), 1, 21, [0])
def k_8_0 : List mOp := [(.iload_n 1, 1, []), (.tableswitch (87) 0 4 #[35, 46, 57, 68, 76], 35, [6, 1, 2, 3, 4, 5])]
def k_8_1 : List mOp := [(.aload_n 0, 1, []), (.getfield 30, 3, [100, 2, 1]), (.getfield 103, 3, [105, 0, 1]), (.invokevirtual 107, 3, [34, 1, 103]), (.ireturn, 1, [0])]
def k_8_2 : List mOp := [(.aload_n 0, 1, []), (.getfield 30, 3, [100, 2, 1]), (.getfield 110, 3, [105, 1, 1]), (.invokevirtual 114, 3, [26, 1, 102]), (.ireturn, 1, [0])]
def k_8_3 : List mOp := [(.aload_n 0, 1, []), (.getfield 30, 3, [100, 2, 1]), (.getfield 117, 3, [105, 2, 1]), (.invokevirtual 107, 3, [34, 1, 103]), (.ireturn, 1, [0])]
def k_8_4 : List mOp := [(.aload_n 0, 1, []), (.getfield 30, 3, [100, 2, 1]), (.getfield 89, 3, [105, 4, 0]), (.ireturn, 1, [0])]
def k_8_5 : List mOp := [(.aload_n 0, 1, []), (.getfield 30, 3, [100, 2, 1]), (.getfield 96, 3, [105, 3, 1]), (.invokevirtual 43, 3, [14, 1, 101]), (.ireturn, 1, [0])]
def k_8_6 : List mOp := [(.iconst (-1), 1, []), (.ireturn, 1, [0])]
/-- TinyShell.count(I)I -/
def P_8 (b : Nat) : List mOp × Nat := cond (Nat.blt b 3) (cond (Nat.blt b 1) ((k_8_0, 0)) (cond (Nat.blt b 2) ((k_8_1, 0)) ((k_8_2, 0)))) (cond (Nat.blt b 5) (cond (Nat.blt b 4) ((k_8_3, 0)) ((k_8_4, 0))) (cond (Nat.blt b 6) ((k_8_5, 0)) ((k_8_6, 0))))
def J_8 : MethodName × ByteArray × Nat × Option FieldType × Nat × Nat × List Nat := (⟨"TinyShell", "count", "(I)I"⟩, prog_1_method_7_code, 2, some (Jvm.ClassFile.FieldType.int), 1, 20, [0, 36, 47, 58, 69, 77, 88])
def k_9_0 : List mOp := [(.aload_n 0, 1, []), (.getfield 30, 3, [100, 2, 1]), (.getfield 103, 3, [105, 0, 1]), (.iload_n 1, 1, []), (.invokevirtual 120, 3, [36, 2, 103]), (.iload_n 2, 1, []), (.invokevirtual 99, 3, [15, 2, 101]), (.ireturn, 1, [2])]
/-- TinyShell.value(II)C -/
def P_9 (b : Nat) : List mOp × Nat := (k_9_0, 0)
def J_9 : MethodName × ByteArray × Nat × Option FieldType × Nat × Nat × List Nat := (⟨"TinyShell", "value", "(II)C"⟩, prog_1_method_8_code, 3, some (Jvm.ClassFile.FieldType.char), 1, 21, [0])
def k_10_0 : List mOp := [(.aload_n 0, 1, []), (.getfield 30, 3, [100, 2, 1]), (.getfield 110, 3, [105, 1, 1]), (.iload_n 1, 1, []), (.iconst 1, 1, []), (.isub, 1, []), (.invokevirtual 124, 3, [27, 2, 102]), (.iload_n 2, 1, []), (.invokevirtual 99, 3, [15, 2, 101]), (.ireturn, 1, [2])]
/-- TinyShell.position(II)C -/
def P_10 (b : Nat) : List mOp × Nat := (k_10_0, 0)
def J_10 : MethodName × ByteArray × Nat × Option FieldType × Nat × Nat × List Nat := (⟨"TinyShell", "position", "(II)C"⟩, prog_1_method_9_code, 3, some (Jvm.ClassFile.FieldType.char), 1, 21, [0])
def k_11_0 : List mOp := [(.aload_n 0, 1, []), (.getfield 30, 3, [100, 2, 1]), (.getfield 117, 3, [105, 2, 1]), (.iload_n 1, 1, []), (.invokevirtual 120, 3, [36, 2, 103]), (.iload_n 2, 1, []), (.invokevirtual 99, 3, [15, 2, 101]), (.ireturn, 1, [2])]
/-- TinyShell.content(II)C -/
def P_11 (b : Nat) : List mOp × Nat := (k_11_0, 0)
def J_11 : MethodName × ByteArray × Nat × Option FieldType × Nat × Nat × List Nat := (⟨"TinyShell", "content", "(II)C"⟩, prog_1_method_10_code, 3, some (Jvm.ClassFile.FieldType.char), 1, 21, [0])
def k_12_0 : List mOp := [(.iload_n 1, 1, []), (.ifCond .eq (13), 3, [1]), (.aload_n 0, 1, []), (.getfield 30, 3, [100, 2, 1]), (.getfield 117, 3, [105, 2, 1]), (.goto (10), 3, [2])]
def k_12_1 : List mOp := [(.aload_n 0, 1, []), (.getfield 30, 3, [100, 2, 1]), (.getfield 103, 3, [105, 0, 1])]
def k_12_2 : List mOp := [(.astore 4, 2, []), (.aload 4, 2, []), (.iload_n 2, 1, []), (.invokevirtual 126, 3, [35, 2, 103]), (.iload_n 3, 1, []), (.invokevirtual 99, 3, [15, 2, 101]), (.ireturn, 1, [2])]
/-- TinyShell.name(ZII)C -/
def P_12 (b : Nat) : List mOp × Nat := cond (Nat.blt b 1) ((k_12_0, 0)) (cond (Nat.blt b 2) ((k_12_1, 2)) ((k_12_2, 0)))
def J_12 : MethodName × ByteArray × Nat × Option FieldType × Nat × Nat × List Nat := (⟨"TinyShell", "name", "(ZII)C"⟩, prog_1_method_11_code, 5, some (Jvm.ClassFile.FieldType.char), 1, 21, [0, 14, 21])
def k_13_0 : List mOp := [(.aload_n 0, 1, []), (.invokespecial 1, 3, []), (.aload_n 0, 1, []), (.iload_n 1, 1, []), (.iconst 0, 1, []), (.invokestatic 7, 3, [197, 2]), (.newarray .char, 2, [2]), (.putfield 13, 3, [101, 0, 1]), (.aload_n 0, 1, []), (.iconst 0, 1, []), (.putfield 19, 3, [101, 1, 0]), (.return_, 1, [])]
/-- TinyShell$Text.<init>(I)V -/
def P_13 (b : Nat) : List mOp × Nat := (k_13_0, 0)
def J_13 : MethodName × ByteArray × Nat × Option FieldType × Nat × Nat × List Nat := (⟨"TinyShell$Text", "<init>", "(I)V"⟩, prog_11_method_1_code, 2, none, 1, 21, [0])
def k_14_0 : List mOp := [(.aload_n 0, 1, []), (.getfield 19, 3, [101, 1, 0]), (.ireturn, 1, [0])]
/-- TinyShell$Text.size()I -/
def P_14 (b : Nat) : List mOp × Nat := (k_14_0, 0)
def J_14 : MethodName × ByteArray × Nat × Option FieldType × Nat × Nat × List Nat := (⟨"TinyShell$Text", "size", "()I"⟩, prog_11_method_2_code, 1, some (Jvm.ClassFile.FieldType.int), 0, 0, [0])
def k_15_0 : List mOp := [(.iload_n 1, 1, []), (.ifCond .lt (29), 3, [1]), (.iload_n 1, 1, []), (.aload_n 0, 1, []), (.getfield 19, 3, [101, 1, 0]), (.if_icmp .ge (21), 3, [1]), (.iload_n 1, 1, []), (.aload_n 0, 1, []), (.getfield 13, 3, [101, 0, 1]), (.arraylength, 1, [2]), (.if_icmp .ge (12), 3, [1]), (.aload_n 0, 1, []), (.getfield 13, 3, [101, 0, 1]), (.iload_n 1, 1, []), (.caload, 1, []), (.goto (4), 3, [2])]
def k_15_1 : List mOp := [(.iconst 0, 1, [])]
def k_15_2 : List mOp := [(.ireturn, 1, [2])]
/-- TinyShell$Text.at(I)C -/
def P_15 (b : Nat) : List mOp × Nat := cond (Nat.blt b 1) ((k_15_0, 0)) (cond (Nat.blt b 2) ((k_15_1, 2)) ((k_15_2, 0)))
def J_15 : MethodName × ByteArray × Nat × Option FieldType × Nat × Nat × List Nat := (⟨"TinyShell$Text", "at", "(I)C"⟩, prog_11_method_3_code, 2, some (Jvm.ClassFile.FieldType.char), 0, 0, [0, 30, 31])
def k_16_0 : List mOp := [(.aload_n 0, 1, []), (.iconst 0, 1, []), (.putfield 19, 3, [101, 1, 0]), (.return_, 1, [])]
/-- TinyShell$Text.clear()V -/
def P_16 (b : Nat) : List mOp × Nat := (k_16_0, 0)
def J_16 : MethodName × ByteArray × Nat × Option FieldType × Nat × Nat × List Nat := (⟨"TinyShell$Text", "clear", "()V"⟩, prog_11_method_4_code, 1, none, 0, 0, [0])
def k_17_0 : List mOp := [(.aload_n 0, 1, []), (.getfield 19, 3, [101, 1, 0]), (.ifCond .lt (15), 3, [1]), (.aload_n 0, 1, []), (.getfield 19, 3, [101, 1, 0]), (.aload_n 0, 1, []), (.getfield 13, 3, [101, 0, 1]), (.arraylength, 1, [2]), (.if_icmp .lt (13), 3, [2])]
def k_17_1 : List mOp := [(.new 23, 3, [91, 25, 27])]
def k_17_2 : List mOp := [(.aload_n 0, 1, []), (.getfield 13, 3, [101, 0, 1]), (.aload_n 0, 1, []), (.getfield 19, 3, [101, 1, 0]), (.iload_n 1, 1, []), (.castore, 1, []), (.aload_n 0, 1, []), (.dup, 1, []), (.getfield 19, 3, [101, 1, 0]), (.iconst 1, 1, []), (.iadd, 1, []), (.putfield 19, 3, [101, 1, 0]), (.return_, 1, [])]
/-- TinyShell$Text.add(C)V -/
def P_17 (b : Nat) : List mOp × Nat := cond (Nat.blt b 1) ((k_17_0, 1)) (cond (Nat.blt b 2) ((k_17_1, 0)) ((k_17_2, 0)))
def J_17 : MethodName × ByteArray × Nat × Option FieldType × Nat × Nat × List Nat := (⟨"TinyShell$Text", "add", "(C)V"⟩, prog_11_method_5_code, 2, none, 6, 90, [0, 19, 29])
def k_18_0 : List mOp := [(.iload_n 2, 1, []), (.iconst 0, 1, []), (.invokestatic 7, 3, [197, 2]), (.istore 4, 2, [])]
def k_18_1 : List mOp := [(.iload 4, 2, []), (.iload_n 3, 1, []), (.if_icmp .ge (73), 3, [4]), (.iload 4, 2, []), (.aload_n 1, 1, []), (.getfield 19, 3, [101, 1, 0]), (.if_icmp .ge (64), 3, [4]), (.aload_n 0, 1, []), (.getfield 19, 3, [101, 1, 0]), (.ifCond .lt (15), 3, [2]), (.aload_n 0, 1, []), (.getfield 19, 3, [101, 1, 0]), (.aload_n 0, 1, []), (.getfield 13, 3, [101, 0, 1]), (.arraylength, 1, [2]), (.if_icmp .lt (13), 3, [3])]
def k_18_2 : List mOp := [(.new 23, 3, [91, 25, 27])]
def k_18_3 : List mOp := [(.aload_n 0, 1, []), (.getfield 13, 3, [101, 0, 1]), (.aload_n 0, 1, []), (.getfield 19, 3, [101, 1, 0]), (.aload_n 1, 1, []), (.getfield 13, 3, [101, 0, 1]), (.iload 4, 2, []), (.caload, 1, []), (.castore, 1, []), (.aload_n 0, 1, []), (.dup, 1, []), (.getfield 19, 3, [101, 1, 0]), (.iconst 1, 1, []), (.iadd, 1, []), (.putfield 19, 3, [101, 1, 0]), (.iinc 4 1, 3, []), (.goto (-73), 3, [1])]
def k_18_4 : List mOp := [(.return_, 1, [])]
/-- TinyShell$Text.addRange(LTinyShell$Text;II)V -/
def P_18 (b : Nat) : List mOp × Nat := cond (Nat.blt b 2) (cond (Nat.blt b 1) ((k_18_0, 1)) ((k_18_1, 2))) (cond (Nat.blt b 3) ((k_18_2, 0)) (cond (Nat.blt b 4) ((k_18_3, 0)) ((k_18_4, 0))))
def J_18 : MethodName × ByteArray × Nat × Option FieldType × Nat × Nat × List Nat := (⟨"TinyShell$Text", "addRange", "(LTinyShell$Text;II)V"⟩, prog_11_method_6_code, 5, none, 6, 90, [0, 7, 41, 51, 83])
def k_19_0 : List mOp := [(.aload_n 1, 1, []), (.getfield 19, 3, [101, 1, 0]), (.aload_n 0, 1, []), (.getfield 13, 3, [101, 0, 1]), (.arraylength, 1, [2]), (.if_icmp .le (13), 3, [1]), (.new 23, 3, [91, 25, 27])]
def k_19_1 : List mOp := [(.iconst 0, 1, []), (.istore_n 2, 1, [])]
def k_19_2 : List mOp := [(.iload_n 2, 1, []), (.aload_n 1, 1, []), (.getfield 19, 3, [101, 1, 0]), (.if_icmp .ge (21), 3, [3]), (.aload_n 0, 1, []), (.getfield 13, 3, [101, 0, 1]), (.iload_n 2, 1, []), (.aload_n 1, 1, []), (.getfield 13, 3, [101, 0, 1]), (.iload_n 2, 1, []), (.caload, 1, []), (.castore, 1, []), (.iinc 2 1, 3, []), (.goto (-23), 3, [2])]
def k_19_3 : List mOp := [(.aload_n 0, 1, []), (.aload_n 1, 1, []), (.getfield 19, 3, [101, 1, 0]), (.putfield 19, 3, [101, 1, 0]), (.return_, 1, [])]
/-- TinyShell$Text.become(LTinyShell$Text;)V -/
def P_19 (b : Nat) : List mOp × Nat := cond (Nat.blt b 2) (cond (Nat.blt b 1) ((k_19_0, 0)) ((k_19_1, 2))) (cond (Nat.blt b 3) ((k_19_2, 0)) ((k_19_3, 0)))
def J_19 : MethodName × ByteArray × Nat × Option FieldType × Nat × Nat × List Nat := (⟨"TinyShell$Text", "become", "(LTinyShell$Text;)V"⟩, prog_11_method_7_code, 3, none, 6, 90, [0, 22, 24, 50])
def k_20_0 : List mOp := [(.bipush 100, 2, []), (.istore_n 2, 1, [])]
def k_20_1 : List mOp := [(.iload_n 2, 1, []), (.ifCond .le (82), 3, [6]), (.iload_n 2, 1, []), (.iconst 1, 1, []), (.if_icmp .le (11), 3, [2]), (.iload_n 1, 1, []), (.iload_n 2, 1, []), (.if_icmp .ge (6), 3, [2]), (.goto (61), 3, [5])]
def k_20_2 : List mOp := [(.aload_n 0, 1, []), (.getfield 19, 3, [101, 1, 0]), (.ifCond .lt (15), 3, [3]), (.aload_n 0, 1, []), (.getfield 19, 3, [101, 1, 0]), (.aload_n 0, 1, []), (.getfield 13, 3, [101, 0, 1]), (.arraylength, 1, [2]), (.if_icmp .lt (13), 3, [4])]
def k_20_3 : List mOp := [(.new 23, 3, [91, 25, 27])]
def k_20_4 : List mOp := [(.aload_n 0, 1, []), (.getfield 13, 3, [101, 0, 1]), (.aload_n 0, 1, []), (.getfield 19, 3, [101, 1, 0]), (.bipush 48, 2, []), (.iload_n 1, 1, []), (.iload_n 2, 1, []), (.idiv, 1, []), (.bipush 10, 2, []), (.irem, 1, []), (.iadd, 1, []), (.i2c, 1, []), (.castore, 1, []), (.aload_n 0, 1, []), (.dup, 1, []), (.getfield 19, 3, [101, 1, 0]), (.iconst 1, 1, []), (.iadd, 1, []), (.putfield 19, 3, [101, 1, 0])]
def k_20_5 : List mOp := [(.iload_n 2, 1, []), (.bipush 10, 2, []), (.idiv, 1, []), (.istore_n 2, 1, []), (.goto (-80), 3, [1])]
def k_20_6 : List mOp := [(.return_, 1, [])]
/-- TinyShell$Text.addNumber(I)V -/
def P_20 (b : Nat) : List mOp × Nat := cond (Nat.blt b 3) (cond (Nat.blt b 1) ((k_20_0, 1)) (cond (Nat.blt b 2) ((k_20_1, 0)) ((k_20_2, 3)))) (cond (Nat.blt b 5) (cond (Nat.blt b 4) ((k_20_3, 0)) ((k_20_4, 5))) (cond (Nat.blt b 6) ((k_20_5, 0)) ((k_20_6, 0))))
def J_20 : MethodName × ByteArray × Nat × Option FieldType × Nat × Nat × List Nat := (⟨"TinyShell$Text", "addNumber", "(I)V"⟩, prog_11_method_8_code, 3, none, 6, 90, [0, 3, 20, 39, 49, 78, 86])
def k_21_0 : List mOp := [(.aload_n 0, 1, []), (.getfield 19, 3, [101, 1, 0]), (.ifCond .eq (11), 3, [1]), (.aload_n 0, 1, []), (.getfield 19, 3, [101, 1, 0]), (.iload_n 1, 1, []), (.if_icmp .le (5), 3, [2])]
def k_21_1 : List mOp := [(.iconst (-1), 1, []), (.ireturn, 1, [0])]
def k_21_2 : List mOp := [(.iconst 0, 1, []), (.istore_n 2, 1, []), (.iconst 0, 1, []), (.istore_n 3, 1, [])]
def k_21_3 : List mOp := [(.iload_n 3, 1, []), (.aload_n 0, 1, []), (.getfield 19, 3, [101, 1, 0]), (.if_icmp .ge (41), 3, [6]), (.aload_n 0, 1, []), (.iload_n 3, 1, []), (.invokevirtual 30, 3, [15, 2, 101]), (.bipush 48, 2, []), (.isub, 1, []), (.istore 4, 2, []), (.iload 4, 2, []), (.ifCond .lt (10), 3, [4]), (.iload 4, 2, []), (.bipush 9, 2, []), (.if_icmp .le (5), 3, [5])]
def k_21_4 : List mOp := [(.iconst (-1), 1, []), (.ireturn, 1, [0])]
def k_21_5 : List mOp := [(.iload_n 2, 1, []), (.bipush 10, 2, []), (.imul, 1, []), (.iload 4, 2, []), (.iadd, 1, []), (.istore_n 2, 1, []), (.iinc 3 1, 3, []), (.goto (-43), 3, [3])]
def k_21_6 : List mOp := [(.iload_n 2, 1, []), (.ireturn, 1, [0])]
/-- TinyShell$Text.asNumber(I)I -/
def P_21 (b : Nat) : List mOp × Nat := cond (Nat.blt b 3) (cond (Nat.blt b 1) ((k_21_0, 1)) (cond (Nat.blt b 2) ((k_21_1, 0)) ((k_21_2, 3)))) (cond (Nat.blt b 5) (cond (Nat.blt b 4) ((k_21_3, 4)) ((k_21_4, 0))) (cond (Nat.blt b 6) ((k_21_5, 0)) ((k_21_6, 0))))
def J_21 : MethodName × ByteArray × Nat × Option FieldType × Nat × Nat × List Nat := (⟨"TinyShell$Text", "asNumber", "(I)I"⟩, prog_11_method_9_code, 5, some (Jvm.ClassFile.FieldType.int), 1, 21, [0, 15, 17, 21, 51, 53, 67])
def k_22_0 : List mOp := [(.iconst 0, 1, []), (.istore_n 2, 1, [])]
def k_22_1 : List mOp := [(.iload_n 2, 1, []), (.aload_n 0, 1, []), (.getfield 19, 3, [101, 1, 0]), (.if_icmp .ge (37), 3, [3]), (.iload_n 2, 1, []), (.aload_n 1, 1, []), (.getfield 19, 3, [101, 1, 0]), (.if_icmp .ge (29), 3, [3]), (.aload_n 0, 1, []), (.getfield 13, 3, [101, 0, 1]), (.iload_n 2, 1, []), (.caload, 1, []), (.aload_n 1, 1, []), (.getfield 13, 3, [101, 0, 1]), (.iload_n 2, 1, []), (.caload, 1, []), (.isub, 1, []), (.istore_n 3, 1, []), (.iload_n 3, 1, []), (.ifCond .eq (5), 3, [2]), (.iload_n 3, 1, []), (.ireturn, 1, [0])]
def k_22_2 : List mOp := [(.iinc 2 1, 3, []), (.goto (-39), 3, [1])]
def k_22_3 : List mOp := [(.aload_n 0, 1, []), (.getfield 19, 3, [101, 1, 0]), (.aload_n 1, 1, []), (.getfield 19, 3, [101, 1, 0]), (.isub, 1, []), (.ireturn, 1, [0])]
/-- TinyShell$Text.order(LTinyShell$Text;)I -/
def P_22 (b : Nat) : List mOp × Nat := cond (Nat.blt b 2) (cond (Nat.blt b 1) ((k_22_0, 1)) ((k_22_1, 0))) (cond (Nat.blt b 3) ((k_22_2, 0)) ((k_22_3, 0)))
def J_22 : MethodName × ByteArray × Nat × Option FieldType × Nat × Nat × List Nat := (⟨"TinyShell$Text", "order", "(LTinyShell$Text;)I"⟩, prog_11_method_10_code, 4, some (Jvm.ClassFile.FieldType.int), 0, 0, [0, 2, 38, 44])
def k_23_0 : List mOp := [(.aload_n 1, 1, []), (.invokevirtual 34, 3, [199, 1, 213, 0]), (.aload_n 0, 1, []), (.getfield 19, 3, [101, 1, 0]), (.if_icmp .eq (5), 3, [1]), (.iconst 0, 1, []), (.ireturn, 1, [1])]
def k_23_1 : List mOp := [(.iconst 0, 1, []), (.istore_n 2, 1, [])]
def k_23_2 : List mOp := [(.iload_n 2, 1, []), (.aload_n 0, 1, []), (.getfield 19, 3, [101, 1, 0]), (.if_icmp .ge (32), 3, [4]), (.iload_n 2, 1, []), (.aload_n 1, 1, []), (.invokevirtual 34, 3, [199, 1, 213, 0]), (.if_icmp .ge (24), 3, [4]), (.aload_n 0, 1, []), (.iload_n 2, 1, []), (.invokevirtual 30, 3, [15, 2, 101]), (.aload_n 1, 1, []), (.iload_n 2, 1, []), (.invokevirtual 40, 3, [201, 2, 213, 0]), (.if_icmp .eq (5), 3, [3]), (.iconst 0, 1, []), (.ireturn, 1, [1])]
def k_23_3 : List mOp := [(.iinc 2 1, 3, []), (.goto (-34), 3, [2])]
def k_23_4 : List mOp := [(.iconst 1, 1, []), (.ireturn, 1, [1])]
/-- TinyShell$Text.is(Ljava/lang/String;)Z -/
def P_23 (b : Nat) : List mOp × Nat := cond (Nat.blt b 2) (cond (Nat.blt b 1) ((k_23_0, 0)) ((k_23_1, 2))) (cond (Nat.blt b 3) ((k_23_2, 0)) (cond (Nat.blt b 4) ((k_23_3, 0)) ((k_23_4, 0))))
def J_23 : MethodName × ByteArray × Nat × Option FieldType × Nat × Nat × List Nat := (⟨"TinyShell$Text", "is", "(Ljava/lang/String;)Z"⟩, prog_11_method_11_code, 3, some (Jvm.ClassFile.FieldType.boolean), 4, 85, [0, 13, 15, 46, 52])
def k_24_0 : List mOp := [(.iload_n 2, 1, []), (.istore_n 3, 1, [])]
def k_24_1 : List mOp := [(.iload_n 3, 1, []), (.aload_n 0, 1, []), (.getfield 19, 3, [101, 1, 0]), (.if_icmp .ge (20), 3, [3]), (.aload_n 0, 1, []), (.iload_n 3, 1, []), (.invokevirtual 30, 3, [15, 2, 101]), (.iload_n 1, 1, []), (.if_icmp .ne (5), 3, [2]), (.iload_n 3, 1, []), (.ireturn, 1, [0])]
def k_24_2 : List mOp := [(.iinc 3 1, 3, []), (.goto (-22), 3, [1])]
def k_24_3 : List mOp := [(.aload_n 0, 1, []), (.getfield 19, 3, [101, 1, 0]), (.ireturn, 1, [0])]
/-- TinyShell$Text.find(CI)I -/
def P_24 (b : Nat) : List mOp × Nat := cond (Nat.blt b 2) (cond (Nat.blt b 1) ((k_24_0, 1)) ((k_24_1, 0))) (cond (Nat.blt b 3) ((k_24_2, 0)) ((k_24_3, 0)))
def J_24 : MethodName × ByteArray × Nat × Option FieldType × Nat × Nat × List Nat := (⟨"TinyShell$Text", "find", "(CI)I"⟩, prog_11_method_12_code, 4, some (Jvm.ClassFile.FieldType.int), 1, 21, [0, 2, 21, 27])
def k_25_0 : List mOp := [(.aload_n 0, 1, []), (.invokespecial 1, 3, []), (.aload_n 0, 1, []), (.iload_n 1, 1, []), (.iconst 0, 1, []), (.invokestatic 7, 3, [197, 2]), (.iconst 1, 1, []), (.iadd, 1, []), (.anewarray 13, 3, []), (.putfield 15, 3, [102, 0, 1]), (.iconst 0, 1, []), (.istore_n 3, 1, [])]
def k_25_1 : List mOp := [(.iload_n 3, 1, []), (.aload_n 0, 1, []), (.getfield 15, 3, [102, 0, 1]), (.arraylength, 1, [5]), (.if_icmp .ge (23), 3, [2]), (.aload_n 0, 1, []), (.getfield 15, 3, [102, 0, 1]), (.iload_n 3, 1, []), (.new 13, 3, [101, 2]), (.dup, 1, []), (.iload_n 2, 1, []), (.invokespecial 21, 3, [13, 2]), (.aastore, 1, []), (.iinc 3 1, 3, []), (.goto (-26), 3, [1])]
def k_25_2 : List mOp := [(.aload_n 0, 1, []), (.new 13, 3, [101, 2]), (.dup, 1, []), (.iconst 0, 1, []), (.invokespecial 21, 3, [13, 2]), (.putfield 24, 3, [102, 1, 1]), (.aload_n 0, 1, []), (.iconst 0, 1, []), (.putfield 28, 3, [102, 2, 0]), (.return_, 1, [])]
/-- TinyShell$Row.<init>(II)V -/
def P_25 (b : Nat) : List mOp × Nat := cond (Nat.blt b 1) ((k_25_0, 1)) (cond (Nat.blt b 2) ((k_25_1, 0)) ((k_25_2, 0)))
def J_25 : MethodName × ByteArray × Nat × Option FieldType × Nat × Nat × List Nat := (⟨"TinyShell$Row", "<init>", "(II)V"⟩, prog_5_method_1_code, 4, none, 2, 42, [0, 20, 49])
def k_26_0 : List mOp := [(.aload_n 0, 1, []), (.getfield 28, 3, [102, 2, 0]), (.ireturn, 1, [0])]
/-- TinyShell$Row.size()I -/
def P_26 (b : Nat) : List mOp × Nat := (k_26_0, 0)
def J_26 : MethodName × ByteArray × Nat × Option FieldType × Nat × Nat × List Nat := (⟨"TinyShell$Row", "size", "()I"⟩, prog_5_method_2_code, 1, some (Jvm.ClassFile.FieldType.int), 0, 0, [0])
def k_27_0 : List mOp := [(.iload_n 1, 1, []), (.ifCond .lt (29), 3, [1]), (.iload_n 1, 1, []), (.aload_n 0, 1, []), (.getfield 28, 3, [102, 2, 0]), (.if_icmp .ge (21), 3, [1]), (.iload_n 1, 1, []), (.aload_n 0, 1, []), (.getfield 15, 3, [102, 0, 1]), (.arraylength, 1, [5]), (.if_icmp .ge (12), 3, [1]), (.aload_n 0, 1, []), (.getfield 15, 3, [102, 0, 1]), (.iload_n 1, 1, []), (.aaload, 1, [5]), (.goto (7), 3, [2])]
def k_27_1 : List mOp := [(.aload_n 0, 1, []), (.getfield 24, 3, [102, 1, 1])]
def k_27_2 : List mOp := [(.areturn, 1, [])]
/-- TinyShell$Row.at(I)LTinyShell$Text; -/
def P_27 (b : Nat) : List mOp × Nat := cond (Nat.blt b 1) ((k_27_0, 0)) (cond (Nat.blt b 2) ((k_27_1, 2)) ((k_27_2, 0)))
def J_27 : MethodName × ByteArray × Nat × Option FieldType × Nat × Nat × List Nat := (⟨"TinyShell$Row", "at", "(I)LTinyShell$Text;"⟩, prog_5_method_3_code, 2, some ((Jvm.ClassFile.FieldType.object "TinyShell$Text")), 0, 0, [0, 30, 34])
def k_28_0 : List mOp := [(.aload_n 0, 1, []), (.getfield 28, 3, [102, 2, 0]), (.ifCond .lt (27), 3, [1]), (.aload_n 0, 1, []), (.getfield 28, 3, [102, 2, 0]), (.aload_n 0, 1, []), (.getfield 15, 3, [102, 0, 1]), (.arraylength, 1, [5]), (.if_icmp .ge (15), 3, [1]), (.aload_n 0, 1, []), (.getfield 15, 3, [102, 0, 1]), (.aload_n 0, 1, []), (.getfield 28, 3, [102, 2, 0]), (.aaload, 1, [5]), (.goto (7), 3, [2])]
def k_28_1 : List mOp := [(.aload_n 0, 1, []), (.getfield 24, 3, [102, 1, 1])]
def k_28_2 : List mOp := [(.areturn, 1, [])]
/-- TinyShell$Row.spare()LTinyShell$Text; -/
def P_28 (b : Nat) : List mOp × Nat := cond (Nat.blt b 1) ((k_28_0, 0)) (cond (Nat.blt b 2) ((k_28_1, 2)) ((k_28_2, 0)))
def J_28 : MethodName × ByteArray × Nat × Option FieldType × Nat × Nat × List Nat := (⟨"TinyShell$Row", "spare", "()LTinyShell$Text;"⟩, prog_5_method_4_code, 1, some ((Jvm.ClassFile.FieldType.object "TinyShell$Text")), 0, 0, [0, 31, 35])
def k_29_0 : List mOp := [(.aload_n 0, 1, []), (.iconst 0, 1, []), (.putfield 28, 3, [102, 2, 0]), (.aload_n 0, 1, []), (.invokevirtual 32, 3, [28, 1, 102]), (.invokevirtual 36, 3, [16, 1, 101]), (.return_, 1, [])]
/-- TinyShell$Row.clear()V -/
def P_29 (b : Nat) : List mOp × Nat := (k_29_0, 0)
def J_29 : MethodName × ByteArray × Nat × Option FieldType × Nat × Nat × List Nat := (⟨"TinyShell$Row", "clear", "()V"⟩, prog_5_method_5_code, 1, none, 1, 20, [0])
def k_30_0 : List mOp := [(.aload_n 0, 1, []), (.invokevirtual 32, 3, [28, 1, 102]), (.invokevirtual 39, 3, [14, 1, 101]), (.ifCond .ne (8), 3, [1]), (.iload_n 1, 1, []), (.ifCond .ne (4), 3, [1]), (.return_, 1, [])]
def k_30_1 : List mOp := [(.aload_n 0, 1, []), (.getfield 28, 3, [102, 2, 0]), (.ifCond .lt (17), 3, [2]), (.aload_n 0, 1, []), (.getfield 28, 3, [102, 2, 0]), (.iconst 1, 1, []), (.iadd, 1, []), (.aload_n 0, 1, []), (.getfield 15, 3, [102, 0, 1]), (.arraylength, 1, [5]), (.if_icmp .lt (13), 3, [3])]
def k_30_2 : List mOp := [(.new 42, 3, [91, 44, 46])]
def k_30_3 : List mOp := [(.aload_n 0, 1, []), (.dup, 1, []), (.getfield 28, 3, [102, 2, 0]), (.iconst 1, 1, []), (.iadd, 1, []), (.putfield 28, 3, [102, 2, 0]), (.aload_n 0, 1, []), (.getfield 15, 3, [102, 0, 1]), (.aload_n 0, 1, []), (.getfield 28, 3, [102, 2, 0]), (.aaload, 1, [5]), (.invokevirtual 36, 3, [16, 1, 101]), (.return_, 1, [])]
/-- TinyShell$Row.takeSpare(Z)V -/
def P_30 (b : Nat) : List mOp × Nat := cond (Nat.blt b 2) (cond (Nat.blt b 1) ((k_30_0, 0)) ((k_30_1, 2))) (cond (Nat.blt b 3) ((k_30_2, 0)) ((k_30_3, 0)))
def J_30 : MethodName × ByteArray × Nat × Option FieldType × Nat × Nat × List Nat := (⟨"TinyShell$Row", "takeSpare", "(Z)V"⟩, prog_5_method_6_code, 2, none, 6, 90, [0, 15, 36, 46])
def k_31_0 : List mOp := [(.aload_n 0, 1, []), (.invokevirtual 32, 3, [28, 1, 102]), (.aload_n 1, 1, []), (.invokevirtual 49, 3, [19, 2, 101]), (.aload_n 0, 1, []), (.iconst 1, 1, []), (.invokevirtual 53, 3, [30, 2, 102]), (.return_, 1, [])]
/-- TinyShell$Row.add(LTinyShell$Text;)V -/
def P_31 (b : Nat) : List mOp × Nat := (k_31_0, 0)
def J_31 : MethodName × ByteArray × Nat × Option FieldType × Nat × Nat × List Nat := (⟨"TinyShell$Row", "add", "(LTinyShell$Text;)V"⟩, prog_5_method_7_code, 2, none, 7, 112, [0])
def k_32_0 : List mOp := [(.aload_n 0, 1, []), (.invokevirtual 57, 3, [29, 1, 102]), (.iconst 0, 1, []), (.istore_n 2, 1, [])]
def k_32_1 : List mOp := [(.iload_n 2, 1, []), (.aload_n 1, 1, []), (.getfield 28, 3, [102, 2, 0]), (.if_icmp .ge (18), 3, [2]), (.aload_n 0, 1, []), (.aload_n 1, 1, []), (.iload_n 2, 1, []), (.invokevirtual 58, 3, [27, 2, 102]), (.invokevirtual 62, 3, [31, 2, 102]), (.iinc 2 1, 3, []), (.goto (-20), 3, [1])]
def k_32_2 : List mOp := [(.return_, 1, [])]
/-- TinyShell$Row.become(LTinyShell$Row;)V -/
def P_32 (b : Nat) : List mOp × Nat := cond (Nat.blt b 1) ((k_32_0, 1)) (cond (Nat.blt b 2) ((k_32_1, 0)) ((k_32_2, 0)))
def J_32 : MethodName × ByteArray × Nat × Option FieldType × Nat × Nat × List Nat := (⟨"TinyShell$Row", "become", "(LTinyShell$Row;)V"⟩, prog_5_method_8_code, 3, none, 8, 133, [0, 6, 29])
def k_33_0 : List mOp := [(.aload_n 0, 1, []), (.invokespecial 1, 3, []), (.aload_n 0, 1, []), (.iload_n 1, 1, []), (.iconst 0, 1, []), (.invokestatic 7, 3, [197, 2]), (.anewarray 13, 3, []), (.putfield 15, 3, [103, 0, 1]), (.aload_n 0, 1, []), (.iload_n 1, 1, []), (.iconst 0, 1, []), (.invokestatic 7, 3, [197, 2]), (.anewarray 13, 3, []), (.putfield 21, 3, [103, 1, 1]), (.iconst 0, 1, []), (.istore 4, 2, [])]
def k_33_1 : List mOp := [(.iload 4, 2, []), (.aload_n 0, 1, []), (.getfield 15, 3, [103, 0, 1]), (.arraylength, 1, [5]), (.if_icmp .ge (49), 3, [2]), (.iload 4, 2, []), (.aload_n 0, 1, []), (.getfield 21, 3, [103, 1, 1]), (.arraylength, 1, [5]), (.if_icmp .ge (39), 3, [2]), (.aload_n 0, 1, []), (.getfield 15, 3, [103, 0, 1]), (.iload 4, 2, []), (.new 13, 3, [101, 2]), (.dup, 1, []), (.iload_n 2, 1, []), (.invokespecial 24, 3, [13, 2]), (.aastore, 1, []), (.aload_n 0, 1, []), (.getfield 21, 3, [103, 1, 1]), (.iload 4, 2, []), (.new 13, 3, [101, 2]), (.dup, 1, []), (.iload_n 3, 1, []), (.invokespecial 24, 3, [13, 2]), (.aastore, 1, []), (.iinc 4 1, 3, []), (.goto (-53), 3, [1])]
def k_33_2 : List mOp := [(.aload_n 0, 1, []), (.new 13, 3, [101, 2]), (.dup, 1, []), (.iconst 0, 1, []), (.invokespecial 24, 3, [13, 2]), (.putfield 27, 3, [103, 2, 1]), (.aload_n 0, 1, []), (.iconst 0, 1, []), (.putfield 31, 3, [103, 3, 0]), (.return_, 1, [])]
/-- TinyShell$Table.<init>(III)V -/
def P_33 (b : Nat) : List mOp × Nat := cond (Nat.blt b 1) ((k_33_0, 1)) (cond (Nat.blt b 2) ((k_33_1, 0)) ((k_33_2, 0)))
def J_33 : MethodName × ByteArray × Nat × Option FieldType × Nat × Nat × List Nat := (⟨"TinyShell$Table", "<init>", "(III)V"⟩, prog_10_method_1_code, 5, none, 2, 42, [0, 31, 87])
def k_34_0 : List mOp := [(.aload_n 0, 1, []), (.getfield 31, 3, [103, 3, 0]), (.ireturn, 1, [0])]
/-- TinyShell$Table.size()I -/
def P_34 (b : Nat) : List mOp × Nat := (k_34_0, 0)
def J_34 : MethodName × ByteArray × Nat × Option FieldType × Nat × Nat × List Nat := (⟨"TinyShell$Table", "size", "()I"⟩, prog_10_method_2_code, 1, some (Jvm.ClassFile.FieldType.int), 0, 0, [0])
def k_35_0 : List mOp := [(.iload_n 1, 1, []), (.ifCond .lt (29), 3, [1]), (.iload_n 1, 1, []), (.aload_n 0, 1, []), (.getfield 31, 3, [103, 3, 0]), (.if_icmp .ge (21), 3, [1]), (.iload_n 1, 1, []), (.aload_n 0, 1, []), (.getfield 15, 3, [103, 0, 1]), (.arraylength, 1, [5]), (.if_icmp .ge (12), 3, [1]), (.aload_n 0, 1, []), (.getfield 15, 3, [103, 0, 1]), (.iload_n 1, 1, []), (.aaload, 1, [5]), (.goto (7), 3, [2])]
def k_35_1 : List mOp := [(.aload_n 0, 1, []), (.getfield 27, 3, [103, 2, 1])]
def k_35_2 : List mOp := [(.areturn, 1, [])]
/-- TinyShell$Table.nameAt(I)LTinyShell$Text; -/
def P_35 (b : Nat) : List mOp × Nat := cond (Nat.blt b 1) ((k_35_0, 0)) (cond (Nat.blt b 2) ((k_35_1, 2)) ((k_35_2, 0)))
def J_35 : MethodName × ByteArray × Nat × Option FieldType × Nat × Nat × List Nat := (⟨"TinyShell$Table", "nameAt", "(I)LTinyShell$Text;"⟩, prog_10_method_3_code, 2, some ((Jvm.ClassFile.FieldType.object "TinyShell$Text")), 0, 0, [0, 30, 34])
def k_36_0 : List mOp := [(.iload_n 1, 1, []), (.ifCond .lt (29), 3, [1]), (.iload_n 1, 1, []), (.aload_n 0, 1, []), (.getfield 31, 3, [103, 3, 0]), (.if_icmp .ge (21), 3, [1]), (.iload_n 1, 1, []), (.aload_n 0, 1, []), (.getfield 21, 3, [103, 1, 1]), (.arraylength, 1, [5]), (.if_icmp .ge (12), 3, [1]), (.aload_n 0, 1, []), (.getfield 21, 3, [103, 1, 1]), (.iload_n 1, 1, []), (.aaload, 1, [5]), (.goto (7), 3, [2])]
def k_36_1 : List mOp := [(.aload_n 0, 1, []), (.getfield 27, 3, [103, 2, 1])]
def k_36_2 : List mOp := [(.areturn, 1, [])]
/-- TinyShell$Table.textAt(I)LTinyShell$Text; -/
def P_36 (b : Nat) : List mOp × Nat := cond (Nat.blt b 1) ((k_36_0, 0)) (cond (Nat.blt b 2) ((k_36_1, 2)) ((k_36_2, 0)))
def J_36 : MethodName × ByteArray × Nat × Option FieldType × Nat × Nat × List Nat := (⟨"TinyShell$Table", "textAt", "(I)LTinyShell$Text;"⟩, prog_10_method_4_code, 2, some ((Jvm.ClassFile.FieldType.object "TinyShell$Text")), 0, 0, [0, 30, 34])
def k_37_0 : List mOp := [(.iconst 0, 1, []), (.istore_n 2, 1, [])]
def k_37_1 : List mOp := [(.iload_n 2, 1, []), (.aload_n 0, 1, []), (.getfield 31, 3, [103, 3, 0]), (.if_icmp .ge (33), 3, [3]), (.iload_n 2, 1, []), (.aload_n 0, 1, []), (.getfield 15, 3, [103, 0, 1]), (.arraylength, 1, [5]), (.if_icmp .ge (24), 3, [3]), (.aload_n 0, 1, []), (.getfield 15, 3, [103, 0, 1]), (.iload_n 2, 1, []), (.aaload, 1, [5]), (.aload_n 1, 1, []), (.invokevirtual 35, 3, [22, 2, 101]), (.ifCond .ne (5), 3, [2]), (.iload_n 2, 1, []), (.ireturn, 1, [0])]
def k_37_2 : List mOp := [(.iinc 2 1, 3, []), (.goto (-35), 3, [1])]
def k_37_3 : List mOp := [(.iconst (-1), 1, []), (.ireturn, 1, [0])]
/-- TinyShell$Table.find(LTinyShell$Text;)I -/
def P_37 (b : Nat) : List mOp × Nat := cond (Nat.blt b 2) (cond (Nat.blt b 1) ((k_37_0, 1)) ((k_37_1, 0))) (cond (Nat.blt b 3) ((k_37_2, 0)) ((k_37_3, 0)))
def J_37 : MethodName × ByteArray × Nat × Option FieldType × Nat × Nat × List Nat := (⟨"TinyShell$Table", "find", "(LTinyShell$Text;)I"⟩, prog_10_method_5_code, 3, some (Jvm.ClassFile.FieldType.int), 1, 23, [0, 2, 34, 40])
def k_38_0 : List mOp := [(.aload_n 0, 1, []), (.aload_n 1, 1, []), (.invokevirtual 39, 3, [37, 2, 103]), (.ifCond .lt (4), 3, [1]), (.return_, 1, [])]
def k_38_1 : List mOp := [(.aload_n 0, 1, []), (.getfield 31, 3, [103, 3, 0]), (.ifCond .lt (27), 3, [2]), (.aload_n 0, 1, []), (.getfield 31, 3, [103, 3, 0]), (.aload_n 0, 1, []), (.getfield 15, 3, [103, 0, 1]), (.arraylength, 1, [5]), (.if_icmp .ge (15), 3, [2]), (.aload_n 0, 1, []), (.getfield 31, 3, [103, 3, 0]), (.aload_n 0, 1, []), (.getfield 21, 3, [103, 1, 1]), (.arraylength, 1, [5]), (.if_icmp .lt (13), 3, [3])]
def k_38_2 : List mOp := [(.new 42, 3, [91, 44, 46])]
def k_38_3 : List mOp := [(.aload_n 0, 1, []), (.getfield 15, 3, [103, 0, 1]), (.aload_n 0, 1, []), (.getfield 31, 3, [103, 3, 0]), (.aaload, 1, [5]), (.astore_n 2, 1, []), (.aload_n 0, 1, []), (.getfield 21, 3, [103, 1, 1]), (.aload_n 0, 1, []), (.getfield 31, 3, [103, 3, 0]), (.aaload, 1, [5]), (.astore_n 3, 1, []), (.aload_n 2, 1, []), (.aload_n 1, 1, []), (.invokevirtual 49, 3, [19, 2, 101]), (.aload_n 3, 1, []), (.invokevirtual 53, 3, [16, 1, 101]), (.aload_n 0, 1, []), (.getfield 31, 3, [103, 3, 0]), (.istore 4, 2, [])]
def k_38_4 : List mOp := [(.iload 4, 2, []), (.ifCond .le (57), 3, [5]), (.aload_n 0, 1, []), (.getfield 15, 3, [103, 0, 1]), (.iload 4, 2, []), (.iconst 1, 1, []), (.isub, 1, []), (.aaload, 1, [5]), (.aload_n 1, 1, []), (.invokevirtual 35, 3, [22, 2, 101]), (.ifCond .le (41), 3, [5]), (.aload_n 0, 1, []), (.getfield 15, 3, [103, 0, 1]), (.iload 4, 2, []), (.aload_n 0, 1, []), (.getfield 15, 3, [103, 0, 1]), (.iload 4, 2, []), (.iconst 1, 1, []), (.isub, 1, []), (.aaload, 1, [5]), (.aastore, 1, []), (.aload_n 0, 1, []), (.getfield 21, 3, [103, 1, 1]), (.iload 4, 2, []), (.aload_n 0, 1, []), (.getfield 21, 3, [103, 1, 1]), (.iload 4, 2, []), (.iconst 1, 1, []), (.isub, 1, []), (.aaload, 1, [5]), (.aastore, 1, []), (.iinc 4 (-1), 3, []), (.goto (-56), 3, [4])]
def k_38_5 : List mOp := [(.aload_n 0, 1, []), (.getfield 15, 3, [103, 0, 1]), (.iload 4, 2, []), (.aload_n 2, 1, []), (.aastore, 1, []), (.aload_n 0, 1, []), (.getfield 21, 3, [103, 1, 1]), (.iload 4, 2, []), (.aload_n 3, 1, []), (.aastore, 1, []), (.aload_n 0, 1, []), (.dup, 1, []), (.getfield 31, 3, [103, 3, 0]), (.iconst 1, 1, []), (.iadd, 1, []), (.putfield 31, 3, [103, 3, 0]), (.return_, 1, [])]
/-- TinyShell$Table.open(LTinyShell$Text;)V -/
def P_38 (b : Nat) : List mOp × Nat := cond (Nat.blt b 3) (cond (Nat.blt b 1) ((k_38_0, 0)) (cond (Nat.blt b 2) ((k_38_1, 2)) ((k_38_2, 0)))) (cond (Nat.blt b 4) ((k_38_3, 4)) (cond (Nat.blt b 5) ((k_38_4, 0)) ((k_38_5, 0))))
def J_38 : MethodName × ByteArray × Nat × Option FieldType × Nat × Nat × List Nat := (⟨"TinyShell$Table", "open", "(LTinyShell$Text;)V"⟩, prog_10_method_6_code, 5, none, 7, 112, [0, 9, 40, 50, 85, 144])
def k_39_0 : List mOp := [(.iload_n 1, 1, []), (.ifCond .lt (35), 3, [1]), (.iload_n 1, 1, []), (.aload_n 0, 1, []), (.getfield 31, 3, [103, 3, 0]), (.if_icmp .ge (27), 3, [1]), (.aload_n 0, 1, []), (.getfield 31, 3, [103, 3, 0]), (.aload_n 0, 1, []), (.getfield 15, 3, [103, 0, 1]), (.arraylength, 1, [5]), (.if_icmp .gt (15), 3, [1]), (.aload_n 0, 1, []), (.getfield 31, 3, [103, 3, 0]), (.aload_n 0, 1, []), (.getfield 21, 3, [103, 1, 1]), (.arraylength, 1, [5]), (.if_icmp .le (4), 3, [2])]
def k_39_1 : List mOp := [(.return_, 1, [])]
def k_39_2 : List mOp := [(.aload_n 0, 1, []), (.getfield 15, 3, [103, 0, 1]), (.iload_n 1, 1, []), (.aaload, 1, [5]), (.astore_n 2, 1, []), (.aload_n 0, 1, []), (.getfield 21, 3, [103, 1, 1]), (.iload_n 1, 1, []), (.aaload, 1, [5]), (.astore_n 3, 1, []), (.iload_n 1, 1, []), (.iconst 1, 1, []), (.iadd, 1, []), (.istore 4, 2, [])]
def k_39_3 : List mOp := [(.iload 4, 2, []), (.aload_n 0, 1, []), (.getfield 31, 3, [103, 3, 0]), (.if_icmp .ge (41), 3, [4]), (.aload_n 0, 1, []), (.getfield 15, 3, [103, 0, 1]), (.iload 4, 2, []), (.iconst 1, 1, []), (.isub, 1, []), (.aload_n 0, 1, []), (.getfield 15, 3, [103, 0, 1]), (.iload 4, 2, []), (.aaload, 1, [5]), (.aastore, 1, []), (.aload_n 0, 1, []), (.getfield 21, 3, [103, 1, 1]), (.iload 4, 2, []), (.iconst 1, 1, []), (.isub, 1, []), (.aload_n 0, 1, []), (.getfield 21, 3, [103, 1, 1]), (.iload 4, 2, []), (.aaload, 1, [5]), (.aastore, 1, []), (.iinc 4 1, 3, []), (.goto (-44), 3, [3])]
def k_39_4 : List mOp := [(.aload_n 0, 1, []), (.getfield 15, 3, [103, 0, 1]), (.aload_n 0, 1, []), (.getfield 31, 3, [103, 3, 0]), (.iconst 1, 1, []), (.isub, 1, []), (.aload_n 2, 1, []), (.aastore, 1, []), (.aload_n 0, 1, []), (.getfield 21, 3, [103, 1, 1]), (.aload_n 0, 1, []), (.getfield 31, 3, [103, 3, 0]), (.iconst 1, 1, []), (.isub, 1, []), (.aload_n 3, 1, []), (.aastore, 1, []), (.aload_n 0, 1, []), (.dup, 1, []), (.getfield 31, 3, [103, 3, 0]), (.iconst 1, 1, []), (.isub, 1, []), (.putfield 31, 3, [103, 3, 0]), (.return_, 1, [])]
/-- TinyShell$Table.drop(I)V -/
def P_39 (b : Nat) : List mOp × Nat := cond (Nat.blt b 2) (cond (Nat.blt b 1) ((k_39_0, 1)) ((k_39_1, 0))) (cond (Nat.blt b 3) ((k_39_2, 3)) (cond (Nat.blt b 4) ((k_39_3, 0)) ((k_39_4, 0))))
def J_39 : MethodName × ByteArray × Nat × Option FieldType × Nat × Nat × List Nat := (⟨"TinyShell$Table", "drop", "(I)V"⟩, prog_10_method_7_code, 5, none, 0, 0, [0, 36, 37, 56, 103])
def k_40_0 : List mOp := [(.aload_n 0, 1, []), (.iconst 0, 1, []), (.putfield 31, 3, [103, 3, 0]), (.iconst 0, 1, []), (.istore_n 2, 1, [])]
def k_40_1 : List mOp := [(.iload_n 2, 1, []), (.aload_n 1, 1, []), (.getfield 31, 3, [103, 3, 0]), (.if_icmp .ge (65), 3, [2]), (.iload_n 2, 1, []), (.aload_n 0, 1, []), (.getfield 15, 3, [103, 0, 1]), (.arraylength, 1, [5]), (.if_icmp .ge (56), 3, [2]), (.iload_n 2, 1, []), (.aload_n 0, 1, []), (.getfield 21, 3, [103, 1, 1]), (.arraylength, 1, [5]), (.if_icmp .ge (47), 3, [2]), (.aload_n 0, 1, []), (.getfield 15, 3, [103, 0, 1]), (.iload_n 2, 1, []), (.aaload, 1, [5]), (.aload_n 1, 1, []), (.iload_n 2, 1, []), (.invokevirtual 56, 3, [35, 2, 103]), (.invokevirtual 49, 3, [19, 2, 101]), (.aload_n 0, 1, []), (.getfield 21, 3, [103, 1, 1]), (.iload_n 2, 1, []), (.aaload, 1, [5]), (.aload_n 1, 1, []), (.iload_n 2, 1, []), (.invokevirtual 60, 3, [36, 2, 103]), (.invokevirtual 49, 3, [19, 2, 101]), (.aload_n 0, 1, []), (.dup, 1, []), (.getfield 31, 3, [103, 3, 0]), (.iconst 1, 1, []), (.iadd, 1, []), (.putfield 31, 3, [103, 3, 0]), (.iinc 2 1, 3, []), (.goto (-67), 3, [1])]
def k_40_2 : List mOp := [(.return_, 1, [])]
/-- TinyShell$Table.become(LTinyShell$Table;)V -/
def P_40 (b : Nat) : List mOp × Nat := cond (Nat.blt b 1) ((k_40_0, 1)) (cond (Nat.blt b 2) ((k_40_1, 0)) ((k_40_2, 0)))
def J_40 : MethodName × ByteArray × Nat × Option FieldType × Nat × Nat × List Nat := (⟨"TinyShell$Table", "become", "(LTinyShell$Table;)V"⟩, prog_10_method_8_code, 3, none, 7, 112, [0, 7, 77])
def k_41_0 : List mOp := [(.aload_n 0, 1, []), (.invokespecial 1, 3, []), (.aload_n 0, 1, []), (.iload_n 1, 1, []), (.iconst 0, 1, []), (.invokestatic 7, 3, [197, 2]), (.iconst 5, 1, []), (.imul, 1, []), (.newarray .int, 2, [1]), (.putfield 15, 3, [104, 0, 1]), (.aload_n 0, 1, []), (.iconst 0, 1, []), (.putfield 19, 3, [104, 1, 0]), (.return_, 1, [])]
/-- TinyShell$Sheet.<init>(I)V -/
def P_41 (b : Nat) : List mOp × Nat := (k_41_0, 0)
def J_41 : MethodName × ByteArray × Nat × Option FieldType × Nat × Nat × List Nat := (⟨"TinyShell$Sheet", "<init>", "(I)V"⟩, prog_7_method_1_code, 2, none, 1, 21, [0])
def k_42_0 : List mOp := [(.aload_n 0, 1, []), (.getfield 19, 3, [104, 1, 0]), (.ireturn, 1, [0])]
/-- TinyShell$Sheet.size()I -/
def P_42 (b : Nat) : List mOp × Nat := (k_42_0, 0)
def J_42 : MethodName × ByteArray × Nat × Option FieldType × Nat × Nat × List Nat := (⟨"TinyShell$Sheet", "size", "()I"⟩, prog_7_method_2_code, 1, some (Jvm.ClassFile.FieldType.int), 0, 0, [0])
def k_43_0 : List mOp := [(.aload_n 0, 1, []), (.iconst 0, 1, []), (.putfield 19, 3, [104, 1, 0]), (.return_, 1, [])]
/-- TinyShell$Sheet.clear()V -/
def P_43 (b : Nat) : List mOp × Nat := (k_43_0, 0)
def J_43 : MethodName × ByteArray × Nat × Option FieldType × Nat × Nat × List Nat := (⟨"TinyShell$Sheet", "clear", "()V"⟩, prog_7_method_3_code, 1, none, 0, 0, [0])
def k_44_0 : List mOp := [(.iload_n 1, 1, []), (.ifCond .lt (24), 3, [1]), (.iload_n 1, 1, []), (.aload_n 0, 1, []), (.getfield 19, 3, [104, 1, 0]), (.if_icmp .ge (16), 3, [1]), (.iload_n 2, 1, []), (.ifCond .lt (12), 3, [1]), (.iload_n 2, 1, []), (.iconst 5, 1, []), (.if_icmp .ge (7), 3, [1]), (.iconst 1, 1, []), (.goto (4), 3, [2])]
def k_44_1 : List mOp := [(.iconst 0, 1, [])]
def k_44_2 : List mOp := [(.istore_n 3, 1, []), (.iload_n 3, 1, []), (.ifCond .eq (16), 3, [3]), (.aload_n 0, 1, []), (.getfield 15, 3, [104, 0, 1]), (.iload_n 1, 1, []), (.iconst 5, 1, []), (.imul, 1, []), (.iload_n 2, 1, []), (.iadd, 1, []), (.iaload, 1, [1]), (.goto (4), 3, [4])]
def k_44_3 : List mOp := [(.iconst 0, 1, [])]
def k_44_4 : List mOp := [(.ireturn, 1, [0])]
/-- TinyShell$Sheet.at(II)I -/
def P_44 (b : Nat) : List mOp × Nat := cond (Nat.blt b 2) (cond (Nat.blt b 1) ((k_44_0, 0)) ((k_44_1, 2))) (cond (Nat.blt b 3) ((k_44_2, 0)) (cond (Nat.blt b 4) ((k_44_3, 4)) ((k_44_4, 0))))
def J_44 : MethodName × ByteArray × Nat × Option FieldType × Nat × Nat × List Nat := (⟨"TinyShell$Sheet", "at", "(II)I"⟩, prog_7_method_4_code, 4, some (Jvm.ClassFile.FieldType.int), 0, 0, [0, 25, 26, 44, 45])
def k_45_0 : List mOp := [(.iload_n 1, 1, []), (.ifCond .lt (31), 3, [1]), (.iload_n 1, 1, []), (.aload_n 0, 1, []), (.getfield 19, 3, [104, 1, 0]), (.if_icmp .ge (23), 3, [1]), (.iload_n 2, 1, []), (.ifCond .lt (19), 3, [1]), (.iload_n 2, 1, []), (.iconst 5, 1, []), (.if_icmp .ge (14), 3, [1]), (.aload_n 0, 1, []), (.getfield 15, 3, [104, 0, 1]), (.iload_n 1, 1, []), (.iconst 5, 1, []), (.imul, 1, []), (.iload_n 2, 1, []), (.iadd, 1, []), (.iload_n 3, 1, []), (.iastore, 1, [])]
def k_45_1 : List mOp := [(.return_, 1, [])]
/-- TinyShell$Sheet.set(III)V -/
def P_45 (b : Nat) : List mOp × Nat := cond (Nat.blt b 1) ((k_45_0, 1)) ((k_45_1, 0))
def J_45 : MethodName × ByteArray × Nat × Option FieldType × Nat × Nat × List Nat := (⟨"TinyShell$Sheet", "set", "(III)V"⟩, prog_7_method_5_code, 4, none, 0, 0, [0, 32])
def k_46_0 : List mOp := [(.aload_n 0, 1, []), (.getfield 19, 3, [104, 1, 0]), (.iconst 5, 1, []), (.imul, 1, []), (.istore 6, 2, []), (.iload 6, 2, []), (.ifCond .lt (15), 3, [1]), (.iload 6, 2, []), (.iconst 5, 1, []), (.iadd, 1, []), (.aload_n 0, 1, []), (.getfield 15, 3, [104, 0, 1]), (.arraylength, 1, [1]), (.if_icmp .le (4), 3, [2])]
def k_46_1 : List mOp := [(.return_, 1, [])]
def k_46_2 : List mOp := [(.aload_n 0, 1, []), (.getfield 15, 3, [104, 0, 1]), (.iload 6, 2, []), (.iconst 0, 1, []), (.iadd, 1, []), (.iload_n 1, 1, []), (.iastore, 1, []), (.aload_n 0, 1, []), (.getfield 15, 3, [104, 0, 1]), (.iload 6, 2, []), (.iconst 1, 1, []), (.iadd, 1, []), (.iload_n 2, 1, []), (.iastore, 1, []), (.aload_n 0, 1, []), (.getfield 15, 3, [104, 0, 1]), (.iload 6, 2, []), (.iconst 2, 1, []), (.iadd, 1, []), (.iload_n 3, 1, []), (.iastore, 1, []), (.aload_n 0, 1, []), (.getfield 15, 3, [104, 0, 1]), (.iload 6, 2, []), (.iconst 3, 1, []), (.iadd, 1, []), (.iload 4, 2, []), (.iastore, 1, []), (.aload_n 0, 1, []), (.getfield 15, 3, [104, 0, 1]), (.iload 6, 2, []), (.iconst 4, 1, []), (.iadd, 1, []), (.iload 5, 2, []), (.iastore, 1, []), (.aload_n 0, 1, []), (.dup, 1, []), (.getfield 19, 3, [104, 1, 0]), (.iconst 1, 1, []), (.iadd, 1, []), (.putfield 19, 3, [104, 1, 0]), (.return_, 1, [])]
/-- TinyShell$Sheet.add(IIIII)V -/
def P_46 (b : Nat) : List mOp × Nat := cond (Nat.blt b 1) ((k_46_0, 1)) (cond (Nat.blt b 2) ((k_46_1, 0)) ((k_46_2, 0)))
def J_46 : MethodName × ByteArray × Nat × Option FieldType × Nat × Nat × List Nat := (⟨"TinyShell$Sheet", "add", "(IIIII)V"⟩, prog_7_method_6_code, 7, none, 0, 0, [0, 25, 26])
def k_47_0 : List mOp := [(.iconst 0, 1, []), (.istore_n 3, 1, [])]
def k_47_1 : List mOp := [(.iload_n 3, 1, []), (.iconst 5, 1, []), (.if_icmp .ge (37), 3, [2]), (.aload_n 0, 1, []), (.iload_n 1, 1, []), (.iload_n 3, 1, []), (.invokevirtual 23, 3, [44, 3, 104]), (.istore 4, 2, []), (.aload_n 0, 1, []), (.iload_n 1, 1, []), (.iload_n 3, 1, []), (.aload_n 0, 1, []), (.iload_n 2, 1, []), (.iload_n 3, 1, []), (.invokevirtual 23, 3, [44, 3, 104]), (.invokevirtual 26, 3, [45, 4, 104]), (.aload_n 0, 1, []), (.iload_n 2, 1, []), (.iload_n 3, 1, []), (.iload 4, 2, []), (.invokevirtual 26, 3, [45, 4, 104]), (.iinc 3 1, 3, []), (.goto (-36), 3, [1])]
def k_47_2 : List mOp := [(.return_, 1, [])]
/-- TinyShell$Sheet.swap(II)V -/
def P_47 (b : Nat) : List mOp × Nat := cond (Nat.blt b 1) ((k_47_0, 1)) (cond (Nat.blt b 2) ((k_47_1, 0)) ((k_47_2, 0)))
def J_47 : MethodName × ByteArray × Nat × Option FieldType × Nat × Nat × List Nat := (⟨"TinyShell$Sheet", "swap", "(II)V"⟩, prog_7_method_7_code, 5, none, 1, 23, [0, 2, 41])
def k_48_0 : List mOp := [(.aload_n 0, 1, []), (.invokespecial 3, 3, []), (.aload_n 0, 1, []), (.new 9, 3, [103, 4]), (.dup, 1, []), (.bipush 8, 2, []), (.bipush 6, 2, []), (.bipush 40, 2, []), (.invokespecial 11, 3, [33, 4]), (.putfield 14, 3, [105, 0, 1]), (.aload_n 0, 1, []), (.new 20, 3, [102, 3]), (.dup, 1, []), (.bipush 9, 2, []), (.bipush 40, 2, []), (.invokespecial 22, 3, [25, 3]), (.putfield 25, 3, [105, 1, 1]), (.aload_n 0, 1, []), (.new 9, 3, [103, 4]), (.dup, 1, []), (.bipush 8, 2, []), (.bipush 8, 2, []), (.bipush 80, 2, []), (.invokespecial 11, 3, [33, 4]), (.putfield 29, 3, [105, 2, 1]), (.aload_n 0, 1, []), (.new 32, 3, [101, 2]), (.dup, 1, []), (.sipush 240, 3, []), (.invokespecial 34, 3, [13, 2]), (.putfield 37, 3, [105, 3, 1]), (.aload_n 0, 1, []), (.iconst 0, 1, []), (.putfield 41, 3, [105, 4, 0]), (.return_, 1, [])]
/-- TinyShell$State.<init>()V -/
def P_48 (b : Nat) : List mOp × Nat := (k_48_0, 0)
def J_48 : MethodName × ByteArray × Nat × Option FieldType × Nat × Nat × List Nat := (⟨"TinyShell$State", "<init>", "()V"⟩, prog_8_method_1_code, 1, none, 3, 66, [0])
def k_49_0 : List mOp := [(.aload_n 0, 1, []), (.getfield 14, 3, [105, 0, 1]), (.aload_n 1, 1, []), (.getfield 14, 3, [105, 0, 1]), (.invokevirtual 45, 3, [40, 2, 103]), (.aload_n 0, 1, []), (.getfield 25, 3, [105, 1, 1]), (.aload_n 1, 1, []), (.getfield 25, 3, [105, 1, 1]), (.invokevirtual 49, 3, [32, 2, 102]), (.aload_n 0, 1, []), (.getfield 29, 3, [105, 2, 1]), (.aload_n 1, 1, []), (.getfield 29, 3, [105, 2, 1]), (.invokevirtual 45, 3, [40, 2, 103]), (.aload_n 0, 1, []), (.getfield 37, 3, [105, 3, 1]), (.aload_n 1, 1, []), (.getfield 37, 3, [105, 3, 1]), (.invokevirtual 52, 3, [19, 2, 101]), (.aload_n 0, 1, []), (.aload_n 1, 1, []), (.getfield 41, 3, [105, 4, 0]), (.putfield 41, 3, [105, 4, 0]), (.return_, 1, [])]
/-- TinyShell$State.become(LTinyShell$State;)V -/
def P_49 (b : Nat) : List mOp × Nat := (k_49_0, 0)
def J_49 : MethodName × ByteArray × Nat × Option FieldType × Nat × Nat × List Nat := (⟨"TinyShell$State", "become", "(LTinyShell$State;)V"⟩, prog_8_method_2_code, 2, none, 9, 155, [0])
def k_50_0 : List mOp := [(.aload_n 0, 1, []), (.invokespecial 3, 3, []), (.aload_n 0, 1, []), (.aload_n 1, 1, []), (.putfield 9, 3, [106, 4, 1]), (.aload_n 0, 1, []), (.new 15, 3, [104, 2]), (.dup, 1, []), (.sipush 240, 3, []), (.invokespecial 17, 3, [41, 2]), (.putfield 20, 3, [106, 0, 1]), (.aload_n 0, 1, []), (.new 15, 3, [104, 2]), (.dup, 1, []), (.sipush 240, 3, []), (.invokespecial 17, 3, [41, 2]), (.putfield 24, 3, [106, 1, 1]), (.aload_n 0, 1, []), (.new 15, 3, [104, 2]), (.dup, 1, []), (.sipush 240, 3, []), (.invokespecial 17, 3, [41, 2]), (.putfield 27, 3, [106, 2, 1]), (.aload_n 0, 1, []), (.iconst 0, 1, []), (.putfield 30, 3, [106, 3, 0]), (.return_, 1, [])]
/-- TinyShell$Syntax.<init>(LTinyShell$Text;)V -/
def P_50 (b : Nat) : List mOp × Nat := (k_50_0, 0)
def J_50 : MethodName × ByteArray × Nat × Option FieldType × Nat × Nat × List Nat := (⟨"TinyShell$Syntax", "<init>", "(LTinyShell$Text;)V"⟩, prog_9_method_1_code, 2, none, 2, 42, [0])
def k_51_0 : List mOp := [(.aload_n 0, 1, []), (.getfield 20, 3, [106, 0, 1]), (.invokevirtual 34, 3, [43, 1, 104]), (.aload_n 0, 1, []), (.getfield 24, 3, [106, 1, 1]), (.invokevirtual 34, 3, [43, 1, 104]), (.aload_n 0, 1, []), (.getfield 27, 3, [106, 2, 1]), (.invokevirtual 34, 3, [43, 1, 104]), (.aload_n 0, 1, []), (.iconst 0, 1, []), (.putfield 37, 3, [106, 5, 0]), (.aload_n 0, 1, []), (.iconst 0, 1, []), (.putfield 40, 3, [106, 6, 0]), (.aload_n 0, 1, []), (.iconst 0, 1, []), (.putfield 43, 3, [106, 7, 0]), (.iconst 0, 1, []), (.istore_n 1, 1, [])]
def k_51_1 : List mOp := [(.iload_n 1, 1, []), (.sipush 240, 3, []), (.if_icmp .ge (20), 3, [2]), (.aload_n 0, 1, []), (.invokevirtual 46, 3, [53, 1, 106]), (.ifCond .eq (13), 3, [2]), (.aload_n 0, 1, []), (.invokevirtual 50, 3, [54, 1, 106]), (.iinc 1 1, 3, []), (.goto (-21), 3, [1])]
def k_51_2 : List mOp := [(.aload_n 0, 1, []), (.getfield 40, 3, [106, 6, 0]), (.iconst 1, 1, []), (.if_icmp .eq (11), 3, [3]), (.aload_n 0, 1, []), (.getfield 40, 3, [106, 6, 0]), (.iconst 3, 1, []), (.if_icmp .ne (14), 3, [4])]
def k_51_3 : List mOp := [(.aload_n 0, 1, []), (.aload_n 0, 1, []), (.getfield 9, 3, [106, 4, 1]), (.invokevirtual 53, 3, [14, 1, 101]), (.invokevirtual 59, 3, [52, 2, 106])]
def k_51_4 : List mOp := [(.return_, 1, [])]
/-- TinyShell$Syntax.read()V -/
def P_51 (b : Nat) : List mOp × Nat := cond (Nat.blt b 2) (cond (Nat.blt b 1) ((k_51_0, 1)) ((k_51_1, 0))) (cond (Nat.blt b 3) ((k_51_2, 3)) (cond (Nat.blt b 4) ((k_51_3, 4)) ((k_51_4, 0))))
def J_51 : MethodName × ByteArray × Nat × Option FieldType × Nat × Nat × List Nat := (⟨"TinyShell$Syntax", "read", "()V"⟩, prog_9_method_2_code, 2, none, 11, 205, [0, 38, 62, 78, 89])
def k_52_0 : List mOp := [(.aload_n 0, 1, []), (.iload_n 1, 1, []), (.putfield 30, 3, [106, 3, 0]), (.new 62, 3, [90, 64, 66])]
/-- TinyShell$Syntax.refuse(I)V -/
def P_52 (b : Nat) : List mOp × Nat := (k_52_0, 0)
def J_52 : MethodName × ByteArray × Nat × Option FieldType × Nat × Nat × List Nat := (⟨"TinyShell$Syntax", "refuse", "(I)V"⟩, prog_9_method_3_code, 2, none, 6, 90, [0])
def k_53_0 : List mOp := [(.iconst 0, 1, []), (.istore_n 1, 1, [])]
def k_53_1 : List mOp := [(.aload_n 0, 1, []), (.getfield 37, 3, [106, 5, 0]), (.aload_n 0, 1, []), (.getfield 9, 3, [106, 4, 1]), (.invokevirtual 53, 3, [14, 1, 101]), (.if_icmp .ge (62), 3, [6]), (.aload_n 0, 1, []), (.getfield 9, 3, [106, 4, 1]), (.aload_n 0, 1, []), (.getfield 37, 3, [106, 5, 0]), (.invokevirtual 69, 3, [15, 2, 101]), (.istore_n 2, 1, []), (.iload_n 2, 1, []), (.bipush 35, 2, []), (.if_icmp .eq (13), 3, [2]), (.iload_n 1, 1, []), (.ifCond .eq (13), 3, [3]), (.iload_n 2, 1, []), (.bipush 10, 2, []), (.if_icmp .eq (7), 3, [3])]
def k_53_2 : List mOp := [(.iconst 1, 1, []), (.goto (4), 3, [4])]
def k_53_3 : List mOp := [(.iconst 0, 1, [])]
def k_53_4 : List mOp := [(.istore_n 1, 1, []), (.iload_n 1, 1, []), (.ifCond .ne (11), 3, [5]), (.iload_n 2, 1, []), (.bipush 32, 2, []), (.if_icmp .eq (5), 3, [5]), (.iconst 1, 1, []), (.ireturn, 1, [1])]
def k_53_5 : List mOp := [(.aload_n 0, 1, []), (.dup, 1, []), (.getfield 37, 3, [106, 5, 0]), (.iconst 1, 1, []), (.iadd, 1, []), (.putfield 37, 3, [106, 5, 0]), (.goto (-70), 3, [1])]
def k_53_6 : List mOp := [(.iconst 0, 1, []), (.ireturn, 1, [1])]
/-- TinyShell$Syntax.findToken()Z -/
def P_53 (b : Nat) : List mOp × Nat := cond (Nat.blt b 3) (cond (Nat.blt b 1) ((k_53_0, 1)) (cond (Nat.blt b 2) ((k_53_1, 2)) ((k_53_2, 0)))) (cond (Nat.blt b 5) (cond (Nat.blt b 4) ((k_53_3, 4)) ((k_53_4, 0))) (cond (Nat.blt b 6) ((k_53_5, 0)) ((k_53_6, 0))))
def J_53 : MethodName × ByteArray × Nat × Option FieldType × Nat × Nat × List Nat := (⟨"TinyShell$Syntax", "findToken", "()Z"⟩, prog_9_method_4_code, 3, some (Jvm.ClassFile.FieldType.boolean), 1, 21, [0, 2, 44, 48, 49, 62, 75])
def k_54_0 : List mOp := [(.aload_n 0, 1, []), (.getfield 9, 3, [106, 4, 1]), (.aload_n 0, 1, []), (.getfield 37, 3, [106, 5, 0]), (.invokevirtual 69, 3, [15, 2, 101]), (.istore_n 1, 1, []), (.iload_n 1, 1, []), (.aload_n 0, 1, []), (.getfield 9, 3, [106, 4, 1]), (.aload_n 0, 1, []), (.getfield 37, 3, [106, 5, 0]), (.iconst 1, 1, []), (.iadd, 1, []), (.invokevirtual 69, 3, [15, 2, 101]), (.if_icmp .ne (7), 3, [1]), (.iconst 1, 1, []), (.goto (4), 3, [2])]
def k_54_1 : List mOp := [(.iconst 0, 1, [])]
def k_54_2 : List mOp := [(.istore_n 2, 1, []), (.iload_n 1, 1, []), (.lookupswitch (183) #[(10, 76), (38, 117), (40, 172), (41, 172), (59, 83), (60, 138), (62, 147), (124, 92)], 76, [19, 3, 10, 18, 18, 4, 12, 13, 5])]
def k_54_3 : List mOp := [(.aload_n 0, 1, []), (.invokevirtual 72, 3, [55, 1, 106]), (.goto (107), 3, [20])]
def k_54_4 : List mOp := [(.aload_n 0, 1, []), (.iconst 0, 1, []), (.iconst 1, 1, []), (.invokevirtual 75, 3, [56, 3, 106]), (.goto (98), 3, [20])]
def k_54_5 : List mOp := [(.aload_n 0, 1, []), (.iload_n 2, 1, []), (.ifCond .eq (7), 3, [6]), (.iconst 2, 1, []), (.goto (4), 3, [7])]
def k_54_6 : List mOp := [(.iconst 3, 1, [])]
def k_54_7 : List mOp := [(.iload_n 2, 1, []), (.ifCond .eq (7), 3, [8]), (.iconst 2, 1, []), (.goto (4), 3, [9])]
def k_54_8 : List mOp := [(.iconst 1, 1, [])]
def k_54_9 : List mOp := [(.invokevirtual 75, 3, [56, 3, 106]), (.goto (73), 3, [20])]
def k_54_10 : List mOp := [(.iload_n 2, 1, []), (.ifCond .ne (11), 3, [11]), (.aload_n 0, 1, []), (.aload_n 0, 1, []), (.getfield 37, 3, [106, 5, 0]), (.invokevirtual 59, 3, [52, 2, 106])]
def k_54_11 : List mOp := [(.aload_n 0, 1, []), (.iconst 1, 1, []), (.iconst 2, 1, []), (.invokevirtual 75, 3, [56, 3, 106]), (.goto (52), 3, [20])]
def k_54_12 : List mOp := [(.aload_n 0, 1, []), (.iconst 2, 1, []), (.iconst 1, 1, []), (.invokevirtual 79, 3, [57, 3, 106]), (.goto (43), 3, [20])]
def k_54_13 : List mOp := [(.aload_n 0, 1, []), (.iload_n 2, 1, []), (.ifCond .eq (7), 3, [14]), (.iconst 4, 1, []), (.goto (4), 3, [15])]
def k_54_14 : List mOp := [(.iconst 3, 1, [])]
def k_54_15 : List mOp := [(.iload_n 2, 1, []), (.ifCond .eq (7), 3, [16]), (.iconst 2, 1, []), (.goto (4), 3, [17])]
def k_54_16 : List mOp := [(.iconst 1, 1, [])]
def k_54_17 : List mOp := [(.invokevirtual 79, 3, [57, 3, 106]), (.goto (18), 3, [20])]
def k_54_18 : List mOp := [(.aload_n 0, 1, []), (.aload_n 0, 1, []), (.getfield 37, 3, [106, 5, 0]), (.invokevirtual 59, 3, [52, 2, 106]), (.goto (7), 3, [20])]
def k_54_19 : List mOp := [(.aload_n 0, 1, []), (.invokevirtual 82, 3, [59, 1, 106])]
def k_54_20 : List mOp := [(.return_, 1, [])]
/-- TinyShell$Syntax.readToken()V -/
def P_54 (b : Nat) : List mOp × Nat := cond (Nat.blt b 10) (cond (Nat.blt b 5) (cond (Nat.blt b 2) (cond (Nat.blt b 1) ((k_54_0, 0)) ((k_54_1, 2))) (cond (Nat.blt b 3) ((k_54_2, 0)) (cond (Nat.blt b 4) ((k_54_3, 0)) ((k_54_4, 0))))) (cond (Nat.blt b 7) (cond (Nat.blt b 6) ((k_54_5, 0)) ((k_54_6, 7))) (cond (Nat.blt b 8) ((k_54_7, 0)) (cond (Nat.blt b 9) ((k_54_8, 9)) ((k_54_9, 0)))))) (cond (Nat.blt b 15) (cond (Nat.blt b 12) (cond (Nat.blt b 11) ((k_54_10, 11)) ((k_54_11, 0))) (cond (Nat.blt b 13) ((k_54_12, 0)) (cond (Nat.blt b 14) ((k_54_13, 0)) ((k_54_14, 15))))) (cond (Nat.blt b 18) (cond (Nat.blt b 16) ((k_54_15, 0)) (cond (Nat.blt b 17) ((k_54_16, 17)) ((k_54_17, 0)))) (cond (Nat.blt b 19) ((k_54_18, 0)) (cond (Nat.blt b 20) ((k_54_19, 20)) ((k_54_20, 0))))))
def J_54 : MethodName × ByteArray × Nat × Option FieldType × Nat × Nat × List Nat := (⟨"TinyShell$Syntax", "readToken", "()V"⟩, prog_9_method_5_code, 3, none, 10, 183, [0, 33, 34, 112, 119, 128, 137, 138, 146, 147, 153, 165, 174, 183, 192, 193, 201, 202, 208, 219, 223])
def k_55_0 : List mOp := [(.aload_n 0, 1, []), (.getfield 40, 3, [106, 6, 0]), (.ifCond .eq (11), 3, [1]), (.aload_n 0, 1, []), (.getfield 40, 3, [106, 6, 0]), (.iconst 1, 1, []), (.if_icmp .ne (16), 3, [2])]
def k_55_1 : List mOp := [(.aload_n 0, 1, []), (.dup, 1, []), (.getfield 37, 3, [106, 5, 0]), (.iconst 1, 1, []), (.iadd, 1, []), (.putfield 37, 3, [106, 5, 0]), (.goto (9), 3, [3])]
def k_55_2 : List mOp := [(.aload_n 0, 1, []), (.iconst 0, 1, []), (.iconst 1, 1, []), (.invokevirtual 75, 3, [56, 3, 106])]
def k_55_3 : List mOp := [(.return_, 1, [])]
/-- TinyShell$Syntax.endLine()V -/
def P_55 (b : Nat) : List mOp × Nat := cond (Nat.blt b 2) (cond (Nat.blt b 1) ((k_55_0, 1)) ((k_55_1, 0))) (cond (Nat.blt b 3) ((k_55_2, 3)) ((k_55_3, 0)))
def J_55 : MethodName × ByteArray × Nat × Option FieldType × Nat × Nat × List Nat := (⟨"TinyShell$Syntax", "endLine", "()V"⟩, prog_9_method_6_code, 1, none, 8, 133, [0, 15, 28, 34])
def k_56_0 : List mOp := [(.aload_n 0, 1, []), (.getfield 40, 3, [106, 6, 0]), (.iconst 2, 1, []), (.if_icmp .eq (11), 3, [1]), (.aload_n 0, 1, []), (.aload_n 0, 1, []), (.getfield 37, 3, [106, 5, 0]), (.invokevirtual 59, 3, [52, 2, 106])]
def k_56_1 : List mOp := [(.aload_n 0, 1, []), (.iload_n 1, 1, []), (.putfield 43, 3, [106, 7, 0]), (.aload_n 0, 1, []), (.dup, 1, []), (.getfield 37, 3, [106, 5, 0]), (.iload_n 2, 1, []), (.iadd, 1, []), (.putfield 37, 3, [106, 5, 0]), (.aload_n 0, 1, []), (.iload_n 1, 1, []), (.ifCond .ne (7), 3, [2]), (.iconst 0, 1, []), (.goto (4), 3, [3])]
def k_56_2 : List mOp := [(.iconst 1, 1, [])]
def k_56_3 : List mOp := [(.putfield 40, 3, [106, 6, 0]), (.return_, 1, [])]
/-- TinyShell$Syntax.joinBy(II)V -/
def P_56 (b : Nat) : List mOp × Nat := cond (Nat.blt b 2) (cond (Nat.blt b 1) ((k_56_0, 1)) ((k_56_1, 0))) (cond (Nat.blt b 3) ((k_56_2, 3)) ((k_56_3, 0)))
def J_56 : MethodName × ByteArray × Nat × Option FieldType × Nat × Nat × List Nat := (⟨"TinyShell$Syntax", "joinBy", "(II)V"⟩, prog_9_method_7_code, 3, none, 7, 111, [0, 16, 40, 41])
def k_57_0 : List mOp := [(.aload_n 0, 1, []), (.getfield 40, 3, [106, 6, 0]), (.iconst 3, 1, []), (.if_icmp .ne (11), 3, [1]), (.aload_n 0, 1, []), (.aload_n 0, 1, []), (.getfield 37, 3, [106, 5, 0]), (.invokevirtual 59, 3, [52, 2, 106])]
def k_57_1 : List mOp := [(.aload_n 0, 1, []), (.invokevirtual 85, 3, [58, 1, 106]), (.aload_n 0, 1, []), (.iload_n 1, 1, []), (.putfield 88, 3, [106, 8, 0]), (.aload_n 0, 1, []), (.dup, 1, []), (.getfield 37, 3, [106, 5, 0]), (.iload_n 2, 1, []), (.iadd, 1, []), (.putfield 37, 3, [106, 5, 0]), (.aload_n 0, 1, []), (.iconst 3, 1, []), (.putfield 40, 3, [106, 6, 0]), (.return_, 1, [])]
/-- TinyShell$Syntax.redirect(II)V -/
def P_57 (b : Nat) : List mOp × Nat := cond (Nat.blt b 1) ((k_57_0, 1)) ((k_57_1, 0))
def J_57 : MethodName × ByteArray × Nat × Option FieldType × Nat × Nat × List Nat := (⟨"TinyShell$Syntax", "redirect", "(II)V"⟩, prog_9_method_8_code, 3, none, 7, 111, [0, 16])
def k_58_0 : List mOp := [(.aload_n 0, 1, []), (.getfield 40, 3, [106, 6, 0]), (.ifCond .eq (11), 3, [1]), (.aload_n 0, 1, []), (.getfield 40, 3, [106, 6, 0]), (.iconst 1, 1, []), (.if_icmp .ne (35), 3, [2])]
def k_58_1 : List mOp := [(.aload_n 0, 1, []), (.getfield 20, 3, [106, 0, 1]), (.aload_n 0, 1, []), (.getfield 43, 3, [106, 7, 0]), (.aload_n 0, 1, []), (.getfield 24, 3, [106, 1, 1]), (.invokevirtual 91, 3, [42, 1, 104]), (.aload_n 0, 1, []), (.getfield 24, 3, [106, 1, 1]), (.invokevirtual 91, 3, [42, 1, 104]), (.iconst 0, 1, []), (.iconst 0, 1, []), (.invokevirtual 92, 3, [46, 6, 104]), (.aload_n 0, 1, []), (.iconst 0, 1, []), (.putfield 96, 3, [106, 9, 2])]
def k_58_2 : List mOp := [(.return_, 1, [])]
/-- TinyShell$Syntax.openCommand()V -/
def P_58 (b : Nat) : List mOp × Nat := cond (Nat.blt b 1) ((k_58_0, 1)) (cond (Nat.blt b 2) ((k_58_1, 2)) ((k_58_2, 0)))
def J_58 : MethodName × ByteArray × Nat × Option FieldType × Nat × Nat × List Nat := (⟨"TinyShell$Syntax", "openCommand", "()V"⟩, prog_9_method_9_code, 1, none, 1, 26, [0, 15, 47])
def k_59_0 : List mOp := [(.aload_n 0, 1, []), (.invokevirtual 85, 3, [58, 1, 106]), (.aload_n 0, 1, []), (.getfield 37, 3, [106, 5, 0]), (.istore_n 1, 1, []), (.aload_n 0, 1, []), (.aload_n 0, 1, []), (.getfield 37, 3, [106, 5, 0]), (.invokevirtual 100, 3, [60, 2, 106]), (.istore_n 2, 1, []), (.iconst 0, 1, []), (.istore_n 3, 1, []), (.aload_n 0, 1, []), (.getfield 40, 3, [106, 6, 0]), (.iconst 3, 1, []), (.if_icmp .ne (11), 3, [1]), (.aload_n 0, 1, []), (.getfield 88, 3, [106, 8, 0]), (.istore_n 3, 1, []), (.goto (45), 3, [3])]
def k_59_1 : List mOp := [(.aload_n 0, 1, []), (.getfield 96, 3, [106, 9, 0]), (.ifCond .ne (33), 3, [2]), (.iload_n 2, 1, []), (.iload_n 1, 1, []), (.if_icmp .le (28), 3, [2]), (.aload_n 0, 1, []), (.getfield 9, 3, [106, 4, 1]), (.iload_n 2, 1, []), (.invokevirtual 69, 3, [15, 2, 101]), (.bipush 61, 2, []), (.if_icmp .ne (15), 3, [2]), (.iconst 1, 1, []), (.istore_n 3, 1, []), (.aload_n 0, 1, []), (.iload_n 2, 1, []), (.iconst 1, 1, []), (.iadd, 1, []), (.putfield 37, 3, [106, 5, 0]), (.goto (8), 3, [3])]
def k_59_2 : List mOp := [(.aload_n 0, 1, []), (.iconst 1, 1, []), (.putfield 96, 3, [106, 9, 2])]
def k_59_3 : List mOp := [(.aload_n 0, 1, []), (.getfield 27, 3, [106, 2, 1]), (.invokevirtual 91, 3, [42, 1, 104]), (.istore 4, 2, []), (.aload_n 0, 1, []), (.invokevirtual 104, 3, [62, 1, 106]), (.aload_n 0, 1, []), (.getfield 24, 3, [106, 1, 1]), (.iload_n 3, 1, []), (.iload 4, 2, []), (.aload_n 0, 1, []), (.getfield 27, 3, [106, 2, 1]), (.invokevirtual 91, 3, [42, 1, 104]), (.iload_n 1, 1, []), (.iload_n 2, 1, []), (.invokevirtual 92, 3, [46, 6, 104]), (.aload_n 0, 1, []), (.getfield 20, 3, [106, 0, 1]), (.aload_n 0, 1, []), (.getfield 20, 3, [106, 0, 1]), (.invokevirtual 91, 3, [42, 1, 104]), (.iconst 1, 1, []), (.isub, 1, []), (.iconst 2, 1, []), (.aload_n 0, 1, []), (.getfield 24, 3, [106, 1, 1]), (.invokevirtual 91, 3, [42, 1, 104]), (.invokevirtual 107, 3, [45, 4, 104]), (.aload_n 0, 1, []), (.iconst 2, 1, []), (.putfield 40, 3, [106, 6, 0]), (.return_, 1, [])]
/-- TinyShell$Syntax.readWord()V -/
def P_59 (b : Nat) : List mOp × Nat := cond (Nat.blt b 2) (cond (Nat.blt b 1) ((k_59_0, 0)) ((k_59_1, 0))) (cond (Nat.blt b 3) ((k_59_2, 3)) ((k_59_3, 0)))
def J_59 : MethodName × ByteArray × Nat × Option FieldType × Nat × Nat × List Nat := (⟨"TinyShell$Syntax", "readWord", "()V"⟩, prog_9_method_10_code, 5, none, 9, 159, [0, 36, 73, 78])
def k_60_0 : List mOp := [(.iload_n 1, 1, []), (.istore_n 2, 1, [])]
def k_60_1 : List mOp := [(.iload_n 2, 1, []), (.aload_n 0, 1, []), (.getfield 9, 3, [106, 4, 1]), (.invokevirtual 53, 3, [14, 1, 101]), (.if_icmp .ge (57), 3, [5]), (.aload_n 0, 1, []), (.getfield 9, 3, [106, 4, 1]), (.iload_n 2, 1, []), (.invokevirtual 69, 3, [15, 2, 101]), (.istore_n 3, 1, []), (.iload_n 3, 1, []), (.bipush 48, 2, []), (.if_icmp .lt (18), 3, [2]), (.iload_n 3, 1, []), (.bipush 57, 2, []), (.if_icmp .gt (12), 3, [2]), (.iload_n 2, 1, []), (.iload_n 1, 1, []), (.if_icmp .le (7), 3, [2]), (.iconst 1, 1, []), (.goto (4), 3, [3])]
def k_60_2 : List mOp := [(.iconst 0, 1, [])]
def k_60_3 : List mOp := [(.istore 4, 2, []), (.iload_n 3, 1, []), (.invokestatic 111, 3, [61, 1]), (.ifCond .ne (11), 3, [4]), (.iload 4, 2, []), (.ifCond .ne (6), 3, [4]), (.goto (9), 3, [5])]
def k_60_4 : List mOp := [(.iinc 2 1, 3, []), (.goto (-62), 3, [1])]
def k_60_5 : List mOp := [(.iload_n 2, 1, []), (.ireturn, 1, [0])]
/-- TinyShell$Syntax.nameEnd(I)I -/
def P_60 (b : Nat) : List mOp × Nat := cond (Nat.blt b 3) (cond (Nat.blt b 1) ((k_60_0, 1)) (cond (Nat.blt b 2) ((k_60_1, 0)) ((k_60_2, 3)))) (cond (Nat.blt b 4) ((k_60_3, 0)) (cond (Nat.blt b 5) ((k_60_4, 0)) ((k_60_5, 0))))
def J_60 : MethodName × ByteArray × Nat × Option FieldType × Nat × Nat × List Nat := (⟨"TinyShell$Syntax", "nameEnd", "(I)I"⟩, prog_9_method_11_code, 5, some (Jvm.ClassFile.FieldType.int), 1, 21, [0, 2, 43, 44, 61, 67])
def k_61_0 : List mOp := [(.iload_n 0, 1, []), (.bipush 97, 2, []), (.if_icmp .lt (9), 3, [1]), (.iload_n 0, 1, []), (.bipush 122, 2, []), (.if_icmp .le (21), 3, [3])]
def k_61_1 : List mOp := [(.iload_n 0, 1, []), (.bipush 65, 2, []), (.if_icmp .lt (9), 3, [2]), (.iload_n 0, 1, []), (.bipush 90, 2, []), (.if_icmp .le (9), 3, [3])]
def k_61_2 : List mOp := [(.iload_n 0, 1, []), (.bipush 95, 2, []), (.if_icmp .ne (7), 3, [4])]
def k_61_3 : List mOp := [(.iconst 1, 1, []), (.goto (4), 3, [5])]
def k_61_4 : List mOp := [(.iconst 0, 1, [])]
def k_61_5 : List mOp := [(.ireturn, 1, [1])]
/-- TinyShell$Syntax.beginsName(C)Z -/
def P_61 (b : Nat) : List mOp × Nat := cond (Nat.blt b 3) (cond (Nat.blt b 1) ((k_61_0, 1)) (cond (Nat.blt b 2) ((k_61_1, 2)) ((k_61_2, 3)))) (cond (Nat.blt b 4) ((k_61_3, 0)) (cond (Nat.blt b 5) ((k_61_4, 5)) ((k_61_5, 0))))
def J_61 : MethodName × ByteArray × Nat × Option FieldType × Nat × Nat × List Nat := (⟨"TinyShell$Syntax", "beginsName", "(C)Z"⟩, prog_9_method_12_code, 1, some (Jvm.ClassFile.FieldType.boolean), 0, 0, [0, 12, 24, 30, 34, 35])
def k_62_0 : List mOp := [(.iconst 0, 1, []), (.istore_n 1, 1, []), (.iconst 0, 1, []), (.istore_n 2, 1, [])]
def k_62_1 : List mOp := [(.iload_n 2, 1, []), (.sipush 240, 3, []), (.if_icmp .ge (189), 3, [12]), (.aload_n 0, 1, []), (.getfield 37, 3, [106, 5, 0]), (.aload_n 0, 1, []), (.getfield 9, 3, [106, 4, 1]), (.invokevirtual 53, 3, [14, 1, 101]), (.if_icmp .ge (175), 3, [12]), (.aload_n 0, 1, []), (.getfield 9, 3, [106, 4, 1]), (.aload_n 0, 1, []), (.getfield 37, 3, [106, 5, 0]), (.invokevirtual 69, 3, [15, 2, 101]), (.istore_n 3, 1, []), (.iload_n 3, 1, []), (.bipush 34, 2, []), (.if_icmp .ne (33), 3, [4]), (.iload_n 1, 1, []), (.ifCond .ne (7), 3, [2]), (.iconst 1, 1, []), (.goto (4), 3, [3])]
def k_62_2 : List mOp := [(.iconst 0, 1, [])]
def k_62_3 : List mOp := [(.istore_n 1, 1, []), (.aload_n 0, 1, []), (.iconst 2, 1, []), (.aload_n 0, 1, []), (.getfield 37, 3, [106, 5, 0]), (.iconst 1, 1, []), (.iadd, 1, []), (.aload_n 0, 1, []), (.getfield 37, 3, [106, 5, 0]), (.iconst 1, 1, []), (.iadd, 1, []), (.invokevirtual 115, 3, [64, 4, 106]), (.goto (121), 3, [11])]
def k_62_4 : List mOp := [(.iload_n 3, 1, []), (.bipush 92, 2, []), (.if_icmp .ne (11), 3, [5]), (.aload_n 0, 1, []), (.iload_n 1, 1, []), (.invokevirtual 118, 3, [66, 2, 106]), (.goto (107), 3, [11])]
def k_62_5 : List mOp := [(.iload_n 3, 1, []), (.bipush 36, 2, []), (.if_icmp .ne (29), 3, [6]), (.aload_n 0, 1, []), (.getfield 9, 3, [106, 4, 1]), (.aload_n 0, 1, []), (.getfield 37, 3, [106, 5, 0]), (.iconst 1, 1, []), (.iadd, 1, []), (.invokevirtual 69, 3, [15, 2, 101]), (.bipush 123, 2, []), (.if_icmp .ne (11), 3, [6]), (.aload_n 0, 1, []), (.iload_n 1, 1, []), (.invokevirtual 122, 3, [68, 2, 106]), (.goto (75), 3, [11])]
def k_62_6 : List mOp := [(.iload_n 3, 1, []), (.bipush 36, 2, []), (.if_icmp .ne (11), 3, [7]), (.aload_n 0, 1, []), (.iload_n 1, 1, []), (.invokevirtual 125, 3, [67, 2, 106]), (.goto (61), 3, [11])]
def k_62_7 : List mOp := [(.iload_n 1, 1, []), (.ifCond .eq (21), 3, [8]), (.aload_n 0, 1, []), (.iconst 1, 1, []), (.aload_n 0, 1, []), (.getfield 37, 3, [106, 5, 0]), (.aload_n 0, 1, []), (.getfield 37, 3, [106, 5, 0]), (.iconst 1, 1, []), (.iadd, 1, []), (.invokevirtual 115, 3, [64, 4, 106]), (.goto (39), 3, [11])]
def k_62_8 : List mOp := [(.iload_n 3, 1, []), (.bipush 39, 2, []), (.if_icmp .ne (10), 3, [9]), (.aload_n 0, 1, []), (.invokevirtual 128, 3, [65, 1, 106]), (.goto (26), 3, [11])]
def k_62_9 : List mOp := [(.iload_n 3, 1, []), (.invokestatic 131, 3, [63, 1]), (.ifCond .eq (4), 3, [10]), (.return_, 1, [])]
def k_62_10 : List mOp := [(.aload_n 0, 1, []), (.iconst 0, 1, []), (.aload_n 0, 1, []), (.getfield 37, 3, [106, 5, 0]), (.aload_n 0, 1, []), (.getfield 37, 3, [106, 5, 0]), (.iconst 1, 1, []), (.iadd, 1, []), (.invokevirtual 115, 3, [64, 4, 106])]
def k_62_11 : List mOp := [(.iinc 2 1, 3, []), (.goto (-190), 3, [1])]
def k_62_12 : List mOp := [(.iload_n 1, 1, []), (.ifCond .eq (14), 3, [13]), (.aload_n 0, 1, []), (.aload_n 0, 1, []), (.getfield 9, 3, [106, 4, 1]), (.invokevirtual 53, 3, [14, 1, 101]), (.invokevirtual 59, 3, [52, 2, 106])]
def k_62_13 : List mOp := [(.return_, 1, [])]
/-- TinyShell$Syntax.readPieces()V -/
def P_62 (b : Nat) : List mOp × Nat := cond (Nat.blt b 7) (cond (Nat.blt b 3) (cond (Nat.blt b 1) ((k_62_0, 1)) (cond (Nat.blt b 2) ((k_62_1, 0)) ((k_62_2, 3)))) (cond (Nat.blt b 5) (cond (Nat.blt b 4) ((k_62_3, 0)) ((k_62_4, 0))) (cond (Nat.blt b 6) ((k_62_5, 0)) ((k_62_6, 0))))) (cond (Nat.blt b 10) (cond (Nat.blt b 8) ((k_62_7, 0)) (cond (Nat.blt b 9) ((k_62_8, 0)) ((k_62_9, 0)))) (cond (Nat.blt b 12) (cond (Nat.blt b 11) ((k_62_10, 11)) ((k_62_11, 0))) (cond (Nat.blt b 13) ((k_62_12, 13)) ((k_62_13, 0)))))
def J_62 : MethodName × ByteArray × Nat × Option FieldType × Nat × Nat × List Nat := (⟨"TinyShell$Syntax", "readPieces", "()V"⟩, prog_9_method_13_code, 4, none, 8, 136, [0, 4, 51, 52, 73, 87, 119, 133, 155, 168, 176, 191, 197, 212])
def k_63_0 : List mOp := [(.iload_n 0, 1, []), (.bipush 32, 2, []), (.if_icmp .eq (51), 3, [1]), (.iload_n 0, 1, []), (.bipush 10, 2, []), (.if_icmp .eq (45), 3, [1]), (.iload_n 0, 1, []), (.bipush 124, 2, []), (.if_icmp .eq (39), 3, [1]), (.iload_n 0, 1, []), (.bipush 38, 2, []), (.if_icmp .eq (33), 3, [1]), (.iload_n 0, 1, []), (.bipush 59, 2, []), (.if_icmp .eq (27), 3, [1]), (.iload_n 0, 1, []), (.bipush 60, 2, []), (.if_icmp .eq (21), 3, [1]), (.iload_n 0, 1, []), (.bipush 62, 2, []), (.if_icmp .eq (15), 3, [1]), (.iload_n 0, 1, []), (.bipush 40, 2, []), (.if_icmp .eq (9), 3, [1]), (.iload_n 0, 1, []), (.bipush 41, 2, []), (.if_icmp .ne (7), 3, [2])]
def k_63_1 : List mOp := [(.iconst 1, 1, []), (.goto (4), 3, [3])]
def k_63_2 : List mOp := [(.iconst 0, 1, [])]
def k_63_3 : List mOp := [(.ireturn, 1, [1])]
/-- TinyShell$Syntax.endsWord(C)Z -/
def P_63 (b : Nat) : List mOp × Nat := cond (Nat.blt b 2) (cond (Nat.blt b 1) ((k_63_0, 1)) ((k_63_1, 0))) (cond (Nat.blt b 3) ((k_63_2, 3)) ((k_63_3, 0)))
def J_63 : MethodName × ByteArray × Nat × Option FieldType × Nat × Nat × List Nat := (⟨"TinyShell$Syntax", "endsWord", "(C)Z"⟩, prog_9_method_14_code, 1, some (Jvm.ClassFile.FieldType.boolean), 0, 0, [0, 54, 58, 59])
def k_64_0 : List mOp := [(.aload_n 0, 1, []), (.getfield 27, 3, [106, 2, 1]), (.iload_n 1, 1, []), (.iload_n 2, 1, []), (.iload_n 3, 1, []), (.iconst 0, 1, []), (.iconst 0, 1, []), (.invokevirtual 92, 3, [46, 6, 104]), (.aload_n 0, 1, []), (.iload_n 3, 1, []), (.putfield 37, 3, [106, 5, 0]), (.return_, 1, [])]
/-- TinyShell$Syntax.addCharacters(III)V -/
def P_64 (b : Nat) : List mOp × Nat := (k_64_0, 0)
def J_64 : MethodName × ByteArray × Nat × Option FieldType × Nat × Nat × List Nat := (⟨"TinyShell$Syntax", "addCharacters", "(III)V"⟩, prog_9_method_15_code, 4, none, 1, 26, [0])
def k_65_0 : List mOp := [(.aload_n 0, 1, []), (.getfield 9, 3, [106, 4, 1]), (.bipush 39, 2, []), (.aload_n 0, 1, []), (.getfield 37, 3, [106, 5, 0]), (.iconst 1, 1, []), (.iadd, 1, []), (.invokevirtual 134, 3, [24, 3, 101]), (.istore_n 1, 1, []), (.iload_n 1, 1, []), (.aload_n 0, 1, []), (.getfield 9, 3, [106, 4, 1]), (.invokevirtual 53, 3, [14, 1, 101]), (.if_icmp .lt (14), 3, [1]), (.aload_n 0, 1, []), (.aload_n 0, 1, []), (.getfield 9, 3, [106, 4, 1]), (.invokevirtual 53, 3, [14, 1, 101]), (.invokevirtual 59, 3, [52, 2, 106])]
def k_65_1 : List mOp := [(.aload_n 0, 1, []), (.iconst 2, 1, []), (.aload_n 0, 1, []), (.getfield 37, 3, [106, 5, 0]), (.iconst 1, 1, []), (.iadd, 1, []), (.iload_n 1, 1, []), (.invokevirtual 115, 3, [64, 4, 106]), (.aload_n 0, 1, []), (.iload_n 1, 1, []), (.iconst 1, 1, []), (.iadd, 1, []), (.putfield 37, 3, [106, 5, 0]), (.return_, 1, [])]
/-- TinyShell$Syntax.readSingleQuotes()V -/
def P_65 (b : Nat) : List mOp × Nat := cond (Nat.blt b 1) ((k_65_0, 1)) ((k_65_1, 0))
def J_65 : MethodName × ByteArray × Nat × Option FieldType × Nat × Nat × List Nat := (⟨"TinyShell$Syntax", "readSingleQuotes", "()V"⟩, prog_9_method_16_code, 2, none, 7, 111, [0, 38])
def k_66_0 : List mOp := [(.aload_n 0, 1, []), (.getfield 9, 3, [106, 4, 1]), (.aload_n 0, 1, []), (.getfield 37, 3, [106, 5, 0]), (.iconst 1, 1, []), (.iadd, 1, []), (.invokevirtual 69, 3, [15, 2, 101]), (.istore_n 2, 1, []), (.iload_n 2, 1, []), (.ifCond .eq (9), 3, [1]), (.iload_n 2, 1, []), (.bipush 10, 2, []), (.if_icmp .ne (13), 3, [2])]
def k_66_1 : List mOp := [(.aload_n 0, 1, []), (.aload_n 0, 1, []), (.getfield 37, 3, [106, 5, 0]), (.iconst 1, 1, []), (.iadd, 1, []), (.invokevirtual 59, 3, [52, 2, 106])]
def k_66_2 : List mOp := [(.iload_n 1, 1, []), (.ifCond .eq (25), 3, [3]), (.iload_n 2, 1, []), (.bipush 36, 2, []), (.if_icmp .eq (19), 3, [3]), (.iload_n 2, 1, []), (.bipush 34, 2, []), (.if_icmp .eq (13), 3, [3]), (.iload_n 2, 1, []), (.bipush 92, 2, []), (.if_icmp .eq (7), 3, [3]), (.iconst 1, 1, []), (.goto (4), 3, [4])]
def k_66_3 : List mOp := [(.iconst 0, 1, [])]
def k_66_4 : List mOp := [(.istore_n 3, 1, []), (.aload_n 0, 1, []), (.iconst 1, 1, []), (.iload_n 3, 1, []), (.ifCond .eq (10), 3, [5]), (.aload_n 0, 1, []), (.getfield 37, 3, [106, 5, 0]), (.goto (9), 3, [6])]
def k_66_5 : List mOp := [(.aload_n 0, 1, []), (.getfield 37, 3, [106, 5, 0]), (.iconst 1, 1, []), (.iadd, 1, [])]
def k_66_6 : List mOp := [(.aload_n 0, 1, []), (.getfield 37, 3, [106, 5, 0]), (.iconst 2, 1, []), (.iadd, 1, []), (.invokevirtual 115, 3, [64, 4, 106]), (.return_, 1, [])]
/-- TinyShell$Syntax.readEscape(Z)V -/
def P_66 (b : Nat) : List mOp × Nat := cond (Nat.blt b 3) (cond (Nat.blt b 1) ((k_66_0, 1)) (cond (Nat.blt b 2) ((k_66_1, 2)) ((k_66_2, 0)))) (cond (Nat.blt b 5) (cond (Nat.blt b 4) ((k_66_3, 4)) ((k_66_4, 0))) (cond (Nat.blt b 6) ((k_66_5, 6)) ((k_66_6, 0))))
def J_66 : MethodName × ByteArray × Nat × Option FieldType × Nat × Nat × List Nat := (⟨"TinyShell$Syntax", "readEscape", "(Z)V"⟩, prog_9_method_17_code, 4, none, 7, 111, [0, 24, 34, 60, 61, 75, 81])
def k_67_0 : List mOp := [(.aload_n 0, 1, []), (.getfield 37, 3, [106, 5, 0]), (.iconst 1, 1, []), (.iadd, 1, []), (.istore_n 2, 1, []), (.aload_n 0, 1, []), (.getfield 9, 3, [106, 4, 1]), (.iload_n 2, 1, []), (.invokevirtual 69, 3, [15, 2, 101]), (.istore_n 3, 1, []), (.iload_n 1, 1, []), (.ifCond .eq (7), 3, [1]), (.iconst 4, 1, []), (.goto (4), 3, [2])]
def k_67_1 : List mOp := [(.iconst 3, 1, [])]
def k_67_2 : List mOp := [(.istore 4, 2, []), (.iload_n 3, 1, []), (.invokestatic 111, 3, [61, 1]), (.ifCond .eq (18), 3, [3]), (.aload_n 0, 1, []), (.iload 4, 2, []), (.iload_n 2, 1, []), (.aload_n 0, 1, []), (.iload_n 2, 1, []), (.invokevirtual 100, 3, [60, 2, 106]), (.invokevirtual 115, 3, [64, 4, 106]), (.goto (63), 3, [9])]
def k_67_3 : List mOp := [(.iload_n 3, 1, []), (.bipush 49, 2, []), (.if_icmp .lt (9), 3, [4]), (.iload_n 3, 1, []), (.bipush 57, 2, []), (.if_icmp .le (15), 3, [5])]
def k_67_4 : List mOp := [(.iload_n 3, 1, []), (.bipush 35, 2, []), (.if_icmp .eq (9), 3, [5]), (.iload_n 3, 1, []), (.bipush 63, 2, []), (.if_icmp .ne (16), 3, [6])]
def k_67_5 : List mOp := [(.aload_n 0, 1, []), (.iload 4, 2, []), (.iload_n 2, 1, []), (.iload_n 2, 1, []), (.iconst 1, 1, []), (.iadd, 1, []), (.invokevirtual 115, 3, [64, 4, 106]), (.goto (26), 3, [9])]
def k_67_6 : List mOp := [(.aload_n 0, 1, []), (.iload_n 1, 1, []), (.ifCond .eq (7), 3, [7]), (.iconst 1, 1, []), (.goto (4), 3, [8])]
def k_67_7 : List mOp := [(.iconst 0, 1, [])]
def k_67_8 : List mOp := [(.aload_n 0, 1, []), (.getfield 37, 3, [106, 5, 0]), (.aload_n 0, 1, []), (.getfield 37, 3, [106, 5, 0]), (.iconst 1, 1, []), (.iadd, 1, []), (.invokevirtual 115, 3, [64, 4, 106])]
def k_67_9 : List mOp := [(.return_, 1, [])]
/-- TinyShell$Syntax.readDollar(Z)V -/
def P_67 (b : Nat) : List mOp × Nat := cond (Nat.blt b 5) (cond (Nat.blt b 2) (cond (Nat.blt b 1) ((k_67_0, 0)) ((k_67_1, 2))) (cond (Nat.blt b 3) ((k_67_2, 0)) (cond (Nat.blt b 4) ((k_67_3, 4)) ((k_67_4, 5))))) (cond (Nat.blt b 7) (cond (Nat.blt b 6) ((k_67_5, 0)) ((k_67_6, 0))) (cond (Nat.blt b 8) ((k_67_7, 8)) (cond (Nat.blt b 9) ((k_67_8, 9)) ((k_67_9, 0)))))
def J_67 : MethodName × ByteArray × Nat × Option FieldType × Nat × Nat × List Nat := (⟨"TinyShell$Syntax", "readDollar", "(Z)V"⟩, prog_9_method_18_code, 5, none, 2, 49, [0, 24, 25, 49, 61, 73, 86, 95, 96, 109])
def k_68_0 : List mOp := [(.aload_n 0, 1, []), (.getfield 37, 3, [106, 5, 0]), (.iconst 2, 1, []), (.iadd, 1, []), (.istore_n 2, 1, []), (.aload_n 0, 1, []), (.iload_n 2, 1, []), (.invokevirtual 100, 3, [60, 2, 106]), (.istore_n 3, 1, []), (.iload_n 3, 1, []), (.iload_n 2, 1, []), (.if_icmp .ne (8), 3, [1]), (.aload_n 0, 1, []), (.iload_n 2, 1, []), (.invokevirtual 59, 3, [52, 2, 106])]
def k_68_1 : List mOp := [(.iload_n 3, 1, []), (.istore 4, 2, []), (.iload_n 3, 1, []), (.istore 5, 2, []), (.aload_n 0, 1, []), (.getfield 9, 3, [106, 4, 1]), (.iload_n 3, 1, []), (.invokevirtual 69, 3, [15, 2, 101]), (.bipush 58, 2, []), (.if_icmp .ne (38), 3, [3]), (.aload_n 0, 1, []), (.getfield 9, 3, [106, 4, 1]), (.iload_n 3, 1, []), (.iconst 1, 1, []), (.iadd, 1, []), (.invokevirtual 69, 3, [15, 2, 101]), (.bipush 45, 2, []), (.if_icmp .eq (10), 3, [2]), (.aload_n 0, 1, []), (.iload_n 3, 1, []), (.iconst 1, 1, []), (.iadd, 1, []), (.invokevirtual 59, 3, [52, 2, 106])]
def k_68_2 : List mOp := [(.iload_n 3, 1, []), (.iconst 2, 1, []), (.iadd, 1, []), (.istore 4, 2, []), (.aload_n 0, 1, []), (.iload 4, 2, []), (.invokevirtual 138, 3, [69, 2, 106]), (.istore 5, 2, [])]
def k_68_3 : List mOp := [(.aload_n 0, 1, []), (.getfield 9, 3, [106, 4, 1]), (.iload 5, 2, []), (.invokevirtual 69, 3, [15, 2, 101]), (.bipush 125, 2, []), (.if_icmp .eq (9), 3, [4]), (.aload_n 0, 1, []), (.iload 5, 2, []), (.invokevirtual 59, 3, [52, 2, 106])]
def k_68_4 : List mOp := [(.aload_n 0, 1, []), (.getfield 27, 3, [106, 2, 1]), (.iload_n 1, 1, []), (.ifCond .eq (7), 3, [5]), (.iconst 4, 1, []), (.goto (4), 3, [6])]
def k_68_5 : List mOp := [(.iconst 3, 1, [])]
def k_68_6 : List mOp := [(.iload_n 2, 1, []), (.iload_n 3, 1, []), (.iload 4, 2, []), (.iload 5, 2, []), (.invokevirtual 92, 3, [46, 6, 104]), (.aload_n 0, 1, []), (.iload 5, 2, []), (.iconst 1, 1, []), (.iadd, 1, []), (.putfield 37, 3, [106, 5, 0]), (.return_, 1, [])]
/-- TinyShell$Syntax.readBraces(Z)V -/
def P_68 (b : Nat) : List mOp × Nat := cond (Nat.blt b 3) (cond (Nat.blt b 1) ((k_68_0, 1)) (cond (Nat.blt b 2) ((k_68_1, 2)) ((k_68_2, 3)))) (cond (Nat.blt b 5) (cond (Nat.blt b 4) ((k_68_3, 4)) ((k_68_4, 0))) (cond (Nat.blt b 6) ((k_68_5, 6)) ((k_68_6, 0))))
def J_68 : MethodName × ByteArray × Nat × Option FieldType × Nat × Nat × List Nat := (⟨"TinyShell$Syntax", "readBraces", "(Z)V"⟩, prog_9_method_19_code, 6, none, 7, 111, [0, 23, 64, 77, 97, 109, 110])
def k_69_0 : List mOp := [(.iload_n 1, 1, []), (.istore_n 2, 1, [])]
def k_69_1 : List mOp := [(.iload_n 2, 1, []), (.aload_n 0, 1, []), (.getfield 9, 3, [106, 4, 1]), (.invokevirtual 53, 3, [14, 1, 101]), (.if_icmp .ge (57), 3, [3]), (.aload_n 0, 1, []), (.getfield 9, 3, [106, 4, 1]), (.iload_n 2, 1, []), (.invokevirtual 69, 3, [15, 2, 101]), (.istore_n 3, 1, []), (.iload_n 3, 1, []), (.bipush 125, 2, []), (.if_icmp .eq (42), 3, [3]), (.iload_n 3, 1, []), (.bipush 10, 2, []), (.if_icmp .eq (36), 3, [3]), (.iload_n 3, 1, []), (.bipush 39, 2, []), (.if_icmp .eq (30), 3, [3]), (.iload_n 3, 1, []), (.bipush 34, 2, []), (.if_icmp .eq (24), 3, [3]), (.iload_n 3, 1, []), (.bipush 92, 2, []), (.if_icmp .eq (18), 3, [3]), (.iload_n 3, 1, []), (.bipush 36, 2, []), (.if_icmp .ne (6), 3, [2]), (.goto (9), 3, [3])]
def k_69_2 : List mOp := [(.iinc 2 1, 3, []), (.goto (-62), 3, [1])]
def k_69_3 : List mOp := [(.iload_n 2, 1, []), (.ireturn, 1, [0])]
/-- TinyShell$Syntax.textEnd(I)I -/
def P_69 (b : Nat) : List mOp × Nat := cond (Nat.blt b 2) (cond (Nat.blt b 1) ((k_69_0, 1)) ((k_69_1, 0))) (cond (Nat.blt b 3) ((k_69_2, 0)) ((k_69_3, 0)))
def J_69 : MethodName × ByteArray × Nat × Option FieldType × Nat × Nat × List Nat := (⟨"TinyShell$Syntax", "textEnd", "(I)I"⟩, prog_9_method_20_code, 4, some (Jvm.ClassFile.FieldType.int), 1, 21, [0, 2, 61, 67])
def k_70_0 : List mOp := [(.aload_n 0, 1, []), (.invokespecial 3, 3, []), (.aload_n 0, 1, []), (.aload_n 1, 1, []), (.putfield 9, 3, [107, 0, 1]), (.aload_n 0, 1, []), (.aload_n 2, 1, []), (.putfield 15, 3, [107, 1, 1]), (.aload_n 0, 1, []), (.aload_n 3, 1, []), (.putfield 19, 3, [107, 2, 1]), (.aload_n 0, 1, []), (.new 23, 3, [102, 3]), (.dup, 1, []), (.bipush 16, 2, []), (.bipush 40, 2, []), (.invokespecial 25, 3, [25, 3]), (.putfield 28, 3, [107, 3, 1]), (.aload_n 0, 1, []), (.new 32, 3, [101, 2]), (.dup, 1, []), (.bipush 40, 2, []), (.invokespecial 34, 3, [13, 2]), (.putfield 37, 3, [107, 4, 1]), (.aload_n 0, 1, []), (.new 32, 3, [101, 2]), (.dup, 1, []), (.sipush 240, 3, []), (.invokespecial 34, 3, [13, 2]), (.putfield 40, 3, [107, 5, 1]), (.aload_n 0, 1, []), (.new 32, 3, [101, 2]), (.dup, 1, []), (.bipush 40, 2, []), (.invokespecial 34, 3, [13, 2]), (.putfield 43, 3, [107, 6, 1]), (.return_, 1, [])]
/-- TinyShell$Expander.<init>(LTinyShell$Text;LTinyShell$Syntax;LTinyShell$State;)V -/
def P_70 (b : Nat) : List mOp × Nat := (k_70_0, 0)
def J_70 : MethodName × ByteArray × Nat × Option FieldType × Nat × Nat × List Nat := (⟨"TinyShell$Expander", "<init>", "(LTinyShell$Text;LTinyShell$Syntax;LTinyShell$State;)V"⟩, prog_3_method_1_code, 4, none, 3, 65, [0])
def k_71_0 : List mOp := [(.aload_n 0, 1, []), (.getfield 28, 3, [107, 3, 1]), (.invokevirtual 46, 3, [29, 1, 102]), (.aload_n 0, 1, []), (.getfield 15, 3, [107, 1, 1]), (.getfield 49, 3, [106, 0, 1]), (.iload_n 1, 1, []), (.iconst 2, 1, []), (.invokevirtual 57, 3, [44, 3, 104]), (.istore_n 3, 1, []), (.aload_n 0, 1, []), (.getfield 15, 3, [107, 1, 1]), (.getfield 49, 3, [106, 0, 1]), (.iload_n 1, 1, []), (.iconst 1, 1, []), (.invokevirtual 57, 3, [44, 3, 104]), (.istore 4, 2, [])]
def k_71_1 : List mOp := [(.iload 4, 2, []), (.iload_n 3, 1, []), (.if_icmp .ge (43), 3, [3]), (.aload_n 0, 1, []), (.getfield 15, 3, [107, 1, 1]), (.getfield 61, 3, [106, 1, 1]), (.iload 4, 2, []), (.iconst 0, 1, []), (.invokevirtual 57, 3, [44, 3, 104]), (.ifCond .ne (21), 3, [2]), (.aload_n 0, 1, []), (.iload 4, 2, []), (.iconst 1, 1, []), (.invokevirtual 64, 3, [74, 3, 107]), (.aload_n 0, 1, []), (.getfield 28, 3, [107, 3, 1]), (.aload_n 0, 1, []), (.getfield 68, 3, [107, 7, 0]), (.invokevirtual 72, 3, [30, 2, 102])]
def k_71_2 : List mOp := [(.iinc 4 1, 3, []), (.goto (-43), 3, [1])]
def k_71_3 : List mOp := [(.aload_n 2, 1, []), (.invokevirtual 46, 3, [29, 1, 102]), (.iconst 0, 1, []), (.istore 4, 2, [])]
def k_71_4 : List mOp := [(.iload 4, 2, []), (.aload_n 0, 1, []), (.getfield 28, 3, [107, 3, 1]), (.invokevirtual 76, 3, [26, 1, 102]), (.if_icmp .ge (23), 3, [5]), (.aload_n 0, 1, []), (.aload_n 0, 1, []), (.getfield 28, 3, [107, 3, 1]), (.iload 4, 2, []), (.invokevirtual 80, 3, [27, 2, 102]), (.aload_n 2, 1, []), (.invokevirtual 83, 3, [77, 3, 107]), (.iinc 4 1, 3, []), (.goto (-29), 3, [4])]
def k_71_5 : List mOp := [(.return_, 1, [])]
/-- TinyShell$Expander.expandWords(ILTinyShell$Row;)V -/
def P_71 (b : Nat) : List mOp × Nat := cond (Nat.blt b 3) (cond (Nat.blt b 1) ((k_71_0, 1)) (cond (Nat.blt b 2) ((k_71_1, 2)) ((k_71_2, 0)))) (cond (Nat.blt b 4) ((k_71_3, 4)) (cond (Nat.blt b 5) ((k_71_4, 0)) ((k_71_5, 0))))
def J_71 : MethodName × ByteArray × Nat × Option FieldType × Nat × Nat × List Nat := (⟨"TinyShell$Expander", "expandWords", "(ILTinyShell$Row;)V"⟩, prog_3_method_2_code, 5, none, 9, 169, [0, 34, 74, 80, 87, 119])
def k_72_0 : List mOp := [(.aload_n 0, 1, []), (.getfield 28, 3, [107, 3, 1]), (.invokevirtual 46, 3, [29, 1, 102]), (.aload_n 0, 1, []), (.iload_n 1, 1, []), (.iconst 0, 1, []), (.invokevirtual 64, 3, [74, 3, 107]), (.aload_n 0, 1, []), (.aload_n 0, 1, []), (.getfield 28, 3, [107, 3, 1]), (.invokevirtual 87, 3, [28, 1, 102]), (.invokevirtual 91, 3, [78, 2, 107]), (.areturn, 1, [])]
/-- TinyShell$Expander.expandWhole(I)LTinyShell$Text; -/
def P_72 (b : Nat) : List mOp × Nat := (k_72_0, 0)
def J_72 : MethodName × ByteArray × Nat × Option FieldType × Nat × Nat × List Nat := (⟨"TinyShell$Expander", "expandWhole", "(I)LTinyShell$Text;"⟩, prog_3_method_3_code, 2, some ((Jvm.ClassFile.FieldType.object "TinyShell$Text")), 9, 169, [0])
def k_73_0 : List mOp := [(.aload_n 0, 1, []), (.getfield 40, 3, [107, 5, 1]), (.invokevirtual 95, 3, [16, 1, 101]), (.aload_n 0, 1, []), (.getfield 40, 3, [107, 5, 1]), (.aload_n 0, 1, []), (.getfield 9, 3, [107, 0, 1]), (.aload_n 0, 1, []), (.getfield 15, 3, [107, 1, 1]), (.getfield 61, 3, [106, 1, 1]), (.iload_n 1, 1, []), (.iconst 3, 1, []), (.invokevirtual 57, 3, [44, 3, 104]), (.aload_n 0, 1, []), (.getfield 15, 3, [107, 1, 1]), (.getfield 61, 3, [106, 1, 1]), (.iload_n 1, 1, []), (.iconst 4, 1, []), (.invokevirtual 57, 3, [44, 3, 104]), (.invokevirtual 96, 3, [18, 4, 101]), (.aload_n 0, 1, []), (.getfield 40, 3, [107, 5, 1]), (.areturn, 1, [])]
/-- TinyShell$Expander.nameOf(I)LTinyShell$Text; -/
def P_73 (b : Nat) : List mOp × Nat := (k_73_0, 0)
def J_73 : MethodName × ByteArray × Nat × Option FieldType × Nat × Nat × List Nat := (⟨"TinyShell$Expander", "nameOf", "(I)LTinyShell$Text;"⟩, prog_3_method_4_code, 2, some ((Jvm.ClassFile.FieldType.object "TinyShell$Text")), 7, 114, [0])
def k_74_0 : List mOp := [(.aload_n 0, 1, []), (.iconst 0, 1, []), (.putfield 68, 3, [107, 7, 2]), (.aload_n 0, 1, []), (.getfield 15, 3, [107, 1, 1]), (.getfield 100, 3, [106, 2, 1]), (.astore_n 3, 1, []), (.aload_n 0, 1, []), (.getfield 15, 3, [107, 1, 1]), (.getfield 61, 3, [106, 1, 1]), (.iload_n 1, 1, []), (.iconst 2, 1, []), (.invokevirtual 57, 3, [44, 3, 104]), (.istore 4, 2, []), (.aload_n 0, 1, []), (.getfield 15, 3, [107, 1, 1]), (.getfield 61, 3, [106, 1, 1]), (.iload_n 1, 1, []), (.iconst 1, 1, []), (.invokevirtual 57, 3, [44, 3, 104]), (.istore 5, 2, [])]
def k_74_1 : List mOp := [(.iload 5, 2, []), (.iload 4, 2, []), (.if_icmp .ge (196), 3, [17]), (.aload_n 3, 1, []), (.iload 5, 2, []), (.iconst 0, 1, []), (.invokevirtual 57, 3, [44, 3, 104]), (.istore 6, 2, []), (.aload_n 3, 1, []), (.iload 5, 2, []), (.iconst 1, 1, []), (.invokevirtual 57, 3, [44, 3, 104]), (.istore 7, 2, []), (.aload_n 3, 1, []), (.iload 5, 2, []), (.iconst 2, 1, []), (.invokevirtual 57, 3, [44, 3, 104]), (.istore 8, 2, []), (.iload 6, 2, []), (.ifCond .eq (13), 3, [2]), (.iload 6, 2, []), (.iconst 3, 1, []), (.if_icmp .eq (7), 3, [2]), (.iconst 1, 1, []), (.goto (4), 3, [3])]
def k_74_2 : List mOp := [(.iconst 0, 1, [])]
def k_74_3 : List mOp := [(.istore 9, 2, []), (.aload_n 0, 1, []), (.aload_n 0, 1, []), (.getfield 68, 3, [107, 7, 0]), (.ifCond .ne (9), 3, [4]), (.iload 6, 2, []), (.iconst 2, 1, []), (.if_icmp .ne (7), 3, [5])]
def k_74_4 : List mOp := [(.iconst 1, 1, []), (.goto (4), 3, [6])]
def k_74_5 : List mOp := [(.iconst 0, 1, [])]
def k_74_6 : List mOp := [(.putfield 68, 3, [107, 7, 2]), (.iload 6, 2, []), (.iconst 3, 1, []), (.if_icmp .eq (27), 3, [7]), (.iload 6, 2, []), (.iconst 4, 1, []), (.if_icmp .eq (21), 3, [7]), (.aload_n 0, 1, []), (.aload_n 0, 1, []), (.getfield 9, 3, [107, 0, 1]), (.iload 7, 2, []), (.iload 8, 2, []), (.iload 9, 2, []), (.iload_n 2, 1, []), (.invokevirtual 103, 3, [75, 6, 107]), (.goto (93), 3, [16])]
def k_74_7 : List mOp := [(.aload_n 0, 1, []), (.iload 7, 2, []), (.iload 8, 2, []), (.invokevirtual 107, 3, [76, 3, 107]), (.astore 10, 2, []), (.aload 10, 2, []), (.invokevirtual 111, 3, [14, 1, 101]), (.ifCond .ne (7), 3, [8]), (.iconst 1, 1, []), (.goto (4), 3, [9])]
def k_74_8 : List mOp := [(.iconst 0, 1, [])]
def k_74_9 : List mOp := [(.istore 11, 2, []), (.iload 11, 2, []), (.ifCond .eq (13), 3, [10]), (.aload_n 3, 1, []), (.iload 5, 2, []), (.iconst 3, 1, []), (.invokevirtual 57, 3, [44, 3, 104]), (.goto (4), 3, [11])]
def k_74_10 : List mOp := [(.iconst 0, 1, [])]
def k_74_11 : List mOp := [(.istore 7, 2, []), (.iload 11, 2, []), (.ifCond .eq (13), 3, [12]), (.aload_n 3, 1, []), (.iload 5, 2, []), (.iconst 4, 1, []), (.invokevirtual 57, 3, [44, 3, 104]), (.goto (8), 3, [13])]
def k_74_12 : List mOp := [(.aload 10, 2, []), (.invokevirtual 111, 3, [14, 1, 101])]
def k_74_13 : List mOp := [(.istore 8, 2, []), (.aload_n 0, 1, []), (.iload 11, 2, []), (.ifCond .eq (10), 3, [14]), (.aload_n 0, 1, []), (.getfield 9, 3, [107, 0, 1]), (.goto (5), 3, [15])]
def k_74_14 : List mOp := [(.aload 10, 2, [])]
def k_74_15 : List mOp := [(.iload 7, 2, []), (.iload 8, 2, []), (.iload 9, 2, []), (.iload_n 2, 1, []), (.invokevirtual 103, 3, [75, 6, 107])]
def k_74_16 : List mOp := [(.iinc 5 1, 3, []), (.goto (-197), 3, [1])]
def k_74_17 : List mOp := [(.return_, 1, [])]
/-- TinyShell$Expander.expandPieces(IZ)V -/
def P_74 (b : Nat) : List mOp × Nat := cond (Nat.blt b 9) (cond (Nat.blt b 4) (cond (Nat.blt b 2) (cond (Nat.blt b 1) ((k_74_0, 1)) ((k_74_1, 0))) (cond (Nat.blt b 3) ((k_74_2, 3)) ((k_74_3, 4)))) (cond (Nat.blt b 6) (cond (Nat.blt b 5) ((k_74_4, 0)) ((k_74_5, 6))) (cond (Nat.blt b 7) ((k_74_6, 0)) (cond (Nat.blt b 8) ((k_74_7, 0)) ((k_74_8, 9)))))) (cond (Nat.blt b 13) (cond (Nat.blt b 11) (cond (Nat.blt b 10) ((k_74_9, 0)) ((k_74_10, 11))) (cond (Nat.blt b 12) ((k_74_11, 0)) ((k_74_12, 13)))) (cond (Nat.blt b 15) (cond (Nat.blt b 14) ((k_74_13, 0)) ((k_74_14, 15))) (cond (Nat.blt b 16) ((k_74_15, 16)) (cond (Nat.blt b 17) ((k_74_16, 0)) ((k_74_17, 0))))))
def J_74 : MethodName × ByteArray × Nat × Option FieldType × Nat × Nat × List Nat := (⟨"TinyShell$Expander", "expandPieces", "(IZ)V"⟩, prog_3_method_5_code, 12, none, 8, 138, [0, 41, 90, 91, 107, 111, 112, 145, 167, 168, 185, 186, 203, 208, 223, 225, 235, 241])
def k_75_0 : List mOp := [(.iload_n 2, 1, []), (.istore 6, 2, [])]
def k_75_1 : List mOp := [(.iload 6, 2, []), (.iload_n 3, 1, []), (.if_icmp .ge (87), 3, [7]), (.aload_n 1, 1, []), (.iload 6, 2, []), (.invokevirtual 112, 3, [15, 2, 101]), (.istore 7, 2, []), (.iload 5, 2, []), (.ifCond .eq (41), 3, [3]), (.iload 4, 2, []), (.ifCond .ne (36), 3, [3]), (.iload 7, 2, []), (.bipush 32, 2, []), (.if_icmp .eq (10), 3, [2]), (.iload 7, 2, []), (.bipush 10, 2, []), (.if_icmp .ne (22), 3, [3])]
def k_75_2 : List mOp := [(.aload_n 0, 1, []), (.getfield 28, 3, [107, 3, 1]), (.aload_n 0, 1, []), (.getfield 68, 3, [107, 7, 0]), (.invokevirtual 72, 3, [30, 2, 102]), (.aload_n 0, 1, []), (.iconst 0, 1, []), (.putfield 68, 3, [107, 7, 2]), (.goto (30), 3, [6])]
def k_75_3 : List mOp := [(.aload_n 0, 1, []), (.getfield 28, 3, [107, 3, 1]), (.invokevirtual 87, 3, [28, 1, 102]), (.iload 4, 2, []), (.ifCond .eq (12), 3, [4]), (.iload 7, 2, []), (.sipush 128, 3, []), (.ior, 1, []), (.goto (5), 3, [5])]
def k_75_4 : List mOp := [(.iload 7, 2, [])]
def k_75_5 : List mOp := [(.i2c, 1, []), (.invokevirtual 115, 3, [17, 2, 101])]
def k_75_6 : List mOp := [(.iinc 6 1, 3, []), (.goto (-87), 3, [1])]
def k_75_7 : List mOp := [(.return_, 1, [])]
/-- TinyShell$Expander.addCharacters(LTinyShell$Text;IIZZ)V -/
def P_75 (b : Nat) : List mOp × Nat := cond (Nat.blt b 4) (cond (Nat.blt b 2) (cond (Nat.blt b 1) ((k_75_0, 1)) ((k_75_1, 2))) (cond (Nat.blt b 3) ((k_75_2, 0)) ((k_75_3, 0)))) (cond (Nat.blt b 6) (cond (Nat.blt b 5) ((k_75_4, 5)) ((k_75_5, 6))) (cond (Nat.blt b 7) ((k_75_6, 0)) ((k_75_7, 0))))
def J_75 : MethodName × ByteArray × Nat × Option FieldType × Nat × Nat × List Nat := (⟨"TinyShell$Expander", "addCharacters", "(LTinyShell$Text;IIZZ)V"⟩, prog_3_method_6_code, 8, none, 7, 111, [0, 3, 41, 60, 81, 83, 87, 93])
def k_76_0 : List mOp := [(.aload_n 0, 1, []), (.getfield 9, 3, [107, 0, 1]), (.iload_n 1, 1, []), (.invokevirtual 112, 3, [15, 2, 101]), (.istore_n 3, 1, []), (.iload_n 3, 1, []), (.bipush 49, 2, []), (.if_icmp .lt (24), 3, [1]), (.iload_n 3, 1, []), (.bipush 57, 2, []), (.if_icmp .gt (18), 3, [1]), (.aload_n 0, 1, []), (.getfield 19, 3, [107, 2, 1]), (.getfield 119, 3, [105, 1, 1]), (.iload_n 3, 1, []), (.bipush 49, 2, []), (.isub, 1, []), (.invokevirtual 80, 3, [27, 2, 102]), (.areturn, 1, [])]
def k_76_1 : List mOp := [(.aload_n 0, 1, []), (.getfield 37, 3, [107, 4, 1]), (.invokevirtual 95, 3, [16, 1, 101]), (.iload_n 3, 1, []), (.bipush 35, 2, []), (.if_icmp .ne (25), 3, [2]), (.aload_n 0, 1, []), (.getfield 37, 3, [107, 4, 1]), (.aload_n 0, 1, []), (.getfield 19, 3, [107, 2, 1]), (.getfield 119, 3, [105, 1, 1]), (.invokevirtual 76, 3, [26, 1, 102]), (.invokevirtual 124, 3, [20, 2, 101]), (.aload_n 0, 1, []), (.getfield 37, 3, [107, 4, 1]), (.areturn, 1, [])]
def k_76_2 : List mOp := [(.iload_n 3, 1, []), (.bipush 63, 2, []), (.if_icmp .ne (22), 3, [3]), (.aload_n 0, 1, []), (.getfield 37, 3, [107, 4, 1]), (.aload_n 0, 1, []), (.getfield 19, 3, [107, 2, 1]), (.getfield 127, 3, [105, 4, 0]), (.invokevirtual 124, 3, [20, 2, 101]), (.aload_n 0, 1, []), (.getfield 37, 3, [107, 4, 1]), (.areturn, 1, [])]
def k_76_3 : List mOp := [(.aload_n 0, 1, []), (.getfield 40, 3, [107, 5, 1]), (.invokevirtual 95, 3, [16, 1, 101]), (.aload_n 0, 1, []), (.getfield 40, 3, [107, 5, 1]), (.aload_n 0, 1, []), (.getfield 9, 3, [107, 0, 1]), (.iload_n 1, 1, []), (.iload_n 2, 1, []), (.invokevirtual 96, 3, [18, 4, 101]), (.aload_n 0, 1, []), (.getfield 19, 3, [107, 2, 1]), (.getfield 131, 3, [105, 0, 1]), (.aload_n 0, 1, []), (.getfield 19, 3, [107, 2, 1]), (.getfield 131, 3, [105, 0, 1]), (.aload_n 0, 1, []), (.getfield 40, 3, [107, 5, 1]), (.invokevirtual 135, 3, [37, 2, 103]), (.invokevirtual 141, 3, [36, 2, 103]), (.areturn, 1, [])]
/-- TinyShell$Expander.parameter(II)LTinyShell$Text; -/
def P_76 (b : Nat) : List mOp × Nat := cond (Nat.blt b 2) (cond (Nat.blt b 1) ((k_76_0, 0)) ((k_76_1, 0))) (cond (Nat.blt b 3) ((k_76_2, 0)) ((k_76_3, 0)))
def J_76 : MethodName × ByteArray × Nat × Option FieldType × Nat × Nat × List Nat := (⟨"TinyShell$Expander", "parameter", "(II)LTinyShell$Text;"⟩, prog_3_method_7_code, 4, some ((Jvm.ClassFile.FieldType.object "TinyShell$Text")), 7, 114, [0, 36, 71, 96])
def k_77_0 : List mOp := [(.iconst 0, 1, []), (.istore_n 3, 1, []), (.aload_n 1, 1, []), (.invokestatic 144, 3, [79, 1]), (.ifCond .eq (64), 3, [3]), (.iconst 0, 1, []), (.istore 4, 2, [])]
def k_77_1 : List mOp := [(.iload 4, 2, []), (.aload_n 0, 1, []), (.getfield 19, 3, [107, 2, 1]), (.getfield 148, 3, [105, 2, 1]), (.invokevirtual 151, 3, [34, 1, 103]), (.if_icmp .ge (46), 3, [3]), (.aload_n 1, 1, []), (.aload_n 0, 1, []), (.getfield 19, 3, [107, 2, 1]), (.getfield 148, 3, [105, 2, 1]), (.iload 4, 2, []), (.invokevirtual 152, 3, [35, 2, 103]), (.invokestatic 155, 3, [80, 2]), (.ifCond .eq (21), 3, [2]), (.aload_n 2, 1, []), (.aload_n 0, 1, []), (.getfield 19, 3, [107, 2, 1]), (.getfield 148, 3, [105, 2, 1]), (.iload 4, 2, []), (.invokevirtual 152, 3, [35, 2, 103]), (.invokevirtual 159, 3, [31, 2, 102]), (.iconst 1, 1, []), (.istore_n 3, 1, [])]
def k_77_2 : List mOp := [(.iinc 4 1, 3, []), (.goto (-55), 3, [1])]
def k_77_3 : List mOp := [(.iload_n 3, 1, []), (.ifCond .ne (12), 3, [4]), (.aload_n 2, 1, []), (.aload_n 0, 1, []), (.aload_n 1, 1, []), (.invokevirtual 91, 3, [78, 2, 107]), (.invokevirtual 159, 3, [31, 2, 102])]
def k_77_4 : List mOp := [(.return_, 1, [])]
/-- TinyShell$Expander.addField(LTinyShell$Text;LTinyShell$Row;)V -/
def P_77 (b : Nat) : List mOp × Nat := cond (Nat.blt b 2) (cond (Nat.blt b 1) ((k_77_0, 1)) ((k_77_1, 2))) (cond (Nat.blt b 3) ((k_77_2, 0)) (cond (Nat.blt b 4) ((k_77_3, 4)) ((k_77_4, 0))))
def J_77 : MethodName × ByteArray × Nat × Option FieldType × Nat × Nat × List Nat := (⟨"TinyShell$Expander", "addField", "(LTinyShell$Text;LTinyShell$Row;)V"⟩, prog_3_method_8_code, 5, none, 8, 133, [0, 12, 64, 70, 83])
def k_78_0 : List mOp := [(.aload_n 0, 1, []), (.getfield 43, 3, [107, 6, 1]), (.invokevirtual 95, 3, [16, 1, 101]), (.iconst 0, 1, []), (.istore_n 2, 1, [])]
def k_78_1 : List mOp := [(.iload_n 2, 1, []), (.aload_n 1, 1, []), (.invokevirtual 111, 3, [14, 1, 101]), (.if_icmp .ge (26), 3, [2]), (.aload_n 0, 1, []), (.getfield 43, 3, [107, 6, 1]), (.aload_n 1, 1, []), (.iload_n 2, 1, []), (.invokevirtual 112, 3, [15, 2, 101]), (.sipush (-129), 3, []), (.iand, 1, []), (.i2c, 1, []), (.invokevirtual 115, 3, [17, 2, 101]), (.iinc 2 1, 3, []), (.goto (-28), 3, [1])]
def k_78_2 : List mOp := [(.aload_n 0, 1, []), (.getfield 43, 3, [107, 6, 1]), (.areturn, 1, [])]
/-- TinyShell$Expander.unmark(LTinyShell$Text;)LTinyShell$Text; -/
def P_78 (b : Nat) : List mOp × Nat := cond (Nat.blt b 1) ((k_78_0, 1)) (cond (Nat.blt b 2) ((k_78_1, 0)) ((k_78_2, 0)))
def J_78 : MethodName × ByteArray × Nat × Option FieldType × Nat × Nat × List Nat := (⟨"TinyShell$Expander", "unmark", "(LTinyShell$Text;)LTinyShell$Text;"⟩, prog_3_method_9_code, 3, some ((Jvm.ClassFile.FieldType.object "TinyShell$Text")), 7, 111, [0, 9, 40])
def k_79_0 : List mOp := [(.aload_n 0, 1, []), (.bipush 42, 2, []), (.iconst 0, 1, []), (.invokevirtual 162, 3, [24, 3, 101]), (.aload_n 0, 1, []), (.invokevirtual 111, 3, [14, 1, 101]), (.if_icmp .lt (17), 3, [1]), (.aload_n 0, 1, []), (.bipush 63, 2, []), (.iconst 0, 1, []), (.invokevirtual 162, 3, [24, 3, 101]), (.aload_n 0, 1, []), (.invokevirtual 111, 3, [14, 1, 101]), (.if_icmp .ge (7), 3, [2])]
def k_79_1 : List mOp := [(.iconst 1, 1, []), (.goto (4), 3, [3])]
def k_79_2 : List mOp := [(.iconst 0, 1, [])]
def k_79_3 : List mOp := [(.ireturn, 1, [1])]
/-- TinyShell$Expander.isPattern(LTinyShell$Text;)Z -/
def P_79 (b : Nat) : List mOp × Nat := cond (Nat.blt b 2) (cond (Nat.blt b 1) ((k_79_0, 1)) ((k_79_1, 0))) (cond (Nat.blt b 3) ((k_79_2, 3)) ((k_79_3, 0)))
def J_79 : MethodName × ByteArray × Nat × Option FieldType × Nat × Nat × List Nat := (⟨"TinyShell$Expander", "isPattern", "(LTinyShell$Text;)Z"⟩, prog_3_method_10_code, 1, some (Jvm.ClassFile.FieldType.boolean), 2, 44, [0, 28, 32, 33])
def k_80_0 : List mOp := [(.iconst 1, 1, []), (.istore_n 2, 1, []), (.iconst 0, 1, []), (.istore_n 3, 1, [])]
def k_80_1 : List mOp := [(.iload_n 3, 1, []), (.aload_n 0, 1, []), (.invokevirtual 111, 3, [14, 1, 101]), (.if_icmp .ge (97), 3, [8]), (.aload_n 0, 1, []), (.iload_n 3, 1, []), (.invokevirtual 112, 3, [15, 2, 101]), (.istore 4, 2, []), (.iload 4, 2, []), (.bipush 42, 2, []), (.if_icmp .ne (12), 3, [2]), (.iload_n 2, 1, []), (.iload_n 2, 1, []), (.ineg, 1, []), (.iand, 1, []), (.ineg, 1, []), (.istore_n 2, 1, []), (.goto (68), 3, [7])]
def k_80_2 : List mOp := [(.iconst 0, 1, []), (.istore 5, 2, []), (.iconst 0, 1, []), (.istore 6, 2, [])]
def k_80_3 : List mOp := [(.iload 6, 2, []), (.aload_n 1, 1, []), (.invokevirtual 111, 3, [14, 1, 101]), (.if_icmp .ge (50), 3, [6]), (.iload_n 2, 1, []), (.iload 6, 2, []), (.ishr, 1, []), (.iconst 1, 1, []), (.iand, 1, []), (.iconst 1, 1, []), (.if_icmp .ne (34), 3, [5]), (.iload 4, 2, []), (.bipush 63, 2, []), (.if_icmp .eq (18), 3, [4]), (.iload 4, 2, []), (.sipush (-129), 3, []), (.iand, 1, []), (.aload_n 1, 1, []), (.iload 6, 2, []), (.invokevirtual 112, 3, [15, 2, 101]), (.if_icmp .ne (12), 3, [5])]
def k_80_4 : List mOp := [(.iload 5, 2, []), (.iconst 2, 1, []), (.iload 6, 2, []), (.ishl, 1, []), (.ior, 1, []), (.istore 5, 2, [])]
def k_80_5 : List mOp := [(.iinc 6 1, 3, []), (.goto (-53), 3, [3])]
def k_80_6 : List mOp := [(.iload 5, 2, []), (.istore_n 2, 1, [])]
def k_80_7 : List mOp := [(.iinc 3 1, 3, []), (.goto (-99), 3, [1])]
def k_80_8 : List mOp := [(.iload_n 2, 1, []), (.aload_n 1, 1, []), (.invokevirtual 111, 3, [14, 1, 101]), (.ishr, 1, []), (.iconst 1, 1, []), (.iand, 1, []), (.iconst 1, 1, []), (.if_icmp .ne (7), 3, [9]), (.iconst 1, 1, []), (.goto (4), 3, [10])]
def k_80_9 : List mOp := [(.iconst 0, 1, [])]
def k_80_10 : List mOp := [(.ireturn, 1, [1])]
/-- TinyShell$Expander.matches(LTinyShell$Text;LTinyShell$Text;)Z -/
def P_80 (b : Nat) : List mOp × Nat := cond (Nat.blt b 5) (cond (Nat.blt b 2) (cond (Nat.blt b 1) ((k_80_0, 1)) ((k_80_1, 0))) (cond (Nat.blt b 3) ((k_80_2, 3)) (cond (Nat.blt b 4) ((k_80_3, 4)) ((k_80_4, 5))))) (cond (Nat.blt b 8) (cond (Nat.blt b 6) ((k_80_5, 0)) (cond (Nat.blt b 7) ((k_80_6, 7)) ((k_80_7, 0)))) (cond (Nat.blt b 9) ((k_80_8, 0)) (cond (Nat.blt b 10) ((k_80_9, 10)) ((k_80_10, 0)))))
def J_80 : MethodName × ByteArray × Nat × Option FieldType × Nat × Nat × List Nat := (⟨"TinyShell$Expander", "matches", "(LTinyShell$Text;LTinyShell$Text;)Z"⟩, prog_3_method_11_code, 7, some (Jvm.ClassFile.FieldType.boolean), 1, 21, [0, 4, 35, 41, 82, 91, 97, 100, 106, 122, 123])
def k_81_0 : List mOp := [(.aload_n 0, 1, []), (.invokespecial 3, 3, []), (.aload_n 0, 1, []), (.aload_n 2, 1, []), (.putfield 9, 3, [108, 1, 1]), (.aload_n 0, 1, []), (.new 15, 3, [105, 5]), (.dup, 1, []), (.invokespecial 17, 3, [48, 1]), (.putfield 18, 3, [108, 0, 1]), (.aload_n 0, 1, []), (.new 22, 3, [107, 8]), (.dup, 1, []), (.aload_n 1, 1, []), (.aload_n 2, 1, []), (.aload_n 0, 1, []), (.getfield 18, 3, [108, 0, 1]), (.invokespecial 24, 3, [70, 4]), (.putfield 27, 3, [108, 2, 1]), (.aload_n 0, 1, []), (.new 31, 3, [109, 6]), (.dup, 1, []), (.aload_n 0, 1, []), (.getfield 18, 3, [108, 0, 1]), (.invokespecial 33, 3, [92, 2]), (.putfield 36, 3, [108, 3, 1]), (.aload_n 0, 1, []), (.new 40, 3, [103, 4]), (.dup, 1, []), (.bipush 8, 2, []), (.bipush 6, 2, []), (.bipush 40, 2, []), (.invokespecial 42, 3, [33, 4]), (.putfield 45, 3, [108, 4, 1]), (.aload_n 0, 1, []), (.new 49, 3, [102, 3]), (.dup, 1, []), (.bipush 9, 2, []), (.bipush 40, 2, []), (.invokespecial 51, 3, [25, 3]), (.putfield 54, 3, [108, 5, 1]), (.aload_n 0, 1, []), (.new 58, 3, [101, 2]), (.dup, 1, []), (.bipush 8, 2, []), (.invokespecial 60, 3, [13, 2]), (.putfield 63, 3, [108, 6, 1]), (.aload_n 0, 1, []), (.new 58, 3, [101, 2]), (.dup, 1, []), (.bipush 8, 2, []), (.invokespecial 60, 3, [13, 2]), (.putfield 67, 3, [108, 7, 1]), (.return_, 1, [])]
/-- TinyShell$Runner.<init>(LTinyShell$Text;LTinyShell$Syntax;)V -/
def P_81 (b : Nat) : List mOp × Nat := (k_81_0, 0)
def J_81 : MethodName × ByteArray × Nat × Option FieldType × Nat × Nat × List Nat := (⟨"TinyShell$Runner", "<init>", "(LTinyShell$Text;LTinyShell$Syntax;)V"⟩, prog_6_method_1_code, 3, none, 4, 88, [0])
def k_82_0 : List mOp := [(.aload_n 0, 1, []), (.getfield 18, 3, [108, 0, 1]), (.aload_n 1, 1, []), (.invokevirtual 70, 3, [49, 2, 105]), (.aload_n 0, 1, []), (.getfield 18, 3, [108, 0, 1]), (.getfield 73, 3, [105, 3, 1]), (.invokevirtual 76, 3, [16, 1, 101]), (.aload_n 0, 1, []), (.iconst 0, 1, []), (.putfield 79, 3, [108, 9, 2]), (.return_, 1, [])]
/-- TinyShell$Runner.begin(LTinyShell$State;)V -/
def P_82 (b : Nat) : List mOp × Nat := (k_82_0, 0)
def J_82 : MethodName × ByteArray × Nat × Option FieldType × Nat × Nat × List Nat := (⟨"TinyShell$Runner", "begin", "(LTinyShell$State;)V"⟩, prog_6_method_2_code, 2, none, 10, 176, [0])
def k_83_0 : List mOp := [(.aload_n 0, 1, []), (.getfield 9, 3, [108, 1, 1]), (.getfield 83, 3, [106, 0, 1]), (.iload_n 1, 1, []), (.iconst 0, 1, []), (.invokevirtual 91, 3, [44, 3, 104]), (.istore_n 2, 1, []), (.iload_n 2, 1, []), (.iconst 3, 1, []), (.if_icmp .eq (49), 3, [8]), (.aload_n 0, 1, []), (.iload_n 2, 1, []), (.ifCond .eq (31), 3, [5]), (.iload_n 2, 1, []), (.iconst 1, 1, []), (.if_icmp .ne (7), 3, [1]), (.iconst 1, 1, []), (.goto (4), 3, [2])]
def k_83_1 : List mOp := [(.iconst 0, 1, [])]
def k_83_2 : List mOp := [(.aload_n 0, 1, []), (.getfield 18, 3, [108, 0, 1]), (.getfield 95, 3, [105, 4, 0]), (.ifCond .ne (7), 3, [3]), (.iconst 1, 1, []), (.goto (4), 3, [4])]
def k_83_3 : List mOp := [(.iconst 0, 1, [])]
def k_83_4 : List mOp := [(.if_icmp .ne (7), 3, [6])]
def k_83_5 : List mOp := [(.iconst 1, 1, []), (.goto (4), 3, [7])]
def k_83_6 : List mOp := [(.iconst 0, 1, [])]
def k_83_7 : List mOp := [(.putfield 99, 3, [108, 8, 2]), (.aload_n 0, 1, []), (.iconst 0, 1, []), (.putfield 102, 3, [108, 10, 0])]
def k_83_8 : List mOp := [(.aload_n 0, 1, []), (.getfield 99, 3, [108, 8, 0]), (.ifCond .eq (14), 3, [9]), (.aload_n 0, 1, []), (.getfield 79, 3, [108, 9, 0]), (.ifCond .ne (7), 3, [9]), (.iconst 1, 1, []), (.goto (4), 3, [10])]
def k_83_9 : List mOp := [(.iconst 0, 1, [])]
def k_83_10 : List mOp := [(.ireturn, 1, [1])]
/-- TinyShell$Runner.isDue(I)Z -/
def P_83 (b : Nat) : List mOp × Nat := cond (Nat.blt b 5) (cond (Nat.blt b 2) (cond (Nat.blt b 1) ((k_83_0, 0)) ((k_83_1, 2))) (cond (Nat.blt b 3) ((k_83_2, 0)) (cond (Nat.blt b 4) ((k_83_3, 4)) ((k_83_4, 5))))) (cond (Nat.blt b 8) (cond (Nat.blt b 6) ((k_83_5, 0)) (cond (Nat.blt b 7) ((k_83_6, 7)) ((k_83_7, 8)))) (cond (Nat.blt b 9) ((k_83_8, 0)) (cond (Nat.blt b 10) ((k_83_9, 10)) ((k_83_10, 0)))))
def J_83 : MethodName × ByteArray × Nat × Option FieldType × Nat × Nat × List Nat := (⟨"TinyShell$Runner", "isDue", "(I)Z"⟩, prog_6_method_3_code, 3, some (Jvm.ClassFile.FieldType.boolean), 1, 23, [0, 32, 33, 47, 48, 51, 55, 56, 64, 82, 83])
def k_84_0 : List mOp := [(.aload_n 0, 1, []), (.dup, 1, []), (.getfield 102, 3, [108, 10, 0]), (.iconst 1, 1, []), (.iadd, 1, []), (.putfield 102, 3, [108, 10, 0]), (.aload_n 0, 1, []), (.getfield 102, 3, [108, 10, 0]), (.bipush 6, 2, []), (.if_icmp .le (13), 3, [1]), (.new 105, 3, [91, 107, 109])]
def k_84_1 : List mOp := [(.aload_n 0, 1, []), (.getfield 36, 3, [108, 3, 1]), (.aload_n 0, 1, []), (.getfield 102, 3, [108, 10, 0]), (.iconst 1, 1, []), (.if_icmp .le (7), 3, [2]), (.iconst 1, 1, []), (.goto (4), 3, [3])]
def k_84_2 : List mOp := [(.iconst 0, 1, [])]
def k_84_3 : List mOp := [(.invokevirtual 112, 3, [93, 2, 109]), (.aload_n 0, 1, []), (.iload_n 1, 1, []), (.invokevirtual 116, 3, [88, 2, 108]), (.ifCond .ne (31), 3, [4]), (.aload_n 0, 1, []), (.getfield 45, 3, [108, 4, 1]), (.aload_n 0, 1, []), (.getfield 18, 3, [108, 0, 1]), (.getfield 120, 3, [105, 0, 1]), (.invokevirtual 123, 3, [40, 2, 103]), (.aload_n 0, 1, []), (.getfield 54, 3, [108, 5, 1]), (.aload_n 0, 1, []), (.getfield 18, 3, [108, 0, 1]), (.getfield 126, 3, [105, 1, 1]), (.invokevirtual 129, 3, [32, 2, 102])]
def k_84_4 : List mOp := [(.return_, 1, [])]
/-- TinyShell$Runner.startCommand(I)V -/
def P_84 (b : Nat) : List mOp × Nat := cond (Nat.blt b 2) (cond (Nat.blt b 1) ((k_84_0, 0)) ((k_84_1, 0))) (cond (Nat.blt b 3) ((k_84_2, 3)) (cond (Nat.blt b 4) ((k_84_3, 4)) ((k_84_4, 0))))
def J_84 : MethodName × ByteArray × Nat × Option FieldType × Nat × Nat × List Nat := (⟨"TinyShell$Runner", "startCommand", "(I)V"⟩, prog_6_method_4_code, 2, none, 9, 155, [0, 29, 45, 46, 85])
def k_85_0 : List mOp := [(.aload_n 0, 1, []), (.getfield 27, 3, [108, 2, 1]), (.iload_n 1, 1, []), (.aload_n 0, 1, []), (.getfield 36, 3, [108, 3, 1]), (.getfield 132, 3, [109, 0, 1]), (.invokevirtual 135, 3, [71, 3, 107]), (.aload_n 0, 1, []), (.iload_n 1, 1, []), (.invokevirtual 139, 3, [89, 2, 108]), (.ifCond .ne (5), 3, [1]), (.iconst 1, 1, []), (.ireturn, 1, [0])]
def k_85_1 : List mOp := [(.aload_n 0, 1, []), (.iload_n 1, 1, []), (.invokevirtual 142, 3, [90, 2, 108]), (.aload_n 0, 1, []), (.getfield 36, 3, [108, 3, 1]), (.getfield 132, 3, [109, 0, 1]), (.invokevirtual 145, 3, [26, 1, 102]), (.ifCond .ne (5), 3, [2]), (.iconst 0, 1, []), (.ireturn, 1, [0])]
def k_85_2 : List mOp := [(.aload_n 0, 1, []), (.getfield 63, 3, [108, 6, 1]), (.invokevirtual 149, 3, [14, 1, 101]), (.ifCond .le (37), 3, [3]), (.aload_n 0, 1, []), (.getfield 36, 3, [108, 3, 1]), (.getfield 150, 3, [109, 1, 1]), (.aload_n 0, 1, []), (.getfield 18, 3, [108, 0, 1]), (.getfield 153, 3, [105, 2, 1]), (.aload_n 0, 1, []), (.getfield 18, 3, [108, 0, 1]), (.getfield 153, 3, [105, 2, 1]), (.aload_n 0, 1, []), (.getfield 63, 3, [108, 6, 1]), (.invokevirtual 156, 3, [37, 2, 103]), (.invokevirtual 160, 3, [36, 2, 103]), (.invokevirtual 164, 3, [19, 2, 101])]
def k_85_3 : List mOp := [(.aload_n 0, 1, []), (.getfield 36, 3, [108, 3, 1]), (.invokevirtual 167, 3, [94, 1, 109]), (.istore_n 2, 1, []), (.aload_n 0, 1, []), (.getfield 67, 3, [108, 7, 1]), (.invokevirtual 149, 3, [14, 1, 101]), (.ifCond .le (7), 3, [4]), (.aload_n 0, 1, []), (.invokevirtual 170, 3, [91, 1, 108])]
def k_85_4 : List mOp := [(.iload_n 2, 1, []), (.ireturn, 1, [0])]
/-- TinyShell$Runner.runCommand(I)I -/
def P_85 (b : Nat) : List mOp × Nat := cond (Nat.blt b 2) (cond (Nat.blt b 1) ((k_85_0, 0)) ((k_85_1, 0))) (cond (Nat.blt b 3) ((k_85_2, 3)) (cond (Nat.blt b 4) ((k_85_3, 4)) ((k_85_4, 0))))
def J_85 : MethodName × ByteArray × Nat × Option FieldType × Nat × Nat × List Nat := (⟨"TinyShell$Runner", "runCommand", "(I)I"⟩, prog_6_method_5_code, 3, some (Jvm.ClassFile.FieldType.int), 11, 215, [0, 25, 45, 89, 111])
def k_86_0 : List mOp := [(.aload_n 0, 1, []), (.aload_n 0, 1, []), (.getfield 36, 3, [108, 3, 1]), (.getfield 173, 3, [109, 3, 0]), (.ifCond .eq (15), 3, [1]), (.aload_n 0, 1, []), (.iload_n 1, 1, []), (.invokevirtual 116, 3, [88, 2, 108]), (.ifCond .eq (7), 3, [1]), (.iconst 1, 1, []), (.goto (4), 3, [2])]
def k_86_1 : List mOp := [(.iconst 0, 1, [])]
def k_86_2 : List mOp := [(.putfield 79, 3, [108, 9, 2]), (.aload_n 0, 1, []), (.iload_n 1, 1, []), (.invokevirtual 116, 3, [88, 2, 108]), (.ifCond .ne (31), 3, [3]), (.aload_n 0, 1, []), (.getfield 18, 3, [108, 0, 1]), (.getfield 120, 3, [105, 0, 1]), (.aload_n 0, 1, []), (.getfield 45, 3, [108, 4, 1]), (.invokevirtual 123, 3, [40, 2, 103]), (.aload_n 0, 1, []), (.getfield 18, 3, [108, 0, 1]), (.getfield 126, 3, [105, 1, 1]), (.aload_n 0, 1, []), (.getfield 54, 3, [108, 5, 1]), (.invokevirtual 129, 3, [32, 2, 102])]
def k_86_3 : List mOp := [(.aload_n 0, 1, []), (.iload_n 1, 1, []), (.iconst 1, 1, []), (.iadd, 1, []), (.invokevirtual 176, 3, [87, 2, 108]), (.ifCond .ne (39), 3, [4]), (.aload_n 0, 1, []), (.getfield 18, 3, [108, 0, 1]), (.iload_n 2, 1, []), (.putfield 95, 3, [105, 4, 0]), (.aload_n 0, 1, []), (.getfield 18, 3, [108, 0, 1]), (.getfield 73, 3, [105, 3, 1]), (.aload_n 0, 1, []), (.getfield 36, 3, [108, 3, 1]), (.getfield 179, 3, [109, 2, 1]), (.iconst 0, 1, []), (.aload_n 0, 1, []), (.getfield 36, 3, [108, 3, 1]), (.getfield 179, 3, [109, 2, 1]), (.invokevirtual 149, 3, [14, 1, 101]), (.invokevirtual 182, 3, [18, 4, 101])]
def k_86_4 : List mOp := [(.return_, 1, [])]
/-- TinyShell$Runner.endCommand(II)V -/
def P_86 (b : Nat) : List mOp × Nat := cond (Nat.blt b 2) (cond (Nat.blt b 1) ((k_86_0, 0)) ((k_86_1, 2))) (cond (Nat.blt b 3) ((k_86_2, 3)) (cond (Nat.blt b 4) ((k_86_3, 4)) ((k_86_4, 0))))
def J_86 : MethodName × ByteArray × Nat × Option FieldType × Nat × Nat × List Nat := (⟨"TinyShell$Runner", "endCommand", "(II)V"⟩, prog_6_method_6_code, 3, none, 9, 155, [0, 23, 24, 63, 109])
def k_87_0 : List mOp := [(.aload_n 0, 1, []), (.getfield 9, 3, [108, 1, 1]), (.getfield 83, 3, [106, 0, 1]), (.iload_n 1, 1, []), (.iconst 0, 1, []), (.invokevirtual 91, 3, [44, 3, 104]), (.iconst 3, 1, []), (.if_icmp .ne (7), 3, [1]), (.iconst 1, 1, []), (.goto (4), 3, [2])]
def k_87_1 : List mOp := [(.iconst 0, 1, [])]
def k_87_2 : List mOp := [(.ireturn, 1, [1])]
/-- TinyShell$Runner.isPiped(I)Z -/
def P_87 (b : Nat) : List mOp × Nat := cond (Nat.blt b 1) ((k_87_0, 0)) (cond (Nat.blt b 2) ((k_87_1, 2)) ((k_87_2, 0)))
def J_87 : MethodName × ByteArray × Nat × Option FieldType × Nat × Nat × List Nat := (⟨"TinyShell$Runner", "isPiped", "(I)Z"⟩, prog_6_method_7_code, 2, some (Jvm.ClassFile.FieldType.boolean), 1, 23, [0, 20, 21])
def k_88_0 : List mOp := [(.aload_n 0, 1, []), (.iload_n 1, 1, []), (.invokevirtual 176, 3, [87, 2, 108]), (.ifCond .ne (17), 3, [1]), (.aload_n 0, 1, []), (.iload_n 1, 1, []), (.iconst 1, 1, []), (.iadd, 1, []), (.invokevirtual 176, 3, [87, 2, 108]), (.ifCond .ne (7), 3, [1]), (.iconst 1, 1, []), (.goto (4), 3, [2])]
def k_88_1 : List mOp := [(.iconst 0, 1, [])]
def k_88_2 : List mOp := [(.ireturn, 1, [1])]
/-- TinyShell$Runner.isAlone(I)Z -/
def P_88 (b : Nat) : List mOp × Nat := cond (Nat.blt b 1) ((k_88_0, 0)) (cond (Nat.blt b 2) ((k_88_1, 2)) ((k_88_2, 0)))
def J_88 : MethodName × ByteArray × Nat × Option FieldType × Nat × Nat × List Nat := (⟨"TinyShell$Runner", "isAlone", "(I)Z"⟩, prog_6_method_8_code, 2, some (Jvm.ClassFile.FieldType.boolean), 2, 44, [0, 22, 23])
def k_89_0 : List mOp := [(.aload_n 0, 1, []), (.getfield 63, 3, [108, 6, 1]), (.invokevirtual 76, 3, [16, 1, 101]), (.aload_n 0, 1, []), (.getfield 67, 3, [108, 7, 1]), (.invokevirtual 76, 3, [16, 1, 101]), (.aload_n 0, 1, []), (.getfield 9, 3, [108, 1, 1]), (.getfield 83, 3, [106, 0, 1]), (.iload_n 1, 1, []), (.iconst 2, 1, []), (.invokevirtual 91, 3, [44, 3, 104]), (.istore_n 2, 1, []), (.aload_n 0, 1, []), (.getfield 9, 3, [108, 1, 1]), (.getfield 83, 3, [106, 0, 1]), (.iload_n 1, 1, []), (.iconst 1, 1, []), (.invokevirtual 91, 3, [44, 3, 104]), (.istore_n 3, 1, [])]
def k_89_1 : List mOp := [(.iload_n 3, 1, []), (.iload_n 2, 1, []), (.if_icmp .ge (149), 3, [9]), (.aload_n 0, 1, []), (.getfield 9, 3, [108, 1, 1]), (.getfield 186, 3, [106, 1, 1]), (.iload_n 3, 1, []), (.iconst 0, 1, []), (.invokevirtual 91, 3, [44, 3, 104]), (.istore 4, 2, []), (.iload 4, 2, []), (.ifCond .eq (124), 3, [8]), (.iload 4, 2, []), (.iconst 1, 1, []), (.if_icmp .ne (6), 3, [2]), (.goto (115), 3, [8])]
def k_89_2 : List mOp := [(.iload 4, 2, []), (.iconst 2, 1, []), (.if_icmp .ne (10), 3, [3]), (.aload_n 0, 1, []), (.getfield 63, 3, [108, 6, 1]), (.goto (7), 3, [4])]
def k_89_3 : List mOp := [(.aload_n 0, 1, []), (.getfield 67, 3, [108, 7, 1])]
def k_89_4 : List mOp := [(.astore 5, 2, []), (.aload 5, 2, []), (.aload_n 0, 1, []), (.getfield 27, 3, [108, 2, 1]), (.iload_n 3, 1, []), (.invokevirtual 189, 3, [72, 2, 107]), (.invokevirtual 164, 3, [19, 2, 101]), (.aload 5, 2, []), (.invokevirtual 149, 3, [14, 1, 101]), (.ifCond .eq (24), 3, [5]), (.iload 4, 2, []), (.iconst 2, 1, []), (.if_icmp .ne (20), 3, [6]), (.aload_n 0, 1, []), (.getfield 18, 3, [108, 0, 1]), (.getfield 153, 3, [105, 2, 1]), (.aload 5, 2, []), (.invokevirtual 156, 3, [37, 2, 103]), (.ifCond .ge (5), 3, [6])]
def k_89_5 : List mOp := [(.iconst 0, 1, []), (.ireturn, 1, [1])]
def k_89_6 : List mOp := [(.iload 4, 2, []), (.iconst 2, 1, []), (.if_icmp .eq (15), 3, [7]), (.aload_n 0, 1, []), (.getfield 18, 3, [108, 0, 1]), (.getfield 153, 3, [105, 2, 1]), (.aload 5, 2, []), (.invokevirtual 192, 3, [38, 2, 103])]
def k_89_7 : List mOp := [(.iload 4, 2, []), (.iconst 3, 1, []), (.if_icmp .ne (28), 3, [8]), (.aload_n 0, 1, []), (.getfield 18, 3, [108, 0, 1]), (.getfield 153, 3, [105, 2, 1]), (.aload_n 0, 1, []), (.getfield 18, 3, [108, 0, 1]), (.getfield 153, 3, [105, 2, 1]), (.aload 5, 2, []), (.invokevirtual 156, 3, [37, 2, 103]), (.invokevirtual 160, 3, [36, 2, 103]), (.invokevirtual 76, 3, [16, 1, 101])]
def k_89_8 : List mOp := [(.iinc 3 1, 3, []), (.goto (-148), 3, [1])]
def k_89_9 : List mOp := [(.iconst 1, 1, []), (.ireturn, 1, [1])]
/-- TinyShell$Runner.redirect(I)Z -/
def P_89 (b : Nat) : List mOp × Nat := cond (Nat.blt b 5) (cond (Nat.blt b 2) (cond (Nat.blt b 1) ((k_89_0, 1)) ((k_89_1, 0))) (cond (Nat.blt b 3) ((k_89_2, 0)) (cond (Nat.blt b 4) ((k_89_3, 4)) ((k_89_4, 5))))) (cond (Nat.blt b 7) (cond (Nat.blt b 6) ((k_89_5, 0)) ((k_89_6, 7))) (cond (Nat.blt b 8) ((k_89_7, 8)) (cond (Nat.blt b 9) ((k_89_8, 0)) ((k_89_9, 0)))))
def J_89 : MethodName × ByteArray × Nat × Option FieldType × Nat × Nat × List Nat := (⟨"TinyShell$Runner", "redirect", "(I)Z"⟩, prog_6_method_9_code, 6, some (Jvm.ClassFile.FieldType.boolean), 10, 190, [0, 40, 73, 86, 90, 134, 136, 154, 185, 191])
def k_90_0 : List mOp := [(.aload_n 0, 1, []), (.getfield 9, 3, [108, 1, 1]), (.getfield 83, 3, [106, 0, 1]), (.iload_n 1, 1, []), (.iconst 2, 1, []), (.invokevirtual 91, 3, [44, 3, 104]), (.istore_n 2, 1, []), (.aload_n 0, 1, []), (.getfield 9, 3, [108, 1, 1]), (.getfield 83, 3, [106, 0, 1]), (.iload_n 1, 1, []), (.iconst 1, 1, []), (.invokevirtual 91, 3, [44, 3, 104]), (.istore_n 3, 1, [])]
def k_90_1 : List mOp := [(.iload_n 3, 1, []), (.iload_n 2, 1, []), (.if_icmp .ge (100), 3, [4]), (.aload_n 0, 1, []), (.getfield 9, 3, [108, 1, 1]), (.getfield 186, 3, [106, 1, 1]), (.iload_n 3, 1, []), (.iconst 0, 1, []), (.invokevirtual 91, 3, [44, 3, 104]), (.iconst 1, 1, []), (.if_icmp .eq (6), 3, [2]), (.goto (75), 3, [3])]
def k_90_2 : List mOp := [(.aload_n 0, 1, []), (.getfield 27, 3, [108, 2, 1]), (.iload_n 3, 1, []), (.invokevirtual 189, 3, [72, 2, 107]), (.astore 4, 2, []), (.aload_n 0, 1, []), (.getfield 36, 3, [108, 3, 1]), (.getfield 132, 3, [109, 0, 1]), (.invokevirtual 145, 3, [26, 1, 102]), (.ifCond .ne (52), 3, [3]), (.aload_n 0, 1, []), (.getfield 27, 3, [108, 2, 1]), (.iload_n 3, 1, []), (.invokevirtual 195, 3, [73, 2, 107]), (.astore 5, 2, []), (.aload_n 0, 1, []), (.getfield 18, 3, [108, 0, 1]), (.getfield 120, 3, [105, 0, 1]), (.aload 5, 2, []), (.invokevirtual 192, 3, [38, 2, 103]), (.aload_n 0, 1, []), (.getfield 18, 3, [108, 0, 1]), (.getfield 120, 3, [105, 0, 1]), (.aload_n 0, 1, []), (.getfield 18, 3, [108, 0, 1]), (.getfield 120, 3, [105, 0, 1]), (.aload 5, 2, []), (.invokevirtual 156, 3, [37, 2, 103]), (.invokevirtual 160, 3, [36, 2, 103]), (.aload 4, 2, []), (.invokevirtual 164, 3, [19, 2, 101])]
def k_90_3 : List mOp := [(.iinc 3 1, 3, []), (.goto (-99), 3, [1])]
def k_90_4 : List mOp := [(.return_, 1, [])]
/-- TinyShell$Runner.assign(I)V -/
def P_90 (b : Nat) : List mOp × Nat := cond (Nat.blt b 2) (cond (Nat.blt b 1) ((k_90_0, 1)) ((k_90_1, 0))) (cond (Nat.blt b 3) ((k_90_2, 3)) (cond (Nat.blt b 4) ((k_90_3, 0)) ((k_90_4, 0))))
def J_90 : MethodName × ByteArray × Nat × Option FieldType × Nat × Nat × List Nat := (⟨"TinyShell$Runner", "assign", "(I)V"⟩, prog_6_method_10_code, 6, none, 10, 190, [0, 26, 50, 122, 128])
def k_91_0 : List mOp := [(.aload_n 0, 1, []), (.getfield 18, 3, [108, 0, 1]), (.getfield 153, 3, [105, 2, 1]), (.aload_n 0, 1, []), (.getfield 67, 3, [108, 7, 1]), (.invokevirtual 156, 3, [37, 2, 103]), (.istore_n 1, 1, []), (.iload_n 1, 1, []), (.ifCond .lt (35), 3, [1]), (.aload_n 0, 1, []), (.getfield 18, 3, [108, 0, 1]), (.getfield 153, 3, [105, 2, 1]), (.iload_n 1, 1, []), (.invokevirtual 160, 3, [36, 2, 103]), (.aload_n 0, 1, []), (.getfield 36, 3, [108, 3, 1]), (.getfield 179, 3, [109, 2, 1]), (.iconst 0, 1, []), (.aload_n 0, 1, []), (.getfield 36, 3, [108, 3, 1]), (.getfield 179, 3, [109, 2, 1]), (.invokevirtual 149, 3, [14, 1, 101]), (.invokevirtual 182, 3, [18, 4, 101])]
def k_91_1 : List mOp := [(.aload_n 0, 1, []), (.getfield 36, 3, [108, 3, 1]), (.getfield 179, 3, [109, 2, 1]), (.invokevirtual 76, 3, [16, 1, 101]), (.return_, 1, [])]
/-- TinyShell$Runner.sendToFile()V -/
def P_91 (b : Nat) : List mOp × Nat := cond (Nat.blt b 1) ((k_91_0, 1)) ((k_91_1, 0))
def J_91 : MethodName × ByteArray × Nat × Option FieldType × Nat × Nat × List Nat := (⟨"TinyShell$Runner", "sendToFile", "()V"⟩, prog_6_method_11_code, 2, none, 7, 114, [0, 51])
def k_92_0 : List mOp := [(.aload_n 0, 1, []), (.invokespecial 3, 3, []), (.aload_n 0, 1, []), (.aload_n 1, 1, []), (.putfield 9, 3, [109, 4, 1]), (.aload_n 0, 1, []), (.new 15, 3, [102, 3]), (.dup, 1, []), (.bipush 16, 2, []), (.bipush 40, 2, []), (.invokespecial 17, 3, [25, 3]), (.putfield 20, 3, [109, 0, 1]), (.aload_n 0, 1, []), (.new 24, 3, [101, 2]), (.dup, 1, []), (.sipush 240, 3, []), (.invokespecial 26, 3, [13, 2]), (.putfield 29, 3, [109, 1, 1]), (.aload_n 0, 1, []), (.new 24, 3, [101, 2]), (.dup, 1, []), (.sipush 240, 3, []), (.invokespecial 26, 3, [13, 2]), (.putfield 33, 3, [109, 2, 1]), (.aload_n 0, 1, []), (.new 36, 3, [110, 3]), (.dup, 1, []), (.aload_n 0, 1, []), (.getfield 29, 3, [109, 1, 1]), (.aload_n 0, 1, []), (.getfield 33, 3, [109, 2, 1]), (.invokespecial 38, 3, [105, 3]), (.putfield 41, 3, [109, 5, 1]), (.aload_n 0, 1, []), (.iconst 0, 1, []), (.putfield 45, 3, [109, 3, 2]), (.return_, 1, [])]
/-- TinyShell$Tools.<init>(LTinyShell$State;)V -/
def P_92 (b : Nat) : List mOp × Nat := (k_92_0, 0)
def J_92 : MethodName × ByteArray × Nat × Option FieldType × Nat × Nat × List Nat := (⟨"TinyShell$Tools", "<init>", "(LTinyShell$State;)V"⟩, prog_12_method_1_code, 2, none, 3, 65, [0])
def k_93_0 : List mOp := [(.aload_n 0, 1, []), (.getfield 29, 3, [109, 1, 1]), (.invokevirtual 49, 3, [16, 1, 101]), (.iload_n 1, 1, []), (.ifCond .eq (14), 3, [1]), (.aload_n 0, 1, []), (.getfield 29, 3, [109, 1, 1]), (.aload_n 0, 1, []), (.getfield 33, 3, [109, 2, 1]), (.invokevirtual 52, 3, [19, 2, 101])]
def k_93_1 : List mOp := [(.aload_n 0, 1, []), (.getfield 33, 3, [109, 2, 1]), (.invokevirtual 49, 3, [16, 1, 101]), (.aload_n 0, 1, []), (.iconst 0, 1, []), (.putfield 45, 3, [109, 3, 2]), (.return_, 1, [])]
/-- TinyShell$Tools.begin(Z)V -/
def P_93 (b : Nat) : List mOp × Nat := cond (Nat.blt b 1) ((k_93_0, 1)) ((k_93_1, 0))
def J_93 : MethodName × ByteArray × Nat × Option FieldType × Nat × Nat × List Nat := (⟨"TinyShell$Tools", "begin", "(Z)V"⟩, prog_12_method_2_code, 2, none, 7, 112, [0, 22])
def k_94_0 : List mOp := [(.aload_n 0, 1, []), (.getfield 20, 3, [109, 0, 1]), (.iconst 0, 1, []), (.invokevirtual 56, 3, [27, 2, 102]), (.invokestatic 60, 3, [115, 1]), (.astore_n 1, 1, []), (.aload_n 1, 1, []), (.aload_n 0, 1, []), (.getfield 20, 3, [109, 0, 1]), (.invokevirtual 66, 3, [26, 1, 102]), (.iconst 1, 1, []), (.isub, 1, []), (.invokevirtual 70, 3, [116, 2, 212, 0]), (.ifCond .ne (5), 3, [1]), (.iconst 2, 1, []), (.ireturn, 1, [0])]
def k_94_1 : List mOp := [(.aload_n 0, 1, []), (.getfield 41, 3, [109, 5, 1]), (.invokevirtual 74, 3, [106, 1, 110]), (.getstatic 77, 3, [401]), (.aload_n 1, 1, []), (.invokevirtual 83, 3, [206, 1, 212, 1]), (.iaload, 1, [0, 2]), (.tableswitch (173) 1 16 #[79, 84, 89, 91, 93, 98, 103, 108, 113, 118, 126, 134, 142, 158, 163, 168], 79, [18, 2, 3, 4, 5, 6, 7, 8, 9, 10, 11, 12, 13, 14, 15, 16, 17])]
def k_94_2 : List mOp := [(.aload_n 0, 1, []), (.invokevirtual 86, 3, [95, 1, 109]), (.ireturn, 1, [0])]
def k_94_3 : List mOp := [(.aload_n 0, 1, []), (.invokevirtual 89, 3, [96, 1, 109]), (.ireturn, 1, [0])]
def k_94_4 : List mOp := [(.iconst 0, 1, []), (.ireturn, 1, [0])]
def k_94_5 : List mOp := [(.iconst 1, 1, []), (.ireturn, 1, [0])]
def k_94_6 : List mOp := [(.aload_n 0, 1, []), (.invokevirtual 92, 3, [97, 1, 109]), (.ireturn, 1, [0])]
def k_94_7 : List mOp := [(.aload_n 0, 1, []), (.invokevirtual 95, 3, [98, 1, 109]), (.ireturn, 1, [0])]
def k_94_8 : List mOp := [(.aload_n 0, 1, []), (.invokevirtual 98, 3, [99, 1, 109]), (.ireturn, 1, [0])]
def k_94_9 : List mOp := [(.aload_n 0, 1, []), (.invokevirtual 101, 3, [100, 1, 109]), (.ireturn, 1, [0])]
def k_94_10 : List mOp := [(.aload_n 0, 1, []), (.invokevirtual 104, 3, [104, 1, 109]), (.ireturn, 1, [0])]
def k_94_11 : List mOp := [(.aload_n 0, 1, []), (.getfield 41, 3, [109, 5, 1]), (.invokevirtual 107, 3, [109, 1, 110]), (.ireturn, 1, [0])]
def k_94_12 : List mOp := [(.aload_n 0, 1, []), (.getfield 41, 3, [109, 5, 1]), (.invokevirtual 110, 3, [107, 1, 110]), (.ireturn, 1, [0])]
def k_94_13 : List mOp := [(.aload_n 0, 1, []), (.getfield 41, 3, [109, 5, 1]), (.invokevirtual 113, 3, [110, 1, 110]), (.ireturn, 1, [0])]
def k_94_14 : List mOp := [(.aload_n 0, 1, []), (.getfield 41, 3, [109, 5, 1]), (.aload_n 0, 1, []), (.getfield 20, 3, [109, 0, 1]), (.iconst 1, 1, []), (.invokevirtual 56, 3, [27, 2, 102]), (.invokevirtual 116, 3, [111, 2, 110]), (.ireturn, 1, [0])]
def k_94_15 : List mOp := [(.aload_n 0, 1, []), (.invokevirtual 120, 3, [101, 1, 109]), (.ireturn, 1, [0])]
def k_94_16 : List mOp := [(.aload_n 0, 1, []), (.invokevirtual 123, 3, [102, 1, 109]), (.ireturn, 1, [0])]
def k_94_17 : List mOp := [(.aload_n 0, 1, []), (.invokevirtual 126, 3, [103, 1, 109]), (.ireturn, 1, [0])]
def k_94_18 : List mOp := [(.bipush 127, 2, []), (.ireturn, 1, [0])]
/-- TinyShell$Tools.call()I -/
def P_94 (b : Nat) : List mOp × Nat := cond (Nat.blt b 9) (cond (Nat.blt b 4) (cond (Nat.blt b 2) (cond (Nat.blt b 1) ((k_94_0, 0)) ((k_94_1, 0))) (cond (Nat.blt b 3) ((k_94_2, 0)) ((k_94_3, 0)))) (cond (Nat.blt b 6) (cond (Nat.blt b 5) ((k_94_4, 0)) ((k_94_5, 0))) (cond (Nat.blt b 7) ((k_94_6, 0)) (cond (Nat.blt b 8) ((k_94_7, 0)) ((k_94_8, 0)))))) (cond (Nat.blt b 14) (cond (Nat.blt b 11) (cond (Nat.blt b 10) ((k_94_9, 0)) ((k_94_10, 0))) (cond (Nat.blt b 12) ((k_94_11, 0)) (cond (Nat.blt b 13) ((k_94_12, 0)) ((k_94_13, 0))))) (cond (Nat.blt b 16) (cond (Nat.blt b 15) ((k_94_14, 0)) ((k_94_15, 0))) (cond (Nat.blt b 17) ((k_94_16, 0)) (cond (Nat.blt b 18) ((k_94_17, 0)) ((k_94_18, 0))))))
def J_94 : MethodName × ByteArray × Nat × Option FieldType × Nat × Nat × List Nat := (⟨"TinyShell$Tools", "call", "()I"⟩, prog_12_method_3_code, 2, some (Jvm.ClassFile.FieldType.int), 10, 179, [0, 30, 124, 129, 134, 136, 138, 143, 148, 153, 158, 163, 171, 179, 187, 203, 208, 213, 218])
def k_95_0 : List mOp := [(.iconst 1, 1, []), (.istore_n 1, 1, [])]
def k_95_1 : List mOp := [(.iload_n 1, 1, []), (.aload_n 0, 1, []), (.getfield 20, 3, [109, 0, 1]), (.invokevirtual 66, 3, [26, 1, 102]), (.if_icmp .ge (50), 3, [3]), (.iload_n 1, 1, []), (.iconst 1, 1, []), (.if_icmp .le (12), 3, [2]), (.aload_n 0, 1, []), (.getfield 33, 3, [109, 2, 1]), (.bipush 32, 2, []), (.invokevirtual 129, 3, [17, 2, 101])]
def k_95_2 : List mOp := [(.aload_n 0, 1, []), (.getfield 33, 3, [109, 2, 1]), (.aload_n 0, 1, []), (.getfield 20, 3, [109, 0, 1]), (.iload_n 1, 1, []), (.invokevirtual 56, 3, [27, 2, 102]), (.iconst 0, 1, []), (.aload_n 0, 1, []), (.getfield 20, 3, [109, 0, 1]), (.iload_n 1, 1, []), (.invokevirtual 56, 3, [27, 2, 102]), (.invokevirtual 133, 3, [14, 1, 101]), (.invokevirtual 134, 3, [18, 4, 101]), (.iinc 1 1, 3, []), (.goto (-55), 3, [1])]
def k_95_3 : List mOp := [(.aload_n 0, 1, []), (.getfield 33, 3, [109, 2, 1]), (.bipush 10, 2, []), (.invokevirtual 129, 3, [17, 2, 101]), (.iconst 0, 1, []), (.ireturn, 1, [0])]
/-- TinyShell$Tools.echo()I -/
def P_95 (b : Nat) : List mOp × Nat := cond (Nat.blt b 2) (cond (Nat.blt b 1) ((k_95_0, 1)) ((k_95_1, 2))) (cond (Nat.blt b 3) ((k_95_2, 0)) ((k_95_3, 0)))
def J_95 : MethodName × ByteArray × Nat × Option FieldType × Nat × Nat × List Nat := (⟨"TinyShell$Tools", "echo", "()I"⟩, prog_12_method_4_code, 2, some (Jvm.ClassFile.FieldType.int), 7, 114, [0, 2, 27, 60])
def k_96_0 : List mOp := [(.aload_n 0, 1, []), (.getfield 20, 3, [109, 0, 1]), (.invokevirtual 66, 3, [26, 1, 102]), (.iconst 1, 1, []), (.if_icmp .ne (22), 3, [1]), (.aload_n 0, 1, []), (.getfield 33, 3, [109, 2, 1]), (.aload_n 0, 1, []), (.getfield 29, 3, [109, 1, 1]), (.iconst 0, 1, []), (.aload_n 0, 1, []), (.getfield 29, 3, [109, 1, 1]), (.invokevirtual 133, 3, [14, 1, 101]), (.invokevirtual 134, 3, [18, 4, 101])]
def k_96_1 : List mOp := [(.iconst 0, 1, []), (.istore_n 1, 1, []), (.iconst 1, 1, []), (.istore_n 2, 1, [])]
def k_96_2 : List mOp := [(.iload_n 2, 1, []), (.aload_n 0, 1, []), (.getfield 20, 3, [109, 0, 1]), (.invokevirtual 66, 3, [26, 1, 102]), (.if_icmp .ge (71), 3, [5]), (.aload_n 0, 1, []), (.getfield 9, 3, [109, 4, 1]), (.getfield 138, 3, [105, 2, 1]), (.aload_n 0, 1, []), (.getfield 20, 3, [109, 0, 1]), (.iload_n 2, 1, []), (.invokevirtual 56, 3, [27, 2, 102]), (.invokevirtual 144, 3, [37, 2, 103]), (.istore_n 3, 1, []), (.aload_n 0, 1, []), (.getfield 33, 3, [109, 2, 1]), (.aload_n 0, 1, []), (.getfield 9, 3, [109, 4, 1]), (.getfield 138, 3, [105, 2, 1]), (.iload_n 3, 1, []), (.invokevirtual 149, 3, [36, 2, 103]), (.iconst 0, 1, []), (.aload_n 0, 1, []), (.getfield 9, 3, [109, 4, 1]), (.getfield 138, 3, [105, 2, 1]), (.iload_n 3, 1, []), (.invokevirtual 149, 3, [36, 2, 103]), (.invokevirtual 133, 3, [14, 1, 101]), (.invokevirtual 134, 3, [18, 4, 101]), (.iload_n 3, 1, []), (.ifCond .ge (7), 3, [3]), (.iconst 1, 1, []), (.goto (4), 3, [4])]
def k_96_3 : List mOp := [(.iload_n 1, 1, [])]
def k_96_4 : List mOp := [(.istore_n 1, 1, []), (.iinc 2 1, 3, []), (.goto (-76), 3, [2])]
def k_96_5 : List mOp := [(.iload_n 1, 1, []), (.ireturn, 1, [0])]
/-- TinyShell$Tools.cat()I -/
def P_96 (b : Nat) : List mOp × Nat := cond (Nat.blt b 3) (cond (Nat.blt b 1) ((k_96_0, 1)) (cond (Nat.blt b 2) ((k_96_1, 2)) ((k_96_2, 0)))) (cond (Nat.blt b 4) ((k_96_3, 4)) (cond (Nat.blt b 5) ((k_96_4, 0)) ((k_96_5, 0))))
def J_96 : MethodName × ByteArray × Nat × Option FieldType × Nat × Nat × List Nat := (⟨"TinyShell$Tools", "cat", "()I"⟩, prog_12_method_5_code, 4, some (Jvm.ClassFile.FieldType.int), 7, 114, [0, 30, 34, 105, 106, 113])
def k_97_0 : List mOp := [(.aload_n 0, 1, []), (.getfield 9, 3, [109, 4, 1]), (.getfield 152, 3, [105, 1, 1]), (.invokevirtual 155, 3, [29, 1, 102]), (.iconst 1, 1, []), (.istore_n 1, 1, [])]
def k_97_1 : List mOp := [(.iload_n 1, 1, []), (.aload_n 0, 1, []), (.getfield 20, 3, [109, 0, 1]), (.invokevirtual 66, 3, [26, 1, 102]), (.if_icmp .ge (27), 3, [2]), (.aload_n 0, 1, []), (.getfield 9, 3, [109, 4, 1]), (.getfield 152, 3, [105, 1, 1]), (.aload_n 0, 1, []), (.getfield 20, 3, [109, 0, 1]), (.iload_n 1, 1, []), (.invokevirtual 56, 3, [27, 2, 102]), (.invokevirtual 156, 3, [31, 2, 102]), (.iinc 1 1, 3, []), (.goto (-32), 3, [1])]
def k_97_2 : List mOp := [(.iconst 0, 1, []), (.ireturn, 1, [0])]
/-- TinyShell$Tools.setPositions()I -/
def P_97 (b : Nat) : List mOp × Nat := cond (Nat.blt b 1) ((k_97_0, 1)) (cond (Nat.blt b 2) ((k_97_1, 0)) ((k_97_2, 0)))
def J_97 : MethodName × ByteArray × Nat × Option FieldType × Nat × Nat × List Nat := (⟨"TinyShell$Tools", "setPositions", "()I"⟩, prog_12_method_6_code, 2, some (Jvm.ClassFile.FieldType.int), 8, 133, [0, 12, 47])
def k_98_0 : List mOp := [(.iconst 1, 1, []), (.istore_n 1, 1, [])]
def k_98_1 : List mOp := [(.iload_n 1, 1, []), (.aload_n 0, 1, []), (.getfield 20, 3, [109, 0, 1]), (.invokevirtual 66, 3, [26, 1, 102]), (.if_icmp .ge (37), 3, [2]), (.aload_n 0, 1, []), (.getfield 9, 3, [109, 4, 1]), (.getfield 158, 3, [105, 0, 1]), (.aload_n 0, 1, []), (.getfield 9, 3, [109, 4, 1]), (.getfield 158, 3, [105, 0, 1]), (.aload_n 0, 1, []), (.getfield 20, 3, [109, 0, 1]), (.iload_n 1, 1, []), (.invokevirtual 56, 3, [27, 2, 102]), (.invokevirtual 144, 3, [37, 2, 103]), (.invokevirtual 161, 3, [39, 2, 103]), (.iinc 1 1, 3, []), (.goto (-42), 3, [1])]
def k_98_2 : List mOp := [(.iconst 0, 1, []), (.ireturn, 1, [0])]
/-- TinyShell$Tools.unset()I -/
def P_98 (b : Nat) : List mOp × Nat := cond (Nat.blt b 1) ((k_98_0, 1)) (cond (Nat.blt b 2) ((k_98_1, 0)) ((k_98_2, 0)))
def J_98 : MethodName × ByteArray × Nat × Option FieldType × Nat × Nat × List Nat := (⟨"TinyShell$Tools", "unset", "()I"⟩, prog_12_method_7_code, 2, some (Jvm.ClassFile.FieldType.int), 2, 45, [0, 2, 47])
def k_99_0 : List mOp := [(.iconst 0, 1, []), (.istore_n 1, 1, []), (.iconst 1, 1, []), (.istore_n 2, 1, [])]
def k_99_1 : List mOp := [(.iload_n 2, 1, []), (.aload_n 0, 1, []), (.getfield 20, 3, [109, 0, 1]), (.invokevirtual 66, 3, [26, 1, 102]), (.if_icmp .ge (49), 3, [4]), (.aload_n 0, 1, []), (.getfield 9, 3, [109, 4, 1]), (.getfield 138, 3, [105, 2, 1]), (.aload_n 0, 1, []), (.getfield 20, 3, [109, 0, 1]), (.iload_n 2, 1, []), (.invokevirtual 56, 3, [27, 2, 102]), (.invokevirtual 144, 3, [37, 2, 103]), (.istore_n 3, 1, []), (.aload_n 0, 1, []), (.getfield 9, 3, [109, 4, 1]), (.getfield 138, 3, [105, 2, 1]), (.iload_n 3, 1, []), (.invokevirtual 161, 3, [39, 2, 103]), (.iload_n 3, 1, []), (.ifCond .ge (7), 3, [2]), (.iconst 1, 1, []), (.goto (4), 3, [3])]
def k_99_2 : List mOp := [(.iload_n 1, 1, [])]
def k_99_3 : List mOp := [(.istore_n 1, 1, []), (.iinc 2 1, 3, []), (.goto (-54), 3, [1])]
def k_99_4 : List mOp := [(.iload_n 1, 1, []), (.ireturn, 1, [0])]
/-- TinyShell$Tools.removeFiles()I -/
def P_99 (b : Nat) : List mOp × Nat := cond (Nat.blt b 2) (cond (Nat.blt b 1) ((k_99_0, 1)) ((k_99_1, 0))) (cond (Nat.blt b 3) ((k_99_2, 3)) (cond (Nat.blt b 4) ((k_99_3, 0)) ((k_99_4, 0))))
def J_99 : MethodName × ByteArray × Nat × Option FieldType × Nat × Nat × List Nat := (⟨"TinyShell$Tools", "removeFiles", "()I"⟩, prog_12_method_8_code, 4, some (Jvm.ClassFile.FieldType.int), 2, 45, [0, 4, 53, 54, 61])
def k_100_0 : List mOp := [(.iconst 0, 1, []), (.istore_n 1, 1, []), (.iconst 0, 1, []), (.istore_n 2, 1, [])]
def k_100_1 : List mOp := [(.iload_n 2, 1, []), (.aload_n 0, 1, []), (.getfield 29, 3, [109, 1, 1]), (.invokevirtual 133, 3, [14, 1, 101]), (.if_icmp .ge (30), 3, [4]), (.iload_n 1, 1, []), (.aload_n 0, 1, []), (.getfield 29, 3, [109, 1, 1]), (.iload_n 2, 1, []), (.invokevirtual 164, 3, [15, 2, 101]), (.bipush 10, 2, []), (.if_icmp .ne (7), 3, [2]), (.iconst 1, 1, []), (.goto (4), 3, [3])]
def k_100_2 : List mOp := [(.iconst 0, 1, [])]
def k_100_3 : List mOp := [(.iadd, 1, []), (.istore_n 1, 1, []), (.iinc 2 1, 3, []), (.goto (-35), 3, [1])]
def k_100_4 : List mOp := [(.aload_n 0, 1, []), (.getfield 33, 3, [109, 2, 1]), (.iload_n 1, 1, []), (.invokevirtual 167, 3, [20, 2, 101]), (.aload_n 0, 1, []), (.getfield 33, 3, [109, 2, 1]), (.bipush 32, 2, []), (.invokevirtual 129, 3, [17, 2, 101]), (.aload_n 0, 1, []), (.getfield 33, 3, [109, 2, 1]), (.aload_n 0, 1, []), (.getfield 29, 3, [109, 1, 1]), (.invokevirtual 133, 3, [14, 1, 101]), (.invokevirtual 167, 3, [20, 2, 101]), (.aload_n 0, 1, []), (.getfield 33, 3, [109, 2, 1]), (.bipush 10, 2, []), (.invokevirtual 129, 3, [17, 2, 101]), (.iconst 0, 1, []), (.ireturn, 1, [0])]
/-- TinyShell$Tools.countInput()I -/
def P_100 (b : Nat) : List mOp × Nat := cond (Nat.blt b 2) (cond (Nat.blt b 1) ((k_100_0, 1)) ((k_100_1, 0))) (cond (Nat.blt b 3) ((k_100_2, 3)) (cond (Nat.blt b 4) ((k_100_3, 0)) ((k_100_4, 0))))
def J_100 : MethodName × ByteArray × Nat × Option FieldType × Nat × Nat × List Nat := (⟨"TinyShell$Tools", "countInput", "()I"⟩, prog_12_method_9_code, 3, some (Jvm.ClassFile.FieldType.int), 7, 112, [0, 4, 33, 34, 42])
def k_101_0 : List mOp := [(.aload_n 0, 1, []), (.getfield 20, 3, [109, 0, 1]), (.iconst 1, 1, []), (.invokevirtual 56, 3, [27, 2, 102]), (.invokevirtual 133, 3, [14, 1, 101]), (.iconst 1, 1, []), (.if_icmp .ne (18), 3, [1]), (.aload_n 0, 1, []), (.getfield 20, 3, [109, 0, 1]), (.iconst 2, 1, []), (.invokevirtual 56, 3, [27, 2, 102]), (.invokevirtual 133, 3, [14, 1, 101]), (.iconst 1, 1, []), (.if_icmp .eq (5), 3, [2])]
def k_101_1 : List mOp := [(.iconst 2, 1, []), (.ireturn, 1, [0])]
def k_101_2 : List mOp := [(.aload_n 0, 1, []), (.getfield 20, 3, [109, 0, 1]), (.iconst 1, 1, []), (.invokevirtual 56, 3, [27, 2, 102]), (.iconst 0, 1, []), (.invokevirtual 164, 3, [15, 2, 101]), (.istore_n 1, 1, []), (.iconst 0, 1, []), (.istore_n 2, 1, [])]
def k_101_3 : List mOp := [(.iload_n 2, 1, []), (.aload_n 0, 1, []), (.getfield 29, 3, [109, 1, 1]), (.invokevirtual 133, 3, [14, 1, 101]), (.if_icmp .ge (51), 3, [6]), (.aload_n 0, 1, []), (.getfield 33, 3, [109, 2, 1]), (.aload_n 0, 1, []), (.getfield 29, 3, [109, 1, 1]), (.iload_n 2, 1, []), (.invokevirtual 164, 3, [15, 2, 101]), (.iload_n 1, 1, []), (.if_icmp .ne (18), 3, [4]), (.aload_n 0, 1, []), (.getfield 20, 3, [109, 0, 1]), (.iconst 2, 1, []), (.invokevirtual 56, 3, [27, 2, 102]), (.iconst 0, 1, []), (.invokevirtual 164, 3, [15, 2, 101]), (.goto (11), 3, [5])]
def k_101_4 : List mOp := [(.aload_n 0, 1, []), (.getfield 29, 3, [109, 1, 1]), (.iload_n 2, 1, []), (.invokevirtual 164, 3, [15, 2, 101])]
def k_101_5 : List mOp := [(.invokevirtual 129, 3, [17, 2, 101]), (.iinc 2 1, 3, []), (.goto (-56), 3, [3])]
def k_101_6 : List mOp := [(.iconst 0, 1, []), (.ireturn, 1, [0])]
/-- TinyShell$Tools.translate()I -/
def P_101 (b : Nat) : List mOp × Nat := cond (Nat.blt b 3) (cond (Nat.blt b 1) ((k_101_0, 1)) (cond (Nat.blt b 2) ((k_101_1, 0)) ((k_101_2, 3)))) (cond (Nat.blt b 5) (cond (Nat.blt b 4) ((k_101_3, 0)) ((k_101_4, 5))) (cond (Nat.blt b 6) ((k_101_5, 0)) ((k_101_6, 0))))
def J_101 : MethodName × ByteArray × Nat × Option FieldType × Nat × Nat × List Nat := (⟨"TinyShell$Tools", "translate", "()I"⟩, prog_12_method_10_code, 3, some (Jvm.ClassFile.FieldType.int), 7, 111, [0, 30, 32, 47, 89, 97, 106])
def k_102_0 : List mOp := [(.aload_n 0, 1, []), (.getfield 20, 3, [109, 0, 1]), (.iconst 1, 1, []), (.invokevirtual 56, 3, [27, 2, 102]), (.astore_n 1, 1, []), (.aload_n 0, 1, []), (.getfield 20, 3, [109, 0, 1]), (.iconst 2, 1, []), (.invokevirtual 56, 3, [27, 2, 102]), (.astore_n 2, 1, []), (.aload_n 0, 1, []), (.getfield 20, 3, [109, 0, 1]), (.invokevirtual 66, 3, [26, 1, 102]), (.iconst 2, 1, []), (.if_icmp .ne (19), 3, [3]), (.aload_n 1, 1, []), (.invokevirtual 133, 3, [14, 1, 101]), (.ifCond .le (7), 3, [1]), (.iconst 1, 1, []), (.goto (4), 3, [2])]
def k_102_1 : List mOp := [(.iconst 0, 1, [])]
def k_102_2 : List mOp := [(.istore_n 3, 1, []), (.goto (136), 3, [13])]
def k_102_3 : List mOp := [(.aload_n 0, 1, []), (.getfield 20, 3, [109, 0, 1]), (.invokevirtual 66, 3, [26, 1, 102]), (.iconst 3, 1, []), (.if_icmp .ne (35), 3, [6]), (.aload_n 1, 1, []), (.ldc 170, 2, [117]), (.invokevirtual 172, 3, [23, 2, 101]), (.ifCond .eq (26), 3, [6]), (.aload_n 0, 1, []), (.getfield 9, 3, [109, 4, 1]), (.getfield 138, 3, [105, 2, 1]), (.aload_n 2, 1, []), (.invokevirtual 144, 3, [37, 2, 103]), (.ifCond .lt (7), 3, [4]), (.iconst 1, 1, []), (.goto (4), 3, [5])]
def k_102_4 : List mOp := [(.iconst 0, 1, [])]
def k_102_5 : List mOp := [(.istore_n 3, 1, []), (.goto (93), 3, [13])]
def k_102_6 : List mOp := [(.aload_n 0, 1, []), (.getfield 20, 3, [109, 0, 1]), (.invokevirtual 66, 3, [26, 1, 102]), (.iconst 4, 1, []), (.if_icmp .ne (36), 3, [9]), (.aload_n 2, 1, []), (.ldc 176, 2, [118]), (.invokevirtual 172, 3, [23, 2, 101]), (.ifCond .eq (27), 3, [9]), (.aload_n 1, 1, []), (.aload_n 0, 1, []), (.getfield 20, 3, [109, 0, 1]), (.iconst 3, 1, []), (.invokevirtual 56, 3, [27, 2, 102]), (.invokevirtual 178, 3, [22, 2, 101]), (.ifCond .ne (7), 3, [7]), (.iconst 1, 1, []), (.goto (4), 3, [8])]
def k_102_7 : List mOp := [(.iconst 0, 1, [])]
def k_102_8 : List mOp := [(.istore_n 3, 1, []), (.goto (49), 3, [13])]
def k_102_9 : List mOp := [(.aload_n 0, 1, []), (.getfield 20, 3, [109, 0, 1]), (.invokevirtual 66, 3, [26, 1, 102]), (.iconst 4, 1, []), (.if_icmp .ne (36), 3, [12]), (.aload_n 2, 1, []), (.ldc 181, 2, [119]), (.invokevirtual 172, 3, [23, 2, 101]), (.ifCond .eq (27), 3, [12]), (.aload_n 1, 1, []), (.aload_n 0, 1, []), (.getfield 20, 3, [109, 0, 1]), (.iconst 3, 1, []), (.invokevirtual 56, 3, [27, 2, 102]), (.invokevirtual 178, 3, [22, 2, 101]), (.ifCond .eq (7), 3, [10]), (.iconst 1, 1, []), (.goto (4), 3, [11])]
def k_102_10 : List mOp := [(.iconst 0, 1, [])]
def k_102_11 : List mOp := [(.istore_n 3, 1, []), (.goto (5), 3, [13])]
def k_102_12 : List mOp := [(.iconst 2, 1, []), (.ireturn, 1, [0])]
def k_102_13 : List mOp := [(.iload_n 3, 1, []), (.ifCond .eq (7), 3, [14]), (.iconst 0, 1, []), (.goto (4), 3, [15])]
def k_102_14 : List mOp := [(.iconst 1, 1, [])]
def k_102_15 : List mOp := [(.ireturn, 1, [0])]
/-- TinyShell$Tools.test()I -/
def P_102 (b : Nat) : List mOp × Nat := cond (Nat.blt b 8) (cond (Nat.blt b 4) (cond (Nat.blt b 2) (cond (Nat.blt b 1) ((k_102_0, 0)) ((k_102_1, 2))) (cond (Nat.blt b 3) ((k_102_2, 0)) ((k_102_3, 0)))) (cond (Nat.blt b 6) (cond (Nat.blt b 5) ((k_102_4, 5)) ((k_102_5, 0))) (cond (Nat.blt b 7) ((k_102_6, 0)) ((k_102_7, 8))))) (cond (Nat.blt b 12) (cond (Nat.blt b 10) (cond (Nat.blt b 9) ((k_102_8, 0)) ((k_102_9, 0))) (cond (Nat.blt b 11) ((k_102_10, 11)) ((k_102_11, 0)))) (cond (Nat.blt b 14) (cond (Nat.blt b 13) ((k_102_12, 0)) ((k_102_13, 0))) (cond (Nat.blt b 15) ((k_102_14, 15)) ((k_102_15, 0)))))
def J_102 : MethodName × ByteArray × Nat × Option FieldType × Nat × Nat × List Nat := (⟨"TinyShell$Tools", "test", "()I"⟩, prog_12_method_11_code, 4, some (Jvm.ClassFile.FieldType.int), 5, 107, [0, 40, 41, 45, 83, 84, 88, 127, 128, 132, 171, 172, 176, 178, 186, 187])
def k_103_0 : List mOp := [(.aload_n 0, 1, []), (.getfield 20, 3, [109, 0, 1]), (.invokevirtual 66, 3, [26, 1, 102]), (.iconst 1, 1, []), (.if_icmp .ne (13), 3, [1]), (.aload_n 0, 1, []), (.getfield 9, 3, [109, 4, 1]), (.getfield 183, 3, [105, 4, 0]), (.goto (15), 3, [2])]
def k_103_1 : List mOp := [(.aload_n 0, 1, []), (.getfield 20, 3, [109, 0, 1]), (.iconst 1, 1, []), (.invokevirtual 56, 3, [27, 2, 102]), (.iconst 3, 1, []), (.invokevirtual 187, 3, [21, 2, 101])]
def k_103_2 : List mOp := [(.istore_n 1, 1, []), (.iload_n 1, 1, []), (.ifCond .lt (10), 3, [3]), (.iload_n 1, 1, []), (.sipush 255, 3, []), (.if_icmp .le (5), 3, [4])]
def k_103_3 : List mOp := [(.iconst 2, 1, []), (.ireturn, 1, [0])]
def k_103_4 : List mOp := [(.aload_n 0, 1, []), (.iconst 1, 1, []), (.putfield 45, 3, [109, 3, 2]), (.iload_n 1, 1, []), (.ireturn, 1, [0])]
/-- TinyShell$Tools.exit()I -/
def P_103 (b : Nat) : List mOp × Nat := cond (Nat.blt b 2) (cond (Nat.blt b 1) ((k_103_0, 0)) ((k_103_1, 2))) (cond (Nat.blt b 3) ((k_103_2, 3)) (cond (Nat.blt b 4) ((k_103_3, 0)) ((k_103_4, 0))))
def J_103 : MethodName × ByteArray × Nat × Option FieldType × Nat × Nat × List Nat := (⟨"TinyShell$Tools", "exit", "()I"⟩, prog_12_method_12_code, 2, some (Jvm.ClassFile.FieldType.int), 2, 45, [0, 21, 33, 45, 47])
def k_104_0 : List mOp := [(.aload_n 0, 1, []), (.getfield 20, 3, [109, 0, 1]), (.iconst 1, 1, []), (.invokevirtual 56, 3, [27, 2, 102]), (.iconst 2, 1, []), (.invokevirtual 187, 3, [21, 2, 101]), (.istore_n 1, 1, []), (.iload_n 1, 1, []), (.ifCond .ge (7), 3, [1]), (.iconst 2, 1, []), (.goto (11), 3, [2])]
def k_104_1 : List mOp := [(.aload_n 0, 1, []), (.getfield 41, 3, [109, 5, 1]), (.iload_n 1, 1, []), (.invokevirtual 191, 3, [108, 2, 110])]
def k_104_2 : List mOp := [(.ireturn, 1, [0])]
/-- TinyShell$Tools.head()I -/
def P_104 (b : Nat) : List mOp × Nat := cond (Nat.blt b 1) ((k_104_0, 0)) (cond (Nat.blt b 2) ((k_104_1, 2)) ((k_104_2, 0)))
def J_104 : MethodName × ByteArray × Nat × Option FieldType × Nat × Nat × List Nat := (⟨"TinyShell$Tools", "head", "()I"⟩, prog_12_method_13_code, 2, some (Jvm.ClassFile.FieldType.int), 9, 157, [0, 21, 29])
def k_105_0 : List mOp := [(.aload_n 0, 1, []), (.invokespecial 3, 3, []), (.aload_n 0, 1, []), (.aload_n 1, 1, []), (.putfield 9, 3, [110, 0, 1]), (.aload_n 0, 1, []), (.aload_n 2, 1, []), (.putfield 15, 3, [110, 1, 1]), (.aload_n 0, 1, []), (.new 18, 3, [104, 2]), (.dup, 1, []), (.sipush 240, 3, []), (.invokespecial 20, 3, [41, 2]), (.putfield 23, 3, [110, 2, 1]), (.return_, 1, [])]
/-- TinyShell$Lines.<init>(LTinyShell$Text;LTinyShell$Text;)V -/
def P_105 (b : Nat) : List mOp × Nat := (k_105_0, 0)
def J_105 : MethodName × ByteArray × Nat × Option FieldType × Nat × Nat × List Nat := (⟨"TinyShell$Lines", "<init>", "(LTinyShell$Text;LTinyShell$Text;)V"⟩, prog_4_method_1_code, 3, none, 2, 42, [0])
def k_106_0 : List mOp := [(.aload_n 0, 1, []), (.getfield 23, 3, [110, 2, 1]), (.invokevirtual 27, 3, [43, 1, 104]), (.iconst 0, 1, []), (.istore_n 1, 1, []), (.iconst 0, 1, []), (.istore_n 2, 1, [])]
def k_106_1 : List mOp := [(.iload_n 2, 1, []), (.sipush 240, 3, []), (.if_icmp .ge (47), 3, [2]), (.iload_n 1, 1, []), (.aload_n 0, 1, []), (.getfield 9, 3, [110, 0, 1]), (.invokevirtual 30, 3, [14, 1, 101]), (.if_icmp .ge (36), 3, [2]), (.aload_n 0, 1, []), (.getfield 9, 3, [110, 0, 1]), (.bipush 10, 2, []), (.iload_n 1, 1, []), (.invokevirtual 36, 3, [24, 3, 101]), (.istore_n 3, 1, []), (.aload_n 0, 1, []), (.getfield 23, 3, [110, 2, 1]), (.iconst 0, 1, []), (.iload_n 1, 1, []), (.iload_n 3, 1, []), (.iconst 0, 1, []), (.iconst 0, 1, []), (.invokevirtual 40, 3, [46, 6, 104]), (.iload_n 3, 1, []), (.iconst 1, 1, []), (.iadd, 1, []), (.istore_n 1, 1, []), (.iinc 2 1, 3, []), (.goto (-48), 3, [1])]
def k_106_2 : List mOp := [(.return_, 1, [])]
/-- TinyShell$Lines.read()V -/
def P_106 (b : Nat) : List mOp × Nat := cond (Nat.blt b 1) ((k_106_0, 1)) (cond (Nat.blt b 2) ((k_106_1, 0)) ((k_106_2, 0)))
def J_106 : MethodName × ByteArray × Nat × Option FieldType × Nat × Nat × List Nat := (⟨"TinyShell$Lines", "read", "()V"⟩, prog_4_method_2_code, 4, none, 2, 44, [0, 11, 62])
def k_107_0 : List mOp := [(.iconst 1, 1, []), (.istore_n 1, 1, [])]
def k_107_1 : List mOp := [(.iload_n 1, 1, []), (.aload_n 0, 1, []), (.getfield 23, 3, [110, 2, 1]), (.invokevirtual 44, 3, [42, 1, 104]), (.if_icmp .ge (43), 3, [4]), (.iload_n 1, 1, []), (.istore_n 2, 1, [])]
def k_107_2 : List mOp := [(.iload_n 2, 1, []), (.ifCond .le (31), 3, [3]), (.aload_n 0, 1, []), (.iload_n 2, 1, []), (.iconst 1, 1, []), (.isub, 1, []), (.iload_n 2, 1, []), (.invokevirtual 45, 3, [113, 3, 110]), (.ifCond .le (20), 3, [3]), (.aload_n 0, 1, []), (.getfield 23, 3, [110, 2, 1]), (.iload_n 2, 1, []), (.iconst 1, 1, []), (.isub, 1, []), (.iload_n 2, 1, []), (.invokevirtual 49, 3, [47, 3, 104]), (.iinc 2 (-1), 3, []), (.goto (-29), 3, [2])]
def k_107_3 : List mOp := [(.iinc 1 1, 3, []), (.goto (-48), 3, [1])]
def k_107_4 : List mOp := [(.aload_n 0, 1, []), (.aload_n 0, 1, []), (.getfield 23, 3, [110, 2, 1]), (.invokevirtual 44, 3, [42, 1, 104]), (.invokevirtual 53, 3, [108, 2, 110]), (.ireturn, 1, [0])]
/-- TinyShell$Lines.putSorted()I -/
def P_107 (b : Nat) : List mOp × Nat := cond (Nat.blt b 2) (cond (Nat.blt b 1) ((k_107_0, 1)) ((k_107_1, 2))) (cond (Nat.blt b 3) ((k_107_2, 0)) (cond (Nat.blt b 4) ((k_107_3, 0)) ((k_107_4, 0))))
def J_107 : MethodName × ByteArray × Nat × Option FieldType × Nat × Nat × List Nat := (⟨"TinyShell$Lines", "putSorted", "()I"⟩, prog_4_method_3_code, 3, some (Jvm.ClassFile.FieldType.int), 9, 157, [0, 2, 15, 47, 53])
def k_108_0 : List mOp := [(.iconst 0, 1, []), (.istore_n 2, 1, [])]
def k_108_1 : List mOp := [(.iload_n 2, 1, []), (.iload_n 1, 1, []), (.if_icmp .ge (25), 3, [2]), (.iload_n 2, 1, []), (.aload_n 0, 1, []), (.getfield 23, 3, [110, 2, 1]), (.invokevirtual 44, 3, [42, 1, 104]), (.if_icmp .ge (14), 3, [2]), (.aload_n 0, 1, []), (.iload_n 2, 1, []), (.invokevirtual 57, 3, [112, 2, 110]), (.iinc 2 1, 3, []), (.goto (-24), 3, [1])]
def k_108_2 : List mOp := [(.iconst 0, 1, []), (.ireturn, 1, [0])]
/-- TinyShell$Lines.putFirst(I)I -/
def P_108 (b : Nat) : List mOp × Nat := cond (Nat.blt b 1) ((k_108_0, 1)) (cond (Nat.blt b 2) ((k_108_1, 0)) ((k_108_2, 0)))
def J_108 : MethodName × ByteArray × Nat × Option FieldType × Nat × Nat × List Nat := (⟨"TinyShell$Lines", "putFirst", "(I)I"⟩, prog_4_method_4_code, 3, some (Jvm.ClassFile.FieldType.int), 8, 135, [0, 2, 29])
def k_109_0 : List mOp := [(.iconst 0, 1, []), (.istore_n 1, 1, [])]
def k_109_1 : List mOp := [(.iload_n 1, 1, []), (.aload_n 0, 1, []), (.getfield 23, 3, [110, 2, 1]), (.invokevirtual 44, 3, [42, 1, 104]), (.if_icmp .ge (64), 3, [4]), (.aload_n 0, 1, []), (.getfield 23, 3, [110, 2, 1]), (.iload_n 1, 1, []), (.iconst 2, 1, []), (.invokevirtual 60, 3, [44, 3, 104]), (.iconst 1, 1, []), (.isub, 1, []), (.istore_n 2, 1, [])]
def k_109_2 : List mOp := [(.iload_n 2, 1, []), (.aload_n 0, 1, []), (.getfield 23, 3, [110, 2, 1]), (.iload_n 1, 1, []), (.iconst 1, 1, []), (.invokevirtual 60, 3, [44, 3, 104]), (.if_icmp .lt (24), 3, [3]), (.aload_n 0, 1, []), (.getfield 15, 3, [110, 1, 1]), (.aload_n 0, 1, []), (.getfield 9, 3, [110, 0, 1]), (.iload_n 2, 1, []), (.invokevirtual 63, 3, [15, 2, 101]), (.invokevirtual 66, 3, [17, 2, 101]), (.iinc 2 (-1), 3, []), (.goto (-31), 3, [2])]
def k_109_3 : List mOp := [(.aload_n 0, 1, []), (.getfield 15, 3, [110, 1, 1]), (.bipush 10, 2, []), (.invokevirtual 66, 3, [17, 2, 101]), (.iinc 1 1, 3, []), (.goto (-69), 3, [1])]
def k_109_4 : List mOp := [(.iconst 0, 1, []), (.ireturn, 1, [0])]
/-- TinyShell$Lines.putReversed()I -/
def P_109 (b : Nat) : List mOp × Nat := cond (Nat.blt b 2) (cond (Nat.blt b 1) ((k_109_0, 1)) ((k_109_1, 2))) (cond (Nat.blt b 3) ((k_109_2, 0)) (cond (Nat.blt b 4) ((k_109_3, 0)) ((k_109_4, 0))))
def J_109 : MethodName × ByteArray × Nat × Option FieldType × Nat × Nat × List Nat := (⟨"TinyShell$Lines", "putReversed", "()I"⟩, prog_4_method_5_code, 3, some (Jvm.ClassFile.FieldType.int), 7, 111, [0, 2, 25, 59, 74])
def k_110_0 : List mOp := [(.iconst 0, 1, []), (.istore_n 1, 1, [])]
def k_110_1 : List mOp := [(.iload_n 1, 1, []), (.aload_n 0, 1, []), (.getfield 23, 3, [110, 2, 1]), (.invokevirtual 44, 3, [42, 1, 104]), (.if_icmp .ge (29), 3, [4]), (.iload_n 1, 1, []), (.ifCond .eq (14), 3, [2]), (.aload_n 0, 1, []), (.iload_n 1, 1, []), (.iconst 1, 1, []), (.isub, 1, []), (.iload_n 1, 1, []), (.invokevirtual 45, 3, [113, 3, 110]), (.ifCond .eq (8), 3, [3])]
def k_110_2 : List mOp := [(.aload_n 0, 1, []), (.iload_n 1, 1, []), (.invokevirtual 57, 3, [112, 2, 110])]
def k_110_3 : List mOp := [(.iinc 1 1, 3, []), (.goto (-34), 3, [1])]
def k_110_4 : List mOp := [(.iconst 0, 1, []), (.ireturn, 1, [0])]
/-- TinyShell$Lines.putChanged()I -/
def P_110 (b : Nat) : List mOp × Nat := cond (Nat.blt b 2) (cond (Nat.blt b 1) ((k_110_0, 1)) ((k_110_1, 2))) (cond (Nat.blt b 3) ((k_110_2, 3)) (cond (Nat.blt b 4) ((k_110_3, 0)) ((k_110_4, 0))))
def J_110 : MethodName × ByteArray × Nat × Option FieldType × Nat × Nat × List Nat := (⟨"TinyShell$Lines", "putChanged", "()I"⟩, prog_4_method_6_code, 2, some (Jvm.ClassFile.FieldType.int), 8, 135, [0, 2, 28, 33, 39])
def k_111_0 : List mOp := [(.iconst 1, 1, []), (.istore_n 2, 1, []), (.iconst 0, 1, []), (.istore_n 3, 1, [])]
def k_111_1 : List mOp := [(.iload_n 3, 1, []), (.aload_n 0, 1, []), (.getfield 23, 3, [110, 2, 1]), (.invokevirtual 44, 3, [42, 1, 104]), (.if_icmp .ge (25), 3, [3]), (.aload_n 0, 1, []), (.iload_n 3, 1, []), (.aload_n 1, 1, []), (.invokevirtual 69, 3, [114, 3, 110]), (.ifCond .eq (10), 3, [2]), (.aload_n 0, 1, []), (.iload_n 3, 1, []), (.invokevirtual 57, 3, [112, 2, 110]), (.iconst 0, 1, []), (.istore_n 2, 1, [])]
def k_111_2 : List mOp := [(.iinc 3 1, 3, []), (.goto (-30), 3, [1])]
def k_111_3 : List mOp := [(.iload_n 2, 1, []), (.ireturn, 1, [0])]
/-- TinyShell$Lines.putHolding(LTinyShell$Text;)I -/
def P_111 (b : Nat) : List mOp × Nat := cond (Nat.blt b 2) (cond (Nat.blt b 1) ((k_111_0, 1)) ((k_111_1, 2))) (cond (Nat.blt b 3) ((k_111_2, 0)) ((k_111_3, 0)))
def J_111 : MethodName × ByteArray × Nat × Option FieldType × Nat × Nat × List Nat := (⟨"TinyShell$Lines", "putHolding", "(LTinyShell$Text;)I"⟩, prog_4_method_7_code, 4, some (Jvm.ClassFile.FieldType.int), 8, 135, [0, 4, 31, 37])
def k_112_0 : List mOp := [(.aload_n 0, 1, []), (.getfield 15, 3, [110, 1, 1]), (.aload_n 0, 1, []), (.getfield 9, 3, [110, 0, 1]), (.aload_n 0, 1, []), (.getfield 23, 3, [110, 2, 1]), (.iload_n 1, 1, []), (.iconst 1, 1, []), (.invokevirtual 60, 3, [44, 3, 104]), (.aload_n 0, 1, []), (.getfield 23, 3, [110, 2, 1]), (.iload_n 1, 1, []), (.iconst 2, 1, []), (.invokevirtual 60, 3, [44, 3, 104]), (.invokevirtual 73, 3, [18, 4, 101]), (.aload_n 0, 1, []), (.getfield 15, 3, [110, 1, 1]), (.bipush 10, 2, []), (.invokevirtual 66, 3, [17, 2, 101]), (.return_, 1, [])]
/-- TinyShell$Lines.put(I)V -/
def P_112 (b : Nat) : List mOp × Nat := (k_112_0, 0)
def J_112 : MethodName × ByteArray × Nat × Option FieldType × Nat × Nat × List Nat := (⟨"TinyShell$Lines", "put", "(I)V"⟩, prog_4_method_8_code, 2, none, 7, 114, [0])
def k_113_0 : List mOp := [(.aload_n 0, 1, []), (.getfield 23, 3, [110, 2, 1]), (.iload_n 1, 1, []), (.iconst 1, 1, []), (.invokevirtual 60, 3, [44, 3, 104]), (.istore_n 3, 1, []), (.aload_n 0, 1, []), (.getfield 23, 3, [110, 2, 1]), (.iload_n 2, 1, []), (.iconst 1, 1, []), (.invokevirtual 60, 3, [44, 3, 104]), (.istore 4, 2, []), (.aload_n 0, 1, []), (.getfield 23, 3, [110, 2, 1]), (.iload_n 1, 1, []), (.iconst 2, 1, []), (.invokevirtual 60, 3, [44, 3, 104]), (.iload_n 3, 1, []), (.isub, 1, []), (.istore 5, 2, []), (.aload_n 0, 1, []), (.getfield 23, 3, [110, 2, 1]), (.iload_n 2, 1, []), (.iconst 2, 1, []), (.invokevirtual 60, 3, [44, 3, 104]), (.iload 4, 2, []), (.isub, 1, []), (.istore 6, 2, []), (.iload 5, 2, []), (.iload 6, 2, []), (.invokestatic 77, 3, [198, 2]), (.istore 7, 2, []), (.iconst 0, 1, []), (.istore 8, 2, [])]
def k_113_1 : List mOp := [(.iload 8, 2, []), (.iload 7, 2, []), (.if_icmp .ge (43), 3, [3]), (.aload_n 0, 1, []), (.getfield 9, 3, [110, 0, 1]), (.iload_n 3, 1, []), (.iload 8, 2, []), (.iadd, 1, []), (.invokevirtual 63, 3, [15, 2, 101]), (.aload_n 0, 1, []), (.getfield 9, 3, [110, 0, 1]), (.iload 4, 2, []), (.iload 8, 2, []), (.iadd, 1, []), (.invokevirtual 63, 3, [15, 2, 101]), (.isub, 1, []), (.istore 9, 2, []), (.iload 9, 2, []), (.ifCond .eq (6), 3, [2]), (.iload 9, 2, []), (.ireturn, 1, [0])]
def k_113_2 : List mOp := [(.iinc 8 1, 3, []), (.goto (-44), 3, [1])]
def k_113_3 : List mOp := [(.iload 5, 2, []), (.iload 6, 2, []), (.isub, 1, []), (.ireturn, 1, [0])]
/-- TinyShell$Lines.order(II)I -/
def P_113 (b : Nat) : List mOp × Nat := cond (Nat.blt b 2) (cond (Nat.blt b 1) ((k_113_0, 1)) ((k_113_1, 0))) (cond (Nat.blt b 3) ((k_113_2, 0)) ((k_113_3, 0)))
def J_113 : MethodName × ByteArray × Nat × Option FieldType × Nat × Nat × List Nat := (⟨"TinyShell$Lines", "order", "(II)I"⟩, prog_4_method_9_code, 10, some (Jvm.ClassFile.FieldType.int), 1, 23, [0, 60, 101, 107])
def k_114_0 : List mOp := [(.aload_n 0, 1, []), (.getfield 23, 3, [110, 2, 1]), (.iload_n 1, 1, []), (.iconst 2, 1, []), (.invokevirtual 60, 3, [44, 3, 104]), (.aload_n 2, 1, []), (.invokevirtual 30, 3, [14, 1, 101]), (.isub, 1, []), (.istore_n 3, 1, []), (.aload_n 0, 1, []), (.getfield 23, 3, [110, 2, 1]), (.iload_n 1, 1, []), (.iconst 1, 1, []), (.invokevirtual 60, 3, [44, 3, 104]), (.istore 4, 2, [])]
def k_114_1 : List mOp := [(.iload 4, 2, []), (.iload_n 3, 1, []), (.if_icmp .gt (65), 3, [5]), (.iconst 0, 1, []), (.istore 5, 2, []), (.iconst 0, 1, []), (.istore 6, 2, [])]
def k_114_2 : List mOp := [(.iload 6, 2, []), (.aload_n 2, 1, []), (.invokevirtual 30, 3, [14, 1, 101]), (.if_icmp .ge (33), 3, [3]), (.aload_n 0, 1, []), (.getfield 9, 3, [110, 0, 1]), (.iload 4, 2, []), (.iload 6, 2, []), (.iadd, 1, []), (.invokevirtual 63, 3, [15, 2, 101]), (.aload_n 2, 1, []), (.iload 6, 2, []), (.invokevirtual 63, 3, [15, 2, 101]), (.if_icmp .ne (12), 3, [3]), (.iinc 5 1, 3, []), (.iinc 6 1, 3, []), (.goto (-36), 3, [2])]
def k_114_3 : List mOp := [(.iload 5, 2, []), (.aload_n 2, 1, []), (.invokevirtual 30, 3, [14, 1, 101]), (.if_icmp .ne (5), 3, [4]), (.iconst 1, 1, []), (.ireturn, 1, [1])]
def k_114_4 : List mOp := [(.iinc 4 1, 3, []), (.goto (-65), 3, [1])]
def k_114_5 : List mOp := [(.iconst 0, 1, []), (.ireturn, 1, [1])]
/-- TinyShell$Lines.holds(ILTinyShell$Text;)Z -/
def P_114 (b : Nat) : List mOp × Nat := cond (Nat.blt b 3) (cond (Nat.blt b 1) ((k_114_0, 1)) (cond (Nat.blt b 2) ((k_114_1, 2)) ((k_114_2, 0)))) (cond (Nat.blt b 4) ((k_114_3, 0)) (cond (Nat.blt b 5) ((k_114_4, 0)) ((k_114_5, 0))))
def J_114 : MethodName × ByteArray × Nat × Option FieldType × Nat × Nat × List Nat := (⟨"TinyShell$Lines", "holds", "(ILTinyShell$Text;)Z"⟩, prog_4_method_10_code, 7, some (Jvm.ClassFile.FieldType.boolean), 1, 23, [0, 26, 38, 77, 88, 94])
def k_115_0 : List mOp := [(.iconst 0, 1, []), (.istore_n 1, 1, [])]
def k_115_1 : List mOp := [(.iload_n 1, 1, []), (.getstatic 87, 3, [400]), (.arraylength, 1, [0, 0]), (.if_icmp .ge (30), 3, [3]), (.aload_n 0, 1, []), (.getstatic 87, 3, [400]), (.iload_n 1, 1, []), (.aaload, 1, [0, 0]), (.getfield 76, 3, [0, 2, 0, 0]), (.invokevirtual 90, 3, [23, 2, 101]), (.ifCond .eq (9), 3, [2]), (.getstatic 87, 3, [400]), (.iload_n 1, 1, []), (.aaload, 1, [0, 0]), (.areturn, 1, [])]
def k_115_2 : List mOp := [(.iinc 1 1, 3, []), (.goto (-32), 3, [1])]
def k_115_3 : List mOp := [(.getstatic 54, 3, [316]), (.areturn, 1, [])]
/-- TinyShell$Utility.called(LTinyShell$Text;)LTinyShell$Utility; -/
def P_115 (b : Nat) : List mOp × Nat := cond (Nat.blt b 2) (cond (Nat.blt b 1) ((k_115_0, 1)) ((k_115_1, 0))) (cond (Nat.blt b 3) ((k_115_2, 0)) ((k_115_3, 0)))
def J_115 : MethodName × ByteArray × Nat × Option FieldType × Nat × Nat × List Nat := (⟨"TinyShell$Utility", "called", "(LTinyShell$Text;)LTinyShell$Utility;"⟩, prog_13_method_4_code, 2, some ((Jvm.ClassFile.FieldType.object "TinyShell$Utility")), 5, 107, [0, 2, 31, 37])
def k_116_0 : List mOp := [(.iload_n 1, 1, []), (.aload_n 0, 1, []), (.getfield 80, 3, [0, 4, 0, 0]), (.if_icmp .lt (15), 3, [1]), (.iload_n 1, 1, []), (.aload_n 0, 1, []), (.getfield 84, 3, [0, 5, 0, 0]), (.if_icmp .gt (7), 3, [1]), (.iconst 1, 1, []), (.goto (4), 3, [2])]
def k_116_1 : List mOp := [(.iconst 0, 1, [])]
def k_116_2 : List mOp := [(.ireturn, 1, [1])]
/-- TinyShell$Utility.takes(I)Z -/
def P_116 (b : Nat) : List mOp × Nat := cond (Nat.blt b 1) ((k_116_0, 0)) (cond (Nat.blt b 2) ((k_116_1, 2)) ((k_116_2, 0)))
def J_116 : MethodName × ByteArray × Nat × Option FieldType × Nat × Nat × List Nat := (⟨"TinyShell$Utility", "takes", "(I)Z"⟩, prog_13_method_5_code, 2, some (Jvm.ClassFile.FieldType.boolean), 0, 0, [0, 20, 21])
def k_117_0 : List mOp := [(.aload_n 0, 1, []), (.invokespecial 1, 3, []), (.aload_n 0, 1, []), (.sipush 240, 3, []), (.newarray .char, 2, [2]), (.putfield 7, 3, [111, 3, 1]), (.aload_n 0, 1, []), (.sipush 241, 3, []), (.newarray .int, 2, [1]), (.putfield 13, 3, [111, 5, 1]), (.aload_n 0, 1, []), (.sipush 241, 3, []), (.newarray .int, 2, [1]), (.putfield 17, 3, [111, 6, 1]), (.aload_n 0, 1, []), (.sipush 241, 3, []), (.newarray .int, 2, [1]), (.putfield 20, 3, [111, 7, 1]), (.aload_n 0, 1, []), (.iconst 3, 1, []), (.newarray .int, 2, [1]), (.putfield 23, 3, [111, 9, 1]), (.aload_n 0, 1, []), (.sipush 144, 3, []), (.newarray .char, 2, [2]), (.putfield 26, 3, [111, 10, 1]), (.aload_n 0, 1, []), (.bipush 24, 2, []), (.newarray .int, 2, [1]), (.putfield 29, 3, [111, 11, 1]), (.aload_n 0, 1, []), (.sipush 960, 3, []), (.newarray .char, 2, [2]), (.putfield 32, 3, [111, 12, 1]), (.aload_n 0, 1, []), (.bipush 24, 2, []), (.newarray .int, 2, [1]), (.putfield 35, 3, [111, 13, 1]), (.aload_n 0, 1, []), (.iconst 3, 1, []), (.newarray .int, 2, [1]), (.putfield 38, 3, [111, 14, 1]), (.aload_n 0, 1, []), (.sipush 1080, 3, []), (.newarray .char, 2, [2]), (.putfield 41, 3, [111, 15, 1]), (.aload_n 0, 1, []), (.bipush 27, 2, []), (.newarray .int, 2, [1]), (.putfield 44, 3, [111, 16, 1]), (.aload_n 0, 1, []), (.iconst 2, 1, []), (.newarray .int, 2, [1]), (.putfield 47, 3, [111, 17, 1]), (.aload_n 0, 1, []), (.sipush 128, 3, []), (.newarray .char, 2, [2]), (.putfield 50, 3, [111, 18, 1]), (.aload_n 0, 1, []), (.bipush 16, 2, []), (.newarray .int, 2, [1]), (.putfield 53, 3, [111, 19, 1]), (.aload_n 0, 1, []), (.sipush 1280, 3, []), (.newarray .char, 2, [2]), (.putfield 56, 3, [111, 20, 1]), (.aload_n 0, 1, []), (.bipush 16, 2, []), (.newarray .int, 2, [1]), (.putfield 59, 3, [111, 21, 1]), (.aload_n 0, 1, []), (.iconst 2, 1, []), (.newarray .int, 2, [1]), (.putfield 62, 3, [111, 22, 1]), (.aload_n 0, 1, []), (.iconst 2, 1, []), (.newarray .int, 2, [1]), (.putfield 65, 3, [111, 23, 1]), (.aload_n 0, 1, []), (.sipush 480, 3, []), (.newarray .char, 2, [2]), (.putfield 68, 3, [111, 24, 1]), (.aload_n 0, 1, []), (.bipush 41, 2, []), (.newarray .char, 2, [2]), (.putfield 71, 3, [111, 28, 1]), (.aload_n 0, 1, []), (.bipush 41, 2, []), (.newarray .boolean, 2, [3]), (.putfield 74, 3, [111, 29, 1]), (.aload_n 0, 1, []), (.sipush 680, 3, []), (.newarray .char, 2, [2]), (.putfield 78, 3, [111, 34, 1]), (.aload_n 0, 1, []), (.bipush 17, 2, []), (.newarray .int, 2, [1]), (.putfield 81, 3, [111, 35, 1]), (.aload_n 0, 1, []), (.sipush 240, 3, []), (.newarray .char, 2, [2]), (.putfield 84, 3, [111, 37, 1]), (.aload_n 0, 1, []), (.sipush 241, 3, []), (.newarray .char, 2, [2]), (.putfield 87, 3, [111, 39, 1]), (.aload_n 0, 1, []), (.sipush 241, 3, []), (.newarray .int, 2, [1]), (.putfield 90, 3, [111, 41, 1]), (.aload_n 0, 1, []), (.sipush 241, 3, []), (.newarray .int, 2, [1]), (.putfield 93, 3, [111, 42, 1]), (.return_, 1, [])]
/-- TinyShellModel.<init>()V -/
def P_117 (b : Nat) : List mOp × Nat := (k_117_0, 0)
def J_117 : MethodName × ByteArray × Nat × Option FieldType × Nat × Nat × List Nat := (⟨"TinyShellModel", "<init>", "()V"⟩, prog_15_method_1_code, 1, none, 1, 20, [0])
def k_118_0 : List mOp := [(.aload_n 0, 1, []), (.getfield 96, 3, [111, 0, 0]), (.ireturn, 1, [0])]
/-- TinyShellModel.thrown()I -/
def P_118 (b : Nat) : List mOp × Nat := (k_118_0, 0)
def J_118 : MethodName × ByteArray × Nat × Option FieldType × Nat × Nat × List Nat := (⟨"TinyShellModel", "thrown", "()I"⟩, prog_15_method_2_code, 1, some (Jvm.ClassFile.FieldType.int), 0, 0, [0])
def k_119_0 : List mOp := [(.aload_n 0, 1, []), (.iload_n 1, 1, []), (.putfield 96, 3, [111, 0, 0]), (.iconst 0, 1, []), (.ireturn, 1, [0])]
/-- TinyShellModel.raise(I)I -/
def P_119 (b : Nat) : List mOp × Nat := (k_119_0, 0)
def J_119 : MethodName × ByteArray × Nat × Option FieldType × Nat × Nat × List Nat := (⟨"TinyShellModel", "raise", "(I)I"⟩, prog_15_method_3_code, 2, some (Jvm.ClassFile.FieldType.int), 0, 0, [0])
def k_120_0 : List mOp := [(.aload_n 0, 1, []), (.iconst 0, 1, []), (.putfield 96, 3, [111, 0, 0]), (.iconst 0, 1, []), (.istore_n 3, 1, []), (.iconst 1, 1, []), (.istore 4, 2, []), (.bipush 56, 2, []), (.istore 5, 2, [])]
def k_120_1 : List mOp := [(.iload 5, 2, []), (.ifCond .lt (71), 3, [7]), (.lload_n 1, 1, []), (.iload 5, 2, []), (.lushr, 1, []), (.l2i, 1, []), (.sipush 255, 3, []), (.iand, 1, []), (.istore 6, 2, []), (.iload 4, 2, []), (.ifCond .eq (33), 3, [3]), (.iload 6, 2, []), (.ifCond .eq (24), 3, [2]), (.iload 6, 2, []), (.bipush 10, 2, []), (.if_icmp .eq (17), 3, [2]), (.iload 6, 2, []), (.bipush 32, 2, []), (.if_icmp .lt (14), 3, [3]), (.iload 6, 2, []), (.bipush 126, 2, []), (.if_icmp .gt (7), 3, [3])]
def k_120_2 : List mOp := [(.iconst 1, 1, []), (.goto (4), 3, [4])]
def k_120_3 : List mOp := [(.iconst 0, 1, [])]
def k_120_4 : List mOp := [(.istore 4, 2, []), (.iload 6, 2, []), (.ifCond .ne (7), 3, [5]), (.iload_n 3, 1, []), (.goto (6), 3, [6])]
def k_120_5 : List mOp := [(.iload_n 3, 1, []), (.iconst 1, 1, []), (.iadd, 1, [])]
def k_120_6 : List mOp := [(.istore_n 3, 1, []), (.iinc 5 (-8), 3, []), (.goto (-70), 3, [1])]
def k_120_7 : List mOp := [(.iload 4, 2, []), (.ifCond .eq (15), 3, [8]), (.aload_n 0, 1, []), (.getfield 100, 3, [111, 2, 0]), (.iload_n 3, 1, []), (.iadd, 1, []), (.sipush 240, 3, []), (.if_icmp .le (5), 3, [9])]
def k_120_8 : List mOp := [(.iconst 0, 1, []), (.ireturn, 1, [1])]
def k_120_9 : List mOp := [(.bipush 56, 2, []), (.istore 5, 2, [])]
def k_120_10 : List mOp := [(.iload 5, 2, []), (.ifCond .lt (47), 3, [12]), (.lload_n 1, 1, []), (.iload 5, 2, []), (.lushr, 1, []), (.l2i, 1, []), (.sipush 255, 3, []), (.iand, 1, []), (.istore 6, 2, []), (.iload 6, 2, []), (.ifCond .eq (25), 3, [11]), (.aload_n 0, 1, []), (.getfield 7, 3, [111, 3, 1]), (.aload_n 0, 1, []), (.getfield 100, 3, [111, 2, 0]), (.iload 6, 2, []), (.i2c, 1, []), (.castore, 1, []), (.aload_n 0, 1, []), (.dup, 1, []), (.getfield 100, 3, [111, 2, 0]), (.iconst 1, 1, []), (.iadd, 1, []), (.putfield 100, 3, [111, 2, 0])]
def k_120_11 : List mOp := [(.iinc 5 (-8), 3, []), (.goto (-46), 3, [10])]
def k_120_12 : List mOp := [(.iconst 1, 1, []), (.ireturn, 1, [1])]
/-- TinyShellModel.type(J)Z -/
def P_120 (b : Nat) : List mOp × Nat := cond (Nat.blt b 6) (cond (Nat.blt b 3) (cond (Nat.blt b 1) ((k_120_0, 1)) (cond (Nat.blt b 2) ((k_120_1, 2)) ((k_120_2, 0)))) (cond (Nat.blt b 4) ((k_120_3, 4)) (cond (Nat.blt b 5) ((k_120_4, 0)) ((k_120_5, 6))))) (cond (Nat.blt b 9) (cond (Nat.blt b 7) ((k_120_6, 0)) (cond (Nat.blt b 8) ((k_120_7, 8)) ((k_120_8, 0)))) (cond (Nat.blt b 11) (cond (Nat.blt b 10) ((k_120_9, 10)) ((k_120_10, 11))) (cond (Nat.blt b 12) ((k_120_11, 0)) ((k_120_12, 0)))))
def J_120 : MethodName × ByteArray × Nat × Option FieldType × Nat × Nat × List Nat := (⟨"TinyShellModel", "type", "(J)Z"⟩, prog_15_method_4_code, 7, some (Jvm.ClassFile.FieldType.boolean), 0, 0, [0, 14, 61, 65, 66, 77, 80, 87, 104, 106, 110, 153, 159])
def k_121_0 : List mOp := [(.aload_n 0, 1, []), (.iconst 0, 1, []), (.putfield 96, 3, [111, 0, 0]), (.aload_n 0, 1, []), (.iconst 0, 1, []), (.putfield 100, 3, [111, 2, 0]), (.return_, 1, [])]
/-- TinyShellModel.wipe()V -/
def P_121 (b : Nat) : List mOp × Nat := (k_121_0, 0)
def J_121 : MethodName × ByteArray × Nat × Option FieldType × Nat × Nat × List Nat := (⟨"TinyShellModel", "wipe", "()V"⟩, prog_15_method_5_code, 1, none, 0, 0, [0])
def k_122_0 : List mOp := [(.iload_n 1, 1, []), (.aload_n 0, 1, []), (.getfield 100, 3, [111, 2, 0]), (.if_icmp .ge (12), 3, [1]), (.aload_n 0, 1, []), (.getfield 7, 3, [111, 3, 1]), (.iload_n 1, 1, []), (.caload, 1, []), (.goto (4), 3, [2])]
def k_122_1 : List mOp := [(.iconst 0, 1, [])]
def k_122_2 : List mOp := [(.ireturn, 1, [0])]
/-- TinyShellModel.ch(I)I -/
def P_122 (b : Nat) : List mOp × Nat := cond (Nat.blt b 1) ((k_122_0, 0)) (cond (Nat.blt b 2) ((k_122_1, 2)) ((k_122_2, 0)))
def J_122 : MethodName × ByteArray × Nat × Option FieldType × Nat × Nat × List Nat := (⟨"TinyShellModel", "ch", "(I)I"⟩, prog_15_method_6_code, 2, some (Jvm.ClassFile.FieldType.int), 0, 0, [0, 17, 18])
def k_123_0 : List mOp := [(.iload_n 0, 1, []), (.bipush 97, 2, []), (.if_icmp .lt (9), 3, [1]), (.iload_n 0, 1, []), (.bipush 122, 2, []), (.if_icmp .le (21), 3, [3])]
def k_123_1 : List mOp := [(.iload_n 0, 1, []), (.bipush 65, 2, []), (.if_icmp .lt (9), 3, [2]), (.iload_n 0, 1, []), (.bipush 90, 2, []), (.if_icmp .le (9), 3, [3])]
def k_123_2 : List mOp := [(.iload_n 0, 1, []), (.bipush 95, 2, []), (.if_icmp .ne (7), 3, [4])]
def k_123_3 : List mOp := [(.iconst 1, 1, []), (.goto (4), 3, [5])]
def k_123_4 : List mOp := [(.iconst 0, 1, [])]
def k_123_5 : List mOp := [(.ireturn, 1, [1])]
/-- TinyShellModel.isLetter(I)Z -/
def P_123 (b : Nat) : List mOp × Nat := cond (Nat.blt b 3) (cond (Nat.blt b 1) ((k_123_0, 1)) (cond (Nat.blt b 2) ((k_123_1, 2)) ((k_123_2, 3)))) (cond (Nat.blt b 4) ((k_123_3, 0)) (cond (Nat.blt b 5) ((k_123_4, 5)) ((k_123_5, 0))))
def J_123 : MethodName × ByteArray × Nat × Option FieldType × Nat × Nat × List Nat := (⟨"TinyShellModel", "isLetter", "(I)Z"⟩, prog_15_method_7_code, 1, some (Jvm.ClassFile.FieldType.boolean), 0, 0, [0, 12, 24, 30, 34, 35])
def k_124_0 : List mOp := [(.iload_n 0, 1, []), (.bipush 48, 2, []), (.if_icmp .lt (13), 3, [1]), (.iload_n 0, 1, []), (.bipush 57, 2, []), (.if_icmp .gt (7), 3, [1]), (.iconst 1, 1, []), (.goto (4), 3, [2])]
def k_124_1 : List mOp := [(.iconst 0, 1, [])]
def k_124_2 : List mOp := [(.ireturn, 1, [1])]
/-- TinyShellModel.isDigit(I)Z -/
def P_124 (b : Nat) : List mOp × Nat := cond (Nat.blt b 1) ((k_124_0, 0)) (cond (Nat.blt b 2) ((k_124_1, 2)) ((k_124_2, 0)))
def J_124 : MethodName × ByteArray × Nat × Option FieldType × Nat × Nat × List Nat := (⟨"TinyShellModel", "isDigit", "(I)Z"⟩, prog_15_method_8_code, 1, some (Jvm.ClassFile.FieldType.boolean), 0, 0, [0, 16, 17])
def k_125_0 : List mOp := [(.iload_n 0, 1, []), (.ifCond .eq (57), 3, [1]), (.iload_n 0, 1, []), (.bipush 32, 2, []), (.if_icmp .eq (51), 3, [1]), (.iload_n 0, 1, []), (.bipush 10, 2, []), (.if_icmp .eq (45), 3, [1]), (.iload_n 0, 1, []), (.bipush 124, 2, []), (.if_icmp .eq (39), 3, [1]), (.iload_n 0, 1, []), (.bipush 38, 2, []), (.if_icmp .eq (33), 3, [1]), (.iload_n 0, 1, []), (.bipush 59, 2, []), (.if_icmp .eq (27), 3, [1]), (.iload_n 0, 1, []), (.bipush 60, 2, []), (.if_icmp .eq (21), 3, [1]), (.iload_n 0, 1, []), (.bipush 62, 2, []), (.if_icmp .eq (15), 3, [1]), (.iload_n 0, 1, []), (.bipush 40, 2, []), (.if_icmp .eq (9), 3, [1]), (.iload_n 0, 1, []), (.bipush 41, 2, []), (.if_icmp .ne (7), 3, [2])]
def k_125_1 : List mOp := [(.iconst 1, 1, []), (.goto (4), 3, [3])]
def k_125_2 : List mOp := [(.iconst 0, 1, [])]
def k_125_3 : List mOp := [(.ireturn, 1, [1])]
/-- TinyShellModel.ends(I)Z -/
def P_125 (b : Nat) : List mOp × Nat := cond (Nat.blt b 2) (cond (Nat.blt b 1) ((k_125_0, 1)) ((k_125_1, 0))) (cond (Nat.blt b 3) ((k_125_2, 3)) ((k_125_3, 0)))
def J_125 : MethodName × ByteArray × Nat × Option FieldType × Nat × Nat × List Nat := (⟨"TinyShellModel", "ends", "(I)Z"⟩, prog_15_method_9_code, 1, some (Jvm.ClassFile.FieldType.boolean), 0, 0, [0, 58, 62, 63])
def k_126_0 : List mOp := [(.iload_n 1, 1, []), (.istore_n 2, 1, [])]
def k_126_1 : List mOp := [(.aload_n 0, 1, []), (.iload_n 2, 1, []), (.invokevirtual 103, 3, [122, 2, 111]), (.invokestatic 107, 3, [123, 1]), (.ifCond .ne (19), 3, [2]), (.iload_n 2, 1, []), (.iload_n 1, 1, []), (.if_icmp .le (20), 3, [3]), (.aload_n 0, 1, []), (.iload_n 2, 1, []), (.invokevirtual 103, 3, [122, 2, 111]), (.invokestatic 111, 3, [124, 1]), (.ifCond .eq (9), 3, [3])]
def k_126_2 : List mOp := [(.iinc 2 1, 3, []), (.goto (-30), 3, [1])]
def k_126_3 : List mOp := [(.iload_n 2, 1, []), (.ireturn, 1, [0])]
/-- TinyShellModel.nameEnd(I)I -/
def P_126 (b : Nat) : List mOp × Nat := cond (Nat.blt b 2) (cond (Nat.blt b 1) ((k_126_0, 1)) ((k_126_1, 2))) (cond (Nat.blt b 3) ((k_126_2, 0)) ((k_126_3, 0)))
def J_126 : MethodName × ByteArray × Nat × Option FieldType × Nat × Nat × List Nat := (⟨"TinyShellModel", "nameEnd", "(I)I"⟩, prog_15_method_10_code, 3, some (Jvm.ClassFile.FieldType.int), 1, 21, [0, 2, 29, 35])
def k_127_0 : List mOp := [(.iload_n 0, 1, []), (.ifCond .eq (43), 3, [1]), (.iload_n 0, 1, []), (.bipush 125, 2, []), (.if_icmp .eq (37), 3, [1]), (.iload_n 0, 1, []), (.bipush 10, 2, []), (.if_icmp .eq (31), 3, [1]), (.iload_n 0, 1, []), (.bipush 39, 2, []), (.if_icmp .eq (25), 3, [1]), (.iload_n 0, 1, []), (.bipush 34, 2, []), (.if_icmp .eq (19), 3, [1]), (.iload_n 0, 1, []), (.bipush 92, 2, []), (.if_icmp .eq (13), 3, [1]), (.iload_n 0, 1, []), (.bipush 36, 2, []), (.if_icmp .eq (7), 3, [1]), (.iconst 1, 1, []), (.goto (4), 3, [2])]
def k_127_1 : List mOp := [(.iconst 0, 1, [])]
def k_127_2 : List mOp := [(.ireturn, 1, [1])]
/-- TinyShellModel.inText(I)Z -/
def P_127 (b : Nat) : List mOp × Nat := cond (Nat.blt b 1) ((k_127_0, 0)) (cond (Nat.blt b 2) ((k_127_1, 2)) ((k_127_2, 0)))
def J_127 : MethodName × ByteArray × Nat × Option FieldType × Nat × Nat × List Nat := (⟨"TinyShellModel", "inText", "(I)Z"⟩, prog_15_method_11_code, 1, some (Jvm.ClassFile.FieldType.boolean), 0, 0, [0, 44, 45])
def k_128_0 : List mOp := [(.aload_n 0, 1, []), (.iload_n 1, 1, []), (.iconst 1, 1, []), (.iadd, 1, []), (.invokevirtual 103, 3, [122, 2, 111]), (.istore_n 2, 1, []), (.iload_n 2, 1, []), (.invokestatic 107, 3, [123, 1]), (.ifCond .eq (11), 3, [1]), (.aload_n 0, 1, []), (.iload_n 1, 1, []), (.iconst 1, 1, []), (.iadd, 1, []), (.invokevirtual 114, 3, [126, 2, 111]), (.ireturn, 1, [0])]
def k_128_1 : List mOp := [(.iload_n 2, 1, []), (.bipush 123, 2, []), (.if_icmp .eq (37), 3, [6]), (.iload_n 2, 1, []), (.bipush 49, 2, []), (.if_icmp .lt (9), 3, [2]), (.iload_n 2, 1, []), (.bipush 57, 2, []), (.if_icmp .le (15), 3, [3])]
def k_128_2 : List mOp := [(.iload_n 2, 1, []), (.bipush 35, 2, []), (.if_icmp .eq (9), 3, [3]), (.iload_n 2, 1, []), (.bipush 63, 2, []), (.if_icmp .ne (9), 3, [4])]
def k_128_3 : List mOp := [(.iload_n 1, 1, []), (.iconst 2, 1, []), (.iadd, 1, []), (.goto (6), 3, [5])]
def k_128_4 : List mOp := [(.iload_n 1, 1, []), (.iconst 1, 1, []), (.iadd, 1, [])]
def k_128_5 : List mOp := [(.ireturn, 1, [0])]
def k_128_6 : List mOp := [(.aload_n 0, 1, []), (.iload_n 1, 1, []), (.iconst 2, 1, []), (.iadd, 1, []), (.invokevirtual 114, 3, [126, 2, 111]), (.istore_n 3, 1, []), (.iload_n 3, 1, []), (.iload_n 1, 1, []), (.iconst 2, 1, []), (.iadd, 1, []), (.if_icmp .le (7), 3, [7]), (.iconst 1, 1, []), (.goto (4), 3, [8])]
def k_128_7 : List mOp := [(.iconst 0, 1, [])]
def k_128_8 : List mOp := [(.istore 4, 2, []), (.iload 4, 2, []), (.ifCond .eq (49), 3, [11]), (.aload_n 0, 1, []), (.iload_n 3, 1, []), (.invokevirtual 103, 3, [122, 2, 111]), (.bipush 58, 2, []), (.if_icmp .ne (39), 3, [11]), (.iinc 3 1, 3, []), (.aload_n 0, 1, []), (.iload_n 3, 1, []), (.invokevirtual 103, 3, [122, 2, 111]), (.bipush 45, 2, []), (.if_icmp .ne (23), 3, [10]), (.iinc 3 1, 3, [])]
def k_128_9 : List mOp := [(.aload_n 0, 1, []), (.iload_n 3, 1, []), (.invokevirtual 103, 3, [122, 2, 111]), (.invokestatic 117, 3, [127, 1]), (.ifCond .eq (12), 3, [11]), (.iinc 3 1, 3, []), (.goto (-14), 3, [9])]
def k_128_10 : List mOp := [(.iconst 0, 1, []), (.istore 4, 2, [])]
def k_128_11 : List mOp := [(.iload 4, 2, []), (.ifCond .eq (13), 3, [12]), (.aload_n 0, 1, []), (.iload_n 3, 1, []), (.invokevirtual 103, 3, [122, 2, 111]), (.bipush 125, 2, []), (.if_icmp .eq (10), 3, [13])]
def k_128_12 : List mOp := [(.aload_n 0, 1, []), (.iload_n 3, 1, []), (.putfield 120, 3, [111, 8, 0]), (.iconst (-1), 1, []), (.ireturn, 1, [0])]
def k_128_13 : List mOp := [(.iload_n 3, 1, []), (.iconst 1, 1, []), (.iadd, 1, []), (.ireturn, 1, [0])]
/-- TinyShellModel.dollar(I)I -/
def P_128 (b : Nat) : List mOp × Nat := cond (Nat.blt b 7) (cond (Nat.blt b 3) (cond (Nat.blt b 1) ((k_128_0, 0)) (cond (Nat.blt b 2) ((k_128_1, 2)) ((k_128_2, 3)))) (cond (Nat.blt b 5) (cond (Nat.blt b 4) ((k_128_3, 0)) ((k_128_4, 5))) (cond (Nat.blt b 6) ((k_128_5, 0)) ((k_128_6, 0))))) (cond (Nat.blt b 10) (cond (Nat.blt b 8) ((k_128_7, 8)) (cond (Nat.blt b 9) ((k_128_8, 9)) ((k_128_9, 0)))) (cond (Nat.blt b 12) (cond (Nat.blt b 11) ((k_128_10, 11)) ((k_128_11, 12))) (cond (Nat.blt b 13) ((k_128_12, 0)) ((k_128_13, 0)))))
def J_128 : MethodName × ByteArray × Nat × Option FieldType × Nat × Nat × List Nat := (⟨"TinyShellModel", "dollar", "(I)I"⟩, prog_15_method_12_code, 5, some (Jvm.ClassFile.FieldType.int), 2, 43, [0, 23, 41, 53, 59, 62, 63, 82, 83, 116, 133, 136, 151, 158])
def k_129_0 : List mOp := [(.aload_n 0, 1, []), (.iload_n 1, 1, []), (.iconst 1, 1, []), (.iadd, 1, []), (.putfield 120, 3, [111, 8, 0]), (.aload_n 0, 1, []), (.iload_n 1, 1, []), (.iconst 1, 1, []), (.iadd, 1, []), (.invokevirtual 103, 3, [122, 2, 111]), (.ifCond .eq (15), 3, [1]), (.aload_n 0, 1, []), (.iload_n 1, 1, []), (.iconst 1, 1, []), (.iadd, 1, []), (.invokevirtual 103, 3, [122, 2, 111]), (.bipush 10, 2, []), (.if_icmp .ne (7), 3, [2])]
def k_129_1 : List mOp := [(.iconst (-1), 1, []), (.goto (6), 3, [3])]
def k_129_2 : List mOp := [(.iload_n 1, 1, []), (.iconst 2, 1, []), (.iadd, 1, [])]
def k_129_3 : List mOp := [(.ireturn, 1, [0])]
/-- TinyShellModel.behindStroke(I)I -/
def P_129 (b : Nat) : List mOp × Nat := cond (Nat.blt b 2) (cond (Nat.blt b 1) ((k_129_0, 1)) ((k_129_1, 0))) (cond (Nat.blt b 3) ((k_129_2, 3)) ((k_129_3, 0)))
def J_129 : MethodName × ByteArray × Nat × Option FieldType × Nat × Nat × List Nat := (⟨"TinyShellModel", "behindStroke", "(I)I"⟩, prog_15_method_13_code, 2, some (Jvm.ClassFile.FieldType.int), 1, 21, [0, 29, 33, 36])
def k_130_0 : List mOp := [(.aload_n 0, 1, []), (.iload_n 1, 1, []), (.invokevirtual 103, 3, [122, 2, 111]), (.istore_n 2, 1, []), (.iload_n 2, 1, []), (.bipush 36, 2, []), (.if_icmp .ne (9), 3, [1]), (.aload_n 0, 1, []), (.iload_n 1, 1, []), (.invokevirtual 123, 3, [128, 2, 111]), (.ireturn, 1, [0])]
def k_130_1 : List mOp := [(.iload_n 2, 1, []), (.bipush 92, 2, []), (.if_icmp .ne (9), 3, [2]), (.aload_n 0, 1, []), (.iload_n 1, 1, []), (.invokevirtual 126, 3, [129, 2, 111]), (.ireturn, 1, [0])]
def k_130_2 : List mOp := [(.iload_n 1, 1, []), (.iconst 1, 1, []), (.iadd, 1, []), (.istore_n 3, 1, []), (.iload_n 2, 1, []), (.bipush 39, 2, []), (.if_icmp .ne (48), 3, [7])]
def k_130_3 : List mOp := [(.iload_n 3, 1, []), (.aload_n 0, 1, []), (.getfield 100, 3, [111, 2, 0]), (.if_icmp .ge (19), 3, [4]), (.aload_n 0, 1, []), (.iload_n 3, 1, []), (.invokevirtual 103, 3, [122, 2, 111]), (.bipush 39, 2, []), (.if_icmp .eq (9), 3, [4]), (.iinc 3 1, 3, []), (.goto (-21), 3, [3])]
def k_130_4 : List mOp := [(.aload_n 0, 1, []), (.iload_n 3, 1, []), (.putfield 120, 3, [111, 8, 0]), (.iload_n 3, 1, []), (.aload_n 0, 1, []), (.getfield 100, 3, [111, 2, 0]), (.if_icmp .ge (9), 3, [5]), (.iload_n 3, 1, []), (.iconst 1, 1, []), (.iadd, 1, []), (.goto (4), 3, [6])]
def k_130_5 : List mOp := [(.iconst (-1), 1, [])]
def k_130_6 : List mOp := [(.ireturn, 1, [0])]
def k_130_7 : List mOp := [(.iload_n 2, 1, []), (.bipush 34, 2, []), (.if_icmp .eq (5), 3, [8]), (.iload_n 3, 1, []), (.ireturn, 1, [0])]
def k_130_8 : List mOp := [(.iload_n 3, 1, []), (.ifCond .lt (64), 3, [12]), (.iload_n 3, 1, []), (.aload_n 0, 1, []), (.getfield 100, 3, [111, 2, 0]), (.if_icmp .ge (56), 3, [12]), (.aload_n 0, 1, []), (.iload_n 3, 1, []), (.invokevirtual 103, 3, [122, 2, 111]), (.bipush 34, 2, []), (.if_icmp .eq (46), 3, [12]), (.aload_n 0, 1, []), (.iload_n 3, 1, []), (.invokevirtual 103, 3, [122, 2, 111]), (.bipush 36, 2, []), (.if_icmp .ne (11), 3, [9]), (.aload_n 0, 1, []), (.iload_n 3, 1, []), (.invokevirtual 123, 3, [128, 2, 111]), (.goto (24), 3, [11])]
def k_130_9 : List mOp := [(.aload_n 0, 1, []), (.iload_n 3, 1, []), (.invokevirtual 103, 3, [122, 2, 111]), (.bipush 92, 2, []), (.if_icmp .ne (11), 3, [10]), (.aload_n 0, 1, []), (.iload_n 3, 1, []), (.invokevirtual 126, 3, [129, 2, 111]), (.goto (6), 3, [11])]
def k_130_10 : List mOp := [(.iload_n 3, 1, []), (.iconst 1, 1, []), (.iadd, 1, [])]
def k_130_11 : List mOp := [(.istore_n 3, 1, []), (.goto (-62), 3, [8])]
def k_130_12 : List mOp := [(.iload_n 3, 1, []), (.ifCond .ge (5), 3, [13]), (.iconst (-1), 1, []), (.ireturn, 1, [0])]
def k_130_13 : List mOp := [(.aload_n 0, 1, []), (.aload_n 0, 1, []), (.getfield 100, 3, [111, 2, 0]), (.putfield 120, 3, [111, 8, 0]), (.iload_n 3, 1, []), (.aload_n 0, 1, []), (.getfield 100, 3, [111, 2, 0]), (.if_icmp .ge (9), 3, [14]), (.iload_n 3, 1, []), (.iconst 1, 1, []), (.iadd, 1, []), (.goto (4), 3, [15])]
def k_130_14 : List mOp := [(.iconst (-1), 1, [])]
def k_130_15 : List mOp := [(.ireturn, 1, [0])]
/-- TinyShellModel.pieceEnd(I)I -/
def P_130 (b : Nat) : List mOp × Nat := cond (Nat.blt b 8) (cond (Nat.blt b 4) (cond (Nat.blt b 2) (cond (Nat.blt b 1) ((k_130_0, 0)) ((k_130_1, 0))) (cond (Nat.blt b 3) ((k_130_2, 3)) ((k_130_3, 0)))) (cond (Nat.blt b 6) (cond (Nat.blt b 5) ((k_130_4, 0)) ((k_130_5, 6))) (cond (Nat.blt b 7) ((k_130_6, 0)) ((k_130_7, 0))))) (cond (Nat.blt b 12) (cond (Nat.blt b 10) (cond (Nat.blt b 9) ((k_130_8, 0)) ((k_130_9, 0))) (cond (Nat.blt b 11) ((k_130_10, 11)) ((k_130_11, 0)))) (cond (Nat.blt b 14) (cond (Nat.blt b 13) ((k_130_12, 0)) ((k_130_13, 0))) (cond (Nat.blt b 15) ((k_130_14, 15)) ((k_130_15, 0)))))
def J_130 : MethodName × ByteArray × Nat × Option FieldType × Nat × Nat × List Nat := (⟨"TinyShellModel", "pieceEnd", "(I)I"⟩, prog_15_method_14_code, 4, some (Jvm.ClassFile.FieldType.int), 3, 67, [0, 18, 30, 40, 64, 83, 84, 85, 93, 133, 151, 154, 158, 164, 186, 187])
def k_131_0 : List mOp := [(.aload_n 0, 1, []), (.iconst 0, 1, []), (.putfield 129, 3, [111, 4, 0]), (.aload_n 0, 1, []), (.iconst (-1), 1, []), (.putfield 120, 3, [111, 8, 0]), (.iconst (-1), 1, []), (.istore_n 1, 1, []), (.iconst 0, 1, []), (.istore_n 2, 1, [])]
def k_131_1 : List mOp := [(.iload_n 2, 1, []), (.aload_n 0, 1, []), (.getfield 100, 3, [111, 2, 0]), (.if_icmp .ge (223), 3, [15]), (.iload_n 1, 1, []), (.ifCond .ge (219), 3, [15]), (.aload_n 0, 1, []), (.iload_n 2, 1, []), (.invokevirtual 103, 3, [122, 2, 111]), (.istore_n 3, 1, []), (.iload_n 3, 1, []), (.bipush 32, 2, []), (.if_icmp .ne (9), 3, [2]), (.iinc 2 1, 3, []), (.goto (198), 3, [14])]
def k_131_2 : List mOp := [(.iload_n 3, 1, []), (.bipush 35, 2, []), (.if_icmp .ne (27), 3, [4])]
def k_131_3 : List mOp := [(.iload_n 2, 1, []), (.aload_n 0, 1, []), (.getfield 100, 3, [111, 2, 0]), (.if_icmp .ge (184), 3, [14]), (.aload_n 0, 1, []), (.iload_n 2, 1, []), (.invokevirtual 103, 3, [122, 2, 111]), (.bipush 10, 2, []), (.if_icmp .eq (174), 3, [14]), (.iinc 2 1, 3, []), (.goto (-21), 3, [3])]
def k_131_4 : List mOp := [(.aload_n 0, 1, []), (.getfield 17, 3, [111, 6, 1]), (.aload_n 0, 1, []), (.getfield 129, 3, [111, 4, 0]), (.iload_n 2, 1, []), (.iastore, 1, []), (.aload_n 0, 1, []), (.getfield 13, 3, [111, 5, 1]), (.aload_n 0, 1, []), (.getfield 129, 3, [111, 4, 0]), (.aload_n 0, 1, []), (.iload_n 2, 1, []), (.invokevirtual 132, 3, [132, 2, 111]), (.iastore, 1, []), (.aload_n 0, 1, []), (.getfield 13, 3, [111, 5, 1]), (.aload_n 0, 1, []), (.getfield 129, 3, [111, 4, 0]), (.iaload, 1, [1]), (.ifCond .ne (8), 3, [5]), (.iload_n 2, 1, []), (.istore_n 1, 1, []), (.goto (107), 3, [13])]
def k_131_5 : List mOp := [(.aload_n 0, 1, []), (.getfield 13, 3, [111, 5, 1]), (.aload_n 0, 1, []), (.getfield 129, 3, [111, 4, 0]), (.iaload, 1, [1]), (.bipush 9, 2, []), (.if_icmp .eq (56), 3, [9]), (.aload_n 0, 1, []), (.getfield 13, 3, [111, 5, 1]), (.aload_n 0, 1, []), (.getfield 129, 3, [111, 4, 0]), (.iaload, 1, [1]), (.iconst 1, 1, []), (.if_icmp .eq (30), 3, [6]), (.aload_n 0, 1, []), (.getfield 13, 3, [111, 5, 1]), (.aload_n 0, 1, []), (.getfield 129, 3, [111, 4, 0]), (.iaload, 1, [1]), (.iconst 2, 1, []), (.if_icmp .eq (17), 3, [6]), (.aload_n 0, 1, []), (.getfield 13, 3, [111, 5, 1]), (.aload_n 0, 1, []), (.getfield 129, 3, [111, 4, 0]), (.iaload, 1, [1]), (.bipush 8, 2, []), (.if_icmp .ne (9), 3, [7])]
def k_131_6 : List mOp := [(.iload_n 2, 1, []), (.iconst 2, 1, []), (.iadd, 1, []), (.goto (6), 3, [8])]
def k_131_7 : List mOp := [(.iload_n 2, 1, []), (.iconst 1, 1, []), (.iadd, 1, [])]
def k_131_8 : List mOp := [(.istore_n 2, 1, []), (.goto (40), 3, [13])]
def k_131_9 : List mOp := [(.iload_n 2, 1, []), (.ifCond .lt (23), 3, [10]), (.aload_n 0, 1, []), (.iload_n 2, 1, []), (.invokevirtual 103, 3, [122, 2, 111]), (.invokestatic 135, 3, [125, 1]), (.ifCond .ne (12), 3, [10]), (.aload_n 0, 1, []), (.iload_n 2, 1, []), (.invokevirtual 138, 3, [130, 2, 111]), (.istore_n 2, 1, []), (.goto (-21), 3, [9])]
def k_131_10 : List mOp := [(.iload_n 2, 1, []), (.ifCond .ge (10), 3, [11]), (.aload_n 0, 1, []), (.getfield 120, 3, [111, 8, 0]), (.goto (4), 3, [12])]
def k_131_11 : List mOp := [(.iconst (-1), 1, [])]
def k_131_12 : List mOp := [(.istore_n 1, 1, [])]
def k_131_13 : List mOp := [(.aload_n 0, 1, []), (.getfield 20, 3, [111, 7, 1]), (.aload_n 0, 1, []), (.getfield 129, 3, [111, 4, 0]), (.iload_n 2, 1, []), (.iastore, 1, []), (.aload_n 0, 1, []), (.dup, 1, []), (.getfield 129, 3, [111, 4, 0]), (.iconst 1, 1, []), (.iadd, 1, []), (.putfield 129, 3, [111, 4, 0])]
def k_131_14 : List mOp := [(.goto (-225), 3, [1])]
def k_131_15 : List mOp := [(.aload_n 0, 1, []), (.iload_n 1, 1, []), (.putfield 120, 3, [111, 8, 0]), (.return_, 1, [])]
/-- TinyShellModel.cut()V -/
def P_131 (b : Nat) : List mOp × Nat := cond (Nat.blt b 8) (cond (Nat.blt b 4) (cond (Nat.blt b 2) (cond (Nat.blt b 1) ((k_131_0, 1)) ((k_131_1, 0))) (cond (Nat.blt b 3) ((k_131_2, 3)) ((k_131_3, 0)))) (cond (Nat.blt b 6) (cond (Nat.blt b 5) ((k_131_4, 0)) ((k_131_5, 6))) (cond (Nat.blt b 7) ((k_131_6, 0)) ((k_131_7, 8))))) (cond (Nat.blt b 12) (cond (Nat.blt b 10) (cond (Nat.blt b 9) ((k_131_8, 0)) ((k_131_9, 0))) (cond (Nat.blt b 11) ((k_131_10, 0)) ((k_131_11, 12)))) (cond (Nat.blt b 14) (cond (Nat.blt b 13) ((k_131_12, 13)) ((k_131_13, 14))) (cond (Nat.blt b 15) ((k_131_14, 0)) ((k_131_15, 0)))))
def J_131 : MethodName × ByteArray × Nat × Option FieldType × Nat × Nat × List Nat := (⟨"TinyShellModel", "cut", "()V"⟩, prog_15_method_15_code, 4, none, 4, 90, [0, 14, 44, 50, 74, 115, 169, 175, 178, 182, 206, 217, 218, 219, 239, 242])
def k_132_0 : List mOp := [(.aload_n 0, 1, []), (.iload_n 1, 1, []), (.invokevirtual 103, 3, [122, 2, 111]), (.istore_n 2, 1, []), (.aload_n 0, 1, []), (.iload_n 1, 1, []), (.iconst 1, 1, []), (.iadd, 1, []), (.invokevirtual 103, 3, [122, 2, 111]), (.istore_n 3, 1, []), (.iload_n 2, 1, []), (.bipush 38, 2, []), (.if_icmp .ne (15), 3, [3]), (.iload_n 3, 1, []), (.bipush 38, 2, []), (.if_icmp .ne (7), 3, [1]), (.iconst 1, 1, []), (.goto (4), 3, [2])]
def k_132_1 : List mOp := [(.iconst 0, 1, [])]
def k_132_2 : List mOp := [(.ireturn, 1, [0])]
def k_132_3 : List mOp := [(.iload_n 2, 1, []), (.bipush 124, 2, []), (.if_icmp .ne (15), 3, [6]), (.iload_n 3, 1, []), (.bipush 124, 2, []), (.if_icmp .ne (7), 3, [4]), (.iconst 2, 1, []), (.goto (4), 3, [5])]
def k_132_4 : List mOp := [(.iconst 3, 1, [])]
def k_132_5 : List mOp := [(.ireturn, 1, [0])]
def k_132_6 : List mOp := [(.iload_n 2, 1, []), (.bipush 62, 2, []), (.if_icmp .ne (17), 3, [9]), (.iload_n 3, 1, []), (.bipush 62, 2, []), (.if_icmp .ne (8), 3, [7]), (.bipush 8, 2, []), (.goto (5), 3, [8])]
def k_132_7 : List mOp := [(.bipush 7, 2, [])]
def k_132_8 : List mOp := [(.ireturn, 1, [0])]
def k_132_9 : List mOp := [(.iload_n 2, 1, []), (.bipush 59, 2, []), (.if_icmp .ne (7), 3, [10]), (.iconst 4, 1, []), (.goto (42), 3, [15])]
def k_132_10 : List mOp := [(.iload_n 2, 1, []), (.bipush 10, 2, []), (.if_icmp .ne (7), 3, [11]), (.iconst 5, 1, []), (.goto (32), 3, [15])]
def k_132_11 : List mOp := [(.iload_n 2, 1, []), (.bipush 60, 2, []), (.if_icmp .ne (8), 3, [12]), (.bipush 6, 2, []), (.goto (21), 3, [15])]
def k_132_12 : List mOp := [(.iload_n 2, 1, []), (.bipush 40, 2, []), (.if_icmp .eq (9), 3, [13]), (.iload_n 2, 1, []), (.bipush 41, 2, []), (.if_icmp .ne (7), 3, [14])]
def k_132_13 : List mOp := [(.iconst 0, 1, []), (.goto (5), 3, [15])]
def k_132_14 : List mOp := [(.bipush 9, 2, [])]
def k_132_15 : List mOp := [(.ireturn, 1, [0])]
/-- TinyShellModel.operator(I)I -/
def P_132 (b : Nat) : List mOp × Nat := cond (Nat.blt b 8) (cond (Nat.blt b 4) (cond (Nat.blt b 2) (cond (Nat.blt b 1) ((k_132_0, 0)) ((k_132_1, 2))) (cond (Nat.blt b 3) ((k_132_2, 0)) ((k_132_3, 0)))) (cond (Nat.blt b 6) (cond (Nat.blt b 5) ((k_132_4, 5)) ((k_132_5, 0))) (cond (Nat.blt b 7) ((k_132_6, 0)) ((k_132_7, 8))))) (cond (Nat.blt b 12) (cond (Nat.blt b 10) (cond (Nat.blt b 9) ((k_132_8, 0)) ((k_132_9, 0))) (cond (Nat.blt b 11) ((k_132_10, 0)) ((k_132_11, 0)))) (cond (Nat.blt b 14) (cond (Nat.blt b 13) ((k_132_12, 13)) ((k_132_13, 0))) (cond (Nat.blt b 15) ((k_132_14, 15)) ((k_132_15, 0)))))
def J_132 : MethodName × ByteArray × Nat × Option FieldType × Nat × Nat × List Nat := (⟨"TinyShellModel", "operator", "(I)I"⟩, prog_15_method_16_code, 4, some (Jvm.ClassFile.FieldType.int), 1, 21, [0, 30, 31, 32, 48, 49, 50, 67, 69, 70, 80, 90, 101, 113, 117, 119])
def k_133_0 : List mOp := [(.aload_n 0, 1, []), (.invokevirtual 141, 3, [131, 1, 111]), (.iconst 0, 1, []), (.istore_n 1, 1, []), (.iconst 0, 1, []), (.istore_n 2, 1, [])]
def k_133_1 : List mOp := [(.iload_n 2, 1, []), (.aload_n 0, 1, []), (.getfield 129, 3, [111, 4, 0]), (.if_icmp .ge (178), 3, [20]), (.aload_n 0, 1, []), (.getfield 13, 3, [111, 5, 1]), (.iload_n 2, 1, []), (.iaload, 1, [1]), (.istore_n 3, 1, []), (.iload_n 3, 1, []), (.bipush 6, 2, []), (.if_icmp .eq (15), 3, [2]), (.iload_n 3, 1, []), (.bipush 7, 2, []), (.if_icmp .eq (9), 3, [2]), (.iload_n 3, 1, []), (.bipush 8, 2, []), (.if_icmp .ne (7), 3, [3])]
def k_133_2 : List mOp := [(.iconst 1, 1, []), (.goto (4), 3, [4])]
def k_133_3 : List mOp := [(.iconst 0, 1, [])]
def k_133_4 : List mOp := [(.istore 4, 2, []), (.iload_n 3, 1, []), (.bipush 9, 2, []), (.if_icmp .eq (32), 3, [7]), (.iload 4, 2, []), (.ifCond .eq (8), 3, [5]), (.iload_n 1, 1, []), (.iconst 3, 1, []), (.if_icmp .ne (22), 3, [7])]
def k_133_5 : List mOp := [(.iload_n 3, 1, []), (.iconst 5, 1, []), (.if_icmp .ne (8), 3, [6]), (.iload_n 1, 1, []), (.iconst 3, 1, []), (.if_icmp .ne (12), 3, [7])]
def k_133_6 : List mOp := [(.iload_n 1, 1, []), (.iconst 2, 1, []), (.if_icmp .ne (11), 3, [8]), (.iload_n 3, 1, []), (.ifCond .le (7), 3, [8])]
def k_133_7 : List mOp := [(.iconst 1, 1, []), (.goto (4), 3, [9])]
def k_133_8 : List mOp := [(.iconst 0, 1, [])]
def k_133_9 : List mOp := [(.istore 5, 2, []), (.iload 5, 2, []), (.ifCond .ne (10), 3, [10]), (.aload_n 0, 1, []), (.getfield 17, 3, [111, 6, 1]), (.iload_n 2, 1, []), (.iaload, 1, [1]), (.ireturn, 1, [0])]
def k_133_10 : List mOp := [(.iload_n 2, 1, []), (.aload_n 0, 1, []), (.getfield 129, 3, [111, 4, 0]), (.iconst 1, 1, []), (.isub, 1, []), (.if_icmp .ne (15), 3, [11]), (.aload_n 0, 1, []), (.getfield 120, 3, [111, 8, 0]), (.ifCond .lt (8), 3, [11]), (.aload_n 0, 1, []), (.getfield 120, 3, [111, 8, 0]), (.ireturn, 1, [0])]
def k_133_11 : List mOp := [(.iload_n 3, 1, []), (.iconst 4, 1, []), (.if_icmp .eq (13), 3, [12]), (.iload_n 3, 1, []), (.iconst 5, 1, []), (.if_icmp .ne (12), 3, [13]), (.iload_n 1, 1, []), (.iconst 2, 1, []), (.if_icmp .ne (7), 3, [13])]
def k_133_12 : List mOp := [(.iconst 1, 1, []), (.goto (4), 3, [14])]
def k_133_13 : List mOp := [(.iconst 0, 1, [])]
def k_133_14 : List mOp := [(.istore 6, 2, []), (.iload_n 3, 1, []), (.bipush 9, 2, []), (.if_icmp .ne (7), 3, [15]), (.iconst 2, 1, []), (.goto (31), 3, [19])]
def k_133_15 : List mOp := [(.iload 4, 2, []), (.ifCond .eq (7), 3, [16]), (.iconst 3, 1, []), (.goto (22), 3, [19])]
def k_133_16 : List mOp := [(.iload 6, 2, []), (.ifCond .eq (7), 3, [17]), (.iconst 0, 1, []), (.goto (13), 3, [19])]
def k_133_17 : List mOp := [(.iload_n 3, 1, []), (.iconst 5, 1, []), (.if_icmp .ne (7), 3, [18]), (.iload_n 1, 1, []), (.goto (4), 3, [19])]
def k_133_18 : List mOp := [(.iconst 1, 1, [])]
def k_133_19 : List mOp := [(.istore_n 1, 1, []), (.iinc 2 1, 3, []), (.goto (-180), 3, [1])]
def k_133_20 : List mOp := [(.iload_n 1, 1, []), (.iconst 1, 1, []), (.if_icmp .eq (8), 3, [21]), (.iload_n 1, 1, []), (.iconst 3, 1, []), (.if_icmp .ne (10), 3, [22])]
def k_133_21 : List mOp := [(.aload_n 0, 1, []), (.getfield 100, 3, [111, 2, 0]), (.goto (4), 3, [23])]
def k_133_22 : List mOp := [(.iconst (-1), 1, [])]
def k_133_23 : List mOp := [(.ireturn, 1, [0])]
/-- TinyShellModel.malformed()I -/
def P_133 (b : Nat) : List mOp × Nat := cond (Nat.blt b 12) (cond (Nat.blt b 6) (cond (Nat.blt b 3) (cond (Nat.blt b 1) ((k_133_0, 1)) (cond (Nat.blt b 2) ((k_133_1, 2)) ((k_133_2, 0)))) (cond (Nat.blt b 4) ((k_133_3, 4)) (cond (Nat.blt b 5) ((k_133_4, 5)) ((k_133_5, 6))))) (cond (Nat.blt b 9) (cond (Nat.blt b 7) ((k_133_6, 7)) (cond (Nat.blt b 8) ((k_133_7, 0)) ((k_133_8, 9)))) (cond (Nat.blt b 10) ((k_133_9, 0)) (cond (Nat.blt b 11) ((k_133_10, 0)) ((k_133_11, 12)))))) (cond (Nat.blt b 18) (cond (Nat.blt b 15) (cond (Nat.blt b 13) ((k_133_12, 0)) (cond (Nat.blt b 14) ((k_133_13, 14)) ((k_133_14, 0)))) (cond (Nat.blt b 16) ((k_133_15, 0)) (cond (Nat.blt b 17) ((k_133_16, 0)) ((k_133_17, 0))))) (cond (Nat.blt b 21) (cond (Nat.blt b 19) ((k_133_18, 19)) (cond (Nat.blt b 20) ((k_133_19, 0)) ((k_133_20, 21)))) (cond (Nat.blt b 22) ((k_133_21, 0)) (cond (Nat.blt b 23) ((k_133_22, 23)) ((k_133_23, 0))))))
def J_133 : MethodName × ByteArray × Nat × Option FieldType × Nat × Nat × List Nat := (⟨"TinyShellModel", "malformed", "()I"⟩, prog_15_method_17_code, 7, some (Jvm.ClassFile.FieldType.int), 5, 113, [0, 8, 41, 45, 46, 64, 74, 83, 87, 88, 102, 124, 139, 143, 144, 156, 165, 174, 183, 184, 191, 201, 208, 209])
def k_134_0 : List mOp := [(.aload_n 0, 1, []), (.getfield 23, 3, [111, 9, 1]), (.iload_n 2, 1, []), (.aload_n 0, 1, []), (.getfield 23, 3, [111, 9, 1]), (.iload_n 1, 1, []), (.iaload, 1, [1]), (.iastore, 1, []), (.aload_n 0, 1, []), (.getfield 38, 3, [111, 14, 1]), (.iload_n 2, 1, []), (.aload_n 0, 1, []), (.getfield 38, 3, [111, 14, 1]), (.iload_n 1, 1, []), (.iaload, 1, [1]), (.iastore, 1, []), (.iconst 0, 1, []), (.istore_n 3, 1, [])]
def k_134_1 : List mOp := [(.iload_n 3, 1, []), (.bipush 48, 2, []), (.if_icmp .ge (31), 3, [2]), (.aload_n 0, 1, []), (.getfield 26, 3, [111, 10, 1]), (.bipush 48, 2, []), (.iload_n 2, 1, []), (.imul, 1, []), (.iload_n 3, 1, []), (.iadd, 1, []), (.aload_n 0, 1, []), (.getfield 26, 3, [111, 10, 1]), (.bipush 48, 2, []), (.iload_n 1, 1, []), (.imul, 1, []), (.iload_n 3, 1, []), (.iadd, 1, []), (.caload, 1, []), (.castore, 1, []), (.iinc 3 1, 3, []), (.goto (-31), 3, [1])]
def k_134_2 : List mOp := [(.iconst 0, 1, []), (.istore_n 3, 1, [])]
def k_134_3 : List mOp := [(.iload_n 3, 1, []), (.sipush 320, 3, []), (.if_icmp .ge (33), 3, [4]), (.aload_n 0, 1, []), (.getfield 32, 3, [111, 12, 1]), (.sipush 320, 3, []), (.iload_n 2, 1, []), (.imul, 1, []), (.iload_n 3, 1, []), (.iadd, 1, []), (.aload_n 0, 1, []), (.getfield 32, 3, [111, 12, 1]), (.sipush 320, 3, []), (.iload_n 1, 1, []), (.imul, 1, []), (.iload_n 3, 1, []), (.iadd, 1, []), (.caload, 1, []), (.castore, 1, []), (.iinc 3 1, 3, []), (.goto (-34), 3, [3])]
def k_134_4 : List mOp := [(.iconst 0, 1, []), (.istore_n 3, 1, [])]
def k_134_5 : List mOp := [(.iload_n 3, 1, []), (.bipush 8, 2, []), (.if_icmp .ge (53), 3, [6]), (.aload_n 0, 1, []), (.getfield 29, 3, [111, 11, 1]), (.bipush 8, 2, []), (.iload_n 2, 1, []), (.imul, 1, []), (.iload_n 3, 1, []), (.iadd, 1, []), (.aload_n 0, 1, []), (.getfield 29, 3, [111, 11, 1]), (.bipush 8, 2, []), (.iload_n 1, 1, []), (.imul, 1, []), (.iload_n 3, 1, []), (.iadd, 1, []), (.iaload, 1, [1]), (.iastore, 1, []), (.aload_n 0, 1, []), (.getfield 35, 3, [111, 13, 1]), (.bipush 8, 2, []), (.iload_n 2, 1, []), (.imul, 1, []), (.iload_n 3, 1, []), (.iadd, 1, []), (.aload_n 0, 1, []), (.getfield 35, 3, [111, 13, 1]), (.bipush 8, 2, []), (.iload_n 1, 1, []), (.imul, 1, []), (.iload_n 3, 1, []), (.iadd, 1, []), (.iaload, 1, [1]), (.iastore, 1, []), (.iinc 3 1, 3, []), (.goto (-53), 3, [5])]
def k_134_6 : List mOp := [(.iconst 0, 1, []), (.istore_n 3, 1, [])]
def k_134_7 : List mOp := [(.iload_n 3, 1, []), (.sipush 360, 3, []), (.if_icmp .ge (33), 3, [8]), (.aload_n 0, 1, []), (.getfield 41, 3, [111, 15, 1]), (.sipush 360, 3, []), (.iload_n 2, 1, []), (.imul, 1, []), (.iload_n 3, 1, []), (.iadd, 1, []), (.aload_n 0, 1, []), (.getfield 41, 3, [111, 15, 1]), (.sipush 360, 3, []), (.iload_n 1, 1, []), (.imul, 1, []), (.iload_n 3, 1, []), (.iadd, 1, []), (.caload, 1, []), (.castore, 1, []), (.iinc 3 1, 3, []), (.goto (-34), 3, [7])]
def k_134_8 : List mOp := [(.iconst 0, 1, []), (.istore_n 3, 1, [])]
def k_134_9 : List mOp := [(.iload_n 3, 1, []), (.bipush 9, 2, []), (.if_icmp .ge (31), 3, [10]), (.aload_n 0, 1, []), (.getfield 44, 3, [111, 16, 1]), (.bipush 9, 2, []), (.iload_n 2, 1, []), (.imul, 1, []), (.iload_n 3, 1, []), (.iadd, 1, []), (.aload_n 0, 1, []), (.getfield 44, 3, [111, 16, 1]), (.bipush 9, 2, []), (.iload_n 1, 1, []), (.imul, 1, []), (.iload_n 3, 1, []), (.iadd, 1, []), (.iaload, 1, [1]), (.iastore, 1, []), (.iinc 3 1, 3, []), (.goto (-31), 3, [9])]
def k_134_10 : List mOp := [(.return_, 1, [])]
/-- TinyShellModel.copyVariables(II)V -/
def P_134 (b : Nat) : List mOp × Nat := cond (Nat.blt b 5) (cond (Nat.blt b 2) (cond (Nat.blt b 1) ((k_134_0, 1)) ((k_134_1, 0))) (cond (Nat.blt b 3) ((k_134_2, 3)) (cond (Nat.blt b 4) ((k_134_3, 0)) ((k_134_4, 5))))) (cond (Nat.blt b 8) (cond (Nat.blt b 6) ((k_134_5, 0)) (cond (Nat.blt b 7) ((k_134_6, 7)) ((k_134_7, 0)))) (cond (Nat.blt b 9) ((k_134_8, 9)) (cond (Nat.blt b 10) ((k_134_9, 0)) ((k_134_10, 0)))))
def J_134 : MethodName × ByteArray × Nat × Option FieldType × Nat × Nat × List Nat := (⟨"TinyShellModel", "copyVariables", "(II)V"⟩, prog_15_method_18_code, 4, none, 0, 0, [0, 26, 60, 62, 99, 101, 157, 159, 196, 198, 232])
def k_135_0 : List mOp := [(.aload_n 0, 1, []), (.iload_n 1, 1, []), (.iload_n 2, 1, []), (.invokevirtual 144, 3, [134, 3, 111]), (.aload_n 0, 1, []), (.getfield 47, 3, [111, 17, 1]), (.iload_n 2, 1, []), (.aload_n 0, 1, []), (.getfield 47, 3, [111, 17, 1]), (.iload_n 1, 1, []), (.iaload, 1, [1]), (.iastore, 1, []), (.iconst 0, 1, []), (.istore_n 3, 1, [])]
def k_135_1 : List mOp := [(.iload_n 3, 1, []), (.bipush 64, 2, []), (.if_icmp .ge (31), 3, [2]), (.aload_n 0, 1, []), (.getfield 50, 3, [111, 18, 1]), (.bipush 64, 2, []), (.iload_n 2, 1, []), (.imul, 1, []), (.iload_n 3, 1, []), (.iadd, 1, []), (.aload_n 0, 1, []), (.getfield 50, 3, [111, 18, 1]), (.bipush 64, 2, []), (.iload_n 1, 1, []), (.imul, 1, []), (.iload_n 3, 1, []), (.iadd, 1, []), (.caload, 1, []), (.castore, 1, []), (.iinc 3 1, 3, []), (.goto (-31), 3, [1])]
def k_135_2 : List mOp := [(.iconst 0, 1, []), (.istore_n 3, 1, [])]
def k_135_3 : List mOp := [(.iload_n 3, 1, []), (.sipush 640, 3, []), (.if_icmp .ge (33), 3, [4]), (.aload_n 0, 1, []), (.getfield 56, 3, [111, 20, 1]), (.sipush 640, 3, []), (.iload_n 2, 1, []), (.imul, 1, []), (.iload_n 3, 1, []), (.iadd, 1, []), (.aload_n 0, 1, []), (.getfield 56, 3, [111, 20, 1]), (.sipush 640, 3, []), (.iload_n 1, 1, []), (.imul, 1, []), (.iload_n 3, 1, []), (.iadd, 1, []), (.caload, 1, []), (.castore, 1, []), (.iinc 3 1, 3, []), (.goto (-34), 3, [3])]
def k_135_4 : List mOp := [(.iconst 0, 1, []), (.istore_n 3, 1, [])]
def k_135_5 : List mOp := [(.iload_n 3, 1, []), (.bipush 8, 2, []), (.if_icmp .ge (53), 3, [6]), (.aload_n 0, 1, []), (.getfield 53, 3, [111, 19, 1]), (.bipush 8, 2, []), (.iload_n 2, 1, []), (.imul, 1, []), (.iload_n 3, 1, []), (.iadd, 1, []), (.aload_n 0, 1, []), (.getfield 53, 3, [111, 19, 1]), (.bipush 8, 2, []), (.iload_n 1, 1, []), (.imul, 1, []), (.iload_n 3, 1, []), (.iadd, 1, []), (.iaload, 1, [1]), (.iastore, 1, []), (.aload_n 0, 1, []), (.getfield 59, 3, [111, 21, 1]), (.bipush 8, 2, []), (.iload_n 2, 1, []), (.imul, 1, []), (.iload_n 3, 1, []), (.iadd, 1, []), (.aload_n 0, 1, []), (.getfield 59, 3, [111, 21, 1]), (.bipush 8, 2, []), (.iload_n 1, 1, []), (.imul, 1, []), (.iload_n 3, 1, []), (.iadd, 1, []), (.iaload, 1, [1]), (.iastore, 1, []), (.iinc 3 1, 3, []), (.goto (-53), 3, [5])]
def k_135_6 : List mOp := [(.aload_n 0, 1, []), (.getfield 62, 3, [111, 22, 1]), (.iload_n 2, 1, []), (.aload_n 0, 1, []), (.getfield 62, 3, [111, 22, 1]), (.iload_n 1, 1, []), (.iaload, 1, [1]), (.iastore, 1, []), (.aload_n 0, 1, []), (.getfield 65, 3, [111, 23, 1]), (.iload_n 2, 1, []), (.aload_n 0, 1, []), (.getfield 65, 3, [111, 23, 1]), (.iload_n 1, 1, []), (.iaload, 1, [1]), (.iastore, 1, []), (.iconst 0, 1, []), (.istore_n 3, 1, [])]
def k_135_7 : List mOp := [(.iload_n 3, 1, []), (.sipush 240, 3, []), (.if_icmp .ge (33), 3, [8]), (.aload_n 0, 1, []), (.getfield 68, 3, [111, 24, 1]), (.sipush 240, 3, []), (.iload_n 2, 1, []), (.imul, 1, []), (.iload_n 3, 1, []), (.iadd, 1, []), (.aload_n 0, 1, []), (.getfield 68, 3, [111, 24, 1]), (.sipush 240, 3, []), (.iload_n 1, 1, []), (.imul, 1, []), (.iload_n 3, 1, []), (.iadd, 1, []), (.caload, 1, []), (.castore, 1, []), (.iinc 3 1, 3, []), (.goto (-34), 3, [7])]
def k_135_8 : List mOp := [(.return_, 1, [])]
/-- TinyShellModel.copyAll(II)V -/
def P_135 (b : Nat) : List mOp × Nat := cond (Nat.blt b 4) (cond (Nat.blt b 2) (cond (Nat.blt b 1) ((k_135_0, 1)) ((k_135_1, 0))) (cond (Nat.blt b 3) ((k_135_2, 3)) ((k_135_3, 0)))) (cond (Nat.blt b 6) (cond (Nat.blt b 5) ((k_135_4, 5)) ((k_135_5, 0))) (cond (Nat.blt b 7) ((k_135_6, 7)) (cond (Nat.blt b 8) ((k_135_7, 0)) ((k_135_8, 0)))))
def J_135 : MethodName × ByteArray × Nat × Option FieldType × Nat × Nat × List Nat := (⟨"TinyShellModel", "copyAll", "(II)V"⟩, prog_15_method_19_code, 4, none, 1, 23, [0, 20, 54, 56, 93, 95, 151, 177, 214])
def k_136_0 : List mOp := [(.aload_n 0, 1, []), (.getfield 29, 3, [111, 11, 1]), (.bipush 8, 2, []), (.iload_n 1, 1, []), (.iadd, 1, []), (.iaload, 1, [1]), (.istore 4, 2, []), (.iconst 0, 1, []), (.istore 5, 2, [])]
def k_136_1 : List mOp := [(.iload 5, 2, []), (.iload_n 3, 1, []), (.if_icmp .ge (51), 3, [3]), (.iload 5, 2, []), (.iload 4, 2, []), (.if_icmp .ge (44), 3, [3]), (.aload_n 0, 1, []), (.getfield 26, 3, [111, 10, 1]), (.bipush 6, 2, []), (.bipush 8, 2, []), (.iload_n 1, 1, []), (.iadd, 1, []), (.imul, 1, []), (.iload 5, 2, []), (.iadd, 1, []), (.caload, 1, []), (.aload_n 0, 1, []), (.getfield 7, 3, [111, 3, 1]), (.iload_n 2, 1, []), (.iload 5, 2, []), (.iadd, 1, []), (.caload, 1, []), (.isub, 1, []), (.istore 6, 2, []), (.iload 6, 2, []), (.ifCond .eq (6), 3, [2]), (.iload 6, 2, []), (.ireturn, 1, [0])]
def k_136_2 : List mOp := [(.iinc 5 1, 3, []), (.goto (-51), 3, [1])]
def k_136_3 : List mOp := [(.iload 4, 2, []), (.iload_n 3, 1, []), (.isub, 1, []), (.ireturn, 1, [0])]
/-- TinyShellModel.compareVariable(III)I -/
def P_136 (b : Nat) : List mOp × Nat := cond (Nat.blt b 2) (cond (Nat.blt b 1) ((k_136_0, 1)) ((k_136_1, 0))) (cond (Nat.blt b 3) ((k_136_2, 0)) ((k_136_3, 0)))
def J_136 : MethodName × ByteArray × Nat × Option FieldType × Nat × Nat × List Nat := (⟨"TinyShellModel", "compareVariable", "(III)I"⟩, prog_15_method_20_code, 7, some (Jvm.ClassFile.FieldType.int), 0, 0, [0, 14, 62, 68])
def k_137_0 : List mOp := [(.iconst 0, 1, []), (.istore_n 3, 1, [])]
def k_137_1 : List mOp := [(.iload_n 3, 1, []), (.aload_n 0, 1, []), (.getfield 23, 3, [111, 9, 1]), (.iconst 1, 1, []), (.iaload, 1, [1]), (.if_icmp .ge (21), 3, [3]), (.aload_n 0, 1, []), (.iload_n 3, 1, []), (.iload_n 1, 1, []), (.iload_n 2, 1, []), (.invokevirtual 148, 3, [136, 4, 111]), (.ifCond .ne (5), 3, [2]), (.iload_n 3, 1, []), (.ireturn, 1, [0])]
def k_137_2 : List mOp := [(.iinc 3 1, 3, []), (.goto (-25), 3, [1])]
def k_137_3 : List mOp := [(.iconst (-1), 1, []), (.ireturn, 1, [0])]
/-- TinyShellModel.variableOf(II)I -/
def P_137 (b : Nat) : List mOp × Nat := cond (Nat.blt b 2) (cond (Nat.blt b 1) ((k_137_0, 1)) ((k_137_1, 0))) (cond (Nat.blt b 3) ((k_137_2, 0)) ((k_137_3, 0)))
def J_137 : MethodName × ByteArray × Nat × Option FieldType × Nat × Nat × List Nat := (⟨"TinyShellModel", "variableOf", "(II)I"⟩, prog_15_method_21_code, 4, some (Jvm.ClassFile.FieldType.int), 1, 26, [0, 2, 24, 30])
def k_138_0 : List mOp := [(.iconst 0, 1, []), (.istore_n 3, 1, [])]
def k_138_1 : List mOp := [(.iload_n 3, 1, []), (.bipush 6, 2, []), (.if_icmp .ge (37), 3, [2]), (.aload_n 0, 1, []), (.getfield 26, 3, [111, 10, 1]), (.bipush 6, 2, []), (.bipush 8, 2, []), (.iload_n 2, 1, []), (.iadd, 1, []), (.imul, 1, []), (.iload_n 3, 1, []), (.iadd, 1, []), (.aload_n 0, 1, []), (.getfield 26, 3, [111, 10, 1]), (.bipush 6, 2, []), (.bipush 8, 2, []), (.iload_n 1, 1, []), (.iadd, 1, []), (.imul, 1, []), (.iload_n 3, 1, []), (.iadd, 1, []), (.caload, 1, []), (.castore, 1, []), (.iinc 3 1, 3, []), (.goto (-37), 3, [1])]
def k_138_2 : List mOp := [(.iconst 0, 1, []), (.istore_n 3, 1, [])]
def k_138_3 : List mOp := [(.iload_n 3, 1, []), (.bipush 40, 2, []), (.if_icmp .ge (37), 3, [4]), (.aload_n 0, 1, []), (.getfield 32, 3, [111, 12, 1]), (.bipush 40, 2, []), (.bipush 8, 2, []), (.iload_n 2, 1, []), (.iadd, 1, []), (.imul, 1, []), (.iload_n 3, 1, []), (.iadd, 1, []), (.aload_n 0, 1, []), (.getfield 32, 3, [111, 12, 1]), (.bipush 40, 2, []), (.bipush 8, 2, []), (.iload_n 1, 1, []), (.iadd, 1, []), (.imul, 1, []), (.iload_n 3, 1, []), (.iadd, 1, []), (.caload, 1, []), (.castore, 1, []), (.iinc 3 1, 3, []), (.goto (-37), 3, [3])]
def k_138_4 : List mOp := [(.aload_n 0, 1, []), (.getfield 29, 3, [111, 11, 1]), (.bipush 8, 2, []), (.iload_n 2, 1, []), (.iadd, 1, []), (.aload_n 0, 1, []), (.getfield 29, 3, [111, 11, 1]), (.bipush 8, 2, []), (.iload_n 1, 1, []), (.iadd, 1, []), (.iaload, 1, [1]), (.iastore, 1, []), (.aload_n 0, 1, []), (.getfield 35, 3, [111, 13, 1]), (.bipush 8, 2, []), (.iload_n 2, 1, []), (.iadd, 1, []), (.aload_n 0, 1, []), (.getfield 35, 3, [111, 13, 1]), (.bipush 8, 2, []), (.iload_n 1, 1, []), (.iadd, 1, []), (.iaload, 1, [1]), (.iastore, 1, []), (.return_, 1, [])]
/-- TinyShellModel.moveVariable(II)V -/
def P_138 (b : Nat) : List mOp × Nat := cond (Nat.blt b 2) (cond (Nat.blt b 1) ((k_138_0, 1)) ((k_138_1, 0))) (cond (Nat.blt b 3) ((k_138_2, 3)) (cond (Nat.blt b 4) ((k_138_3, 0)) ((k_138_4, 0))))
def J_138 : MethodName × ByteArray × Nat × Option FieldType × Nat × Nat × List Nat := (⟨"TinyShellModel", "moveVariable", "(II)V"⟩, prog_15_method_22_code, 4, none, 0, 0, [0, 2, 42, 44, 84])
def k_139_0 : List mOp := [(.aload_n 0, 1, []), (.iload_n 1, 1, []), (.iload_n 2, 1, []), (.invokevirtual 152, 3, [137, 3, 111]), (.istore_n 3, 1, []), (.iload_n 3, 1, []), (.ifCond .ge (122), 3, [7]), (.iload_n 2, 1, []), (.bipush 6, 2, []), (.if_icmp .gt (14), 3, [1]), (.aload_n 0, 1, []), (.getfield 23, 3, [111, 9, 1]), (.iconst 1, 1, []), (.iaload, 1, [1]), (.bipush 8, 2, []), (.if_icmp .ne (9), 3, [2])]
def k_139_1 : List mOp := [(.aload_n 0, 1, []), (.iconst 1, 1, []), (.putfield 156, 3, [111, 25, 2]), (.return_, 1, [])]
def k_139_2 : List mOp := [(.aload_n 0, 1, []), (.getfield 23, 3, [111, 9, 1]), (.iconst 1, 1, []), (.iaload, 1, [1]), (.istore_n 3, 1, [])]
def k_139_3 : List mOp := [(.iload_n 3, 1, []), (.ifCond .le (29), 3, [4]), (.aload_n 0, 1, []), (.iload_n 3, 1, []), (.iconst 1, 1, []), (.isub, 1, []), (.iload_n 1, 1, []), (.iload_n 2, 1, []), (.invokevirtual 148, 3, [136, 4, 111]), (.ifCond .le (17), 3, [4]), (.aload_n 0, 1, []), (.iload_n 3, 1, []), (.iconst 1, 1, []), (.isub, 1, []), (.iload_n 3, 1, []), (.invokevirtual 160, 3, [138, 3, 111]), (.iinc 3 (-1), 3, []), (.goto (-27), 3, [3])]
def k_139_4 : List mOp := [(.aload_n 0, 1, []), (.getfield 23, 3, [111, 9, 1]), (.iconst 1, 1, []), (.dup2, 1, []), (.iaload, 1, [1]), (.iconst 1, 1, []), (.iadd, 1, []), (.iastore, 1, []), (.iconst 0, 1, []), (.istore 4, 2, [])]
def k_139_5 : List mOp := [(.iload 4, 2, []), (.iload_n 2, 1, []), (.if_icmp .ge (33), 3, [6]), (.aload_n 0, 1, []), (.getfield 26, 3, [111, 10, 1]), (.bipush 6, 2, []), (.bipush 8, 2, []), (.iload_n 3, 1, []), (.iadd, 1, []), (.imul, 1, []), (.iload 4, 2, []), (.iadd, 1, []), (.aload_n 0, 1, []), (.getfield 7, 3, [111, 3, 1]), (.iload_n 1, 1, []), (.iload 4, 2, []), (.iadd, 1, []), (.caload, 1, []), (.castore, 1, []), (.iinc 4 1, 3, []), (.goto (-33), 3, [5])]
def k_139_6 : List mOp := [(.aload_n 0, 1, []), (.getfield 29, 3, [111, 11, 1]), (.bipush 8, 2, []), (.iload_n 3, 1, []), (.iadd, 1, []), (.iload_n 2, 1, []), (.iastore, 1, [])]
def k_139_7 : List mOp := [(.iconst 0, 1, []), (.istore 4, 2, [])]
def k_139_8 : List mOp := [(.iload 4, 2, []), (.aload_n 0, 1, []), (.getfield 163, 3, [111, 27, 0]), (.if_icmp .ge (31), 3, [9]), (.aload_n 0, 1, []), (.getfield 32, 3, [111, 12, 1]), (.bipush 40, 2, []), (.bipush 8, 2, []), (.iload_n 3, 1, []), (.iadd, 1, []), (.imul, 1, []), (.iload 4, 2, []), (.iadd, 1, []), (.aload_n 0, 1, []), (.getfield 71, 3, [111, 28, 1]), (.iload 4, 2, []), (.caload, 1, []), (.castore, 1, []), (.iinc 4 1, 3, []), (.goto (-34), 3, [8])]
def k_139_9 : List mOp := [(.aload_n 0, 1, []), (.getfield 35, 3, [111, 13, 1]), (.bipush 8, 2, []), (.iload_n 3, 1, []), (.iadd, 1, []), (.aload_n 0, 1, []), (.getfield 163, 3, [111, 27, 0]), (.iastore, 1, []), (.return_, 1, [])]
/-- TinyShellModel.assign(II)V -/
def P_139 (b : Nat) : List mOp × Nat := cond (Nat.blt b 5) (cond (Nat.blt b 2) (cond (Nat.blt b 1) ((k_139_0, 1)) ((k_139_1, 0))) (cond (Nat.blt b 3) ((k_139_2, 3)) (cond (Nat.blt b 4) ((k_139_3, 0)) ((k_139_4, 5))))) (cond (Nat.blt b 7) (cond (Nat.blt b 6) ((k_139_5, 0)) ((k_139_6, 7))) (cond (Nat.blt b 8) ((k_139_7, 8)) (cond (Nat.blt b 9) ((k_139_8, 0)) ((k_139_9, 0)))))
def J_139 : MethodName × ByteArray × Nat × Option FieldType × Nat × Nat × List Nat := (⟨"TinyShellModel", "assign", "(II)V"⟩, prog_15_method_23_code, 5, none, 2, 49, [0, 28, 34, 41, 71, 84, 120, 130, 133, 170])
def k_140_0 : List mOp := [(.aload_n 0, 1, []), (.getfield 29, 3, [111, 11, 1]), (.bipush 8, 2, []), (.iload_n 1, 1, []), (.iadd, 1, []), (.iaload, 1, [1]), (.aload_n 0, 1, []), (.getfield 81, 3, [111, 35, 1]), (.iload_n 2, 1, []), (.iaload, 1, [1]), (.if_icmp .ne (7), 3, [1]), (.iconst 1, 1, []), (.goto (4), 3, [2])]
def k_140_1 : List mOp := [(.iconst 0, 1, [])]
def k_140_2 : List mOp := [(.istore_n 3, 1, []), (.iconst 0, 1, []), (.istore 4, 2, [])]
def k_140_3 : List mOp := [(.iload 4, 2, []), (.aload_n 0, 1, []), (.getfield 81, 3, [111, 35, 1]), (.iload_n 2, 1, []), (.iaload, 1, [1]), (.if_icmp .ge (49), 3, [6]), (.iload_n 3, 1, []), (.ifCond .eq (45), 3, [6]), (.aload_n 0, 1, []), (.getfield 26, 3, [111, 10, 1]), (.bipush 6, 2, []), (.bipush 8, 2, []), (.iload_n 1, 1, []), (.iadd, 1, []), (.imul, 1, []), (.iload 4, 2, []), (.iadd, 1, []), (.caload, 1, []), (.aload_n 0, 1, []), (.getfield 78, 3, [111, 34, 1]), (.bipush 40, 2, []), (.iload_n 2, 1, []), (.imul, 1, []), (.iload 4, 2, []), (.iadd, 1, []), (.caload, 1, []), (.if_icmp .ne (7), 3, [4]), (.iconst 1, 1, []), (.goto (4), 3, [5])]
def k_140_4 : List mOp := [(.iconst 0, 1, [])]
def k_140_5 : List mOp := [(.istore_n 3, 1, []), (.iinc 4 1, 3, []), (.goto (-54), 3, [3])]
def k_140_6 : List mOp := [(.iload_n 3, 1, []), (.ireturn, 1, [1])]
/-- TinyShellModel.variableIsField(II)Z -/
def P_140 (b : Nat) : List mOp × Nat := cond (Nat.blt b 3) (cond (Nat.blt b 1) ((k_140_0, 0)) (cond (Nat.blt b 2) ((k_140_1, 2)) ((k_140_2, 3)))) (cond (Nat.blt b 5) (cond (Nat.blt b 4) ((k_140_3, 0)) ((k_140_4, 5))) (cond (Nat.blt b 6) ((k_140_5, 0)) ((k_140_6, 0))))
def J_140 : MethodName × ByteArray × Nat × Option FieldType × Nat × Nat × List Nat := (⟨"TinyShellModel", "variableIsField", "(II)Z"⟩, prog_15_method_24_code, 5, some (Jvm.ClassFile.FieldType.boolean), 0, 0, [0, 22, 23, 27, 76, 77, 84])
def k_141_0 : List mOp := [(.aload_n 0, 1, []), (.getfield 53, 3, [111, 19, 1]), (.bipush 8, 2, []), (.iload_n 1, 1, []), (.iadd, 1, []), (.iaload, 1, [1]), (.istore_n 3, 1, []), (.aload_n 0, 1, []), (.getfield 81, 3, [111, 35, 1]), (.iload_n 2, 1, []), (.iaload, 1, [1]), (.istore 4, 2, []), (.iconst 0, 1, []), (.istore 5, 2, [])]
def k_141_1 : List mOp := [(.iload 5, 2, []), (.iload 4, 2, []), (.if_icmp .ge (53), 3, [3]), (.iload 5, 2, []), (.iload_n 3, 1, []), (.if_icmp .ge (47), 3, [3]), (.aload_n 0, 1, []), (.getfield 50, 3, [111, 18, 1]), (.bipush 8, 2, []), (.bipush 8, 2, []), (.iload_n 1, 1, []), (.iadd, 1, []), (.imul, 1, []), (.iload 5, 2, []), (.iadd, 1, []), (.caload, 1, []), (.aload_n 0, 1, []), (.getfield 78, 3, [111, 34, 1]), (.bipush 40, 2, []), (.iload_n 2, 1, []), (.imul, 1, []), (.iload 5, 2, []), (.iadd, 1, []), (.caload, 1, []), (.isub, 1, []), (.istore 6, 2, []), (.iload 6, 2, []), (.ifCond .eq (6), 3, [2]), (.iload 6, 2, []), (.ireturn, 1, [0])]
def k_141_2 : List mOp := [(.iinc 5 1, 3, []), (.goto (-54), 3, [1])]
def k_141_3 : List mOp := [(.iload_n 3, 1, []), (.iload 4, 2, []), (.isub, 1, []), (.ireturn, 1, [0])]
/-- TinyShellModel.compareFile(II)I -/
def P_141 (b : Nat) : List mOp × Nat := cond (Nat.blt b 2) (cond (Nat.blt b 1) ((k_141_0, 1)) ((k_141_1, 0))) (cond (Nat.blt b 3) ((k_141_2, 0)) ((k_141_3, 0)))
def J_141 : MethodName × ByteArray × Nat × Option FieldType × Nat × Nat × List Nat := (⟨"TinyShellModel", "compareFile", "(II)I"⟩, prog_15_method_25_code, 7, some (Jvm.ClassFile.FieldType.int), 0, 0, [0, 21, 72, 78])
def k_142_0 : List mOp := [(.iconst 0, 1, []), (.istore_n 2, 1, [])]
def k_142_1 : List mOp := [(.iload_n 2, 1, []), (.aload_n 0, 1, []), (.getfield 47, 3, [111, 17, 1]), (.iconst 1, 1, []), (.iaload, 1, [1]), (.if_icmp .ge (20), 3, [3]), (.aload_n 0, 1, []), (.iload_n 2, 1, []), (.iload_n 1, 1, []), (.invokevirtual 166, 3, [141, 3, 111]), (.ifCond .ne (5), 3, [2]), (.iload_n 2, 1, []), (.ireturn, 1, [0])]
def k_142_2 : List mOp := [(.iinc 2 1, 3, []), (.goto (-24), 3, [1])]
def k_142_3 : List mOp := [(.iconst (-1), 1, []), (.ireturn, 1, [0])]
/-- TinyShellModel.fileOf(I)I -/
def P_142 (b : Nat) : List mOp × Nat := cond (Nat.blt b 2) (cond (Nat.blt b 1) ((k_142_0, 1)) ((k_142_1, 0))) (cond (Nat.blt b 3) ((k_142_2, 0)) ((k_142_3, 0)))
def J_142 : MethodName × ByteArray × Nat × Option FieldType × Nat × Nat × List Nat := (⟨"TinyShellModel", "fileOf", "(I)I"⟩, prog_15_method_26_code, 3, some (Jvm.ClassFile.FieldType.int), 1, 26, [0, 2, 23, 29])
def k_143_0 : List mOp := [(.iconst 0, 1, []), (.istore_n 3, 1, [])]
def k_143_1 : List mOp := [(.iload_n 3, 1, []), (.bipush 8, 2, []), (.if_icmp .ge (37), 3, [2]), (.aload_n 0, 1, []), (.getfield 50, 3, [111, 18, 1]), (.bipush 8, 2, []), (.bipush 8, 2, []), (.iload_n 2, 1, []), (.iadd, 1, []), (.imul, 1, []), (.iload_n 3, 1, []), (.iadd, 1, []), (.aload_n 0, 1, []), (.getfield 50, 3, [111, 18, 1]), (.bipush 8, 2, []), (.bipush 8, 2, []), (.iload_n 1, 1, []), (.iadd, 1, []), (.imul, 1, []), (.iload_n 3, 1, []), (.iadd, 1, []), (.caload, 1, []), (.castore, 1, []), (.iinc 3 1, 3, []), (.goto (-37), 3, [1])]
def k_143_2 : List mOp := [(.iconst 0, 1, []), (.istore_n 3, 1, [])]
def k_143_3 : List mOp := [(.iload_n 3, 1, []), (.bipush 80, 2, []), (.if_icmp .ge (37), 3, [4]), (.aload_n 0, 1, []), (.getfield 56, 3, [111, 20, 1]), (.bipush 80, 2, []), (.bipush 8, 2, []), (.iload_n 2, 1, []), (.iadd, 1, []), (.imul, 1, []), (.iload_n 3, 1, []), (.iadd, 1, []), (.aload_n 0, 1, []), (.getfield 56, 3, [111, 20, 1]), (.bipush 80, 2, []), (.bipush 8, 2, []), (.iload_n 1, 1, []), (.iadd, 1, []), (.imul, 1, []), (.iload_n 3, 1, []), (.iadd, 1, []), (.caload, 1, []), (.castore, 1, []), (.iinc 3 1, 3, []), (.goto (-37), 3, [3])]
def k_143_4 : List mOp := [(.aload_n 0, 1, []), (.getfield 53, 3, [111, 19, 1]), (.bipush 8, 2, []), (.iload_n 2, 1, []), (.iadd, 1, []), (.aload_n 0, 1, []), (.getfield 53, 3, [111, 19, 1]), (.bipush 8, 2, []), (.iload_n 1, 1, []), (.iadd, 1, []), (.iaload, 1, [1]), (.iastore, 1, []), (.aload_n 0, 1, []), (.getfield 59, 3, [111, 21, 1]), (.bipush 8, 2, []), (.iload_n 2, 1, []), (.iadd, 1, []), (.aload_n 0, 1, []), (.getfield 59, 3, [111, 21, 1]), (.bipush 8, 2, []), (.iload_n 1, 1, []), (.iadd, 1, []), (.iaload, 1, [1]), (.iastore, 1, []), (.return_, 1, [])]
/-- TinyShellModel.moveFile(II)V -/
def P_143 (b : Nat) : List mOp × Nat := cond (Nat.blt b 2) (cond (Nat.blt b 1) ((k_143_0, 1)) ((k_143_1, 0))) (cond (Nat.blt b 3) ((k_143_2, 3)) (cond (Nat.blt b 4) ((k_143_3, 0)) ((k_143_4, 0))))
def J_143 : MethodName × ByteArray × Nat × Option FieldType × Nat × Nat × List Nat := (⟨"TinyShellModel", "moveFile", "(II)V"⟩, prog_15_method_27_code, 4, none, 0, 0, [0, 2, 42, 44, 84])
def k_144_0 : List mOp := [(.aload_n 0, 1, []), (.getfield 81, 3, [111, 35, 1]), (.iload_n 1, 1, []), (.iaload, 1, [1]), (.bipush 8, 2, []), (.if_icmp .gt (14), 3, [1]), (.aload_n 0, 1, []), (.getfield 47, 3, [111, 17, 1]), (.iconst 1, 1, []), (.iaload, 1, [1]), (.bipush 8, 2, []), (.if_icmp .ne (10), 3, [2])]
def k_144_1 : List mOp := [(.aload_n 0, 1, []), (.iconst 1, 1, []), (.putfield 156, 3, [111, 25, 2]), (.iconst (-1), 1, []), (.ireturn, 1, [0])]
def k_144_2 : List mOp := [(.aload_n 0, 1, []), (.getfield 47, 3, [111, 17, 1]), (.iconst 1, 1, []), (.iaload, 1, [1]), (.istore_n 2, 1, [])]
def k_144_3 : List mOp := [(.iload_n 2, 1, []), (.ifCond .le (28), 3, [4]), (.aload_n 0, 1, []), (.iload_n 2, 1, []), (.iconst 1, 1, []), (.isub, 1, []), (.iload_n 1, 1, []), (.invokevirtual 166, 3, [141, 3, 111]), (.ifCond .le (17), 3, [4]), (.aload_n 0, 1, []), (.iload_n 2, 1, []), (.iconst 1, 1, []), (.isub, 1, []), (.iload_n 2, 1, []), (.invokevirtual 169, 3, [143, 3, 111]), (.iinc 2 (-1), 3, []), (.goto (-26), 3, [3])]
def k_144_4 : List mOp := [(.aload_n 0, 1, []), (.aload_n 0, 1, []), (.getfield 172, 3, [111, 43, 0]), (.iload_n 2, 1, []), (.if_icmp .lt (12), 3, [5]), (.aload_n 0, 1, []), (.getfield 172, 3, [111, 43, 0]), (.iconst 1, 1, []), (.iadd, 1, []), (.goto (7), 3, [6])]
def k_144_5 : List mOp := [(.aload_n 0, 1, []), (.getfield 172, 3, [111, 43, 0])]
def k_144_6 : List mOp := [(.putfield 172, 3, [111, 43, 0]), (.aload_n 0, 1, []), (.aload_n 0, 1, []), (.getfield 175, 3, [111, 44, 0]), (.iload_n 2, 1, []), (.if_icmp .lt (12), 3, [7]), (.aload_n 0, 1, []), (.getfield 175, 3, [111, 44, 0]), (.iconst 1, 1, []), (.iadd, 1, []), (.goto (7), 3, [8])]
def k_144_7 : List mOp := [(.aload_n 0, 1, []), (.getfield 175, 3, [111, 44, 0])]
def k_144_8 : List mOp := [(.putfield 175, 3, [111, 44, 0]), (.aload_n 0, 1, []), (.getfield 47, 3, [111, 17, 1]), (.iconst 1, 1, []), (.dup2, 1, []), (.iaload, 1, [1]), (.iconst 1, 1, []), (.iadd, 1, []), (.iastore, 1, []), (.iconst 0, 1, []), (.istore_n 3, 1, [])]
def k_144_9 : List mOp := [(.iload_n 3, 1, []), (.aload_n 0, 1, []), (.getfield 81, 3, [111, 35, 1]), (.iload_n 1, 1, []), (.iaload, 1, [1]), (.if_icmp .ge (34), 3, [10]), (.aload_n 0, 1, []), (.getfield 50, 3, [111, 18, 1]), (.bipush 8, 2, []), (.bipush 8, 2, []), (.iload_n 2, 1, []), (.iadd, 1, []), (.imul, 1, []), (.iload_n 3, 1, []), (.iadd, 1, []), (.aload_n 0, 1, []), (.getfield 78, 3, [111, 34, 1]), (.bipush 40, 2, []), (.iload_n 1, 1, []), (.imul, 1, []), (.iload_n 3, 1, []), (.iadd, 1, []), (.caload, 1, []), (.castore, 1, []), (.iinc 3 1, 3, []), (.goto (-38), 3, [9])]
def k_144_10 : List mOp := [(.aload_n 0, 1, []), (.getfield 53, 3, [111, 19, 1]), (.bipush 8, 2, []), (.iload_n 2, 1, []), (.iadd, 1, []), (.aload_n 0, 1, []), (.getfield 81, 3, [111, 35, 1]), (.iload_n 1, 1, []), (.iaload, 1, [1]), (.iastore, 1, []), (.aload_n 0, 1, []), (.getfield 59, 3, [111, 21, 1]), (.bipush 8, 2, []), (.iload_n 2, 1, []), (.iadd, 1, []), (.iconst 0, 1, []), (.iastore, 1, []), (.iload_n 2, 1, []), (.ireturn, 1, [0])]
/-- TinyShellModel.makeFile(I)I -/
def P_144 (b : Nat) : List mOp × Nat := cond (Nat.blt b 5) (cond (Nat.blt b 2) (cond (Nat.blt b 1) ((k_144_0, 1)) ((k_144_1, 0))) (cond (Nat.blt b 3) ((k_144_2, 3)) (cond (Nat.blt b 4) ((k_144_3, 0)) ((k_144_4, 0))))) (cond (Nat.blt b 8) (cond (Nat.blt b 6) ((k_144_5, 6)) (cond (Nat.blt b 7) ((k_144_6, 0)) ((k_144_7, 8)))) (cond (Nat.blt b 9) ((k_144_8, 9)) (cond (Nat.blt b 10) ((k_144_9, 0)) ((k_144_10, 0)))))
def J_144 : MethodName × ByteArray × Nat × Option FieldType × Nat × Nat × List Nat := (⟨"TinyShellModel", "makeFile", "(I)I"⟩, prog_15_method_28_code, 4, some (Jvm.ClassFile.FieldType.int), 1, 26, [0, 22, 29, 36, 65, 83, 87, 108, 112, 127, 168])
def k_145_0 : List mOp := [(.aload_n 0, 1, []), (.getfield 47, 3, [111, 17, 1]), (.iconst 1, 1, []), (.dup2, 1, []), (.iaload, 1, [1]), (.iconst 1, 1, []), (.isub, 1, []), (.iastore, 1, []), (.iload_n 1, 1, []), (.istore_n 2, 1, [])]
def k_145_1 : List mOp := [(.iload_n 2, 1, []), (.aload_n 0, 1, []), (.getfield 47, 3, [111, 17, 1]), (.iconst 1, 1, []), (.iaload, 1, [1]), (.if_icmp .ge (17), 3, [2]), (.aload_n 0, 1, []), (.iload_n 2, 1, []), (.iconst 1, 1, []), (.iadd, 1, []), (.iload_n 2, 1, []), (.invokevirtual 169, 3, [143, 3, 111]), (.iinc 2 1, 3, []), (.goto (-21), 3, [1])]
def k_145_2 : List mOp := [(.return_, 1, [])]
/-- TinyShellModel.dropFile(I)V -/
def P_145 (b : Nat) : List mOp × Nat := cond (Nat.blt b 1) ((k_145_0, 1)) (cond (Nat.blt b 2) ((k_145_1, 0)) ((k_145_2, 0)))
def J_145 : MethodName × ByteArray × Nat × Option FieldType × Nat × Nat × List Nat := (⟨"TinyShellModel", "dropFile", "(I)V"⟩, prog_15_method_29_code, 3, none, 1, 23, [0, 12, 36])
def k_146_0 : List mOp := [(.aload_n 0, 1, []), (.getfield 163, 3, [111, 27, 0]), (.bipush 40, 2, []), (.if_icmp .ne (9), 3, [1]), (.aload_n 0, 1, []), (.iconst 1, 1, []), (.putfield 156, 3, [111, 25, 2]), (.return_, 1, [])]
def k_146_1 : List mOp := [(.aload_n 0, 1, []), (.getfield 71, 3, [111, 28, 1]), (.aload_n 0, 1, []), (.getfield 163, 3, [111, 27, 0]), (.iload_n 1, 1, []), (.i2c, 1, []), (.castore, 1, []), (.aload_n 0, 1, []), (.getfield 74, 3, [111, 29, 1]), (.aload_n 0, 1, []), (.getfield 163, 3, [111, 27, 0]), (.iload_n 2, 1, []), (.bastore, 1, []), (.aload_n 0, 1, []), (.dup, 1, []), (.getfield 163, 3, [111, 27, 0]), (.iconst 1, 1, []), (.iadd, 1, []), (.putfield 163, 3, [111, 27, 0]), (.return_, 1, [])]
/-- TinyShellModel.addMade(IZ)V -/
def P_146 (b : Nat) : List mOp × Nat := cond (Nat.blt b 1) ((k_146_0, 0)) ((k_146_1, 0))
def J_146 : MethodName × ByteArray × Nat × Option FieldType × Nat × Nat × List Nat := (⟨"TinyShellModel", "addMade", "(IZ)V"⟩, prog_15_method_30_code, 3, none, 0, 0, [0, 15])
def k_147_0 : List mOp := [(.aload_n 0, 1, []), (.getfield 178, 3, [111, 31, 0]), (.ifCond .eq (26), 3, [2]), (.iload_n 2, 1, []), (.ifCond .ne (22), 3, [2]), (.iload_n 1, 1, []), (.bipush 32, 2, []), (.if_icmp .eq (9), 3, [1]), (.iload_n 1, 1, []), (.bipush 10, 2, []), (.if_icmp .ne (10), 3, [2])]
def k_147_1 : List mOp := [(.aload_n 0, 1, []), (.invokevirtual 181, 3, [153, 1, 111]), (.goto (17), 3, [5])]
def k_147_2 : List mOp := [(.aload_n 0, 1, []), (.iload_n 1, 1, []), (.iload_n 2, 1, []), (.ifCond .ne (7), 3, [3]), (.iconst 1, 1, []), (.goto (4), 3, [4])]
def k_147_3 : List mOp := [(.iconst 0, 1, [])]
def k_147_4 : List mOp := [(.invokevirtual 184, 3, [146, 3, 111])]
def k_147_5 : List mOp := [(.return_, 1, [])]
/-- TinyShellModel.given(IZ)V -/
def P_147 (b : Nat) : List mOp × Nat := cond (Nat.blt b 3) (cond (Nat.blt b 1) ((k_147_0, 1)) (cond (Nat.blt b 2) ((k_147_1, 0)) ((k_147_2, 0)))) (cond (Nat.blt b 4) ((k_147_3, 4)) (cond (Nat.blt b 5) ((k_147_4, 5)) ((k_147_5, 0))))
def J_147 : MethodName × ByteArray × Nat × Option FieldType × Nat × Nat × List Nat := (⟨"TinyShellModel", "given", "(IZ)V"⟩, prog_15_method_31_code, 3, none, 3, 78, [0, 23, 30, 40, 41, 44])
def k_148_0 : List mOp := [(.iload_n 1, 1, []), (.bipush 99, 2, []), (.if_icmp .le (15), 3, [1]), (.aload_n 0, 1, []), (.bipush 48, 2, []), (.iload_n 1, 1, []), (.bipush 100, 2, []), (.idiv, 1, []), (.iadd, 1, []), (.iload_n 2, 1, []), (.invokevirtual 188, 3, [147, 3, 111])]
def k_148_1 : List mOp := [(.iload_n 1, 1, []), (.bipush 9, 2, []), (.if_icmp .le (18), 3, [2]), (.aload_n 0, 1, []), (.bipush 48, 2, []), (.iload_n 1, 1, []), (.bipush 10, 2, []), (.idiv, 1, []), (.bipush 10, 2, []), (.irem, 1, []), (.iadd, 1, []), (.iload_n 2, 1, []), (.invokevirtual 188, 3, [147, 3, 111])]
def k_148_2 : List mOp := [(.aload_n 0, 1, []), (.bipush 48, 2, []), (.iload_n 1, 1, []), (.bipush 10, 2, []), (.irem, 1, []), (.iadd, 1, []), (.iload_n 2, 1, []), (.invokevirtual 188, 3, [147, 3, 111]), (.return_, 1, [])]
/-- TinyShellModel.giveNumber(IZ)V -/
def P_148 (b : Nat) : List mOp × Nat := cond (Nat.blt b 1) ((k_148_0, 1)) (cond (Nat.blt b 2) ((k_148_1, 2)) ((k_148_2, 0)))
def J_148 : MethodName × ByteArray × Nat × Option FieldType × Nat × Nat × List Nat := (⟨"TinyShellModel", "giveNumber", "(IZ)V"⟩, prog_15_method_32_code, 3, none, 4, 100, [0, 18, 39])
def k_149_0 : List mOp := [(.aload_n 0, 1, []), (.iload_n 1, 1, []), (.iconst 1, 1, []), (.iadd, 1, []), (.invokevirtual 103, 3, [122, 2, 111]), (.istore 4, 2, []), (.iload_n 2, 1, []), (.iload_n 1, 1, []), (.iconst 1, 1, []), (.iadd, 1, []), (.if_icmp .ne (21), 3, [3]), (.aload_n 0, 1, []), (.bipush 36, 2, []), (.iload_n 3, 1, []), (.ifCond .ne (7), 3, [1]), (.iconst 1, 1, []), (.goto (4), 3, [2])]
def k_149_1 : List mOp := [(.iconst 0, 1, [])]
def k_149_2 : List mOp := [(.invokevirtual 184, 3, [146, 3, 111]), (.goto (260), 3, [16])]
def k_149_3 : List mOp := [(.iload 4, 2, []), (.bipush 35, 2, []), (.if_icmp .ne (17), 3, [4]), (.aload_n 0, 1, []), (.aload_n 0, 1, []), (.getfield 38, 3, [111, 14, 1]), (.iconst 1, 1, []), (.iaload, 1, [1]), (.iload_n 3, 1, []), (.invokevirtual 191, 3, [148, 3, 111]), (.goto (239), 3, [16])]
def k_149_4 : List mOp := [(.iload 4, 2, []), (.bipush 63, 2, []), (.if_icmp .ne (17), 3, [5]), (.aload_n 0, 1, []), (.aload_n 0, 1, []), (.getfield 62, 3, [111, 22, 1]), (.iconst 1, 1, []), (.iaload, 1, [1]), (.iload_n 3, 1, []), (.invokevirtual 191, 3, [148, 3, 111]), (.goto (218), 3, [16])]
def k_149_5 : List mOp := [(.iload 4, 2, []), (.invokestatic 111, 3, [124, 1]), (.ifCond .eq (69), 3, [8]), (.iload 4, 2, []), (.bipush 49, 2, []), (.isub, 1, []), (.istore 5, 2, []), (.iconst 0, 1, []), (.istore 6, 2, [])]
def k_149_6 : List mOp := [(.iload 5, 2, []), (.aload_n 0, 1, []), (.getfield 38, 3, [111, 14, 1]), (.iconst 1, 1, []), (.iaload, 1, [1]), (.if_icmp .ge (45), 3, [7]), (.iload 6, 2, []), (.aload_n 0, 1, []), (.getfield 44, 3, [111, 16, 1]), (.bipush 9, 2, []), (.iload 5, 2, []), (.iadd, 1, []), (.iaload, 1, [1]), (.if_icmp .ge (30), 3, [7]), (.aload_n 0, 1, []), (.aload_n 0, 1, []), (.getfield 41, 3, [111, 15, 1]), (.bipush 40, 2, []), (.bipush 9, 2, []), (.iload 5, 2, []), (.iadd, 1, []), (.imul, 1, []), (.iload 6, 2, []), (.iadd, 1, []), (.caload, 1, []), (.iload_n 3, 1, []), (.invokevirtual 188, 3, [147, 3, 111]), (.iinc 6 1, 3, []), (.goto (-50), 3, [6])]
def k_149_7 : List mOp := [(.goto (144), 3, [16])]
def k_149_8 : List mOp := [(.iload 4, 2, []), (.bipush 123, 2, []), (.if_icmp .ne (9), 3, [9]), (.iload_n 1, 1, []), (.iconst 2, 1, []), (.iadd, 1, []), (.goto (6), 3, [10])]
def k_149_9 : List mOp := [(.iload_n 1, 1, []), (.iconst 1, 1, []), (.iadd, 1, [])]
def k_149_10 : List mOp := [(.istore 5, 2, []), (.aload_n 0, 1, []), (.iload 5, 2, []), (.invokevirtual 114, 3, [126, 2, 111]), (.istore 6, 2, []), (.aload_n 0, 1, []), (.iload 5, 2, []), (.iload 6, 2, []), (.iload 5, 2, []), (.isub, 1, []), (.invokevirtual 152, 3, [137, 3, 111]), (.istore 7, 2, []), (.iload 7, 2, []), (.ifCond .ge (7), 3, [11]), (.iconst 0, 1, []), (.goto (13), 3, [12])]
def k_149_11 : List mOp := [(.aload_n 0, 1, []), (.getfield 35, 3, [111, 13, 1]), (.bipush 8, 2, []), (.iload 7, 2, []), (.iadd, 1, []), (.iaload, 1, [1])]
def k_149_12 : List mOp := [(.istore 8, 2, []), (.iconst 0, 1, []), (.istore 9, 2, [])]
def k_149_13 : List mOp := [(.iload 9, 2, []), (.iload 8, 2, []), (.if_icmp .ge (30), 3, [14]), (.aload_n 0, 1, []), (.aload_n 0, 1, []), (.getfield 32, 3, [111, 12, 1]), (.bipush 40, 2, []), (.bipush 8, 2, []), (.iload 7, 2, []), (.iadd, 1, []), (.imul, 1, []), (.iload 9, 2, []), (.iadd, 1, []), (.caload, 1, []), (.iload_n 3, 1, []), (.invokevirtual 188, 3, [147, 3, 111]), (.iinc 9 1, 3, []), (.goto (-31), 3, [13])]
def k_149_14 : List mOp := [(.iload 6, 2, []), (.iconst 2, 1, []), (.iadd, 1, []), (.istore 9, 2, [])]
def k_149_15 : List mOp := [(.iload 8, 2, []), (.ifCond .ne (36), 3, [16]), (.iload 4, 2, []), (.bipush 123, 2, []), (.if_icmp .ne (29), 3, [16]), (.iload 9, 2, []), (.iload_n 2, 1, []), (.iconst 1, 1, []), (.isub, 1, []), (.if_icmp .ge (21), 3, [16]), (.aload_n 0, 1, []), (.aload_n 0, 1, []), (.getfield 7, 3, [111, 3, 1]), (.iload 9, 2, []), (.caload, 1, []), (.iload_n 3, 1, []), (.invokevirtual 188, 3, [147, 3, 111]), (.iinc 9 1, 3, []), (.goto (-35), 3, [15])]
def k_149_16 : List mOp := [(.return_, 1, [])]
/-- TinyShellModel.parameter(IIZ)V -/
def P_149 (b : Nat) : List mOp × Nat := cond (Nat.blt b 8) (cond (Nat.blt b 4) (cond (Nat.blt b 2) (cond (Nat.blt b 1) ((k_149_0, 0)) ((k_149_1, 2))) (cond (Nat.blt b 3) ((k_149_2, 0)) ((k_149_3, 0)))) (cond (Nat.blt b 6) (cond (Nat.blt b 5) ((k_149_4, 0)) ((k_149_5, 6))) (cond (Nat.blt b 7) ((k_149_6, 0)) ((k_149_7, 0))))) (cond (Nat.blt b 12) (cond (Nat.blt b 10) (cond (Nat.blt b 9) ((k_149_8, 0)) ((k_149_9, 10))) (cond (Nat.blt b 11) ((k_149_10, 0)) ((k_149_11, 12)))) (cond (Nat.blt b 14) (cond (Nat.blt b 13) ((k_149_12, 13)) ((k_149_13, 0))) (cond (Nat.blt b 15) ((k_149_14, 15)) (cond (Nat.blt b 16) ((k_149_15, 0)) ((k_149_16, 0))))))
def J_149 : MethodName × ByteArray × Nat × Option FieldType × Nat × Nat × List Nat := (⟨"TinyShellModel", "parameter", "(IIZ)V"⟩, prog_15_method_33_code, 10, none, 5, 122, [0, 27, 28, 34, 55, 76, 94, 147, 150, 163, 166, 198, 208, 213, 247, 253, 291])
def k_150_0 : List mOp := [(.aload_n 0, 1, []), (.iconst 1, 1, []), (.putfield 194, 3, [111, 30, 2]), (.iload_n 1, 1, []), (.iconst 1, 1, []), (.iadd, 1, []), (.istore_n 3, 1, [])]
def k_150_1 : List mOp := [(.iload_n 3, 1, []), (.iload_n 2, 1, []), (.iconst 1, 1, []), (.isub, 1, []), (.if_icmp .ge (139), 3, [5]), (.aload_n 0, 1, []), (.getfield 156, 3, [111, 25, 0]), (.ifCond .ne (132), 3, [5]), (.aload_n 0, 1, []), (.getfield 7, 3, [111, 3, 1]), (.iload_n 1, 1, []), (.caload, 1, []), (.bipush 34, 2, []), (.if_icmp .ne (34), 3, [2]), (.aload_n 0, 1, []), (.iload_n 3, 1, []), (.invokevirtual 103, 3, [122, 2, 111]), (.bipush 36, 2, []), (.if_icmp .ne (24), 3, [2]), (.aload_n 0, 1, []), (.iload_n 3, 1, []), (.invokevirtual 123, 3, [128, 2, 111]), (.istore 4, 2, []), (.aload_n 0, 1, []), (.iload_n 3, 1, []), (.iload 4, 2, []), (.iconst 1, 1, []), (.invokevirtual 197, 3, [149, 4, 111]), (.iload 4, 2, []), (.istore_n 3, 1, []), (.goto (-53), 3, [1])]
def k_150_2 : List mOp := [(.aload_n 0, 1, []), (.getfield 7, 3, [111, 3, 1]), (.iload_n 1, 1, []), (.caload, 1, []), (.bipush 34, 2, []), (.if_icmp .ne (63), 3, [4]), (.aload_n 0, 1, []), (.iload_n 3, 1, []), (.invokevirtual 103, 3, [122, 2, 111]), (.bipush 92, 2, []), (.if_icmp .ne (53), 3, [4]), (.aload_n 0, 1, []), (.iload_n 3, 1, []), (.iconst 1, 1, []), (.iadd, 1, []), (.invokevirtual 103, 3, [122, 2, 111]), (.istore 4, 2, []), (.iload 4, 2, []), (.bipush 36, 2, []), (.if_icmp .eq (24), 3, [3]), (.iload 4, 2, []), (.bipush 34, 2, []), (.if_icmp .eq (17), 3, [3]), (.iload 4, 2, []), (.bipush 92, 2, []), (.if_icmp .eq (10), 3, [3]), (.aload_n 0, 1, []), (.bipush 92, 2, []), (.iconst 0, 1, []), (.invokevirtual 184, 3, [146, 3, 111])]
def k_150_3 : List mOp := [(.aload_n 0, 1, []), (.iload 4, 2, []), (.iconst 0, 1, []), (.invokevirtual 184, 3, [146, 3, 111]), (.iinc 3 2, 3, []), (.goto (-124), 3, [1])]
def k_150_4 : List mOp := [(.aload_n 0, 1, []), (.aload_n 0, 1, []), (.iload_n 3, 1, []), (.invokevirtual 103, 3, [122, 2, 111]), (.iconst 0, 1, []), (.invokevirtual 184, 3, [146, 3, 111]), (.iinc 3 1, 3, []), (.goto (-140), 3, [1])]
def k_150_5 : List mOp := [(.return_, 1, [])]
/-- TinyShellModel.quotes(II)V -/
def P_150 (b : Nat) : List mOp × Nat := cond (Nat.blt b 3) (cond (Nat.blt b 1) ((k_150_0, 1)) (cond (Nat.blt b 2) ((k_150_1, 0)) ((k_150_2, 3)))) (cond (Nat.blt b 4) ((k_150_3, 0)) (cond (Nat.blt b 5) ((k_150_4, 0)) ((k_150_5, 0))))
def J_150 : MethodName × ByteArray × Nat × Option FieldType × Nat × Nat × List Nat := (⟨"TinyShellModel", "quotes", "(II)V"⟩, prog_15_method_34_code, 5, none, 6, 151, [0, 9, 65, 123, 136, 152])
def k_151_0 : List mOp := [(.aload_n 0, 1, []), (.iconst 0, 1, []), (.putfield 163, 3, [111, 27, 0]), (.aload_n 0, 1, []), (.iconst 0, 1, []), (.putfield 194, 3, [111, 30, 2]), (.iload_n 1, 1, []), (.istore_n 3, 1, [])]
def k_151_1 : List mOp := [(.iload_n 3, 1, []), (.iload_n 2, 1, []), (.if_icmp .ge (106), 3, [7]), (.aload_n 0, 1, []), (.getfield 156, 3, [111, 25, 0]), (.ifCond .ne (99), 3, [7]), (.aload_n 0, 1, []), (.iload_n 3, 1, []), (.invokevirtual 138, 3, [130, 2, 111]), (.istore 4, 2, []), (.aload_n 0, 1, []), (.iload_n 3, 1, []), (.invokevirtual 103, 3, [122, 2, 111]), (.istore 5, 2, []), (.iload 5, 2, []), (.bipush 36, 2, []), (.if_icmp .ne (14), 3, [2]), (.aload_n 0, 1, []), (.iload_n 3, 1, []), (.iload 4, 2, []), (.iconst 0, 1, []), (.invokevirtual 197, 3, [149, 4, 111]), (.goto (61), 3, [6])]
def k_151_2 : List mOp := [(.iload 5, 2, []), (.bipush 92, 2, []), (.if_icmp .ne (23), 3, [3]), (.aload_n 0, 1, []), (.iconst 1, 1, []), (.putfield 194, 3, [111, 30, 2]), (.aload_n 0, 1, []), (.aload_n 0, 1, []), (.iload_n 3, 1, []), (.iconst 1, 1, []), (.iadd, 1, []), (.invokevirtual 103, 3, [122, 2, 111]), (.iconst 0, 1, []), (.invokevirtual 184, 3, [146, 3, 111]), (.goto (34), 3, [6])]
def k_151_3 : List mOp := [(.iload 5, 2, []), (.bipush 39, 2, []), (.if_icmp .eq (10), 3, [4]), (.iload 5, 2, []), (.bipush 34, 2, []), (.if_icmp .ne (13), 3, [5])]
def k_151_4 : List mOp := [(.aload_n 0, 1, []), (.iload_n 3, 1, []), (.iload 4, 2, []), (.invokevirtual 201, 3, [150, 3, 111]), (.goto (10), 3, [6])]
def k_151_5 : List mOp := [(.aload_n 0, 1, []), (.iload 5, 2, []), (.iconst 1, 1, []), (.invokevirtual 184, 3, [146, 3, 111])]
def k_151_6 : List mOp := [(.iload 4, 2, []), (.istore_n 3, 1, []), (.goto (-105), 3, [1])]
def k_151_7 : List mOp := [(.return_, 1, [])]
/-- TinyShellModel.expand(II)V -/
def P_151 (b : Nat) : List mOp × Nat := cond (Nat.blt b 4) (cond (Nat.blt b 2) (cond (Nat.blt b 1) ((k_151_0, 1)) ((k_151_1, 0))) (cond (Nat.blt b 3) ((k_151_2, 0)) ((k_151_3, 4)))) (cond (Nat.blt b 6) (cond (Nat.blt b 5) ((k_151_4, 0)) ((k_151_5, 6))) (cond (Nat.blt b 7) ((k_151_6, 0)) ((k_151_7, 0))))
def J_151 : MethodName × ByteArray × Nat × Option FieldType × Nat × Nat × List Nat := (⟨"TinyShellModel", "expand", "(II)V"⟩, prog_15_method_35_code, 6, none, 7, 175, [0, 12, 56, 83, 97, 107, 114, 120])
def k_152_0 : List mOp := [(.aload_n 0, 1, []), (.getfield 204, 3, [111, 33, 0]), (.bipush 16, 2, []), (.if_icmp .ne (9), 3, [1]), (.aload_n 0, 1, []), (.iconst 1, 1, []), (.putfield 156, 3, [111, 25, 2]), (.return_, 1, [])]
def k_152_1 : List mOp := [(.iconst 0, 1, []), (.istore_n 1, 1, [])]
def k_152_2 : List mOp := [(.iload_n 1, 1, []), (.aload_n 0, 1, []), (.getfield 163, 3, [111, 27, 0]), (.if_icmp .ge (29), 3, [3]), (.aload_n 0, 1, []), (.getfield 78, 3, [111, 34, 1]), (.bipush 40, 2, []), (.aload_n 0, 1, []), (.getfield 204, 3, [111, 33, 0]), (.imul, 1, []), (.iload_n 1, 1, []), (.iadd, 1, []), (.aload_n 0, 1, []), (.getfield 71, 3, [111, 28, 1]), (.iload_n 1, 1, []), (.caload, 1, []), (.castore, 1, []), (.iinc 1 1, 3, []), (.goto (-31), 3, [2])]
def k_152_3 : List mOp := [(.aload_n 0, 1, []), (.getfield 81, 3, [111, 35, 1]), (.aload_n 0, 1, []), (.getfield 204, 3, [111, 33, 0]), (.aload_n 0, 1, []), (.getfield 163, 3, [111, 27, 0]), (.iastore, 1, []), (.aload_n 0, 1, []), (.dup, 1, []), (.getfield 204, 3, [111, 33, 0]), (.iconst 1, 1, []), (.iadd, 1, []), (.putfield 204, 3, [111, 33, 0]), (.return_, 1, [])]
/-- TinyShellModel.pushField()V -/
def P_152 (b : Nat) : List mOp × Nat := cond (Nat.blt b 2) (cond (Nat.blt b 1) ((k_152_0, 0)) ((k_152_1, 2))) (cond (Nat.blt b 3) ((k_152_2, 0)) ((k_152_3, 0)))
def J_152 : MethodName × ByteArray × Nat × Option FieldType × Nat × Nat × List Nat := (⟨"TinyShellModel", "pushField", "()V"⟩, prog_15_method_36_code, 2, none, 0, 0, [0, 15, 17, 51])
def k_153_0 : List mOp := [(.aload_n 0, 1, []), (.getfield 156, 3, [111, 25, 0]), (.ifCond .ne (17), 3, [1]), (.aload_n 0, 1, []), (.getfield 163, 3, [111, 27, 0]), (.ifCond .ne (11), 3, [2]), (.aload_n 0, 1, []), (.getfield 194, 3, [111, 30, 0]), (.ifCond .ne (4), 3, [2])]
def k_153_1 : List mOp := [(.return_, 1, [])]
def k_153_2 : List mOp := [(.iconst 0, 1, []), (.istore_n 1, 1, []), (.iconst 0, 1, []), (.istore_n 2, 1, [])]
def k_153_3 : List mOp := [(.iload_n 2, 1, []), (.aload_n 0, 1, []), (.getfield 163, 3, [111, 27, 0]), (.if_icmp .ge (50), 3, [7]), (.iload_n 1, 1, []), (.ifCond .ne (34), 3, [4]), (.aload_n 0, 1, []), (.getfield 74, 3, [111, 29, 1]), (.iload_n 2, 1, []), (.baload, 1, [3]), (.ifCond .eq (29), 3, [5]), (.aload_n 0, 1, []), (.getfield 71, 3, [111, 28, 1]), (.iload_n 2, 1, []), (.caload, 1, []), (.bipush 42, 2, []), (.if_icmp .eq (14), 3, [4]), (.aload_n 0, 1, []), (.getfield 71, 3, [111, 28, 1]), (.iload_n 2, 1, []), (.caload, 1, []), (.bipush 63, 2, []), (.if_icmp .ne (7), 3, [5])]
def k_153_4 : List mOp := [(.iconst 1, 1, []), (.goto (4), 3, [6])]
def k_153_5 : List mOp := [(.iconst 0, 1, [])]
def k_153_6 : List mOp := [(.istore_n 1, 1, []), (.iinc 2 1, 3, []), (.goto (-52), 3, [3])]
def k_153_7 : List mOp := [(.iconst 0, 1, []), (.istore_n 2, 1, []), (.iconst 0, 1, []), (.istore_n 3, 1, [])]
def k_153_8 : List mOp := [(.iload_n 3, 1, []), (.aload_n 0, 1, []), (.getfield 47, 3, [111, 17, 1]), (.iconst 1, 1, []), (.iaload, 1, [1]), (.if_icmp .ge (36), 3, [10]), (.iload_n 1, 1, []), (.ifCond .eq (32), 3, [10]), (.aload_n 0, 1, []), (.getfield 156, 3, [111, 25, 0]), (.ifCond .ne (25), 3, [10]), (.aload_n 0, 1, []), (.iload_n 3, 1, []), (.invokevirtual 207, 3, [155, 2, 111]), (.ifCond .eq (11), 3, [9]), (.iinc 2 1, 3, []), (.aload_n 0, 1, []), (.iload_n 3, 1, []), (.invokevirtual 210, 3, [154, 2, 111])]
def k_153_9 : List mOp := [(.iinc 3 1, 3, []), (.goto (-40), 3, [8])]
def k_153_10 : List mOp := [(.iload_n 2, 1, []), (.ifCond .ne (7), 3, [11]), (.aload_n 0, 1, []), (.invokevirtual 214, 3, [152, 1, 111])]
def k_153_11 : List mOp := [(.aload_n 0, 1, []), (.iconst 0, 1, []), (.putfield 163, 3, [111, 27, 0]), (.aload_n 0, 1, []), (.iconst 0, 1, []), (.putfield 194, 3, [111, 30, 2]), (.return_, 1, [])]
/-- TinyShellModel.finishField()V -/
def P_153 (b : Nat) : List mOp × Nat := cond (Nat.blt b 6) (cond (Nat.blt b 3) (cond (Nat.blt b 1) ((k_153_0, 1)) (cond (Nat.blt b 2) ((k_153_1, 0)) ((k_153_2, 3)))) (cond (Nat.blt b 4) ((k_153_3, 4)) (cond (Nat.blt b 5) ((k_153_4, 0)) ((k_153_5, 6))))) (cond (Nat.blt b 9) (cond (Nat.blt b 7) ((k_153_6, 0)) (cond (Nat.blt b 8) ((k_153_7, 8)) ((k_153_8, 9)))) (cond (Nat.blt b 10) ((k_153_9, 0)) (cond (Nat.blt b 11) ((k_153_10, 11)) ((k_153_11, 0)))))
def J_153 : MethodName × ByteArray × Nat × Option FieldType × Nat × Nat × List Nat := (⟨"TinyShellModel", "finishField", "()V"⟩, prog_15_method_37_code, 4, none, 2, 55, [0, 21, 22, 26, 69, 73, 74, 81, 85, 122, 128, 136])
def k_154_0 : List mOp := [(.aload_n 0, 1, []), (.getfield 204, 3, [111, 33, 0]), (.bipush 16, 2, []), (.if_icmp .ne (9), 3, [1]), (.aload_n 0, 1, []), (.iconst 1, 1, []), (.putfield 156, 3, [111, 25, 2]), (.return_, 1, [])]
def k_154_1 : List mOp := [(.iconst 0, 1, []), (.istore_n 2, 1, [])]
def k_154_2 : List mOp := [(.iload_n 2, 1, []), (.aload_n 0, 1, []), (.getfield 53, 3, [111, 19, 1]), (.bipush 8, 2, []), (.iload_n 1, 1, []), (.iadd, 1, []), (.iaload, 1, [1]), (.if_icmp .ge (37), 3, [3]), (.aload_n 0, 1, []), (.getfield 78, 3, [111, 34, 1]), (.bipush 40, 2, []), (.aload_n 0, 1, []), (.getfield 204, 3, [111, 33, 0]), (.imul, 1, []), (.iload_n 2, 1, []), (.iadd, 1, []), (.aload_n 0, 1, []), (.getfield 50, 3, [111, 18, 1]), (.bipush 8, 2, []), (.bipush 8, 2, []), (.iload_n 1, 1, []), (.iadd, 1, []), (.imul, 1, []), (.iload_n 2, 1, []), (.iadd, 1, []), (.caload, 1, []), (.castore, 1, []), (.iinc 2 1, 3, []), (.goto (-44), 3, [2])]
def k_154_3 : List mOp := [(.aload_n 0, 1, []), (.getfield 81, 3, [111, 35, 1]), (.aload_n 0, 1, []), (.getfield 204, 3, [111, 33, 0]), (.aload_n 0, 1, []), (.getfield 53, 3, [111, 19, 1]), (.bipush 8, 2, []), (.iload_n 1, 1, []), (.iadd, 1, []), (.iaload, 1, [1]), (.iastore, 1, []), (.aload_n 0, 1, []), (.dup, 1, []), (.getfield 204, 3, [111, 33, 0]), (.iconst 1, 1, []), (.iadd, 1, []), (.putfield 204, 3, [111, 33, 0]), (.return_, 1, [])]
/-- TinyShellModel.pushName(I)V -/
def P_154 (b : Nat) : List mOp × Nat := cond (Nat.blt b 2) (cond (Nat.blt b 1) ((k_154_0, 0)) ((k_154_1, 2))) (cond (Nat.blt b 3) ((k_154_2, 0)) ((k_154_3, 0)))
def J_154 : MethodName × ByteArray × Nat × Option FieldType × Nat × Nat × List Nat := (⟨"TinyShellModel", "pushName", "(I)V"⟩, prog_15_method_38_code, 3, none, 0, 0, [0, 15, 17, 64])
def k_155_0 : List mOp := [(.aload_n 0, 1, []), (.lconst 1, 1, []), (.invokevirtual 217, 3, [156, 2, 111]), (.lstore_n 2, 1, []), (.iconst 0, 1, []), (.istore 4, 2, [])]
def k_155_1 : List mOp := [(.iload 4, 2, []), (.aload_n 0, 1, []), (.getfield 53, 3, [111, 19, 1]), (.bipush 8, 2, []), (.iload_n 1, 1, []), (.iadd, 1, []), (.iaload, 1, [1]), (.if_icmp .ge (176), 3, [14]), (.aload_n 0, 1, []), (.getfield 50, 3, [111, 18, 1]), (.bipush 8, 2, []), (.bipush 8, 2, []), (.iload_n 1, 1, []), (.iadd, 1, []), (.imul, 1, []), (.iload 4, 2, []), (.iadd, 1, []), (.caload, 1, []), (.istore 5, 2, []), (.lconst 0, 1, []), (.lstore 6, 2, []), (.iconst 0, 1, []), (.istore 8, 2, [])]
def k_155_2 : List mOp := [(.iload 8, 2, []), (.aload_n 0, 1, []), (.getfield 163, 3, [111, 27, 0]), (.if_icmp .ge (131), 3, [13]), (.lload_n 2, 1, []), (.iload 8, 2, []), (.lshr, 1, []), (.lconst 1, 1, []), (.land, 1, []), (.lconst 1, 1, []), (.lcmp, 1, []), (.ifCond .ne (114), 3, [12]), (.aload_n 0, 1, []), (.getfield 74, 3, [111, 29, 1]), (.iload 8, 2, []), (.baload, 1, [3]), (.ifCond .eq (19), 3, [3]), (.aload_n 0, 1, []), (.getfield 71, 3, [111, 28, 1]), (.iload 8, 2, []), (.caload, 1, []), (.bipush 42, 2, []), (.if_icmp .ne (7), 3, [3]), (.iconst 1, 1, []), (.goto (4), 3, [4])]
def k_155_3 : List mOp := [(.iconst 0, 1, [])]
def k_155_4 : List mOp := [(.istore 9, 2, []), (.aload_n 0, 1, []), (.getfield 74, 3, [111, 29, 1]), (.iload 8, 2, []), (.baload, 1, [3]), (.ifCond .eq (15), 3, [5]), (.aload_n 0, 1, []), (.getfield 71, 3, [111, 28, 1]), (.iload 8, 2, []), (.caload, 1, []), (.bipush 63, 2, []), (.if_icmp .eq (20), 3, [6])]
def k_155_5 : List mOp := [(.iload 9, 2, []), (.ifCond .ne (19), 3, [7]), (.aload_n 0, 1, []), (.getfield 71, 3, [111, 28, 1]), (.iload 8, 2, []), (.caload, 1, []), (.iload 5, 2, []), (.if_icmp .ne (7), 3, [7])]
def k_155_6 : List mOp := [(.iconst 1, 1, []), (.goto (4), 3, [8])]
def k_155_7 : List mOp := [(.iconst 0, 1, [])]
def k_155_8 : List mOp := [(.istore 10, 2, []), (.iload 9, 2, []), (.ifCond .eq (13), 3, [9]), (.lload 6, 2, []), (.lconst 1, 1, []), (.iload 8, 2, []), (.lshl, 1, []), (.lor, 1, []), (.goto (22), 3, [11])]
def k_155_9 : List mOp := [(.iload 10, 2, []), (.ifCond .eq (15), 3, [10]), (.lload 6, 2, []), (.lconst 1, 1, []), (.iload 8, 2, []), (.iconst 1, 1, []), (.iadd, 1, []), (.lshl, 1, []), (.lor, 1, []), (.goto (5), 3, [11])]
def k_155_10 : List mOp := [(.lload 6, 2, [])]
def k_155_11 : List mOp := [(.lstore 6, 2, [])]
def k_155_12 : List mOp := [(.iinc 8 1, 3, []), (.goto (-134), 3, [2])]
def k_155_13 : List mOp := [(.aload_n 0, 1, []), (.lload 6, 2, []), (.invokevirtual 217, 3, [156, 2, 111]), (.lstore_n 2, 1, []), (.iinc 4 1, 3, []), (.goto (-184), 3, [1])]
def k_155_14 : List mOp := [(.lload_n 2, 1, []), (.aload_n 0, 1, []), (.getfield 163, 3, [111, 27, 0]), (.lshr, 1, []), (.lconst 1, 1, []), (.land, 1, []), (.lconst 1, 1, []), (.lcmp, 1, []), (.ifCond .ne (7), 3, [15]), (.iconst 1, 1, []), (.goto (4), 3, [16])]
def k_155_15 : List mOp := [(.iconst 0, 1, [])]
def k_155_16 : List mOp := [(.ireturn, 1, [1])]
/-- TinyShellModel.matches(I)Z -/
def P_155 (b : Nat) : List mOp × Nat := cond (Nat.blt b 8) (cond (Nat.blt b 4) (cond (Nat.blt b 2) (cond (Nat.blt b 1) ((k_155_0, 1)) ((k_155_1, 2))) (cond (Nat.blt b 3) ((k_155_2, 0)) ((k_155_3, 4)))) (cond (Nat.blt b 6) (cond (Nat.blt b 5) ((k_155_4, 5)) ((k_155_5, 6))) (cond (Nat.blt b 7) ((k_155_6, 0)) ((k_155_7, 8))))) (cond (Nat.blt b 12) (cond (Nat.blt b 10) (cond (Nat.blt b 9) ((k_155_8, 0)) ((k_155_9, 0))) (cond (Nat.blt b 11) ((k_155_10, 11)) ((k_155_11, 12)))) (cond (Nat.blt b 14) (cond (Nat.blt b 13) ((k_155_12, 0)) ((k_155_13, 0))) (cond (Nat.blt b 15) ((k_155_14, 0)) (cond (Nat.blt b 16) ((k_155_15, 16)) ((k_155_16, 0))))))
def J_155 : MethodName × ByteArray × Nat × Option FieldType × Nat × Nat × List Nat := (⟨"TinyShellModel", "matches", "(I)Z"⟩, prog_15_method_39_code, 11, some (Jvm.ClassFile.FieldType.boolean), 1, 25, [0, 9, 46, 92, 93, 117, 134, 138, 139, 156, 173, 175, 177, 183, 196, 213, 214])
def k_156_0 : List mOp := [(.lload_n 1, 1, []), (.lstore_n 3, 1, []), (.iconst 0, 1, []), (.istore 5, 2, [])]
def k_156_1 : List mOp := [(.iload 5, 2, []), (.aload_n 0, 1, []), (.getfield 163, 3, [111, 27, 0]), (.if_icmp .ge (51), 3, [3]), (.lload_n 3, 1, []), (.iload 5, 2, []), (.lshr, 1, []), (.lconst 1, 1, []), (.land, 1, []), (.lconst 1, 1, []), (.lcmp, 1, []), (.ifCond .ne (34), 3, [2]), (.aload_n 0, 1, []), (.getfield 74, 3, [111, 29, 1]), (.iload 5, 2, []), (.baload, 1, [3]), (.ifCond .eq (24), 3, [2]), (.aload_n 0, 1, []), (.getfield 71, 3, [111, 28, 1]), (.iload 5, 2, []), (.caload, 1, []), (.bipush 42, 2, []), (.if_icmp .ne (12), 3, [2]), (.lload_n 3, 1, []), (.lconst 1, 1, []), (.iload 5, 2, []), (.iconst 1, 1, []), (.iadd, 1, []), (.lshl, 1, []), (.lor, 1, []), (.lstore_n 3, 1, [])]
def k_156_2 : List mOp := [(.iinc 5 1, 3, []), (.goto (-54), 3, [1])]
def k_156_3 : List mOp := [(.lload_n 3, 1, []), (.lreturn, 1, [])]
/-- TinyShellModel.stars(J)J -/
def P_156 (b : Nat) : List mOp × Nat := cond (Nat.blt b 2) (cond (Nat.blt b 1) ((k_156_0, 1)) ((k_156_1, 2))) (cond (Nat.blt b 3) ((k_156_2, 0)) ((k_156_3, 0)))
def J_156 : MethodName × ByteArray × Nat × Option FieldType × Nat × Nat × List Nat := (⟨"TinyShellModel", "stars", "(J)J"⟩, prog_15_method_40_code, 6, some (Jvm.ClassFile.FieldType.long), 0, 0, [0, 5, 56, 62])
def k_157_0 : List mOp := [(.aload_n 0, 1, []), (.aload_n 0, 1, []), (.getfield 17, 3, [111, 6, 1]), (.iload_n 1, 1, []), (.iaload, 1, [1]), (.invokevirtual 114, 3, [126, 2, 111]), (.istore_n 2, 1, []), (.iload_n 2, 1, []), (.aload_n 0, 1, []), (.getfield 17, 3, [111, 6, 1]), (.iload_n 1, 1, []), (.iaload, 1, [1]), (.if_icmp .le (17), 3, [1]), (.aload_n 0, 1, []), (.iload_n 2, 1, []), (.invokevirtual 103, 3, [122, 2, 111]), (.bipush 61, 2, []), (.if_icmp .ne (7), 3, [1]), (.iconst 1, 1, []), (.goto (4), 3, [2])]
def k_157_1 : List mOp := [(.iconst 0, 1, [])]
def k_157_2 : List mOp := [(.ireturn, 1, [1])]
/-- TinyShellModel.isAssignment(I)Z -/
def P_157 (b : Nat) : List mOp × Nat := cond (Nat.blt b 1) ((k_157_0, 0)) (cond (Nat.blt b 2) ((k_157_1, 2)) ((k_157_2, 0)))
def J_157 : MethodName × ByteArray × Nat × Option FieldType × Nat × Nat × List Nat := (⟨"TinyShellModel", "isAssignment", "(I)Z"⟩, prog_15_method_41_code, 3, some (Jvm.ClassFile.FieldType.boolean), 2, 43, [0, 35, 36])
def k_158_0 : List mOp := [(.aload_n 0, 1, []), (.iconst 0, 1, []), (.putfield 204, 3, [111, 33, 0]), (.aload_n 0, 1, []), (.iconst 1, 1, []), (.putfield 178, 3, [111, 31, 2]), (.iconst 1, 1, []), (.istore_n 3, 1, []), (.iload_n 1, 1, []), (.istore 4, 2, [])]
def k_158_1 : List mOp := [(.iload 4, 2, []), (.iload_n 2, 1, []), (.if_icmp .ge (79), 3, [6]), (.aload_n 0, 1, []), (.getfield 156, 3, [111, 25, 0]), (.ifCond .ne (72), 3, [6]), (.aload_n 0, 1, []), (.getfield 13, 3, [111, 5, 1]), (.iload 4, 2, []), (.iaload, 1, [1]), (.bipush 9, 2, []), (.if_icmp .eq (9), 3, [2]), (.iinc 4 1, 3, []), (.goto (48), 3, [5])]
def k_158_2 : List mOp := [(.iload_n 3, 1, []), (.ifCond .eq (16), 3, [3]), (.aload_n 0, 1, []), (.iload 4, 2, []), (.invokevirtual 221, 3, [157, 2, 111]), (.ifCond .eq (7), 3, [3]), (.iconst 1, 1, []), (.goto (4), 3, [4])]
def k_158_3 : List mOp := [(.iconst 0, 1, [])]
def k_158_4 : List mOp := [(.istore_n 3, 1, []), (.iload_n 3, 1, []), (.ifCond .ne (25), 3, [5]), (.aload_n 0, 1, []), (.aload_n 0, 1, []), (.getfield 17, 3, [111, 6, 1]), (.iload 4, 2, []), (.iaload, 1, [1]), (.aload_n 0, 1, []), (.getfield 20, 3, [111, 7, 1]), (.iload 4, 2, []), (.iaload, 1, [1]), (.invokevirtual 224, 3, [151, 3, 111]), (.aload_n 0, 1, []), (.invokevirtual 181, 3, [153, 1, 111])]
def k_158_5 : List mOp := [(.iinc 4 1, 3, []), (.goto (-79), 3, [1])]
def k_158_6 : List mOp := [(.return_, 1, [])]
/-- TinyShellModel.expandWords(II)V -/
def P_158 (b : Nat) : List mOp × Nat := cond (Nat.blt b 3) (cond (Nat.blt b 1) ((k_158_0, 1)) (cond (Nat.blt b 2) ((k_158_1, 0)) ((k_158_2, 0)))) (cond (Nat.blt b 5) (cond (Nat.blt b 4) ((k_158_3, 4)) ((k_158_4, 5))) (cond (Nat.blt b 6) ((k_158_5, 0)) ((k_158_6, 0))))
def J_158 : MethodName × ByteArray × Nat × Option FieldType × Nat × Nat × List Nat := (⟨"TinyShellModel", "expandWords", "(II)V"⟩, prog_15_method_42_code, 5, none, 8, 200, [0, 15, 46, 63, 64, 91, 97])
def k_159_0 : List mOp := [(.aload_n 0, 1, []), (.iconst 0, 1, []), (.putfield 178, 3, [111, 31, 2]), (.aload_n 0, 1, []), (.aload_n 0, 1, []), (.getfield 17, 3, [111, 6, 1]), (.iload_n 1, 1, []), (.iconst 1, 1, []), (.iadd, 1, []), (.iaload, 1, [1]), (.aload_n 0, 1, []), (.getfield 20, 3, [111, 7, 1]), (.iload_n 1, 1, []), (.iconst 1, 1, []), (.iadd, 1, []), (.iaload, 1, [1]), (.invokevirtual 224, 3, [151, 3, 111]), (.aload_n 0, 1, []), (.getfield 156, 3, [111, 25, 0]), (.ifCond .eq (5), 3, [1]), (.iconst 1, 1, []), (.ireturn, 1, [1])]
def k_159_1 : List mOp := [(.iconst 0, 1, []), (.istore_n 2, 1, [])]
def k_159_2 : List mOp := [(.iload_n 2, 1, []), (.aload_n 0, 1, []), (.getfield 163, 3, [111, 27, 0]), (.if_icmp .ge (25), 3, [3]), (.aload_n 0, 1, []), (.getfield 78, 3, [111, 34, 1]), (.sipush 640, 3, []), (.iload_n 2, 1, []), (.iadd, 1, []), (.aload_n 0, 1, []), (.getfield 71, 3, [111, 28, 1]), (.iload_n 2, 1, []), (.caload, 1, []), (.castore, 1, []), (.iinc 2 1, 3, []), (.goto (-27), 3, [2])]
def k_159_3 : List mOp := [(.aload_n 0, 1, []), (.getfield 81, 3, [111, 35, 1]), (.bipush 16, 2, []), (.aload_n 0, 1, []), (.getfield 163, 3, [111, 27, 0]), (.iastore, 1, []), (.aload_n 0, 1, []), (.aload_n 0, 1, []), (.getfield 163, 3, [111, 27, 0]), (.bipush 8, 2, []), (.if_icmp .le (7), 3, [4]), (.iconst 1, 1, []), (.goto (4), 3, [5])]
def k_159_4 : List mOp := [(.iconst 0, 1, [])]
def k_159_5 : List mOp := [(.putfield 156, 3, [111, 25, 2]), (.aload_n 0, 1, []), (.getfield 156, 3, [111, 25, 0]), (.ifCond .eq (7), 3, [6]), (.iconst (-1), 1, []), (.goto (9), 3, [7])]
def k_159_6 : List mOp := [(.aload_n 0, 1, []), (.bipush 16, 2, []), (.invokevirtual 227, 3, [142, 2, 111])]
def k_159_7 : List mOp := [(.istore_n 2, 1, []), (.aload_n 0, 1, []), (.getfield 156, 3, [111, 25, 0]), (.ifCond .eq (5), 3, [8]), (.iconst 1, 1, []), (.ireturn, 1, [1])]
def k_159_8 : List mOp := [(.aload_n 0, 1, []), (.getfield 163, 3, [111, 27, 0]), (.ifCond .eq (18), 3, [9]), (.aload_n 0, 1, []), (.getfield 13, 3, [111, 5, 1]), (.iload_n 1, 1, []), (.iaload, 1, [1]), (.bipush 6, 2, []), (.if_icmp .ne (9), 3, [10]), (.iload_n 2, 1, []), (.ifCond .ge (5), 3, [10])]
def k_159_9 : List mOp := [(.iconst 0, 1, []), (.ireturn, 1, [1])]
def k_159_10 : List mOp := [(.aload_n 0, 1, []), (.getfield 13, 3, [111, 5, 1]), (.iload_n 1, 1, []), (.iaload, 1, [1]), (.bipush 6, 2, []), (.if_icmp .ne (10), 3, [11]), (.aload_n 0, 1, []), (.iload_n 2, 1, []), (.putfield 172, 3, [111, 43, 0]), (.iconst 1, 1, []), (.ireturn, 1, [1])]
def k_159_11 : List mOp := [(.iload_n 2, 1, []), (.ifCond .ge (12), 3, [12]), (.aload_n 0, 1, []), (.bipush 16, 2, []), (.invokevirtual 230, 3, [144, 2, 111]), (.goto (4), 3, [13])]
def k_159_12 : List mOp := [(.iload_n 2, 1, [])]
def k_159_13 : List mOp := [(.istore_n 2, 1, []), (.aload_n 0, 1, []), (.getfield 156, 3, [111, 25, 0]), (.ifCond .eq (5), 3, [14]), (.iconst 1, 1, []), (.ireturn, 1, [1])]
def k_159_14 : List mOp := [(.aload_n 0, 1, []), (.getfield 13, 3, [111, 5, 1]), (.iload_n 1, 1, []), (.iaload, 1, [1]), (.bipush 7, 2, []), (.if_icmp .ne (13), 3, [15]), (.aload_n 0, 1, []), (.getfield 59, 3, [111, 21, 1]), (.bipush 8, 2, []), (.iload_n 2, 1, []), (.iadd, 1, []), (.iconst 0, 1, []), (.iastore, 1, [])]
def k_159_15 : List mOp := [(.aload_n 0, 1, []), (.iload_n 2, 1, []), (.putfield 175, 3, [111, 44, 0]), (.iconst 1, 1, []), (.ireturn, 1, [1])]
/-- TinyShellModel.redirect(I)Z -/
def P_159 (b : Nat) : List mOp × Nat := cond (Nat.blt b 8) (cond (Nat.blt b 4) (cond (Nat.blt b 2) (cond (Nat.blt b 1) ((k_159_0, 0)) ((k_159_1, 2))) (cond (Nat.blt b 3) ((k_159_2, 0)) ((k_159_3, 0)))) (cond (Nat.blt b 6) (cond (Nat.blt b 5) ((k_159_4, 5)) ((k_159_5, 0))) (cond (Nat.blt b 7) ((k_159_6, 7)) ((k_159_7, 0))))) (cond (Nat.blt b 12) (cond (Nat.blt b 10) (cond (Nat.blt b 9) ((k_159_8, 9)) ((k_159_9, 0))) (cond (Nat.blt b 11) ((k_159_10, 0)) ((k_159_11, 0)))) (cond (Nat.blt b 14) (cond (Nat.blt b 13) ((k_159_12, 13)) ((k_159_13, 0))) (cond (Nat.blt b 15) ((k_159_14, 15)) ((k_159_15, 0)))))
def J_159 : MethodName × ByteArray × Nat × Option FieldType × Nat × Nat × List Nat := (⟨"TinyShellModel", "redirect", "(I)Z"⟩, prog_15_method_43_code, 3, some (Jvm.ClassFile.FieldType.boolean), 8, 200, [0, 34, 36, 66, 91, 92, 106, 112, 122, 144, 146, 164, 177, 178, 188, 209])
def k_160_0 : List mOp := [(.aload_n 0, 1, []), (.iconst 0, 1, []), (.putfield 178, 3, [111, 31, 2]), (.iconst 1, 1, []), (.istore 4, 2, []), (.iload_n 1, 1, []), (.istore 5, 2, [])]
def k_160_1 : List mOp := [(.iload 5, 2, []), (.iload_n 2, 1, []), (.if_icmp .ge (112), 3, [4]), (.iload 4, 2, []), (.ifCond .eq (107), 3, [4]), (.aload_n 0, 1, []), (.getfield 156, 3, [111, 25, 0]), (.ifCond .ne (100), 3, [4]), (.aload_n 0, 1, []), (.getfield 13, 3, [111, 5, 1]), (.iload 5, 2, []), (.iaload, 1, [1]), (.bipush 9, 2, []), (.if_icmp .eq (9), 3, [2]), (.iinc 5 1, 3, []), (.goto (76), 3, [3])]
def k_160_2 : List mOp := [(.aload_n 0, 1, []), (.iload 5, 2, []), (.invokevirtual 221, 3, [157, 2, 111]), (.istore 4, 2, []), (.aload_n 0, 1, []), (.aload_n 0, 1, []), (.getfield 17, 3, [111, 6, 1]), (.iload 5, 2, []), (.iaload, 1, [1]), (.invokevirtual 114, 3, [126, 2, 111]), (.istore 6, 2, []), (.iload 4, 2, []), (.ifCond .eq (50), 3, [3]), (.aload_n 0, 1, []), (.iload 6, 2, []), (.iconst 1, 1, []), (.iadd, 1, []), (.aload_n 0, 1, []), (.getfield 20, 3, [111, 7, 1]), (.iload 5, 2, []), (.iaload, 1, [1]), (.invokevirtual 224, 3, [151, 3, 111]), (.iload_n 3, 1, []), (.ifCond .eq (31), 3, [3]), (.aload_n 0, 1, []), (.getfield 156, 3, [111, 25, 0]), (.ifCond .ne (24), 3, [3]), (.aload_n 0, 1, []), (.aload_n 0, 1, []), (.getfield 17, 3, [111, 6, 1]), (.iload 5, 2, []), (.iaload, 1, [1]), (.iload 6, 2, []), (.aload_n 0, 1, []), (.getfield 17, 3, [111, 6, 1]), (.iload 5, 2, []), (.iaload, 1, [1]), (.isub, 1, []), (.invokevirtual 233, 3, [139, 3, 111])]
def k_160_3 : List mOp := [(.iinc 5 1, 3, []), (.goto (-112), 3, [1])]
def k_160_4 : List mOp := [(.return_, 1, [])]
/-- TinyShellModel.assignments(IIZ)V -/
def P_160 (b : Nat) : List mOp × Nat := cond (Nat.blt b 2) (cond (Nat.blt b 1) ((k_160_0, 1)) ((k_160_1, 0))) (cond (Nat.blt b 3) ((k_160_2, 3)) (cond (Nat.blt b 4) ((k_160_3, 0)) ((k_160_4, 0))))
def J_160 : MethodName × ByteArray × Nat × Option FieldType × Nat × Nat × List Nat := (⟨"TinyShellModel", "assignments", "(IIZ)V"⟩, prog_15_method_44_code, 7, none, 8, 200, [0, 11, 47, 120, 126])
def k_161_0 : List mOp := [(.aload_n 0, 1, []), (.iconst 0, 1, []), (.putfield 236, 3, [111, 38, 0]), (.aload_n 0, 1, []), (.iconst (-1), 1, []), (.putfield 172, 3, [111, 43, 0]), (.aload_n 0, 1, []), (.iconst (-1), 1, []), (.putfield 175, 3, [111, 44, 0]), (.aload_n 0, 1, []), (.iload_n 1, 1, []), (.iload_n 2, 1, []), (.invokevirtual 239, 3, [158, 3, 111]), (.iload_n 1, 1, []), (.istore 4, 2, [])]
def k_161_1 : List mOp := [(.iload 4, 2, []), (.iload_n 2, 1, []), (.if_icmp .ge (42), 3, [4]), (.aload_n 0, 1, []), (.getfield 156, 3, [111, 25, 0]), (.ifCond .ne (35), 3, [4]), (.aload_n 0, 1, []), (.getfield 13, 3, [111, 5, 1]), (.iload 4, 2, []), (.iaload, 1, [1]), (.bipush 9, 2, []), (.if_icmp .eq (17), 3, [3]), (.aload_n 0, 1, []), (.iload 4, 2, []), (.invokevirtual 242, 3, [159, 2, 111]), (.ifCond .ne (5), 3, [2]), (.iconst 1, 1, []), (.ireturn, 1, [0])]
def k_161_2 : List mOp := [(.iinc 4 1, 3, [])]
def k_161_3 : List mOp := [(.iinc 4 1, 3, []), (.goto (-42), 3, [1])]
def k_161_4 : List mOp := [(.aload_n 0, 1, []), (.iload_n 1, 1, []), (.iload_n 2, 1, []), (.aload_n 0, 1, []), (.getfield 204, 3, [111, 33, 0]), (.ifCond .ne (7), 3, [5]), (.iconst 1, 1, []), (.goto (4), 3, [6])]
def k_161_5 : List mOp := [(.iconst 0, 1, [])]
def k_161_6 : List mOp := [(.invokevirtual 245, 3, [160, 4, 111]), (.aload_n 0, 1, []), (.getfield 156, 3, [111, 25, 0]), (.ifCond .ne (10), 3, [7]), (.aload_n 0, 1, []), (.getfield 204, 3, [111, 33, 0]), (.ifCond .ne (5), 3, [8])]
def k_161_7 : List mOp := [(.iconst 0, 1, []), (.ireturn, 1, [0])]
def k_161_8 : List mOp := [(.aload_n 0, 1, []), (.getfield 172, 3, [111, 43, 0]), (.ifCond .lt (62), 3, [10]), (.aload_n 0, 1, []), (.aload_n 0, 1, []), (.getfield 59, 3, [111, 21, 1]), (.bipush 8, 2, []), (.aload_n 0, 1, []), (.getfield 172, 3, [111, 43, 0]), (.iadd, 1, []), (.iaload, 1, [1]), (.putfield 248, 3, [111, 36, 0]), (.iconst 0, 1, []), (.istore 4, 2, [])]
def k_161_9 : List mOp := [(.iload 4, 2, []), (.aload_n 0, 1, []), (.getfield 248, 3, [111, 36, 0]), (.if_icmp .ge (34), 3, [10]), (.aload_n 0, 1, []), (.getfield 84, 3, [111, 37, 1]), (.iload 4, 2, []), (.aload_n 0, 1, []), (.getfield 56, 3, [111, 20, 1]), (.bipush 80, 2, []), (.bipush 8, 2, []), (.aload_n 0, 1, []), (.getfield 172, 3, [111, 43, 0]), (.iadd, 1, []), (.imul, 1, []), (.iload 4, 2, []), (.iadd, 1, []), (.caload, 1, []), (.castore, 1, []), (.iinc 4 1, 3, []), (.goto (-37), 3, [9])]
def k_161_10 : List mOp := [(.aload_n 0, 1, []), (.iload_n 3, 1, []), (.invokevirtual 251, 3, [165, 2, 111]), (.istore 4, 2, []), (.aload_n 0, 1, []), (.getfield 175, 3, [111, 44, 0]), (.ifCond .lt (14), 3, [11]), (.aload_n 0, 1, []), (.getfield 156, 3, [111, 25, 0]), (.ifCond .ne (7), 3, [11]), (.aload_n 0, 1, []), (.invokevirtual 255, 3, [162, 1, 111])]
def k_161_11 : List mOp := [(.iload 4, 2, []), (.ireturn, 1, [0])]
/-- TinyShellModel.command(IIZ)I -/
def P_161 (b : Nat) : List mOp × Nat := cond (Nat.blt b 6) (cond (Nat.blt b 3) (cond (Nat.blt b 1) ((k_161_0, 1)) (cond (Nat.blt b 2) ((k_161_1, 0)) ((k_161_2, 3)))) (cond (Nat.blt b 4) ((k_161_3, 0)) (cond (Nat.blt b 5) ((k_161_4, 0)) ((k_161_5, 6))))) (cond (Nat.blt b 9) (cond (Nat.blt b 7) ((k_161_6, 7)) (cond (Nat.blt b 8) ((k_161_7, 0)) ((k_161_8, 9)))) (cond (Nat.blt b 10) ((k_161_9, 0)) (cond (Nat.blt b 11) ((k_161_10, 11)) ((k_161_11, 0)))))
def J_161 : MethodName × ByteArray × Nat × Option FieldType × Nat × Nat × List Nat := (⟨"TinyShellModel", "command", "(IIZ)I"⟩, prog_15_method_45_code, 5, some (Jvm.ClassFile.FieldType.int), 9, 226, [0, 24, 60, 63, 69, 83, 84, 101, 103, 129, 169, 194])
def k_162_0 : List mOp := [(.iconst 0, 1, []), (.istore_n 1, 1, [])]
def k_162_1 : List mOp := [(.iload_n 1, 1, []), (.aload_n 0, 1, []), (.getfield 236, 3, [111, 38, 0]), (.if_icmp .ge (99), 3, [5]), (.aload_n 0, 1, []), (.getfield 156, 3, [111, 25, 0]), (.ifCond .ne (92), 3, [5]), (.aload_n 0, 1, []), (.aload_n 0, 1, []), (.getfield 59, 3, [111, 21, 1]), (.bipush 8, 2, []), (.aload_n 0, 1, []), (.getfield 175, 3, [111, 44, 0]), (.iadd, 1, []), (.iaload, 1, [1]), (.bipush 80, 2, []), (.if_icmp .ne (7), 3, [2]), (.iconst 1, 1, []), (.goto (4), 3, [3])]
def k_162_2 : List mOp := [(.iconst 0, 1, [])]
def k_162_3 : List mOp := [(.putfield 156, 3, [111, 25, 2]), (.aload_n 0, 1, []), (.getfield 156, 3, [111, 25, 0]), (.ifCond .ne (53), 3, [4]), (.aload_n 0, 1, []), (.getfield 56, 3, [111, 20, 1]), (.bipush 80, 2, []), (.bipush 8, 2, []), (.aload_n 0, 1, []), (.getfield 175, 3, [111, 44, 0]), (.iadd, 1, []), (.imul, 1, []), (.aload_n 0, 1, []), (.getfield 59, 3, [111, 21, 1]), (.bipush 8, 2, []), (.aload_n 0, 1, []), (.getfield 175, 3, [111, 44, 0]), (.iadd, 1, []), (.iaload, 1, [1]), (.iadd, 1, []), (.aload_n 0, 1, []), (.getfield 87, 3, [111, 39, 1]), (.iload_n 1, 1, []), (.caload, 1, []), (.castore, 1, []), (.aload_n 0, 1, []), (.getfield 59, 3, [111, 21, 1]), (.bipush 8, 2, []), (.aload_n 0, 1, []), (.getfield 175, 3, [111, 44, 0]), (.iadd, 1, []), (.dup2, 1, []), (.iaload, 1, [1]), (.iconst 1, 1, []), (.iadd, 1, []), (.iastore, 1, [])]
def k_162_4 : List mOp := [(.iinc 1 1, 3, []), (.goto (-101), 3, [1])]
def k_162_5 : List mOp := [(.aload_n 0, 1, []), (.iconst 0, 1, []), (.putfield 236, 3, [111, 38, 0]), (.return_, 1, [])]
/-- TinyShellModel.toFile()V -/
def P_162 (b : Nat) : List mOp × Nat := cond (Nat.blt b 3) (cond (Nat.blt b 1) ((k_162_0, 1)) (cond (Nat.blt b 2) ((k_162_1, 0)) ((k_162_2, 3)))) (cond (Nat.blt b 4) ((k_162_3, 4)) (cond (Nat.blt b 5) ((k_162_4, 0)) ((k_162_5, 0))))
def J_162 : MethodName × ByteArray × Nat × Option FieldType × Nat × Nat × List Nat := (⟨"TinyShellModel", "toFile", "()V"⟩, prog_15_method_46_code, 2, none, 0, 0, [0, 2, 39, 40, 100, 106])
def k_163_0 : List mOp := [(.aload_n 0, 1, []), (.getfield 236, 3, [111, 38, 0]), (.sipush 240, 3, []), (.if_icmp .ne (9), 3, [1]), (.aload_n 0, 1, []), (.iconst 1, 1, []), (.putfield 156, 3, [111, 25, 2]), (.return_, 1, [])]
def k_163_1 : List mOp := [(.aload_n 0, 1, []), (.getfield 87, 3, [111, 39, 1]), (.aload_n 0, 1, []), (.getfield 236, 3, [111, 38, 0]), (.iload_n 1, 1, []), (.i2c, 1, []), (.castore, 1, []), (.aload_n 0, 1, []), (.dup, 1, []), (.getfield 236, 3, [111, 38, 0]), (.iconst 1, 1, []), (.iadd, 1, []), (.putfield 236, 3, [111, 38, 0]), (.return_, 1, [])]
/-- TinyShellModel.out(I)V -/
def P_163 (b : Nat) : List mOp × Nat := cond (Nat.blt b 1) ((k_163_0, 0)) ((k_163_1, 0))
def J_163 : MethodName × ByteArray × Nat × Option FieldType × Nat × Nat × List Nat := (⟨"TinyShellModel", "out", "(I)V"⟩, prog_15_method_47_code, 2, none, 0, 0, [0, 16])
def k_164_0 : List mOp := [(.aload_n 0, 1, []), (.getfield 81, 3, [111, 35, 1]), (.iload_n 1, 1, []), (.iaload, 1, [1]), (.iload 4, 2, []), (.if_icmp .ne (7), 3, [1]), (.iconst 1, 1, []), (.goto (4), 3, [2])]
def k_164_1 : List mOp := [(.iconst 0, 1, [])]
def k_164_2 : List mOp := [(.istore 5, 2, []), (.iconst 0, 1, []), (.istore 6, 2, [])]
def k_164_3 : List mOp := [(.iload 6, 2, []), (.iload 4, 2, []), (.if_icmp .ge (53), 3, [6]), (.iload 5, 2, []), (.ifCond .eq (48), 3, [6]), (.aload_n 0, 1, []), (.getfield 78, 3, [111, 34, 1]), (.bipush 40, 2, []), (.iload_n 1, 1, []), (.imul, 1, []), (.iload 6, 2, []), (.iadd, 1, []), (.caload, 1, []), (.lload_n 2, 1, []), (.bipush 8, 2, []), (.iload 4, 2, []), (.iconst 1, 1, []), (.isub, 1, []), (.iload 6, 2, []), (.isub, 1, []), (.imul, 1, []), (.lushr, 1, []), (.l2i, 1, []), (.sipush 255, 3, []), (.iand, 1, []), (.if_icmp .ne (7), 3, [4]), (.iconst 1, 1, []), (.goto (4), 3, [5])]
def k_164_4 : List mOp := [(.iconst 0, 1, [])]
def k_164_5 : List mOp := [(.istore 5, 2, []), (.iinc 6 1, 3, []), (.goto (-54), 3, [3])]
def k_164_6 : List mOp := [(.iload 5, 2, []), (.ireturn, 1, [1])]
/-- TinyShellModel.is(IJI)Z -/
def P_164 (b : Nat) : List mOp × Nat := cond (Nat.blt b 3) (cond (Nat.blt b 1) ((k_164_0, 0)) (cond (Nat.blt b 2) ((k_164_1, 2)) ((k_164_2, 3)))) (cond (Nat.blt b 5) (cond (Nat.blt b 4) ((k_164_3, 0)) ((k_164_4, 5))) (cond (Nat.blt b 6) ((k_164_5, 0)) ((k_164_6, 0))))
def J_164 : MethodName × ByteArray × Nat × Option FieldType × Nat × Nat × List Nat := (⟨"TinyShellModel", "is", "(IJI)Z"⟩, prog_15_method_48_code, 7, some (Jvm.ClassFile.FieldType.boolean), 0, 0, [0, 15, 16, 21, 69, 70, 78])
def k_165_0 : List mOp := [(.aload_n 0, 1, []), (.iconst 0, 1, []), (.ldc2_w 258, 3, [1701013615]), (.iconst 4, 1, []), (.invokevirtual 260, 3, [164, 4, 111]), (.ifCond .eq (8), 3, [1]), (.aload_n 0, 1, []), (.invokevirtual 264, 3, [166, 1, 111]), (.ireturn, 1, [0])]
def k_165_1 : List mOp := [(.aload_n 0, 1, []), (.iconst 0, 1, []), (.ldc2_w 268, 3, [6513012]), (.iconst 3, 1, []), (.invokevirtual 260, 3, [164, 4, 111]), (.ifCond .eq (8), 3, [2]), (.aload_n 0, 1, []), (.invokevirtual 270, 3, [167, 1, 111]), (.ireturn, 1, [0])]
def k_165_2 : List mOp := [(.aload_n 0, 1, []), (.iconst 0, 1, []), (.ldc2_w 273, 3, [7562612]), (.iconst 3, 1, []), (.invokevirtual 260, 3, [164, 4, 111]), (.ifCond .eq (8), 3, [3]), (.aload_n 0, 1, []), (.invokevirtual 275, 3, [168, 1, 111]), (.ireturn, 1, [0])]
def k_165_3 : List mOp := [(.aload_n 0, 1, []), (.iconst 0, 1, []), (.ldc2_w 278, 3, [504364230004]), (.iconst 5, 1, []), (.invokevirtual 260, 3, [164, 4, 111]), (.ifCond .eq (8), 3, [4]), (.aload_n 0, 1, []), (.invokevirtual 280, 3, [169, 1, 111]), (.ireturn, 1, [0])]
def k_165_4 : List mOp := [(.aload_n 0, 1, []), (.iconst 0, 1, []), (.ldc2_w 283, 3, [29293]), (.iconst 2, 1, []), (.invokevirtual 260, 3, [164, 4, 111]), (.ifCond .eq (8), 3, [5]), (.aload_n 0, 1, []), (.invokevirtual 285, 3, [170, 1, 111]), (.ireturn, 1, [0])]
def k_165_5 : List mOp := [(.aload_n 0, 1, []), (.iconst 0, 1, []), (.ldc2_w 288, 3, [1952805748]), (.iconst 4, 1, []), (.invokevirtual 260, 3, [164, 4, 111]), (.ifCond .eq (8), 3, [6]), (.aload_n 0, 1, []), (.invokevirtual 290, 3, [172, 1, 111]), (.ireturn, 1, [0])]
def k_165_6 : List mOp := [(.aload_n 0, 1, []), (.iconst 0, 1, []), (.ldc2_w 293, 3, [1702390132]), (.iconst 4, 1, []), (.invokevirtual 260, 3, [164, 4, 111]), (.ifCond .eq (9), 3, [7]), (.aload_n 0, 1, []), (.iload_n 1, 1, []), (.invokevirtual 295, 3, [174, 2, 111]), (.ireturn, 1, [0])]
def k_165_7 : List mOp := [(.aload_n 0, 1, []), (.iconst 0, 1, []), (.ldc2_w 298, 3, [1751474532]), (.iconst 4, 1, []), (.invokevirtual 260, 3, [164, 4, 111]), (.ifCond .ne (15), 3, [8]), (.aload_n 0, 1, []), (.iconst 0, 1, []), (.ldc2_w 300, 3, [1735550320]), (.iconst 4, 1, []), (.invokevirtual 260, 3, [164, 4, 111]), (.ifCond .eq (39), 3, [12])]
def k_165_8 : List mOp := [(.aload_n 0, 1, []), (.getfield 204, 3, [111, 33, 0]), (.iconst 2, 1, []), (.if_icmp .eq (7), 3, [9]), (.iconst 2, 1, []), (.goto (26), 3, [11])]
def k_165_9 : List mOp := [(.aload_n 0, 1, []), (.iconst 0, 1, []), (.ldc2_w 298, 3, [1751474532]), (.iconst 4, 1, []), (.invokevirtual 260, 3, [164, 4, 111]), (.ifCond .eq (10), 3, [10]), (.aload_n 0, 1, []), (.invokevirtual 302, 3, [180, 1, 111]), (.goto (7), 3, [11])]
def k_165_10 : List mOp := [(.aload_n 0, 1, []), (.invokevirtual 305, 3, [182, 1, 111])]
def k_165_11 : List mOp := [(.ireturn, 1, [0])]
def k_165_12 : List mOp := [(.aload_n 0, 1, []), (.iconst 0, 1, []), (.ldc2_w 308, 3, [29810]), (.iconst 2, 1, []), (.invokevirtual 260, 3, [164, 4, 111]), (.ifCond .eq (8), 3, [13]), (.aload_n 0, 1, []), (.invokevirtual 310, 3, [175, 1, 111]), (.ireturn, 1, [0])]
def k_165_13 : List mOp := [(.aload_n 0, 1, []), (.iconst 0, 1, []), (.ldc2_w 313, 3, [1953658213]), (.iconst 4, 1, []), (.invokevirtual 260, 3, [164, 4, 111]), (.istore_n 2, 1, []), (.aload_n 0, 1, []), (.iconst 0, 1, []), (.ldc2_w 315, 3, [30563]), (.iconst 2, 1, []), (.invokevirtual 260, 3, [164, 4, 111]), (.istore_n 3, 1, []), (.aload_n 0, 1, []), (.iconst 0, 1, []), (.ldc2_w 317, 3, [7497078]), (.iconst 3, 1, []), (.invokevirtual 260, 3, [164, 4, 111]), (.istore 4, 2, []), (.aload_n 0, 1, []), (.iconst 0, 1, []), (.ldc2_w 319, 3, [1936683636]), (.iconst 4, 1, []), (.invokevirtual 260, 3, [164, 4, 111]), (.istore 5, 2, []), (.aload_n 0, 1, []), (.iconst 0, 1, []), (.ldc2_w 321, 3, [1970170225]), (.iconst 4, 1, []), (.invokevirtual 260, 3, [164, 4, 111]), (.istore 6, 2, []), (.aload_n 0, 1, []), (.iconst 0, 1, []), (.ldc2_w 323, 3, [439721161573]), (.iconst 5, 1, []), (.invokevirtual 260, 3, [164, 4, 111]), (.istore 7, 2, []), (.iload_n 2, 1, []), (.ifCond .ne (30), 3, [14]), (.iload_n 3, 1, []), (.ifCond .ne (26), 3, [14]), (.iload 4, 2, []), (.ifCond .ne (21), 3, [14]), (.iload 5, 2, []), (.ifCond .ne (16), 3, [14]), (.iload 6, 2, []), (.ifCond .ne (11), 3, [14]), (.iload 7, 2, []), (.ifCond .ne (6), 3, [14]), (.bipush 127, 2, []), (.ireturn, 1, [0])]
def k_165_14 : List mOp := [(.aload_n 0, 1, []), (.getfield 204, 3, [111, 33, 0]), (.iconst 1, 1, []), (.if_icmp .le (5), 3, [15]), (.iconst 2, 1, []), (.ireturn, 1, [0])]
def k_165_15 : List mOp := [(.iload_n 3, 1, []), (.ifCond .eq (10), 3, [16]), (.aload_n 0, 1, []), (.invokevirtual 325, 3, [178, 1, 111]), (.goto (26), 3, [18])]
def k_165_16 : List mOp := [(.iload 4, 2, []), (.ifCond .ne (13), 3, [17]), (.iload 5, 2, []), (.ifCond .ne (8), 3, [17]), (.iload 6, 2, []), (.ifCond .eq (11), 3, [18])]
def k_165_17 : List mOp := [(.aload_n 0, 1, []), (.iload 4, 2, []), (.iload 5, 2, []), (.invokevirtual 328, 3, [184, 3, 111])]
def k_165_18 : List mOp := [(.iload 7, 2, []), (.ifCond .eq (7), 3, [19]), (.iconst 1, 1, []), (.goto (4), 3, [20])]
def k_165_19 : List mOp := [(.iconst 0, 1, [])]
def k_165_20 : List mOp := [(.ireturn, 1, [0])]
/-- TinyShellModel.utility(Z)I -/
def P_165 (b : Nat) : List mOp × Nat := cond (Nat.blt b 10) (cond (Nat.blt b 5) (cond (Nat.blt b 2) (cond (Nat.blt b 1) ((k_165_0, 0)) ((k_165_1, 0))) (cond (Nat.blt b 3) ((k_165_2, 0)) (cond (Nat.blt b 4) ((k_165_3, 0)) ((k_165_4, 0))))) (cond (Nat.blt b 7) (cond (Nat.blt b 6) ((k_165_5, 0)) ((k_165_6, 0))) (cond (Nat.blt b 8) ((k_165_7, 8)) (cond (Nat.blt b 9) ((k_165_8, 0)) ((k_165_9, 0)))))) (cond (Nat.blt b 15) (cond (Nat.blt b 12) (cond (Nat.blt b 11) ((k_165_10, 11)) ((k_165_11, 0))) (cond (Nat.blt b 13) ((k_165_12, 0)) (cond (Nat.blt b 14) ((k_165_13, 0)) ((k_165_14, 0))))) (cond (Nat.blt b 18) (cond (Nat.blt b 16) ((k_165_15, 0)) (cond (Nat.blt b 17) ((k_165_16, 17)) ((k_165_17, 18)))) (cond (Nat.blt b 19) ((k_165_18, 0)) (cond (Nat.blt b 20) ((k_165_19, 20)) ((k_165_20, 0))))))
def J_165 : MethodName × ByteArray × Nat × Option FieldType × Nat × Nat × List Nat := (⟨"TinyShellModel", "utility", "(Z)I"⟩, prog_15_method_49_code, 8, some (Jvm.ClassFile.FieldType.int), 3, 72, [0, 17, 34, 51, 68, 85, 102, 120, 144, 156, 175, 179, 180, 197, 292, 302, 313, 328, 336, 345, 346])
def k_166_0 : List mOp := [(.iconst 1, 1, []), (.istore_n 1, 1, [])]
def k_166_1 : List mOp := [(.iload_n 1, 1, []), (.aload_n 0, 1, []), (.getfield 204, 3, [111, 33, 0]), (.if_icmp .ge (53), 3, [5]), (.iload_n 1, 1, []), (.iconst 1, 1, []), (.if_icmp .le (9), 3, [2]), (.aload_n 0, 1, []), (.bipush 32, 2, []), (.invokevirtual 332, 3, [163, 2, 111])]
def k_166_2 : List mOp := [(.iconst 0, 1, []), (.istore_n 2, 1, [])]
def k_166_3 : List mOp := [(.iload_n 2, 1, []), (.aload_n 0, 1, []), (.getfield 81, 3, [111, 35, 1]), (.iload_n 1, 1, []), (.iaload, 1, [1]), (.if_icmp .ge (24), 3, [4]), (.aload_n 0, 1, []), (.aload_n 0, 1, []), (.getfield 78, 3, [111, 34, 1]), (.bipush 40, 2, []), (.iload_n 1, 1, []), (.imul, 1, []), (.iload_n 2, 1, []), (.iadd, 1, []), (.caload, 1, []), (.invokevirtual 332, 3, [163, 2, 111]), (.iinc 2 1, 3, []), (.goto (-28), 3, [3])]
def k_166_4 : List mOp := [(.iinc 1 1, 3, []), (.goto (-55), 3, [1])]
def k_166_5 : List mOp := [(.aload_n 0, 1, []), (.bipush 10, 2, []), (.invokevirtual 332, 3, [163, 2, 111]), (.iconst 0, 1, []), (.ireturn, 1, [0])]
/-- TinyShellModel.echo()I -/
def P_166 (b : Nat) : List mOp × Nat := cond (Nat.blt b 3) (cond (Nat.blt b 1) ((k_166_0, 1)) (cond (Nat.blt b 2) ((k_166_1, 2)) ((k_166_2, 3)))) (cond (Nat.blt b 4) ((k_166_3, 0)) (cond (Nat.blt b 5) ((k_166_4, 0)) ((k_166_5, 0))))
def J_166 : MethodName × ByteArray × Nat × Option FieldType × Nat × Nat × List Nat := (⟨"TinyShellModel", "echo", "()I"⟩, prog_15_method_50_code, 3, some (Jvm.ClassFile.FieldType.int), 1, 21, [0, 2, 21, 23, 54, 60])
def k_167_0 : List mOp := [(.iconst 0, 1, []), (.istore_n 1, 1, [])]
def k_167_1 : List mOp := [(.iload_n 1, 1, []), (.aload_n 0, 1, []), (.getfield 248, 3, [111, 36, 0]), (.if_icmp .ge (27), 3, [2]), (.aload_n 0, 1, []), (.getfield 204, 3, [111, 33, 0]), (.iconst 1, 1, []), (.if_icmp .ne (19), 3, [2]), (.aload_n 0, 1, []), (.aload_n 0, 1, []), (.getfield 84, 3, [111, 37, 1]), (.iload_n 1, 1, []), (.caload, 1, []), (.invokevirtual 332, 3, [163, 2, 111]), (.iinc 1 1, 3, []), (.goto (-29), 3, [1])]
def k_167_2 : List mOp := [(.iconst 0, 1, []), (.istore_n 1, 1, []), (.iconst 1, 1, []), (.istore_n 2, 1, [])]
def k_167_3 : List mOp := [(.iload_n 2, 1, []), (.aload_n 0, 1, []), (.getfield 204, 3, [111, 33, 0]), (.if_icmp .ge (71), 3, [8]), (.aload_n 0, 1, []), (.iload_n 2, 1, []), (.invokevirtual 227, 3, [142, 2, 111]), (.istore_n 3, 1, []), (.iload_n 3, 1, []), (.ifCond .ge (7), 3, [4]), (.iconst 1, 1, []), (.goto (4), 3, [5])]
def k_167_4 : List mOp := [(.iload_n 1, 1, [])]
def k_167_5 : List mOp := [(.istore_n 1, 1, []), (.iconst 0, 1, []), (.istore 4, 2, [])]
def k_167_6 : List mOp := [(.iload_n 3, 1, []), (.ifCond .lt (42), 3, [7]), (.iload 4, 2, []), (.aload_n 0, 1, []), (.getfield 59, 3, [111, 21, 1]), (.bipush 8, 2, []), (.iload_n 3, 1, []), (.iadd, 1, []), (.iaload, 1, [1]), (.if_icmp .ge (28), 3, [7]), (.aload_n 0, 1, []), (.aload_n 0, 1, []), (.getfield 56, 3, [111, 20, 1]), (.bipush 80, 2, []), (.bipush 8, 2, []), (.iload_n 3, 1, []), (.iadd, 1, []), (.imul, 1, []), (.iload 4, 2, []), (.iadd, 1, []), (.caload, 1, []), (.invokevirtual 332, 3, [163, 2, 111]), (.iinc 4 1, 3, []), (.goto (-40), 3, [6])]
def k_167_7 : List mOp := [(.iinc 2 1, 3, []), (.goto (-73), 3, [3])]
def k_167_8 : List mOp := [(.iload_n 1, 1, []), (.ireturn, 1, [0])]
/-- TinyShellModel.cat()I -/
def P_167 (b : Nat) : List mOp × Nat := cond (Nat.blt b 4) (cond (Nat.blt b 2) (cond (Nat.blt b 1) ((k_167_0, 1)) ((k_167_1, 0))) (cond (Nat.blt b 3) ((k_167_2, 3)) ((k_167_3, 0)))) (cond (Nat.blt b 6) (cond (Nat.blt b 5) ((k_167_4, 5)) ((k_167_5, 6))) (cond (Nat.blt b 7) ((k_167_6, 0)) (cond (Nat.blt b 8) ((k_167_7, 0)) ((k_167_8, 0)))))
def J_167 : MethodName × ByteArray × Nat × Option FieldType × Nat × Nat × List Nat := (⟨"TinyShellModel", "cat", "()I"⟩, prog_15_method_51_code, 5, some (Jvm.ClassFile.FieldType.int), 2, 48, [0, 2, 34, 38, 60, 61, 65, 108, 114])
def k_168_0 : List mOp := [(.aload_n 0, 1, []), (.getfield 204, 3, [111, 33, 0]), (.bipush 10, 2, []), (.if_icmp .le (10), 3, [1]), (.aload_n 0, 1, []), (.iconst 1, 1, []), (.putfield 156, 3, [111, 25, 2]), (.iconst 0, 1, []), (.ireturn, 1, [0])]
def k_168_1 : List mOp := [(.aload_n 0, 1, []), (.getfield 38, 3, [111, 14, 1]), (.iconst 1, 1, []), (.aload_n 0, 1, []), (.getfield 204, 3, [111, 33, 0]), (.iconst 1, 1, []), (.isub, 1, []), (.iastore, 1, []), (.iconst 1, 1, []), (.istore_n 1, 1, [])]
def k_168_2 : List mOp := [(.iload_n 1, 1, []), (.aload_n 0, 1, []), (.getfield 204, 3, [111, 33, 0]), (.if_icmp .ge (71), 3, [5]), (.iconst 0, 1, []), (.istore_n 2, 1, [])]
def k_168_3 : List mOp := [(.iload_n 2, 1, []), (.aload_n 0, 1, []), (.getfield 81, 3, [111, 35, 1]), (.iload_n 1, 1, []), (.iaload, 1, [1]), (.if_icmp .ge (36), 3, [4]), (.aload_n 0, 1, []), (.getfield 41, 3, [111, 15, 1]), (.bipush 40, 2, []), (.bipush 9, 2, []), (.iload_n 1, 1, []), (.iadd, 1, []), (.iconst 1, 1, []), (.isub, 1, []), (.imul, 1, []), (.iload_n 2, 1, []), (.iadd, 1, []), (.aload_n 0, 1, []), (.getfield 78, 3, [111, 34, 1]), (.bipush 40, 2, []), (.iload_n 1, 1, []), (.imul, 1, []), (.iload_n 2, 1, []), (.iadd, 1, []), (.caload, 1, []), (.castore, 1, []), (.iinc 2 1, 3, []), (.goto (-40), 3, [3])]
def k_168_4 : List mOp := [(.aload_n 0, 1, []), (.getfield 44, 3, [111, 16, 1]), (.bipush 9, 2, []), (.iload_n 1, 1, []), (.iadd, 1, []), (.iconst 1, 1, []), (.isub, 1, []), (.aload_n 0, 1, []), (.getfield 81, 3, [111, 35, 1]), (.iload_n 1, 1, []), (.iaload, 1, [1]), (.iastore, 1, []), (.iinc 1 1, 3, []), (.goto (-73), 3, [2])]
def k_168_5 : List mOp := [(.iconst 0, 1, []), (.ireturn, 1, [0])]
/-- TinyShellModel.setPositions()I -/
def P_168 (b : Nat) : List mOp × Nat := cond (Nat.blt b 3) (cond (Nat.blt b 1) ((k_168_0, 0)) (cond (Nat.blt b 2) ((k_168_1, 2)) ((k_168_2, 3)))) (cond (Nat.blt b 4) ((k_168_3, 0)) (cond (Nat.blt b 5) ((k_168_4, 0)) ((k_168_5, 0))))
def J_168 : MethodName × ByteArray × Nat × Option FieldType × Nat × Nat × List Nat := (⟨"TinyShellModel", "setPositions", "()I"⟩, prog_15_method_52_code, 3, some (Jvm.ClassFile.FieldType.int), 0, 0, [0, 16, 30, 40, 83, 106])
def k_169_0 : List mOp := [(.iconst 1, 1, []), (.istore_n 1, 1, [])]
def k_169_1 : List mOp := [(.iload_n 1, 1, []), (.aload_n 0, 1, []), (.getfield 204, 3, [111, 33, 0]), (.if_icmp .ge (73), 3, [6]), (.aload_n 0, 1, []), (.getfield 23, 3, [111, 9, 1]), (.iconst 1, 1, []), (.iaload, 1, [1]), (.iconst 1, 1, []), (.isub, 1, []), (.istore_n 2, 1, [])]
def k_169_2 : List mOp := [(.iload_n 2, 1, []), (.ifCond .lt (54), 3, [5]), (.aload_n 0, 1, []), (.iload_n 2, 1, []), (.iload_n 1, 1, []), (.invokevirtual 335, 3, [140, 3, 111]), (.ifCond .eq (39), 3, [4]), (.aload_n 0, 1, []), (.getfield 23, 3, [111, 9, 1]), (.iconst 1, 1, []), (.dup2, 1, []), (.iaload, 1, [1]), (.iconst 1, 1, []), (.isub, 1, []), (.iastore, 1, []), (.iload_n 2, 1, []), (.istore_n 3, 1, [])]
def k_169_3 : List mOp := [(.iload_n 3, 1, []), (.aload_n 0, 1, []), (.getfield 23, 3, [111, 9, 1]), (.iconst 1, 1, []), (.iaload, 1, [1]), (.if_icmp .ge (17), 3, [4]), (.aload_n 0, 1, []), (.iload_n 3, 1, []), (.iconst 1, 1, []), (.iadd, 1, []), (.iload_n 3, 1, []), (.invokevirtual 160, 3, [138, 3, 111]), (.iinc 3 1, 3, []), (.goto (-21), 3, [3])]
def k_169_4 : List mOp := [(.iinc 2 (-1), 3, []), (.goto (-52), 3, [2])]
def k_169_5 : List mOp := [(.iinc 1 1, 3, []), (.goto (-75), 3, [1])]
def k_169_6 : List mOp := [(.iconst 0, 1, []), (.ireturn, 1, [0])]
/-- TinyShellModel.unset()I -/
def P_169 (b : Nat) : List mOp × Nat := cond (Nat.blt b 3) (cond (Nat.blt b 1) ((k_169_0, 1)) (cond (Nat.blt b 2) ((k_169_1, 2)) ((k_169_2, 3)))) (cond (Nat.blt b 5) (cond (Nat.blt b 4) ((k_169_3, 0)) ((k_169_4, 0))) (cond (Nat.blt b 6) ((k_169_5, 0)) ((k_169_6, 0))))
def J_169 : MethodName × ByteArray × Nat × Option FieldType × Nat × Nat × List Nat := (⟨"TinyShellModel", "unset", "()I"⟩, prog_15_method_53_code, 4, some (Jvm.ClassFile.FieldType.int), 1, 24, [0, 2, 19, 44, 68, 74, 80])
def k_170_0 : List mOp := [(.iconst 0, 1, []), (.istore_n 1, 1, []), (.iconst 1, 1, []), (.istore_n 2, 1, [])]
def k_170_1 : List mOp := [(.iload_n 2, 1, []), (.aload_n 0, 1, []), (.getfield 204, 3, [111, 33, 0]), (.if_icmp .ge (72), 3, [8]), (.aload_n 0, 1, []), (.iload_n 2, 1, []), (.invokevirtual 227, 3, [142, 2, 111]), (.istore_n 3, 1, []), (.iload_n 3, 1, []), (.ifCond .ge (7), 3, [2]), (.iconst 1, 1, []), (.goto (4), 3, [3])]
def k_170_2 : List mOp := [(.iload_n 1, 1, [])]
def k_170_3 : List mOp := [(.istore_n 1, 1, []), (.iload_n 3, 1, []), (.ifCond .lt (46), 3, [7]), (.aload_n 0, 1, []), (.aload_n 0, 1, []), (.getfield 175, 3, [111, 44, 0]), (.iload_n 3, 1, []), (.if_icmp .ne (8), 3, [4]), (.bipush (-2), 2, []), (.goto (24), 3, [6])]
def k_170_4 : List mOp := [(.aload_n 0, 1, []), (.getfield 175, 3, [111, 44, 0]), (.iload_n 3, 1, []), (.if_icmp .le (12), 3, [5]), (.aload_n 0, 1, []), (.getfield 175, 3, [111, 44, 0]), (.iconst 1, 1, []), (.isub, 1, []), (.goto (7), 3, [6])]
def k_170_5 : List mOp := [(.aload_n 0, 1, []), (.getfield 175, 3, [111, 44, 0])]
def k_170_6 : List mOp := [(.putfield 175, 3, [111, 44, 0]), (.aload_n 0, 1, []), (.iload_n 3, 1, []), (.invokevirtual 339, 3, [145, 2, 111])]
def k_170_7 : List mOp := [(.iinc 2 1, 3, []), (.goto (-74), 3, [1])]
def k_170_8 : List mOp := [(.iload_n 1, 1, []), (.ireturn, 1, [0])]
/-- TinyShellModel.remove()I -/
def P_170 (b : Nat) : List mOp × Nat := cond (Nat.blt b 4) (cond (Nat.blt b 2) (cond (Nat.blt b 1) ((k_170_0, 1)) ((k_170_1, 0))) (cond (Nat.blt b 3) ((k_170_2, 3)) ((k_170_3, 0)))) (cond (Nat.blt b 6) (cond (Nat.blt b 5) ((k_170_4, 0)) ((k_170_5, 6))) (cond (Nat.blt b 7) ((k_170_6, 7)) (cond (Nat.blt b 8) ((k_170_7, 0)) ((k_170_8, 0)))))
def J_170 : MethodName × ByteArray × Nat × Option FieldType × Nat × Nat × List Nat := (⟨"TinyShellModel", "remove", "()I"⟩, prog_15_method_54_code, 4, some (Jvm.ClassFile.FieldType.int), 2, 48, [0, 4, 26, 27, 46, 63, 67, 75, 81])
def k_171_0 : List mOp := [(.aload_n 0, 1, []), (.getfield 81, 3, [111, 35, 1]), (.iload_n 1, 1, []), (.iaload, 1, [1]), (.aload_n 0, 1, []), (.getfield 81, 3, [111, 35, 1]), (.iload_n 2, 1, []), (.iaload, 1, [1]), (.if_icmp .ne (7), 3, [1]), (.iconst 1, 1, []), (.goto (4), 3, [2])]
def k_171_1 : List mOp := [(.iconst 0, 1, [])]
def k_171_2 : List mOp := [(.istore_n 3, 1, []), (.iconst 0, 1, []), (.istore 4, 2, [])]
def k_171_3 : List mOp := [(.iload 4, 2, []), (.aload_n 0, 1, []), (.getfield 81, 3, [111, 35, 1]), (.iload_n 1, 1, []), (.iaload, 1, [1]), (.if_icmp .ge (46), 3, [6]), (.iload_n 3, 1, []), (.ifCond .eq (42), 3, [6]), (.aload_n 0, 1, []), (.getfield 78, 3, [111, 34, 1]), (.bipush 40, 2, []), (.iload_n 1, 1, []), (.imul, 1, []), (.iload 4, 2, []), (.iadd, 1, []), (.caload, 1, []), (.aload_n 0, 1, []), (.getfield 78, 3, [111, 34, 1]), (.bipush 40, 2, []), (.iload_n 2, 1, []), (.imul, 1, []), (.iload 4, 2, []), (.iadd, 1, []), (.caload, 1, []), (.if_icmp .ne (7), 3, [4]), (.iconst 1, 1, []), (.goto (4), 3, [5])]
def k_171_4 : List mOp := [(.iconst 0, 1, [])]
def k_171_5 : List mOp := [(.istore_n 3, 1, []), (.iinc 4 1, 3, []), (.goto (-51), 3, [3])]
def k_171_6 : List mOp := [(.iload_n 3, 1, []), (.ireturn, 1, [1])]
/-- TinyShellModel.sameFields(II)Z -/
def P_171 (b : Nat) : List mOp × Nat := cond (Nat.blt b 3) (cond (Nat.blt b 1) ((k_171_0, 0)) (cond (Nat.blt b 2) ((k_171_1, 2)) ((k_171_2, 3)))) (cond (Nat.blt b 5) (cond (Nat.blt b 4) ((k_171_3, 0)) ((k_171_4, 5))) (cond (Nat.blt b 6) ((k_171_5, 0)) ((k_171_6, 0))))
def J_171 : MethodName × ByteArray × Nat × Option FieldType × Nat × Nat × List Nat := (⟨"TinyShellModel", "sameFields", "(II)Z"⟩, prog_15_method_55_code, 5, some (Jvm.ClassFile.FieldType.boolean), 0, 0, [0, 19, 20, 24, 70, 71, 78])
def k_172_0 : List mOp := [(.aload_n 0, 1, []), (.getfield 204, 3, [111, 33, 0]), (.iconst 2, 1, []), (.if_icmp .ne (18), 3, [3]), (.aload_n 0, 1, []), (.getfield 81, 3, [111, 35, 1]), (.iconst 1, 1, []), (.iaload, 1, [1]), (.ifCond .le (7), 3, [1]), (.iconst 0, 1, []), (.goto (4), 3, [2])]
def k_172_1 : List mOp := [(.iconst 1, 1, [])]
def k_172_2 : List mOp := [(.ireturn, 1, [0])]
def k_172_3 : List mOp := [(.aload_n 0, 1, []), (.getfield 204, 3, [111, 33, 0]), (.iconst 3, 1, []), (.if_icmp .ne (29), 3, [6]), (.aload_n 0, 1, []), (.iconst 1, 1, []), (.ldc2_w 342, 3, [11621]), (.iconst 2, 1, []), (.invokevirtual 260, 3, [164, 4, 111]), (.ifCond .eq (17), 3, [6]), (.aload_n 0, 1, []), (.iconst 2, 1, []), (.invokevirtual 227, 3, [142, 2, 111]), (.ifCond .lt (7), 3, [4]), (.iconst 0, 1, []), (.goto (4), 3, [5])]
def k_172_4 : List mOp := [(.iconst 1, 1, [])]
def k_172_5 : List mOp := [(.ireturn, 1, [0])]
def k_172_6 : List mOp := [(.aload_n 0, 1, []), (.getfield 204, 3, [111, 33, 0]), (.iconst 4, 1, []), (.if_icmp .ne (19), 3, [7]), (.aload_n 0, 1, []), (.iconst 2, 1, []), (.ldc2_w 344, 3, [61]), (.iconst 1, 1, []), (.invokevirtual 260, 3, [164, 4, 111]), (.ifCond .eq (7), 3, [7]), (.iconst 1, 1, []), (.goto (4), 3, [8])]
def k_172_7 : List mOp := [(.iconst 0, 1, [])]
def k_172_8 : List mOp := [(.istore_n 1, 1, []), (.aload_n 0, 1, []), (.getfield 204, 3, [111, 33, 0]), (.iconst 4, 1, []), (.if_icmp .ne (19), 3, [9]), (.aload_n 0, 1, []), (.iconst 2, 1, []), (.ldc2_w 346, 3, [8509]), (.iconst 2, 1, []), (.invokevirtual 260, 3, [164, 4, 111]), (.ifCond .eq (7), 3, [9]), (.iconst 1, 1, []), (.goto (4), 3, [10])]
def k_172_9 : List mOp := [(.iconst 0, 1, [])]
def k_172_10 : List mOp := [(.istore_n 2, 1, []), (.iload_n 1, 1, []), (.ifCond .ne (9), 3, [11]), (.iload_n 2, 1, []), (.ifCond .ne (5), 3, [11]), (.iconst 2, 1, []), (.ireturn, 1, [0])]
def k_172_11 : List mOp := [(.aload_n 0, 1, []), (.iconst 1, 1, []), (.iconst 3, 1, []), (.invokevirtual 348, 3, [171, 3, 111]), (.iload_n 1, 1, []), (.if_icmp .ne (7), 3, [12]), (.iconst 0, 1, []), (.goto (4), 3, [13])]
def k_172_12 : List mOp := [(.iconst 1, 1, [])]
def k_172_13 : List mOp := [(.ireturn, 1, [0])]
/-- TinyShellModel.test()I -/
def P_172 (b : Nat) : List mOp × Nat := cond (Nat.blt b 7) (cond (Nat.blt b 3) (cond (Nat.blt b 1) ((k_172_0, 0)) (cond (Nat.blt b 2) ((k_172_1, 2)) ((k_172_2, 0)))) (cond (Nat.blt b 5) (cond (Nat.blt b 4) ((k_172_3, 0)) ((k_172_4, 5))) (cond (Nat.blt b 6) ((k_172_5, 0)) ((k_172_6, 0))))) (cond (Nat.blt b 10) (cond (Nat.blt b 8) ((k_172_7, 8)) (cond (Nat.blt b 9) ((k_172_8, 0)) ((k_172_9, 10)))) (cond (Nat.blt b 12) (cond (Nat.blt b 11) ((k_172_10, 0)) ((k_172_11, 0))) (cond (Nat.blt b 13) ((k_172_12, 13)) ((k_172_13, 0)))))
def J_172 : MethodName × ByteArray × Nat × Option FieldType × Nat × Nat × List Nat := (⟨"TinyShellModel", "test", "()I"⟩, prog_15_method_56_code, 3, some (Jvm.ClassFile.FieldType.int), 2, 48, [0, 21, 22, 23, 55, 56, 57, 81, 82, 107, 108, 119, 133, 134])
def k_173_0 : List mOp := [(.iconst 0, 1, []), (.istore_n 3, 1, []), (.aload_n 0, 1, []), (.getfield 81, 3, [111, 35, 1]), (.iload_n 1, 1, []), (.iaload, 1, [1]), (.iconst 1, 1, []), (.if_icmp .lt (17), 3, [1]), (.aload_n 0, 1, []), (.getfield 81, 3, [111, 35, 1]), (.iload_n 1, 1, []), (.iaload, 1, [1]), (.iload_n 2, 1, []), (.if_icmp .gt (7), 3, [1]), (.iconst 1, 1, []), (.goto (4), 3, [2])]
def k_173_1 : List mOp := [(.iconst 0, 1, [])]
def k_173_2 : List mOp := [(.istore 4, 2, []), (.iconst 0, 1, []), (.istore 5, 2, [])]
def k_173_3 : List mOp := [(.iload 5, 2, []), (.aload_n 0, 1, []), (.getfield 81, 3, [111, 35, 1]), (.iload_n 1, 1, []), (.iaload, 1, [1]), (.if_icmp .ge (52), 3, [4]), (.iload 4, 2, []), (.ifCond .eq (47), 3, [4]), (.aload_n 0, 1, []), (.getfield 78, 3, [111, 34, 1]), (.bipush 40, 2, []), (.iload_n 1, 1, []), (.imul, 1, []), (.iload 5, 2, []), (.iadd, 1, []), (.caload, 1, []), (.invokestatic 111, 3, [124, 1]), (.istore 4, 2, []), (.bipush 10, 2, []), (.iload_n 3, 1, []), (.imul, 1, []), (.aload_n 0, 1, []), (.getfield 78, 3, [111, 34, 1]), (.bipush 40, 2, []), (.iload_n 1, 1, []), (.imul, 1, []), (.iload 5, 2, []), (.iadd, 1, []), (.caload, 1, []), (.iadd, 1, []), (.bipush 48, 2, []), (.isub, 1, []), (.istore_n 3, 1, []), (.iinc 5 1, 3, []), (.goto (-57), 3, [3])]
def k_173_4 : List mOp := [(.iload 4, 2, []), (.ifCond .eq (7), 3, [5]), (.iload_n 3, 1, []), (.goto (4), 3, [6])]
def k_173_5 : List mOp := [(.iconst (-1), 1, [])]
def k_173_6 : List mOp := [(.ireturn, 1, [0])]
/-- TinyShellModel.number(II)I -/
def P_173 (b : Nat) : List mOp × Nat := cond (Nat.blt b 3) (cond (Nat.blt b 1) ((k_173_0, 0)) (cond (Nat.blt b 2) ((k_173_1, 2)) ((k_173_2, 3)))) (cond (Nat.blt b 5) (cond (Nat.blt b 4) ((k_173_3, 0)) ((k_173_4, 0))) (cond (Nat.blt b 6) ((k_173_5, 6)) ((k_173_6, 0))))
def J_173 : MethodName × ByteArray × Nat × Option FieldType × Nat × Nat × List Nat := (⟨"TinyShellModel", "number", "(II)I"⟩, prog_15_method_57_code, 6, some (Jvm.ClassFile.FieldType.int), 1, 20, [0, 26, 27, 32, 92, 101, 102])
def k_174_0 : List mOp := [(.aload_n 0, 1, []), (.getfield 204, 3, [111, 33, 0]), (.iconst 1, 1, []), (.if_icmp .ne (12), 3, [1]), (.aload_n 0, 1, []), (.getfield 62, 3, [111, 22, 1]), (.iconst 1, 1, []), (.iaload, 1, [1]), (.goto (21), 3, [3])]
def k_174_1 : List mOp := [(.aload_n 0, 1, []), (.getfield 204, 3, [111, 33, 0]), (.iconst 2, 1, []), (.if_icmp .ne (12), 3, [2]), (.aload_n 0, 1, []), (.iconst 1, 1, []), (.iconst 3, 1, []), (.invokevirtual 351, 3, [173, 3, 111]), (.goto (4), 3, [3])]
def k_174_2 : List mOp := [(.iconst (-1), 1, [])]
def k_174_3 : List mOp := [(.istore_n 2, 1, []), (.iload_n 2, 1, []), (.ifCond .lt (10), 3, [4]), (.iload_n 2, 1, []), (.sipush 255, 3, []), (.if_icmp .le (5), 3, [5])]
def k_174_4 : List mOp := [(.iconst 2, 1, []), (.ireturn, 1, [0])]
def k_174_5 : List mOp := [(.aload_n 0, 1, []), (.aload_n 0, 1, []), (.getfield 354, 3, [111, 26, 0]), (.ifCond .ne (7), 3, [6]), (.iload_n 1, 1, []), (.ifCond .eq (7), 3, [7])]
def k_174_6 : List mOp := [(.iconst 1, 1, []), (.goto (4), 3, [8])]
def k_174_7 : List mOp := [(.iconst 0, 1, [])]
def k_174_8 : List mOp := [(.putfield 354, 3, [111, 26, 2]), (.iload_n 2, 1, []), (.ireturn, 1, [0])]
/-- TinyShellModel.exit(Z)I -/
def P_174 (b : Nat) : List mOp × Nat := cond (Nat.blt b 4) (cond (Nat.blt b 2) (cond (Nat.blt b 1) ((k_174_0, 0)) ((k_174_1, 0))) (cond (Nat.blt b 3) ((k_174_2, 3)) ((k_174_3, 4)))) (cond (Nat.blt b 6) (cond (Nat.blt b 5) ((k_174_4, 0)) ((k_174_5, 6))) (cond (Nat.blt b 7) ((k_174_6, 0)) (cond (Nat.blt b 8) ((k_174_7, 8)) ((k_174_8, 0)))))
def J_174 : MethodName × ByteArray × Nat × Option FieldType × Nat × Nat × List Nat := (⟨"TinyShellModel", "exit", "(Z)I"⟩, prog_15_method_58_code, 3, some (Jvm.ClassFile.FieldType.int), 2, 45, [0, 17, 34, 35, 47, 49, 61, 65, 66])
def k_175_0 : List mOp := [(.aload_n 0, 1, []), (.getfield 204, 3, [111, 33, 0]), (.iconst 3, 1, []), (.if_icmp .ne (23), 3, [1]), (.aload_n 0, 1, []), (.getfield 81, 3, [111, 35, 1]), (.iconst 1, 1, []), (.iaload, 1, [1]), (.iconst 1, 1, []), (.if_icmp .ne (13), 3, [1]), (.aload_n 0, 1, []), (.getfield 81, 3, [111, 35, 1]), (.iconst 2, 1, []), (.iaload, 1, [1]), (.iconst 1, 1, []), (.if_icmp .eq (5), 3, [2])]
def k_175_1 : List mOp := [(.iconst 2, 1, []), (.ireturn, 1, [0])]
def k_175_2 : List mOp := [(.iconst 0, 1, []), (.istore_n 1, 1, [])]
def k_175_3 : List mOp := [(.iload_n 1, 1, []), (.aload_n 0, 1, []), (.getfield 248, 3, [111, 36, 0]), (.if_icmp .ge (45), 3, [6]), (.aload_n 0, 1, []), (.aload_n 0, 1, []), (.getfield 84, 3, [111, 37, 1]), (.iload_n 1, 1, []), (.caload, 1, []), (.aload_n 0, 1, []), (.getfield 78, 3, [111, 34, 1]), (.bipush 40, 2, []), (.caload, 1, []), (.if_icmp .ne (13), 3, [4]), (.aload_n 0, 1, []), (.getfield 78, 3, [111, 34, 1]), (.bipush 80, 2, []), (.caload, 1, []), (.goto (9), 3, [5])]
def k_175_4 : List mOp := [(.aload_n 0, 1, []), (.getfield 84, 3, [111, 37, 1]), (.iload_n 1, 1, []), (.caload, 1, [])]
def k_175_5 : List mOp := [(.invokevirtual 332, 3, [163, 2, 111]), (.iinc 1 1, 3, []), (.goto (-47), 3, [3])]
def k_175_6 : List mOp := [(.iconst 0, 1, []), (.ireturn, 1, [0])]
/-- TinyShellModel.turn()I -/
def P_175 (b : Nat) : List mOp × Nat := cond (Nat.blt b 3) (cond (Nat.blt b 1) ((k_175_0, 1)) (cond (Nat.blt b 2) ((k_175_1, 0)) ((k_175_2, 3)))) (cond (Nat.blt b 5) (cond (Nat.blt b 4) ((k_175_3, 0)) ((k_175_4, 5))) (cond (Nat.blt b 6) ((k_175_5, 0)) ((k_175_6, 0))))
def J_175 : MethodName × ByteArray × Nat × Option FieldType × Nat × Nat × List Nat := (⟨"TinyShellModel", "turn", "()I"⟩, prog_15_method_59_code, 2, some (Jvm.ClassFile.FieldType.int), 1, 21, [0, 28, 30, 32, 67, 73, 82])
def k_176_0 : List mOp := [(.aload_n 0, 1, []), (.iconst 0, 1, []), (.putfield 357, 3, [111, 40, 0]), (.iconst 0, 1, []), (.istore_n 1, 1, []), (.iconst 0, 1, []), (.istore_n 2, 1, [])]
def k_176_1 : List mOp := [(.iload_n 2, 1, []), (.aload_n 0, 1, []), (.getfield 248, 3, [111, 36, 0]), (.if_icmp .gt (82), 3, [7]), (.iload_n 2, 1, []), (.aload_n 0, 1, []), (.getfield 248, 3, [111, 36, 0]), (.if_icmp .ne (7), 3, [2]), (.iconst 1, 1, []), (.goto (4), 3, [3])]
def k_176_2 : List mOp := [(.iconst 0, 1, [])]
def k_176_3 : List mOp := [(.istore_n 3, 1, []), (.iload_n 3, 1, []), (.ifCond .eq (11), 3, [4]), (.iload_n 2, 1, []), (.iload_n 1, 1, []), (.if_icmp .le (53), 3, [6]), (.goto (14), 3, [5])]
def k_176_4 : List mOp := [(.aload_n 0, 1, []), (.getfield 84, 3, [111, 37, 1]), (.iload_n 2, 1, []), (.caload, 1, []), (.bipush 10, 2, []), (.if_icmp .ne (39), 3, [6])]
def k_176_5 : List mOp := [(.aload_n 0, 1, []), (.getfield 90, 3, [111, 41, 1]), (.aload_n 0, 1, []), (.getfield 357, 3, [111, 40, 0]), (.iload_n 1, 1, []), (.iastore, 1, []), (.aload_n 0, 1, []), (.getfield 93, 3, [111, 42, 1]), (.aload_n 0, 1, []), (.getfield 357, 3, [111, 40, 0]), (.iload_n 2, 1, []), (.iload_n 1, 1, []), (.isub, 1, []), (.iastore, 1, []), (.aload_n 0, 1, []), (.dup, 1, []), (.getfield 357, 3, [111, 40, 0]), (.iconst 1, 1, []), (.iadd, 1, []), (.putfield 357, 3, [111, 40, 0]), (.iload_n 2, 1, []), (.iconst 1, 1, []), (.iadd, 1, []), (.istore_n 1, 1, [])]
def k_176_6 : List mOp := [(.iinc 2 1, 3, []), (.goto (-84), 3, [1])]
def k_176_7 : List mOp := [(.return_, 1, [])]
/-- TinyShellModel.cutLines()V -/
def P_176 (b : Nat) : List mOp × Nat := cond (Nat.blt b 4) (cond (Nat.blt b 2) (cond (Nat.blt b 1) ((k_176_0, 1)) ((k_176_1, 0))) (cond (Nat.blt b 3) ((k_176_2, 3)) ((k_176_3, 0)))) (cond (Nat.blt b 6) (cond (Nat.blt b 5) ((k_176_4, 5)) ((k_176_5, 6))) (cond (Nat.blt b 7) ((k_176_6, 0)) ((k_176_7, 0))))
def J_176 : MethodName × ByteArray × Nat × Option FieldType × Nat × Nat × List Nat := (⟨"TinyShellModel", "cutLines", "()V"⟩, prog_15_method_60_code, 4, none, 0, 0, [0, 9, 29, 30, 43, 54, 90, 96])
def k_177_0 : List mOp := [(.iconst 0, 1, []), (.istore_n 2, 1, [])]
def k_177_1 : List mOp := [(.iload_n 2, 1, []), (.aload_n 0, 1, []), (.getfield 93, 3, [111, 42, 1]), (.iload_n 1, 1, []), (.iaload, 1, [1]), (.if_icmp .ge (26), 3, [2]), (.aload_n 0, 1, []), (.aload_n 0, 1, []), (.getfield 84, 3, [111, 37, 1]), (.aload_n 0, 1, []), (.getfield 90, 3, [111, 41, 1]), (.iload_n 1, 1, []), (.iaload, 1, [1]), (.iload_n 2, 1, []), (.iadd, 1, []), (.caload, 1, []), (.invokevirtual 332, 3, [163, 2, 111]), (.iinc 2 1, 3, []), (.goto (-30), 3, [1])]
def k_177_2 : List mOp := [(.aload_n 0, 1, []), (.bipush 10, 2, []), (.invokevirtual 332, 3, [163, 2, 111]), (.return_, 1, [])]
/-- TinyShellModel.outLine(I)V -/
def P_177 (b : Nat) : List mOp × Nat := cond (Nat.blt b 1) ((k_177_0, 1)) (cond (Nat.blt b 2) ((k_177_1, 0)) ((k_177_2, 0)))
def J_177 : MethodName × ByteArray × Nat × Option FieldType × Nat × Nat × List Nat := (⟨"TinyShellModel", "outLine", "(I)V"⟩, prog_15_method_61_code, 3, none, 1, 21, [0, 2, 35])
def k_178_0 : List mOp := [(.iconst 0, 1, []), (.istore_n 1, 1, []), (.iconst 0, 1, []), (.istore_n 2, 1, [])]
def k_178_1 : List mOp := [(.iload_n 2, 1, []), (.aload_n 0, 1, []), (.getfield 248, 3, [111, 36, 0]), (.if_icmp .ge (28), 3, [4]), (.iload_n 1, 1, []), (.aload_n 0, 1, []), (.getfield 84, 3, [111, 37, 1]), (.iload_n 2, 1, []), (.caload, 1, []), (.bipush 10, 2, []), (.if_icmp .ne (7), 3, [2]), (.iconst 1, 1, []), (.goto (4), 3, [3])]
def k_178_2 : List mOp := [(.iconst 0, 1, [])]
def k_178_3 : List mOp := [(.iadd, 1, []), (.istore_n 1, 1, []), (.iinc 2 1, 3, []), (.goto (-30), 3, [1])]
def k_178_4 : List mOp := [(.aload_n 0, 1, []), (.iload_n 1, 1, []), (.invokevirtual 360, 3, [179, 2, 111]), (.aload_n 0, 1, []), (.bipush 32, 2, []), (.invokevirtual 332, 3, [163, 2, 111]), (.aload_n 0, 1, []), (.aload_n 0, 1, []), (.getfield 248, 3, [111, 36, 0]), (.invokevirtual 360, 3, [179, 2, 111]), (.aload_n 0, 1, []), (.bipush 10, 2, []), (.invokevirtual 332, 3, [163, 2, 111]), (.return_, 1, [])]
/-- TinyShellModel.putCounts()V -/
def P_178 (b : Nat) : List mOp × Nat := cond (Nat.blt b 2) (cond (Nat.blt b 1) ((k_178_0, 1)) ((k_178_1, 0))) (cond (Nat.blt b 3) ((k_178_2, 3)) (cond (Nat.blt b 4) ((k_178_3, 0)) ((k_178_4, 0))))
def J_178 : MethodName × ByteArray × Nat × Option FieldType × Nat × Nat × List Nat := (⟨"TinyShellModel", "putCounts", "()V"⟩, prog_15_method_62_code, 3, none, 2, 42, [0, 4, 28, 29, 37])
def k_179_0 : List mOp := [(.iload_n 1, 1, []), (.bipush 99, 2, []), (.if_icmp .le (14), 3, [1]), (.aload_n 0, 1, []), (.bipush 48, 2, []), (.iload_n 1, 1, []), (.bipush 100, 2, []), (.idiv, 1, []), (.iadd, 1, []), (.invokevirtual 332, 3, [163, 2, 111])]
def k_179_1 : List mOp := [(.iload_n 1, 1, []), (.bipush 9, 2, []), (.if_icmp .le (17), 3, [2]), (.aload_n 0, 1, []), (.bipush 48, 2, []), (.iload_n 1, 1, []), (.bipush 10, 2, []), (.idiv, 1, []), (.bipush 10, 2, []), (.irem, 1, []), (.iadd, 1, []), (.invokevirtual 332, 3, [163, 2, 111])]
def k_179_2 : List mOp := [(.aload_n 0, 1, []), (.bipush 48, 2, []), (.iload_n 1, 1, []), (.bipush 10, 2, []), (.irem, 1, []), (.iadd, 1, []), (.invokevirtual 332, 3, [163, 2, 111]), (.return_, 1, [])]
/-- TinyShellModel.outNumber(I)V -/
def P_179 (b : Nat) : List mOp × Nat := cond (Nat.blt b 1) ((k_179_0, 1)) (cond (Nat.blt b 2) ((k_179_1, 2)) ((k_179_2, 0)))
def J_179 : MethodName × ByteArray × Nat × Option FieldType × Nat × Nat × List Nat := (⟨"TinyShellModel", "outNumber", "(I)V"⟩, prog_15_method_63_code, 2, none, 1, 21, [0, 17, 37])
def k_180_0 : List mOp := [(.aload_n 0, 1, []), (.iconst 1, 1, []), (.iconst 2, 1, []), (.invokevirtual 351, 3, [173, 3, 111]), (.istore_n 1, 1, []), (.iload_n 1, 1, []), (.ifCond .ge (5), 3, [1]), (.iconst 2, 1, []), (.ireturn, 1, [0])]
def k_180_1 : List mOp := [(.aload_n 0, 1, []), (.invokevirtual 363, 3, [176, 1, 111]), (.iconst 0, 1, []), (.istore_n 2, 1, [])]
def k_180_2 : List mOp := [(.iload_n 2, 1, []), (.iload_n 1, 1, []), (.if_icmp .ge (22), 3, [3]), (.iload_n 2, 1, []), (.aload_n 0, 1, []), (.getfield 357, 3, [111, 40, 0]), (.if_icmp .ge (14), 3, [3]), (.aload_n 0, 1, []), (.iload_n 2, 1, []), (.invokevirtual 366, 3, [177, 2, 111]), (.iinc 2 1, 3, []), (.goto (-21), 3, [2])]
def k_180_3 : List mOp := [(.iconst 0, 1, []), (.ireturn, 1, [0])]
/-- TinyShellModel.head()I -/
def P_180 (b : Nat) : List mOp × Nat := cond (Nat.blt b 2) (cond (Nat.blt b 1) ((k_180_0, 0)) ((k_180_1, 2))) (cond (Nat.blt b 3) ((k_180_2, 0)) ((k_180_3, 0)))
def J_180 : MethodName × ByteArray × Nat × Option FieldType × Nat × Nat × List Nat := (⟨"TinyShellModel", "head", "()I"⟩, prog_15_method_64_code, 3, some (Jvm.ClassFile.FieldType.int), 2, 45, [0, 13, 19, 43])
def k_181_0 : List mOp := [(.iconst 0, 1, []), (.istore_n 2, 1, []), (.iconst 0, 1, []), (.istore_n 3, 1, [])]
def k_181_1 : List mOp := [(.iload_n 3, 1, []), (.aload_n 0, 1, []), (.getfield 81, 3, [111, 35, 1]), (.iconst 1, 1, []), (.iaload, 1, [1]), (.iadd, 1, []), (.aload_n 0, 1, []), (.getfield 93, 3, [111, 42, 1]), (.iload_n 1, 1, []), (.iaload, 1, [1]), (.if_icmp .gt (74), 3, [6]), (.iload_n 2, 1, []), (.ifCond .ne (70), 3, [6]), (.iconst 1, 1, []), (.istore_n 2, 1, []), (.iconst 0, 1, []), (.istore 4, 2, [])]
def k_181_2 : List mOp := [(.iload 4, 2, []), (.aload_n 0, 1, []), (.getfield 81, 3, [111, 35, 1]), (.iconst 1, 1, []), (.iaload, 1, [1]), (.if_icmp .ge (48), 3, [5]), (.iload_n 2, 1, []), (.ifCond .eq (44), 3, [5]), (.aload_n 0, 1, []), (.getfield 84, 3, [111, 37, 1]), (.aload_n 0, 1, []), (.getfield 90, 3, [111, 41, 1]), (.iload_n 1, 1, []), (.iaload, 1, [1]), (.iload_n 3, 1, []), (.iadd, 1, []), (.iload 4, 2, []), (.iadd, 1, []), (.caload, 1, []), (.aload_n 0, 1, []), (.getfield 78, 3, [111, 34, 1]), (.bipush 40, 2, []), (.iload 4, 2, []), (.iadd, 1, []), (.caload, 1, []), (.if_icmp .ne (7), 3, [3]), (.iconst 1, 1, []), (.goto (4), 3, [4])]
def k_181_3 : List mOp := [(.iconst 0, 1, [])]
def k_181_4 : List mOp := [(.istore_n 2, 1, []), (.iinc 4 1, 3, []), (.goto (-53), 3, [2])]
def k_181_5 : List mOp := [(.iinc 3 1, 3, []), (.goto (-85), 3, [1])]
def k_181_6 : List mOp := [(.iload_n 2, 1, []), (.ireturn, 1, [1])]
/-- TinyShellModel.stands(I)Z -/
def P_181 (b : Nat) : List mOp × Nat := cond (Nat.blt b 3) (cond (Nat.blt b 1) ((k_181_0, 1)) (cond (Nat.blt b 2) ((k_181_1, 2)) ((k_181_2, 0)))) (cond (Nat.blt b 5) (cond (Nat.blt b 4) ((k_181_3, 4)) ((k_181_4, 0))) (cond (Nat.blt b 6) ((k_181_5, 0)) ((k_181_6, 0))))
def J_181 : MethodName × ByteArray × Nat × Option FieldType × Nat × Nat × List Nat := (⟨"TinyShellModel", "stands", "(I)Z"⟩, prog_15_method_65_code, 5, some (Jvm.ClassFile.FieldType.boolean), 0, 0, [0, 4, 30, 78, 79, 86, 92])
def k_182_0 : List mOp := [(.aload_n 0, 1, []), (.invokevirtual 363, 3, [176, 1, 111]), (.iconst 1, 1, []), (.istore_n 1, 1, []), (.iconst 0, 1, []), (.istore_n 2, 1, [])]
def k_182_1 : List mOp := [(.iload_n 2, 1, []), (.aload_n 0, 1, []), (.getfield 357, 3, [111, 40, 0]), (.if_icmp .ge (24), 3, [3]), (.aload_n 0, 1, []), (.iload_n 2, 1, []), (.invokevirtual 369, 3, [181, 2, 111]), (.ifCond .eq (10), 3, [2]), (.aload_n 0, 1, []), (.iload_n 2, 1, []), (.invokevirtual 366, 3, [177, 2, 111]), (.iconst 0, 1, []), (.istore_n 1, 1, [])]
def k_182_2 : List mOp := [(.iinc 2 1, 3, []), (.goto (-26), 3, [1])]
def k_182_3 : List mOp := [(.iload_n 1, 1, []), (.ireturn, 1, [0])]
/-- TinyShellModel.grep()I -/
def P_182 (b : Nat) : List mOp × Nat := cond (Nat.blt b 2) (cond (Nat.blt b 1) ((k_182_0, 1)) ((k_182_1, 2))) (cond (Nat.blt b 3) ((k_182_2, 0)) ((k_182_3, 0)))
def J_182 : MethodName × ByteArray × Nat × Option FieldType × Nat × Nat × List Nat := (⟨"TinyShellModel", "grep", "()I"⟩, prog_15_method_66_code, 3, some (Jvm.ClassFile.FieldType.int), 2, 43, [0, 8, 31, 37])
def k_183_0 : List mOp := [(.iconst 0, 1, []), (.istore_n 3, 1, [])]
def k_183_1 : List mOp := [(.iload_n 3, 1, []), (.aload_n 0, 1, []), (.getfield 93, 3, [111, 42, 1]), (.iload_n 1, 1, []), (.iaload, 1, [1]), (.if_icmp .ge (56), 3, [3]), (.iload_n 3, 1, []), (.aload_n 0, 1, []), (.getfield 93, 3, [111, 42, 1]), (.iload_n 2, 1, []), (.iaload, 1, [1]), (.if_icmp .ge (46), 3, [3]), (.aload_n 0, 1, []), (.getfield 84, 3, [111, 37, 1]), (.aload_n 0, 1, []), (.getfield 90, 3, [111, 41, 1]), (.iload_n 1, 1, []), (.iaload, 1, [1]), (.iload_n 3, 1, []), (.iadd, 1, []), (.caload, 1, []), (.aload_n 0, 1, []), (.getfield 84, 3, [111, 37, 1]), (.aload_n 0, 1, []), (.getfield 90, 3, [111, 41, 1]), (.iload_n 2, 1, []), (.iaload, 1, [1]), (.iload_n 3, 1, []), (.iadd, 1, []), (.caload, 1, []), (.isub, 1, []), (.istore 4, 2, []), (.iload 4, 2, []), (.ifCond .eq (6), 3, [2]), (.iload 4, 2, []), (.ireturn, 1, [0])]
def k_183_2 : List mOp := [(.iinc 3 1, 3, []), (.goto (-60), 3, [1])]
def k_183_3 : List mOp := [(.aload_n 0, 1, []), (.getfield 93, 3, [111, 42, 1]), (.iload_n 1, 1, []), (.iaload, 1, [1]), (.aload_n 0, 1, []), (.getfield 93, 3, [111, 42, 1]), (.iload_n 2, 1, []), (.iaload, 1, [1]), (.isub, 1, []), (.ireturn, 1, [0])]
/-- TinyShellModel.compareLines(II)I -/
def P_183 (b : Nat) : List mOp × Nat := cond (Nat.blt b 2) (cond (Nat.blt b 1) ((k_183_0, 1)) ((k_183_1, 0))) (cond (Nat.blt b 3) ((k_183_2, 0)) ((k_183_3, 0)))
def J_183 : MethodName × ByteArray × Nat × Option FieldType × Nat × Nat × List Nat := (⟨"TinyShellModel", "compareLines", "(II)I"⟩, prog_15_method_67_code, 5, some (Jvm.ClassFile.FieldType.int), 0, 0, [0, 2, 59, 65])
def k_184_0 : List mOp := [(.aload_n 0, 1, []), (.invokevirtual 363, 3, [176, 1, 111]), (.iconst 1, 1, []), (.istore_n 3, 1, [])]
def k_184_1 : List mOp := [(.iload_n 3, 1, []), (.aload_n 0, 1, []), (.getfield 357, 3, [111, 40, 0]), (.if_icmp .ge (112), 3, [4]), (.iload_n 2, 1, []), (.ifCond .eq (108), 3, [4]), (.iload_n 3, 1, []), (.istore 4, 2, [])]
def k_184_2 : List mOp := [(.iload 4, 2, []), (.ifCond .le (94), 3, [3]), (.aload_n 0, 1, []), (.iload 4, 2, []), (.iload 4, 2, []), (.iconst 1, 1, []), (.isub, 1, []), (.invokevirtual 372, 3, [183, 3, 111]), (.ifCond .ge (81), 3, [3]), (.aload_n 0, 1, []), (.getfield 90, 3, [111, 41, 1]), (.iload 4, 2, []), (.iaload, 1, [1]), (.istore 5, 2, []), (.aload_n 0, 1, []), (.getfield 93, 3, [111, 42, 1]), (.iload 4, 2, []), (.iaload, 1, [1]), (.istore 6, 2, []), (.aload_n 0, 1, []), (.getfield 90, 3, [111, 41, 1]), (.iload 4, 2, []), (.aload_n 0, 1, []), (.getfield 90, 3, [111, 41, 1]), (.iload 4, 2, []), (.iconst 1, 1, []), (.isub, 1, []), (.iaload, 1, [1]), (.iastore, 1, []), (.aload_n 0, 1, []), (.getfield 93, 3, [111, 42, 1]), (.iload 4, 2, []), (.aload_n 0, 1, []), (.getfield 93, 3, [111, 42, 1]), (.iload 4, 2, []), (.iconst 1, 1, []), (.isub, 1, []), (.iaload, 1, [1]), (.iastore, 1, []), (.aload_n 0, 1, []), (.getfield 90, 3, [111, 41, 1]), (.iload 4, 2, []), (.iconst 1, 1, []), (.isub, 1, []), (.iload 5, 2, []), (.iastore, 1, []), (.aload_n 0, 1, []), (.getfield 93, 3, [111, 42, 1]), (.iload 4, 2, []), (.iconst 1, 1, []), (.isub, 1, []), (.iload 6, 2, []), (.iastore, 1, []), (.iinc 4 (-1), 3, []), (.goto (-93), 3, [2])]
def k_184_3 : List mOp := [(.iinc 3 1, 3, []), (.goto (-114), 3, [1])]
def k_184_4 : List mOp := [(.iconst 0, 1, []), (.istore_n 3, 1, [])]
def k_184_5 : List mOp := [(.iload_n 3, 1, []), (.aload_n 0, 1, []), (.getfield 357, 3, [111, 40, 0]), (.if_icmp .ge (85), 3, [11]), (.iload_n 1, 1, []), (.ifCond .eq (51), 3, [8]), (.aload_n 0, 1, []), (.getfield 93, 3, [111, 42, 1]), (.iload_n 3, 1, []), (.iaload, 1, [1]), (.iconst 1, 1, []), (.isub, 1, []), (.istore 4, 2, [])]
def k_184_6 : List mOp := [(.iload 4, 2, []), (.ifCond .lt (27), 3, [7]), (.aload_n 0, 1, []), (.aload_n 0, 1, []), (.getfield 84, 3, [111, 37, 1]), (.aload_n 0, 1, []), (.getfield 90, 3, [111, 41, 1]), (.iload_n 3, 1, []), (.iaload, 1, [1]), (.iload 4, 2, []), (.iadd, 1, []), (.caload, 1, []), (.invokevirtual 332, 3, [163, 2, 111]), (.iinc 4 (-1), 3, []), (.goto (-26), 3, [6])]
def k_184_7 : List mOp := [(.aload_n 0, 1, []), (.bipush 10, 2, []), (.invokevirtual 332, 3, [163, 2, 111]), (.goto (27), 3, [10])]
def k_184_8 : List mOp := [(.iload_n 2, 1, []), (.ifCond .ne (18), 3, [9]), (.iload_n 3, 1, []), (.ifCond .eq (14), 3, [9]), (.aload_n 0, 1, []), (.iload_n 3, 1, []), (.iload_n 3, 1, []), (.iconst 1, 1, []), (.isub, 1, []), (.invokevirtual 372, 3, [183, 3, 111]), (.ifCond .eq (8), 3, [10])]
def k_184_9 : List mOp := [(.aload_n 0, 1, []), (.iload_n 3, 1, []), (.invokevirtual 366, 3, [177, 2, 111])]
def k_184_10 : List mOp := [(.iinc 3 1, 3, []), (.goto (-87), 3, [5])]
def k_184_11 : List mOp := [(.return_, 1, [])]
/-- TinyShellModel.byLines(ZZ)V -/
def P_184 (b : Nat) : List mOp × Nat := cond (Nat.blt b 6) (cond (Nat.blt b 3) (cond (Nat.blt b 1) ((k_184_0, 1)) (cond (Nat.blt b 2) ((k_184_1, 2)) ((k_184_2, 0)))) (cond (Nat.blt b 4) ((k_184_3, 0)) (cond (Nat.blt b 5) ((k_184_4, 5)) ((k_184_5, 6))))) (cond (Nat.blt b 9) (cond (Nat.blt b 7) ((k_184_6, 0)) (cond (Nat.blt b 8) ((k_184_7, 0)) ((k_184_8, 9)))) (cond (Nat.blt b 10) ((k_184_9, 10)) (cond (Nat.blt b 11) ((k_184_10, 0)) ((k_184_11, 0)))))
def J_184 : MethodName × ByteArray × Nat × Option FieldType × Nat × Nat × List Nat := (⟨"TinyShellModel", "byLines", "(ZZ)V"⟩, prog_15_method_68_code, 7, none, 2, 43, [0, 6, 21, 117, 123, 125, 147, 176, 185, 204, 209, 215])
def k_185_0 : List mOp := [(.iload_n 1, 1, []), (.istore_n 2, 1, [])]
def k_185_1 : List mOp := [(.iload_n 2, 1, []), (.aload_n 0, 1, []), (.getfield 129, 3, [111, 4, 0]), (.if_icmp .ge (20), 3, [2]), (.aload_n 0, 1, []), (.getfield 13, 3, [111, 5, 1]), (.iload_n 2, 1, []), (.iaload, 1, [1]), (.bipush 6, 2, []), (.if_icmp .lt (9), 3, [2]), (.iinc 2 1, 3, []), (.goto (-22), 3, [1])]
def k_185_2 : List mOp := [(.iload_n 2, 1, []), (.ireturn, 1, [0])]
/-- TinyShellModel.commandEnd(I)I -/
def P_185 (b : Nat) : List mOp × Nat := cond (Nat.blt b 1) ((k_185_0, 1)) (cond (Nat.blt b 2) ((k_185_1, 0)) ((k_185_2, 0)))
def J_185 : MethodName × ByteArray × Nat × Option FieldType × Nat × Nat × List Nat := (⟨"TinyShellModel", "commandEnd", "(I)I"⟩, prog_15_method_69_code, 3, some (Jvm.ClassFile.FieldType.int), 0, 0, [0, 2, 27])
def k_186_0 : List mOp := [(.iload_n 1, 1, []), (.istore_n 2, 1, [])]
def k_186_1 : List mOp := [(.iload_n 2, 1, []), (.aload_n 0, 1, []), (.getfield 129, 3, [111, 4, 0]), (.if_icmp .ge (19), 3, [2]), (.aload_n 0, 1, []), (.getfield 13, 3, [111, 5, 1]), (.iload_n 2, 1, []), (.iaload, 1, [1]), (.iconst 5, 1, []), (.if_icmp .ne (9), 3, [2]), (.iinc 2 1, 3, []), (.goto (-21), 3, [1])]
def k_186_2 : List mOp := [(.iload_n 2, 1, []), (.ireturn, 1, [0])]
/-- TinyShellModel.skipNewlines(I)I -/
def P_186 (b : Nat) : List mOp × Nat := cond (Nat.blt b 1) ((k_186_0, 1)) (cond (Nat.blt b 2) ((k_186_1, 0)) ((k_186_2, 0)))
def J_186 : MethodName × ByteArray × Nat × Option FieldType × Nat × Nat × List Nat := (⟨"TinyShellModel", "skipNewlines", "(I)I"⟩, prog_15_method_70_code, 3, some (Jvm.ClassFile.FieldType.int), 0, 0, [0, 2, 26])
def k_187_0 : List mOp := [(.iconst 1, 1, []), (.istore_n 3, 1, []), (.aload_n 0, 1, []), (.iload_n 1, 1, []), (.invokevirtual 375, 3, [185, 2, 111]), (.istore 4, 2, [])]
def k_187_1 : List mOp := [(.iload 4, 2, []), (.aload_n 0, 1, []), (.getfield 129, 3, [111, 4, 0]), (.if_icmp .ge (34), 3, [2]), (.aload_n 0, 1, []), (.getfield 13, 3, [111, 5, 1]), (.iload 4, 2, []), (.iaload, 1, [1]), (.iconst 3, 1, []), (.if_icmp .ne (23), 3, [2]), (.iinc 3 1, 3, []), (.aload_n 0, 1, []), (.aload_n 0, 1, []), (.iload 4, 2, []), (.iconst 1, 1, []), (.iadd, 1, []), (.invokevirtual 378, 3, [186, 2, 111]), (.invokevirtual 375, 3, [185, 2, 111]), (.istore 4, 2, []), (.goto (-37), 3, [1])]
def k_187_2 : List mOp := [(.iload_n 2, 1, []), (.ifCond .eq (17), 3, [3]), (.iload_n 3, 1, []), (.bipush 6, 2, []), (.if_icmp .le (11), 3, [3]), (.aload_n 0, 1, []), (.iconst 1, 1, []), (.putfield 156, 3, [111, 25, 2]), (.goto (13), 3, [4])]
def k_187_3 : List mOp := [(.iload_n 2, 1, []), (.ifCond .eq (9), 3, [4]), (.aload_n 0, 1, []), (.iload_n 1, 1, []), (.iload_n 3, 1, []), (.invokevirtual 381, 3, [188, 3, 111])]
def k_187_4 : List mOp := [(.iload 4, 2, []), (.ireturn, 1, [0])]
/-- TinyShellModel.pipeline(IZ)I -/
def P_187 (b : Nat) : List mOp × Nat := cond (Nat.blt b 2) (cond (Nat.blt b 1) ((k_187_0, 1)) ((k_187_1, 0))) (cond (Nat.blt b 3) ((k_187_2, 0)) (cond (Nat.blt b 4) ((k_187_3, 4)) ((k_187_4, 0))))
def J_187 : MethodName × ByteArray × Nat × Option FieldType × Nat × Nat × List Nat := (⟨"TinyShellModel", "pipeline", "(IZ)I"⟩, prog_15_method_71_code, 5, some (Jvm.ClassFile.FieldType.int), 11, 277, [0, 9, 49, 67, 77])
def k_188_0 : List mOp := [(.aload_n 0, 1, []), (.iconst 0, 1, []), (.putfield 248, 3, [111, 36, 0]), (.iload_n 1, 1, []), (.istore_n 3, 1, []), (.iconst 0, 1, []), (.istore 4, 2, []), (.aload_n 0, 1, []), (.iconst 1, 1, []), (.iconst 2, 1, []), (.invokevirtual 144, 3, [134, 3, 111]), (.iconst 0, 1, []), (.istore 5, 2, [])]
def k_188_1 : List mOp := [(.iload 5, 2, []), (.iload_n 2, 1, []), (.if_icmp .ge (118), 3, [9]), (.aload_n 0, 1, []), (.getfield 156, 3, [111, 25, 0]), (.ifCond .ne (111), 3, [9]), (.aload_n 0, 1, []), (.iload_n 3, 1, []), (.invokevirtual 375, 3, [185, 2, 111]), (.istore 6, 2, []), (.aload_n 0, 1, []), (.iload_n 3, 1, []), (.iload 6, 2, []), (.iload_n 2, 1, []), (.iconst 1, 1, []), (.if_icmp .ne (7), 3, [2]), (.iconst 1, 1, []), (.goto (4), 3, [3])]
def k_188_2 : List mOp := [(.iconst 0, 1, [])]
def k_188_3 : List mOp := [(.invokevirtual 384, 3, [161, 4, 111]), (.istore 4, 2, []), (.aload_n 0, 1, []), (.aload_n 0, 1, []), (.getfield 236, 3, [111, 38, 0]), (.sipush 240, 3, []), (.if_icmp .le (9), 3, [4]), (.sipush 240, 3, []), (.goto (7), 3, [5])]
def k_188_4 : List mOp := [(.aload_n 0, 1, []), (.getfield 236, 3, [111, 38, 0])]
def k_188_5 : List mOp := [(.putfield 248, 3, [111, 36, 0]), (.iconst 0, 1, []), (.istore 7, 2, [])]
def k_188_6 : List mOp := [(.iload 7, 2, []), (.aload_n 0, 1, []), (.getfield 248, 3, [111, 36, 0]), (.if_icmp .ge (23), 3, [7]), (.aload_n 0, 1, []), (.getfield 84, 3, [111, 37, 1]), (.iload 7, 2, []), (.aload_n 0, 1, []), (.getfield 87, 3, [111, 39, 1]), (.iload 7, 2, []), (.caload, 1, []), (.castore, 1, []), (.iinc 7 1, 3, []), (.goto (-26), 3, [6])]
def k_188_7 : List mOp := [(.iload_n 2, 1, []), (.iconst 1, 1, []), (.if_icmp .le (9), 3, [8]), (.aload_n 0, 1, []), (.iconst 2, 1, []), (.iconst 1, 1, []), (.invokevirtual 144, 3, [134, 3, 111])]
def k_188_8 : List mOp := [(.aload_n 0, 1, []), (.iload 6, 2, []), (.iconst 1, 1, []), (.iadd, 1, []), (.invokevirtual 378, 3, [186, 2, 111]), (.istore_n 3, 1, []), (.iinc 5 1, 3, []), (.goto (-118), 3, [1])]
def k_188_9 : List mOp := [(.aload_n 0, 1, []), (.getfield 62, 3, [111, 22, 1]), (.iconst 1, 1, []), (.iload 4, 2, []), (.iastore, 1, []), (.iconst 0, 1, []), (.istore 5, 2, [])]
def k_188_10 : List mOp := [(.iload 5, 2, []), (.aload_n 0, 1, []), (.getfield 248, 3, [111, 36, 0]), (.if_icmp .ge (76), 3, [14]), (.aload_n 0, 1, []), (.getfield 156, 3, [111, 25, 0]), (.ifCond .ne (69), 3, [14]), (.aload_n 0, 1, []), (.aload_n 0, 1, []), (.getfield 65, 3, [111, 23, 1]), (.iconst 1, 1, []), (.iaload, 1, [1]), (.sipush 240, 3, []), (.if_icmp .ne (7), 3, [11]), (.iconst 1, 1, []), (.goto (4), 3, [12])]
def k_188_11 : List mOp := [(.iconst 0, 1, [])]
def k_188_12 : List mOp := [(.putfield 156, 3, [111, 25, 2]), (.aload_n 0, 1, []), (.getfield 156, 3, [111, 25, 0]), (.ifCond .ne (35), 3, [13]), (.aload_n 0, 1, []), (.getfield 68, 3, [111, 24, 1]), (.sipush 240, 3, []), (.aload_n 0, 1, []), (.getfield 65, 3, [111, 23, 1]), (.iconst 1, 1, []), (.iaload, 1, [1]), (.iadd, 1, []), (.aload_n 0, 1, []), (.getfield 84, 3, [111, 37, 1]), (.iload 5, 2, []), (.caload, 1, []), (.castore, 1, []), (.aload_n 0, 1, []), (.getfield 65, 3, [111, 23, 1]), (.iconst 1, 1, []), (.dup2, 1, []), (.iaload, 1, [1]), (.iconst 1, 1, []), (.iadd, 1, []), (.iastore, 1, [])]
def k_188_13 : List mOp := [(.iinc 5 1, 3, []), (.goto (-79), 3, [10])]
def k_188_14 : List mOp := [(.return_, 1, [])]
/-- TinyShellModel.runPipeline(II)V -/
def P_188 (b : Nat) : List mOp × Nat := cond (Nat.blt b 7) (cond (Nat.blt b 3) (cond (Nat.blt b 1) ((k_188_0, 1)) (cond (Nat.blt b 2) ((k_188_1, 0)) ((k_188_2, 3)))) (cond (Nat.blt b 5) (cond (Nat.blt b 4) ((k_188_3, 0)) ((k_188_4, 5))) (cond (Nat.blt b 6) ((k_188_5, 6)) ((k_188_6, 0))))) (cond (Nat.blt b 11) (cond (Nat.blt b 9) (cond (Nat.blt b 8) ((k_188_7, 8)) ((k_188_8, 0))) (cond (Nat.blt b 10) ((k_188_9, 10)) ((k_188_10, 0)))) (cond (Nat.blt b 13) (cond (Nat.blt b 12) ((k_188_11, 12)) ((k_188_12, 13))) (cond (Nat.blt b 14) ((k_188_13, 0)) ((k_188_14, 0)))))
def J_188 : MethodName × ByteArray × Nat × Option FieldType × Nat × Nat × List Nat := (⟨"TinyShellModel", "runPipeline", "(II)V"⟩, prog_15_method_72_code, 8, none, 10, 250, [0, 19, 52, 53, 75, 79, 85, 114, 125, 140, 151, 184, 185, 227, 233])
def k_189_0 : List mOp := [(.aload_n 0, 1, []), (.invokevirtual 388, 3, [133, 1, 111]), (.istore_n 1, 1, []), (.iload_n 1, 1, []), (.ifCond .lt (14), 3, [1]), (.aload_n 0, 1, []), (.iload_n 1, 1, []), (.putfield 391, 3, [111, 1, 0]), (.aload_n 0, 1, []), (.iconst 1, 1, []), (.invokevirtual 394, 3, [119, 2, 111]), (.ireturn, 1, [0])]
def k_189_1 : List mOp := [(.aload_n 0, 1, []), (.iconst 0, 1, []), (.iconst 1, 1, []), (.invokevirtual 397, 3, [135, 3, 111]), (.aload_n 0, 1, []), (.getfield 65, 3, [111, 23, 1]), (.iconst 1, 1, []), (.iconst 0, 1, []), (.iastore, 1, []), (.aload_n 0, 1, []), (.iconst 0, 1, []), (.putfield 156, 3, [111, 25, 2]), (.aload_n 0, 1, []), (.iconst 0, 1, []), (.putfield 354, 3, [111, 26, 2]), (.aload_n 0, 1, []), (.iconst 0, 1, []), (.invokevirtual 378, 3, [186, 2, 111]), (.istore_n 2, 1, []), (.iconst 1, 1, []), (.istore_n 3, 1, [])]
def k_189_2 : List mOp := [(.iload_n 2, 1, []), (.aload_n 0, 1, []), (.getfield 129, 3, [111, 4, 0]), (.if_icmp .ge (99), 3, [8]), (.aload_n 0, 1, []), (.getfield 156, 3, [111, 25, 0]), (.ifCond .ne (92), 3, [8]), (.aload_n 0, 1, []), (.getfield 354, 3, [111, 26, 0]), (.ifCond .ne (85), 3, [8]), (.aload_n 0, 1, []), (.iload_n 2, 1, []), (.iload_n 3, 1, []), (.invokevirtual 400, 3, [187, 3, 111]), (.istore_n 2, 1, []), (.iload_n 2, 1, []), (.aload_n 0, 1, []), (.getfield 129, 3, [111, 4, 0]), (.if_icmp .ge (-34), 3, [2]), (.aload_n 0, 1, []), (.getfield 13, 3, [111, 5, 1]), (.iload_n 2, 1, []), (.iaload, 1, [1]), (.iconst 1, 1, []), (.if_icmp .ne (20), 3, [4]), (.aload_n 0, 1, []), (.getfield 62, 3, [111, 22, 1]), (.iconst 1, 1, []), (.iaload, 1, [1]), (.ifCond .ne (7), 3, [3]), (.iconst 1, 1, []), (.goto (35), 3, [7])]
def k_189_3 : List mOp := [(.iconst 0, 1, []), (.goto (31), 3, [7])]
def k_189_4 : List mOp := [(.aload_n 0, 1, []), (.getfield 13, 3, [111, 5, 1]), (.iload_n 2, 1, []), (.iaload, 1, [1]), (.iconst 2, 1, []), (.if_icmp .ne (20), 3, [6]), (.aload_n 0, 1, []), (.getfield 62, 3, [111, 22, 1]), (.iconst 1, 1, []), (.iaload, 1, [1]), (.ifCond .eq (7), 3, [5]), (.iconst 1, 1, []), (.goto (8), 3, [7])]
def k_189_5 : List mOp := [(.iconst 0, 1, []), (.goto (4), 3, [7])]
def k_189_6 : List mOp := [(.iconst 1, 1, [])]
def k_189_7 : List mOp := [(.istore_n 3, 1, []), (.aload_n 0, 1, []), (.iload_n 2, 1, []), (.iconst 1, 1, []), (.iadd, 1, []), (.invokevirtual 378, 3, [186, 2, 111]), (.istore_n 2, 1, []), (.goto (-101), 3, [2])]
def k_189_8 : List mOp := [(.aload_n 0, 1, []), (.getfield 156, 3, [111, 25, 0]), (.ifCond .eq (9), 3, [9]), (.aload_n 0, 1, []), (.iconst 2, 1, []), (.invokevirtual 394, 3, [119, 2, 111]), (.ireturn, 1, [0])]
def k_189_9 : List mOp := [(.aload_n 0, 1, []), (.iconst 0, 1, []), (.putfield 96, 3, [111, 0, 0]), (.aload_n 0, 1, []), (.iconst 1, 1, []), (.iconst 0, 1, []), (.invokevirtual 397, 3, [135, 3, 111]), (.aload_n 0, 1, []), (.getfield 62, 3, [111, 22, 1]), (.iconst 0, 1, []), (.iaload, 1, [1]), (.ireturn, 1, [0])]
/-- TinyShellModel.run()I -/
def P_189 (b : Nat) : List mOp × Nat := cond (Nat.blt b 5) (cond (Nat.blt b 2) (cond (Nat.blt b 1) ((k_189_0, 0)) ((k_189_1, 2))) (cond (Nat.blt b 3) ((k_189_2, 0)) (cond (Nat.blt b 4) ((k_189_3, 0)) ((k_189_4, 0))))) (cond (Nat.blt b 7) (cond (Nat.blt b 6) ((k_189_5, 0)) ((k_189_6, 7))) (cond (Nat.blt b 8) ((k_189_7, 0)) (cond (Nat.blt b 9) ((k_189_8, 0)) ((k_189_9, 0)))))
def J_189 : MethodName × ByteArray × Nat × Option FieldType × Nat × Nat × List Nat := (⟨"TinyShellModel", "run", "()I"⟩, prog_15_method_73_code, 4, some (Jvm.ClassFile.FieldType.int), 12, 301, [0, 20, 51, 111, 115, 138, 142, 143, 155, 168])
def k_190_0 : List mOp := [(.aload_n 0, 1, []), (.iconst 0, 1, []), (.putfield 96, 3, [111, 0, 0]), (.aload_n 0, 1, []), (.getfield 391, 3, [111, 1, 0]), (.ireturn, 1, [0])]
/-- TinyShellModel.place()I -/
def P_190 (b : Nat) : List mOp × Nat := (k_190_0, 0)
def J_190 : MethodName × ByteArray × Nat × Option FieldType × Nat × Nat × List Nat := (⟨"TinyShellModel", "place", "()I"⟩, prog_15_method_74_code, 1, some (Jvm.ClassFile.FieldType.int), 0, 0, [0])
def k_191_0 : List mOp := [(.aload_n 0, 1, []), (.iconst 0, 1, []), (.putfield 96, 3, [111, 0, 0]), (.iload_n 1, 1, []), (.ifCond .lt (22), 3, [1]), (.iload_n 1, 1, []), (.aload_n 0, 1, []), (.getfield 65, 3, [111, 23, 1]), (.iconst 0, 1, []), (.iaload, 1, [1]), (.if_icmp .ge (12), 3, [1]), (.aload_n 0, 1, []), (.getfield 68, 3, [111, 24, 1]), (.iload_n 1, 1, []), (.caload, 1, []), (.goto (4), 3, [2])]
def k_191_1 : List mOp := [(.iconst 0, 1, [])]
def k_191_2 : List mOp := [(.ireturn, 1, [2])]
/-- TinyShellModel.output(I)C -/
def P_191 (b : Nat) : List mOp × Nat := cond (Nat.blt b 1) ((k_191_0, 0)) (cond (Nat.blt b 2) ((k_191_1, 2)) ((k_191_2, 0)))
def J_191 : MethodName × ByteArray × Nat × Option FieldType × Nat × Nat × List Nat := (⟨"TinyShellModel", "output", "(I)C"⟩, prog_15_method_75_code, 2, some (Jvm.ClassFile.FieldType.char), 0, 0, [0, 28, 29])
def k_192_0 : List mOp := [(.aload_n 0, 1, []), (.iconst 0, 1, []), (.putfield 96, 3, [111, 0, 0]), (.iload_n 1, 1, []), (.ifCond .ne (12), 3, [1]), (.aload_n 0, 1, []), (.getfield 23, 3, [111, 9, 1]), (.iconst 0, 1, []), (.iaload, 1, [1]), (.goto (60), 3, [6])]
def k_192_1 : List mOp := [(.iload_n 1, 1, []), (.iconst 1, 1, []), (.if_icmp .ne (12), 3, [2]), (.aload_n 0, 1, []), (.getfield 38, 3, [111, 14, 1]), (.iconst 0, 1, []), (.iaload, 1, [1]), (.goto (46), 3, [6])]
def k_192_2 : List mOp := [(.iload_n 1, 1, []), (.iconst 2, 1, []), (.if_icmp .ne (12), 3, [3]), (.aload_n 0, 1, []), (.getfield 47, 3, [111, 17, 1]), (.iconst 0, 1, []), (.iaload, 1, [1]), (.goto (32), 3, [6])]
def k_192_3 : List mOp := [(.iload_n 1, 1, []), (.iconst 3, 1, []), (.if_icmp .ne (12), 3, [4]), (.aload_n 0, 1, []), (.getfield 62, 3, [111, 22, 1]), (.iconst 0, 1, []), (.iaload, 1, [1]), (.goto (18), 3, [6])]
def k_192_4 : List mOp := [(.iload_n 1, 1, []), (.iconst 4, 1, []), (.if_icmp .ne (12), 3, [5]), (.aload_n 0, 1, []), (.getfield 65, 3, [111, 23, 1]), (.iconst 0, 1, []), (.iaload, 1, [1]), (.goto (4), 3, [6])]
def k_192_5 : List mOp := [(.iconst (-1), 1, [])]
def k_192_6 : List mOp := [(.ireturn, 1, [0])]
/-- TinyShellModel.count(I)I -/
def P_192 (b : Nat) : List mOp × Nat := cond (Nat.blt b 3) (cond (Nat.blt b 1) ((k_192_0, 0)) (cond (Nat.blt b 2) ((k_192_1, 0)) ((k_192_2, 0)))) (cond (Nat.blt b 5) (cond (Nat.blt b 4) ((k_192_3, 0)) ((k_192_4, 0))) (cond (Nat.blt b 6) ((k_192_5, 6)) ((k_192_6, 0))))
def J_192 : MethodName × ByteArray × Nat × Option FieldType × Nat × Nat × List Nat := (⟨"TinyShellModel", "count", "(I)I"⟩, prog_15_method_76_code, 2, some (Jvm.ClassFile.FieldType.int), 0, 0, [0, 18, 32, 46, 60, 74, 75])
def k_193_0 : List mOp := [(.aload_n 0, 1, []), (.iconst 0, 1, []), (.putfield 96, 3, [111, 0, 0]), (.iload_n 1, 1, []), (.ifCond .lt (41), 3, [1]), (.iload_n 1, 1, []), (.aload_n 0, 1, []), (.getfield 23, 3, [111, 9, 1]), (.iconst 0, 1, []), (.iaload, 1, [1]), (.if_icmp .ge (31), 3, [1]), (.iload_n 2, 1, []), (.ifCond .lt (27), 3, [1]), (.iload_n 2, 1, []), (.aload_n 0, 1, []), (.getfield 35, 3, [111, 13, 1]), (.iload_n 1, 1, []), (.iaload, 1, [1]), (.if_icmp .ge (17), 3, [1]), (.aload_n 0, 1, []), (.getfield 32, 3, [111, 12, 1]), (.bipush 40, 2, []), (.iload_n 1, 1, []), (.imul, 1, []), (.iload_n 2, 1, []), (.iadd, 1, []), (.caload, 1, []), (.goto (4), 3, [2])]
def k_193_1 : List mOp := [(.iconst 0, 1, [])]
def k_193_2 : List mOp := [(.ireturn, 1, [2])]
/-- TinyShellModel.value(II)C -/
def P_193 (b : Nat) : List mOp × Nat := cond (Nat.blt b 1) ((k_193_0, 0)) (cond (Nat.blt b 2) ((k_193_1, 2)) ((k_193_2, 0)))
def J_193 : MethodName × ByteArray × Nat × Option FieldType × Nat × Nat × List Nat := (⟨"TinyShellModel", "value", "(II)C"⟩, prog_15_method_77_code, 3, some (Jvm.ClassFile.FieldType.char), 0, 0, [0, 47, 48])
def k_194_0 : List mOp := [(.aload_n 0, 1, []), (.iconst 0, 1, []), (.putfield 96, 3, [111, 0, 0]), (.iload_n 1, 1, []), (.iconst 1, 1, []), (.if_icmp .lt (45), 3, [1]), (.iload_n 1, 1, []), (.aload_n 0, 1, []), (.getfield 38, 3, [111, 14, 1]), (.iconst 0, 1, []), (.iaload, 1, [1]), (.if_icmp .gt (35), 3, [1]), (.iload_n 2, 1, []), (.ifCond .lt (31), 3, [1]), (.iload_n 2, 1, []), (.aload_n 0, 1, []), (.getfield 44, 3, [111, 16, 1]), (.iload_n 1, 1, []), (.iconst 1, 1, []), (.isub, 1, []), (.iaload, 1, [1]), (.if_icmp .ge (19), 3, [1]), (.aload_n 0, 1, []), (.getfield 41, 3, [111, 15, 1]), (.bipush 40, 2, []), (.iload_n 1, 1, []), (.iconst 1, 1, []), (.isub, 1, []), (.imul, 1, []), (.iload_n 2, 1, []), (.iadd, 1, []), (.caload, 1, []), (.goto (4), 3, [2])]
def k_194_1 : List mOp := [(.iconst 0, 1, [])]
def k_194_2 : List mOp := [(.ireturn, 1, [2])]
/-- TinyShellModel.position(II)C -/
def P_194 (b : Nat) : List mOp × Nat := cond (Nat.blt b 1) ((k_194_0, 0)) (cond (Nat.blt b 2) ((k_194_1, 2)) ((k_194_2, 0)))
def J_194 : MethodName × ByteArray × Nat × Option FieldType × Nat × Nat × List Nat := (⟨"TinyShellModel", "position", "(II)C"⟩, prog_15_method_78_code, 3, some (Jvm.ClassFile.FieldType.char), 0, 0, [0, 52, 53])
def k_195_0 : List mOp := [(.aload_n 0, 1, []), (.iconst 0, 1, []), (.putfield 96, 3, [111, 0, 0]), (.iload_n 1, 1, []), (.ifCond .lt (41), 3, [1]), (.iload_n 1, 1, []), (.aload_n 0, 1, []), (.getfield 47, 3, [111, 17, 1]), (.iconst 0, 1, []), (.iaload, 1, [1]), (.if_icmp .ge (31), 3, [1]), (.iload_n 2, 1, []), (.ifCond .lt (27), 3, [1]), (.iload_n 2, 1, []), (.aload_n 0, 1, []), (.getfield 59, 3, [111, 21, 1]), (.iload_n 1, 1, []), (.iaload, 1, [1]), (.if_icmp .ge (17), 3, [1]), (.aload_n 0, 1, []), (.getfield 56, 3, [111, 20, 1]), (.bipush 80, 2, []), (.iload_n 1, 1, []), (.imul, 1, []), (.iload_n 2, 1, []), (.iadd, 1, []), (.caload, 1, []), (.goto (4), 3, [2])]
def k_195_1 : List mOp := [(.iconst 0, 1, [])]
def k_195_2 : List mOp := [(.ireturn, 1, [2])]
/-- TinyShellModel.content(II)C -/
def P_195 (b : Nat) : List mOp × Nat := cond (Nat.blt b 1) ((k_195_0, 0)) (cond (Nat.blt b 2) ((k_195_1, 2)) ((k_195_2, 0)))
def J_195 : MethodName × ByteArray × Nat × Option FieldType × Nat × Nat × List Nat := (⟨"TinyShellModel", "content", "(II)C"⟩, prog_15_method_79_code, 3, some (Jvm.ClassFile.FieldType.char), 0, 0, [0, 47, 48])
def k_196_0 : List mOp := [(.aload_n 0, 1, []), (.iconst 0, 1, []), (.putfield 96, 3, [111, 0, 0]), (.iload_n 1, 1, []), (.ifCond .eq (47), 3, [3]), (.iload_n 2, 1, []), (.ifCond .lt (41), 3, [1]), (.iload_n 2, 1, []), (.aload_n 0, 1, []), (.getfield 47, 3, [111, 17, 1]), (.iconst 0, 1, []), (.iaload, 1, [1]), (.if_icmp .ge (31), 3, [1]), (.iload_n 3, 1, []), (.ifCond .lt (27), 3, [1]), (.iload_n 3, 1, []), (.aload_n 0, 1, []), (.getfield 53, 3, [111, 19, 1]), (.iload_n 2, 1, []), (.iaload, 1, [1]), (.if_icmp .ge (17), 3, [1]), (.aload_n 0, 1, []), (.getfield 50, 3, [111, 18, 1]), (.bipush 8, 2, []), (.iload_n 2, 1, []), (.imul, 1, []), (.iload_n 3, 1, []), (.iadd, 1, []), (.caload, 1, []), (.goto (4), 3, [2])]
def k_196_1 : List mOp := [(.iconst 0, 1, [])]
def k_196_2 : List mOp := [(.ireturn, 1, [2])]
def k_196_3 : List mOp := [(.iload_n 2, 1, []), (.ifCond .lt (41), 3, [4]), (.iload_n 2, 1, []), (.aload_n 0, 1, []), (.getfield 23, 3, [111, 9, 1]), (.iconst 0, 1, []), (.iaload, 1, [1]), (.if_icmp .ge (31), 3, [4]), (.iload_n 3, 1, []), (.ifCond .lt (27), 3, [4]), (.iload_n 3, 1, []), (.aload_n 0, 1, []), (.getfield 29, 3, [111, 11, 1]), (.iload_n 2, 1, []), (.iaload, 1, [1]), (.if_icmp .ge (17), 3, [4]), (.aload_n 0, 1, []), (.getfield 26, 3, [111, 10, 1]), (.bipush 6, 2, []), (.iload_n 2, 1, []), (.imul, 1, []), (.iload_n 3, 1, []), (.iadd, 1, []), (.caload, 1, []), (.goto (4), 3, [5])]
def k_196_4 : List mOp := [(.iconst 0, 1, [])]
def k_196_5 : List mOp := [(.ireturn, 1, [2])]
/-- TinyShellModel.name(ZII)C -/
def P_196 (b : Nat) : List mOp × Nat := cond (Nat.blt b 3) (cond (Nat.blt b 1) ((k_196_0, 0)) (cond (Nat.blt b 2) ((k_196_1, 2)) ((k_196_2, 0)))) (cond (Nat.blt b 4) ((k_196_3, 0)) (cond (Nat.blt b 5) ((k_196_4, 5)) ((k_196_5, 0))))
def J_196 : MethodName × ByteArray × Nat × Option FieldType × Nat × Nat × List Nat := (⟨"TinyShellModel", "name", "(ZII)C"⟩, prog_15_method_80_code, 4, some (Jvm.ClassFile.FieldType.char), 0, 0, [0, 51, 52, 53, 95, 96])
def k_197_0 : List mOp := [(.iload_n 0, 1, []), (.iload_n 1, 1, []), (.if_icmp .lt (7), 3, [1]), (.iload_n 0, 1, []), (.goto (4), 3, [2])]
def k_197_1 : List mOp := [(.iload_n 1, 1, [])]
def k_197_2 : List mOp := [(.ireturn, 1, [0])]
/-- java/lang/Math.max(II)I -/
def P_197 (b : Nat) : List mOp × Nat := cond (Nat.blt b 1) ((k_197_0, 0)) (cond (Nat.blt b 2) ((k_197_1, 2)) ((k_197_2, 0)))
def J_197 : MethodName × ByteArray × Nat × Option FieldType × Nat × Nat × List Nat := (⟨"java/lang/Math", "max", "(II)I"⟩, prog_19_method_65_code, 2, some (Jvm.ClassFile.FieldType.int), 0, 0, [0, 9, 10])
def k_198_0 : List mOp := [(.iload_n 0, 1, []), (.iload_n 1, 1, []), (.if_icmp .gt (7), 3, [1]), (.iload_n 0, 1, []), (.goto (4), 3, [2])]
def k_198_1 : List mOp := [(.iload_n 1, 1, [])]
def k_198_2 : List mOp := [(.ireturn, 1, [0])]
/-- java/lang/Math.min(II)I -/
def P_198 (b : Nat) : List mOp × Nat := cond (Nat.blt b 1) ((k_198_0, 0)) (cond (Nat.blt b 2) ((k_198_1, 2)) ((k_198_2, 0)))
def J_198 : MethodName × ByteArray × Nat × Option FieldType × Nat × Nat × List Nat := (⟨"java/lang/Math", "min", "(II)I"⟩, prog_19_method_69_code, 2, some (Jvm.ClassFile.FieldType.int), 0, 0, [0, 9, 10])
def k_199_0 : List mOp := [(.aload_n 0, 1, []), (.getfield 9, 3, [0, 0, 0, 0]), (.arraylength, 1, [0, 1]), (.aload_n 0, 1, []), (.invokevirtual 335, 3, [200, 1, 213, 0]), (.ishr, 1, []), (.ireturn, 1, [0])]
/-- java/lang/String.length()I -/
def P_199 (b : Nat) : List mOp × Nat := (k_199_0, 0)
def J_199 : MethodName × ByteArray × Nat × Option FieldType × Nat × Nat × List Nat := (⟨"java/lang/String", "length", "()I"⟩, prog_21_method_54_code, 1, some (Jvm.ClassFile.FieldType.int), 1, 20, [0])
def k_200_0 : List mOp := [(.getstatic 38, 3, [403]), (.ifCond .eq (10), 3, [1]), (.aload_n 0, 1, []), (.getfield 15, 3, [0, 1, 0, 0]), (.goto (4), 3, [2])]
def k_200_1 : List mOp := [(.iconst 1, 1, [])]
def k_200_2 : List mOp := [(.ireturn, 1, [3])]
/-- java/lang/String.coder()B -/
def P_200 (b : Nat) : List mOp × Nat := cond (Nat.blt b 1) ((k_200_0, 0)) (cond (Nat.blt b 2) ((k_200_1, 2)) ((k_200_2, 0)))
def J_200 : MethodName × ByteArray × Nat × Option FieldType × Nat × Nat × List Nat := (⟨"java/lang/String", "coder", "()B"⟩, prog_21_method_152_code, 1, some (Jvm.ClassFile.FieldType.byte), 0, 0, [0, 13, 14])
def k_201_0 : List mOp := [(.aload_n 0, 1, []), (.invokevirtual 492, 3, [202, 1, 213, 0]), (.ifCond .eq (12), 3, [1]), (.aload_n 0, 1, []), (.getfield 9, 3, [0, 0, 0, 0]), (.iload_n 1, 1, []), (.invokestatic 495, 3, [204, 2]), (.ireturn, 1, [2])]
def k_201_1 : List mOp := [(.aload_n 0, 1, []), (.getfield 9, 3, [0, 0, 0, 0]), (.iload_n 1, 1, []), (.monitorenter, 1, [])]
/-- java/lang/String.charAt(I)C -/
def P_201 (b : Nat) : List mOp × Nat := cond (Nat.blt b 1) ((k_201_0, 0)) ((k_201_1, 0))
def J_201 : MethodName × ByteArray × Nat × Option FieldType × Nat × Nat × List Nat := (⟨"java/lang/String", "charAt", "(I)C"⟩, prog_21_method_56_code, 2, some (Jvm.ClassFile.FieldType.char), 3, 64, [0, 16])
def k_202_0 : List mOp := [(.getstatic 38, 3, [403]), (.ifCond .eq (14), 3, [1]), (.aload_n 0, 1, []), (.getfield 15, 3, [0, 1, 0, 0]), (.ifCond .ne (7), 3, [1]), (.iconst 1, 1, []), (.goto (4), 3, [2])]
def k_202_1 : List mOp := [(.iconst 0, 1, [])]
def k_202_2 : List mOp := [(.ireturn, 1, [1])]
/-- java/lang/String.isLatin1()Z -/
def P_202 (b : Nat) : List mOp × Nat := cond (Nat.blt b 1) ((k_202_0, 0)) (cond (Nat.blt b 2) ((k_202_1, 2)) ((k_202_2, 0)))
def J_202 : MethodName × ByteArray × Nat × Option FieldType × Nat × Nat × List Nat := (⟨"java/lang/String", "isLatin1", "()Z"⟩, prog_21_method_154_code, 1, some (Jvm.ClassFile.FieldType.boolean), 0, 0, [0, 17, 18])
def k_203_0 : List mOp := [(.iload_n 0, 1, []), (.iload_n 1, 1, []), (.getstatic 1053, 3, [402]), (.invokestatic 1059, 3, [205, 3]), (.pop, 1, []), (.return_, 1, [])]
/-- java/lang/String.checkIndex(II)V -/
def P_203 (b : Nat) : List mOp × Nat := (k_203_0, 0)
def J_203 : MethodName × ByteArray × Nat × Option FieldType × Nat × Nat × List Nat := (⟨"java/lang/String", "checkIndex", "(II)V"⟩, prog_21_method_155_code, 2, none, 1, 22, [0])
def k_204_0 : List mOp := [(.iload_n 1, 1, []), (.aload_n 0, 1, []), (.arraylength, 1, [0, 1]), (.invokestatic 9, 3, [203, 2]), (.aload_n 0, 1, []), (.iload_n 1, 1, []), (.baload, 1, [0, 1]), (.sipush 255, 3, []), (.iand, 1, []), (.i2c, 1, []), (.ireturn, 1, [2])]
/-- java/lang/StringLatin1.charAt([BI)C -/
def P_204 (b : Nat) : List mOp × Nat := (k_204_0, 0)
def J_204 : MethodName × ByteArray × Nat × Option FieldType × Nat × Nat × List Nat := (⟨"java/lang/StringLatin1", "charAt", "([BI)C"⟩, prog_22_method_2_code, 2, some (Jvm.ClassFile.FieldType.char), 2, 43, [0])
def k_205_0 : List mOp := [(.iload_n 0, 1, []), (.ifCond .lt (8), 3, [1]), (.iload_n 0, 1, []), (.iload_n 1, 1, []), (.if_icmp .lt (10), 3, [2])]
def k_205_1 : List mOp := [(.aload_n 2, 1, []), (.iload_n 0, 1, []), (.iload_n 1, 1, []), (.monitorenter, 1, [])]
def k_205_2 : List mOp := [(.iload_n 0, 1, []), (.ireturn, 1, [0])]
/-- jdk/internal/util/Preconditions.checkIndex(IILjava/util/function/BiFunction;)I -/
def P_205 (b : Nat) : List mOp × Nat := cond (Nat.blt b 1) ((k_205_0, 1)) (cond (Nat.blt b 2) ((k_205_1, 0)) ((k_205_2, 0)))
def J_205 : MethodName × ByteArray × Nat × Option FieldType × Nat × Nat × List Nat := (⟨"jdk/internal/util/Preconditions", "checkIndex", "(IILjava/util/function/BiFunction;)I"⟩, prog_26_method_11_code, 3, some (Jvm.ClassFile.FieldType.int), 0, 0, [0, 9, 16])
def k_206_0 : List mOp := [(.aload_n 0, 1, []), (.getfield 7, 3, [0, 3, 0, 0]), (.ireturn, 1, [0])]
/-- java/lang/Enum.ordinal()I -/
def P_206 (b : Nat) : List mOp × Nat := (k_206_0, 0)
def J_206 : MethodName × ByteArray × Nat × Option FieldType × Nat × Nat × List Nat := (⟨"java/lang/Enum", "ordinal", "()I"⟩, prog_16_method_2_code, 1, some (Jvm.ClassFile.FieldType.int), 0, 0, [0])
def mPr (y : Nat) : Nat → List mOp × Nat := cond (Nat.blt y 103) (cond (Nat.blt y 51) (cond (Nat.blt y 25) (cond (Nat.blt y 12) (cond (Nat.blt y 6) (cond (Nat.blt y 3) (cond (Nat.blt y 1) (P_0) (cond (Nat.blt y 2) (P_1) (P_2))) (cond (Nat.blt y 4) (P_3) (cond (Nat.blt y 5) (P_4) (P_5)))) (cond (Nat.blt y 9) (cond (Nat.blt y 7) (P_6) (cond (Nat.blt y 8) (P_7) (P_8))) (cond (Nat.blt y 10) (P_9) (cond (Nat.blt y 11) (P_10) (P_11))))) (cond (Nat.blt y 18) (cond (Nat.blt y 15) (cond (Nat.blt y 13) (P_12) (cond (Nat.blt y 14) (P_13) (P_14))) (cond (Nat.blt y 16) (P_15) (cond (Nat.blt y 17) (P_16) (P_17)))) (cond (Nat.blt y 21) (cond (Nat.blt y 19) (P_18) (cond (Nat.blt y 20) (P_19) (P_20))) (cond (Nat.blt y 23) (cond (Nat.blt y 22) (P_21) (P_22)) (cond (Nat.blt y 24) (P_23) (P_24)))))) (cond (Nat.blt y 38) (cond (Nat.blt y 31) (cond (Nat.blt y 28) (cond (Nat.blt y 26) (P_25) (cond (Nat.blt y 27) (P_26) (P_27))) (cond (Nat.blt y 29) (P_28) (cond (Nat.blt y 30) (P_29) (P_30)))) (cond (Nat.blt y 34) (cond (Nat.blt y 32) (P_31) (cond (Nat.blt y 33) (P_32) (P_33))) (cond (Nat.blt y 36) (cond (Nat.blt y 35) (P_34) (P_35)) (cond (Nat.blt y 37) (P_36) (P_37))))) (cond (Nat.blt y 44) (cond (Nat.blt y 41) (cond (Nat.blt y 39) (P_38) (cond (Nat.blt y 40) (P_39) (P_40))) (cond (Nat.blt y 42) (P_41) (cond (Nat.blt y 43) (P_42) (P_43)))) (cond (Nat.blt y 47) (cond (Nat.blt y 45) (P_44) (cond (Nat.blt y 46) (P_45) (P_46))) (cond (Nat.blt y 49) (cond (Nat.blt y 48) (P_47) (P_48)) (cond (Nat.blt y 50) (P_49) (P_50))))))) (cond (Nat.blt y 77) (cond (Nat.blt y 64) (cond (Nat.blt y 57) (cond (Nat.blt y 54) (cond (Nat.blt y 52) (P_51) (cond (Nat.blt y 53) (P_52) (P_53))) (cond (Nat.blt y 55) (P_54) (cond (Nat.blt y 56) (P_55) (P_56)))) (cond (Nat.blt y 60) (cond (Nat.blt y 58) (P_57) (cond (Nat.blt y 59) (P_58) (P_59))) (cond (Nat.blt y 62) (cond (Nat.blt y 61) (P_60) (P_61)) (cond (Nat.blt y 63) (P_62) (P_63))))) (cond (Nat.blt y 70) (cond (Nat.blt y 67) (cond (Nat.blt y 65) (P_64) (cond (Nat.blt y 66) (P_65) (P_66))) (cond (Nat.blt y 68) (P_67) (cond (Nat.blt y 69) (P_68) (P_69)))) (cond (Nat.blt y 73) (cond (Nat.blt y 71) (P_70) (cond (Nat.blt y 72) (P_71) (P_72))) (cond (Nat.blt y 75) (cond (Nat.blt y 74) (P_73) (P_74)) (cond (Nat.blt y 76) (P_75) (P_76)))))) (cond (Nat.blt y 90) (cond (Nat.blt y 83) (cond (Nat.blt y 80) (cond (Nat.blt y 78) (P_77) (cond (Nat.blt y 79) (P_78) (P_79))) (cond (Nat.blt y 81) (P_80) (cond (Nat.blt y 82) (P_81) (P_82)))) (cond (Nat.blt y 86) (cond (Nat.blt y 84) (P_83) (cond (Nat.blt y 85) (P_84) (P_85))) (cond (Nat.blt y 88) (cond (Nat.blt y 87) (P_86) (P_87)) (cond (Nat.blt y 89) (P_88) (P_89))))) (cond (Nat.blt y 96) (cond (Nat.blt y 93) (cond (Nat.blt y 91) (P_90) (cond (Nat.blt y 92) (P_91) (P_92))) (cond (Nat.blt y 94) (P_93) (cond (Nat.blt y 95) (P_94) (P_95)))) (cond (Nat.blt y 99) (cond (Nat.blt y 97) (P_96) (cond (Nat.blt y 98) (P_97) (P_98))) (cond (Nat.blt y 101) (cond (Nat.blt y 100) (P_99) (P_100)) (cond (Nat.blt y 102) (P_101) (P_102)))))))) (cond (Nat.blt y 155) (cond (Nat.blt y 129) (cond (Nat.blt y 116) (cond (Nat.blt y 109) (cond (Nat.blt y 106) (cond (Nat.blt y 104) (P_103) (cond (Nat.blt y 105) (P_104) (P_105))) (cond (Nat.blt y 107) (P_106) (cond (Nat.blt y 108) (P_107) (P_108)))) (cond (Nat.blt y 112) (cond (Nat.blt y 110) (P_109) (cond (Nat.blt y 111) (P_110) (P_111))) (cond (Nat.blt y 114) (cond (Nat.blt y 113) (P_112) (P_113)) (cond (Nat.blt y 115) (P_114) (P_115))))) (cond (Nat.blt y 122) (cond (Nat.blt y 119) (cond (Nat.blt y 117) (P_116) (cond (Nat.blt y 118) (P_117) (P_118))) (cond (Nat.blt y 120) (P_119) (cond (Nat.blt y 121) (P_120) (P_121)))) (cond (Nat.blt y 125) (cond (Nat.blt y 123) (P_122) (cond (Nat.blt y 124) (P_123) (P_124))) (cond (Nat.blt y 127) (cond (Nat.blt y 126) (P_125) (P_126)) (cond (Nat.blt y 128) (P_127) (P_128)))))) (cond (Nat.blt y 142) (cond (Nat.blt y 135) (cond (Nat.blt y 132) (cond (Nat.blt y 130) (P_129) (cond (Nat.blt y 131) (P_130) (P_131))) (cond (Nat.blt y 133) (P_132) (cond (Nat.blt y 134) (P_133) (P_134)))) (cond (Nat.blt y 138) (cond (Nat.blt y 136) (P_135) (cond (Nat.blt y 137) (P_136) (P_137))) (cond (Nat.blt y 140) (cond (Nat.blt y 139) (P_138) (P_139)) (cond (Nat.blt y 141) (P_140) (P_141))))) (cond (Nat.blt y 148) (cond (Nat.blt y 145) (cond (Nat.blt y 143) (P_142) (cond (Nat.blt y 144) (P_143) (P_144))) (cond (Nat.blt y 146) (P_145) (cond (Nat.blt y 147) (P_146) (P_147)))) (cond (Nat.blt y 151) (cond (Nat.blt y 149) (P_148) (cond (Nat.blt y 150) (P_149) (P_150))) (cond (Nat.blt y 153) (cond (Nat.blt y 152) (P_151) (P_152)) (cond (Nat.blt y 154) (P_153) (P_154))))))) (cond (Nat.blt y 181) (cond (Nat.blt y 168) (cond (Nat.blt y 161) (cond (Nat.blt y 158) (cond (Nat.blt y 156) (P_155) (cond (Nat.blt y 157) (P_156) (P_157))) (cond (Nat.blt y 159) (P_158) (cond (Nat.blt y 160) (P_159) (P_160)))) (cond (Nat.blt y 164) (cond (Nat.blt y 162) (P_161) (cond (Nat.blt y 163) (P_162) (P_163))) (cond (Nat.blt y 166) (cond (Nat.blt y 165) (P_164) (P_165)) (cond (Nat.blt y 167) (P_166) (P_167))))) (cond (Nat.blt y 174) (cond (Nat.blt y 171) (cond (Nat.blt y 169) (P_168) (cond (Nat.blt y 170) (P_169) (P_170))) (cond (Nat.blt y 172) (P_171) (cond (Nat.blt y 173) (P_172) (P_173)))) (cond (Nat.blt y 177) (cond (Nat.blt y 175) (P_174) (cond (Nat.blt y 176) (P_175) (P_176))) (cond (Nat.blt y 179) (cond (Nat.blt y 178) (P_177) (P_178)) (cond (Nat.blt y 180) (P_179) (P_180)))))) (cond (Nat.blt y 194) (cond (Nat.blt y 187) (cond (Nat.blt y 184) (cond (Nat.blt y 182) (P_181) (cond (Nat.blt y 183) (P_182) (P_183))) (cond (Nat.blt y 185) (P_184) (cond (Nat.blt y 186) (P_185) (P_186)))) (cond (Nat.blt y 190) (cond (Nat.blt y 188) (P_187) (cond (Nat.blt y 189) (P_188) (P_189))) (cond (Nat.blt y 192) (cond (Nat.blt y 191) (P_190) (P_191)) (cond (Nat.blt y 193) (P_192) (P_193))))) (cond (Nat.blt y 200) (cond (Nat.blt y 197) (cond (Nat.blt y 195) (P_194) (cond (Nat.blt y 196) (P_195) (P_196))) (cond (Nat.blt y 198) (P_197) (cond (Nat.blt y 199) (P_198) (P_199)))) (cond (Nat.blt y 203) (cond (Nat.blt y 201) (P_200) (cond (Nat.blt y 202) (P_201) (P_202))) (cond (Nat.blt y 205) (cond (Nat.blt y 204) (P_203) (P_204)) (cond (Nat.blt y 206) (P_205) (P_206))))))))
def mJ (y : Nat) : MethodName × ByteArray × Nat × Option FieldType × Nat × Nat × List Nat := cond (Nat.blt y 103) (cond (Nat.blt y 51) (cond (Nat.blt y 25) (cond (Nat.blt y 12) (cond (Nat.blt y 6) (cond (Nat.blt y 3) (cond (Nat.blt y 1) (J_0) (cond (Nat.blt y 2) (J_1) (J_2))) (cond (Nat.blt y 4) (J_3) (cond (Nat.blt y 5) (J_4) (J_5)))) (cond (Nat.blt y 9) (cond (Nat.blt y 7) (J_6) (cond (Nat.blt y 8) (J_7) (J_8))) (cond (Nat.blt y 10) (J_9) (cond (Nat.blt y 11) (J_10) (J_11))))) (cond (Nat.blt y 18) (cond (Nat.blt y 15) (cond (Nat.blt y 13) (J_12) (cond (Nat.blt y 14) (J_13) (J_14))) (cond (Nat.blt y 16) (J_15) (cond (Nat.blt y 17) (J_16) (J_17)))) (cond (Nat.blt y 21) (cond (Nat.blt y 19) (J_18) (cond (Nat.blt y 20) (J_19) (J_20))) (cond (Nat.blt y 23) (cond (Nat.blt y 22) (J_21) (J_22)) (cond (Nat.blt y 24) (J_23) (J_24)))))) (cond (Nat.blt y 38) (cond (Nat.blt y 31) (cond (Nat.blt y 28) (cond (Nat.blt y 26) (J_25) (cond (Nat.blt y 27) (J_26) (J_27))) (cond (Nat.blt y 29) (J_28) (cond (Nat.blt y 30) (J_29) (J_30)))) (cond (Nat.blt y 34) (cond (Nat.blt y 32) (J_31) (cond (Nat.blt y 33) (J_32) (J_33))) (cond (Nat.blt y 36) (cond (Nat.blt y 35) (J_34) (J_35)) (cond (Nat.blt y 37) (J_36) (J_37))))) (cond (Nat.blt y 44) (cond (Nat.blt y 41) (cond (Nat.blt y 39) (J_38) (cond (Nat.blt y 40) (J_39) (J_40))) (cond (Nat.blt y 42) (J_41) (cond (Nat.blt y 43) (J_42) (J_43)))) (cond (Nat.blt y 47) (cond (Nat.blt y 45) (J_44) (cond (Nat.blt y 46) (J_45) (J_46))) (cond (Nat.blt y 49) (cond (Nat.blt y 48) (J_47) (J_48)) (cond (Nat.blt y 50) (J_49) (J_50))))))) (cond (Nat.blt y 77) (cond (Nat.blt y 64) (cond (Nat.blt y 57) (cond (Nat.blt y 54) (cond (Nat.blt y 52) (J_51) (cond (Nat.blt y 53) (J_52) (J_53))) (cond (Nat.blt y 55) (J_54) (cond (Nat.blt y 56) (J_55) (J_56)))) (cond (Nat.blt y 60) (cond (Nat.blt y 58) (J_57) (cond (Nat.blt y 59) (J_58) (J_59))) (cond (Nat.blt y 62) (cond (Nat.blt y 61) (J_60) (J_61)) (cond (Nat.blt y 63) (J_62) (J_63))))) (cond (Nat.blt y 70) (cond (Nat.blt y 67) (cond (Nat.blt y 65) (J_64) (cond (Nat.blt y 66) (J_65) (J_66))) (cond (Nat.blt y 68) (J_67) (cond (Nat.blt y 69) (J_68) (J_69)))) (cond (Nat.blt y 73) (cond (Nat.blt y 71) (J_70) (cond (Nat.blt y 72) (J_71) (J_72))) (cond (Nat.blt y 75) (cond (Nat.blt y 74) (J_73) (J_74)) (cond (Nat.blt y 76) (J_75) (J_76)))))) (cond (Nat.blt y 90) (cond (Nat.blt y 83) (cond (Nat.blt y 80) (cond (Nat.blt y 78) (J_77) (cond (Nat.blt y 79) (J_78) (J_79))) (cond (Nat.blt y 81) (J_80) (cond (Nat.blt y 82) (J_81) (J_82)))) (cond (Nat.blt y 86) (cond (Nat.blt y 84) (J_83) (cond (Nat.blt y 85) (J_84) (J_85))) (cond (Nat.blt y 88) (cond (Nat.blt y 87) (J_86) (J_87)) (cond (Nat.blt y 89) (J_88) (J_89))))) (cond (Nat.blt y 96) (cond (Nat.blt y 93) (cond (Nat.blt y 91) (J_90) (cond (Nat.blt y 92) (J_91) (J_92))) (cond (Nat.blt y 94) (J_93) (cond (Nat.blt y 95) (J_94) (J_95)))) (cond (Nat.blt y 99) (cond (Nat.blt y 97) (J_96) (cond (Nat.blt y 98) (J_97) (J_98))) (cond (Nat.blt y 101) (cond (Nat.blt y 100) (J_99) (J_100)) (cond (Nat.blt y 102) (J_101) (J_102)))))))) (cond (Nat.blt y 155) (cond (Nat.blt y 129) (cond (Nat.blt y 116) (cond (Nat.blt y 109) (cond (Nat.blt y 106) (cond (Nat.blt y 104) (J_103) (cond (Nat.blt y 105) (J_104) (J_105))) (cond (Nat.blt y 107) (J_106) (cond (Nat.blt y 108) (J_107) (J_108)))) (cond (Nat.blt y 112) (cond (Nat.blt y 110) (J_109) (cond (Nat.blt y 111) (J_110) (J_111))) (cond (Nat.blt y 114) (cond (Nat.blt y 113) (J_112) (J_113)) (cond (Nat.blt y 115) (J_114) (J_115))))) (cond (Nat.blt y 122) (cond (Nat.blt y 119) (cond (Nat.blt y 117) (J_116) (cond (Nat.blt y 118) (J_117) (J_118))) (cond (Nat.blt y 120) (J_119) (cond (Nat.blt y 121) (J_120) (J_121)))) (cond (Nat.blt y 125) (cond (Nat.blt y 123) (J_122) (cond (Nat.blt y 124) (J_123) (J_124))) (cond (Nat.blt y 127) (cond (Nat.blt y 126) (J_125) (J_126)) (cond (Nat.blt y 128) (J_127) (J_128)))))) (cond (Nat.blt y 142) (cond (Nat.blt y 135) (cond (Nat.blt y 132) (cond (Nat.blt y 130) (J_129) (cond (Nat.blt y 131) (J_130) (J_131))) (cond (Nat.blt y 133) (J_132) (cond (Nat.blt y 134) (J_133) (J_134)))) (cond (Nat.blt y 138) (cond (Nat.blt y 136) (J_135) (cond (Nat.blt y 137) (J_136) (J_137))) (cond (Nat.blt y 140) (cond (Nat.blt y 139) (J_138) (J_139)) (cond (Nat.blt y 141) (J_140) (J_141))))) (cond (Nat.blt y 148) (cond (Nat.blt y 145) (cond (Nat.blt y 143) (J_142) (cond (Nat.blt y 144) (J_143) (J_144))) (cond (Nat.blt y 146) (J_145) (cond (Nat.blt y 147) (J_146) (J_147)))) (cond (Nat.blt y 151) (cond (Nat.blt y 149) (J_148) (cond (Nat.blt y 150) (J_149) (J_150))) (cond (Nat.blt y 153) (cond (Nat.blt y 152) (J_151) (J_152)) (cond (Nat.blt y 154) (J_153) (J_154))))))) (cond (Nat.blt y 181) (cond (Nat.blt y 168) (cond (Nat.blt y 161) (cond (Nat.blt y 158) (cond (Nat.blt y 156) (J_155) (cond (Nat.blt y 157) (J_156) (J_157))) (cond (Nat.blt y 159) (J_158) (cond (Nat.blt y 160) (J_159) (J_160)))) (cond (Nat.blt y 164) (cond (Nat.blt y 162) (J_161) (cond (Nat.blt y 163) (J_162) (J_163))) (cond (Nat.blt y 166) (cond (Nat.blt y 165) (J_164) (J_165)) (cond (Nat.blt y 167) (J_166) (J_167))))) (cond (Nat.blt y 174) (cond (Nat.blt y 171) (cond (Nat.blt y 169) (J_168) (cond (Nat.blt y 170) (J_169) (J_170))) (cond (Nat.blt y 172) (J_171) (cond (Nat.blt y 173) (J_172) (J_173)))) (cond (Nat.blt y 177) (cond (Nat.blt y 175) (J_174) (cond (Nat.blt y 176) (J_175) (J_176))) (cond (Nat.blt y 179) (cond (Nat.blt y 178) (J_177) (J_178)) (cond (Nat.blt y 180) (J_179) (J_180)))))) (cond (Nat.blt y 194) (cond (Nat.blt y 187) (cond (Nat.blt y 184) (cond (Nat.blt y 182) (J_181) (cond (Nat.blt y 183) (J_182) (J_183))) (cond (Nat.blt y 185) (J_184) (cond (Nat.blt y 186) (J_185) (J_186)))) (cond (Nat.blt y 190) (cond (Nat.blt y 188) (J_187) (cond (Nat.blt y 189) (J_188) (J_189))) (cond (Nat.blt y 192) (cond (Nat.blt y 191) (J_190) (J_191)) (cond (Nat.blt y 193) (J_192) (J_193))))) (cond (Nat.blt y 200) (cond (Nat.blt y 197) (cond (Nat.blt y 195) (J_194) (cond (Nat.blt y 196) (J_195) (J_196))) (cond (Nat.blt y 198) (J_197) (cond (Nat.blt y 199) (J_198) (J_199)))) (cond (Nat.blt y 203) (cond (Nat.blt y 201) (J_200) (cond (Nat.blt y 202) (J_201) (J_202))) (cond (Nat.blt y 205) (cond (Nat.blt y 204) (J_203) (J_204)) (cond (Nat.blt y 206) (J_205) (J_206))))))))
def mYn (y : Nat) : MethodName := (mJ y).1
def mBy (y : Nat) : ByteArray := (mJ y).2.1
def mNL (y : Nat) : Nat := (mJ y).2.2.1
def mRt (y : Nat) : Option FieldType := (mJ y).2.2.2.1
def mFrm (y : Nat) : Nat := (mJ y).2.2.2.2.1
def mLoc (y : Nat) : Nat := (mJ y).2.2.2.2.2.1
def mPc (y b : Nat) : Nat := (mJ y).2.2.2.2.2.2.getD b 0
def mNum : Nat := 207
