section
-- ===== PART A: goes FIRST, ahead of the names: the tables' words, and 'selects' of the private methods out of them =====
/-- a private method of a class that the tables say can be made, by its rows of tables_1 -/
def lw_okq (q : MethodName × Nat) : Prop := (q.1.cls ≠ "java/lang/invoke/MethodHandle" ∧ q.1.cls ≠ "java/lang/invoke/VarHandle") ∧ Cond.instantiable q.1.cls q.2 ∈ tables_1 ∧ Cond.privateMethod q.1 ∈ tables_1 ∧ Cond.instanceMethod q.1 ∈ tables_1
theorem lw_p0 : lw_okq (⟨"java/lang/Throwable", "fillInStackTrace", "(I)Ljava/lang/Throwable;"⟩, 6) := ⟨⟨by decide +kernel, by decide +kernel⟩, List.mem_of_getElem? (i := 392) (by decide +kernel), List.mem_of_getElem? (i := 390) (by decide +kernel), List.mem_of_getElem? (i := 391) (by decide +kernel)⟩
theorem lw_p1 : lw_okq (⟨"TinyShell$Syntax", "findToken", "()Z"⟩, 10) := ⟨⟨by decide +kernel, by decide +kernel⟩, List.mem_of_getElem? (i := 52) (by decide +kernel), List.mem_of_getElem? (i := 499) (by decide +kernel), List.mem_of_getElem? (i := 500) (by decide +kernel)⟩
theorem lw_p2 : lw_okq (⟨"TinyShell$Syntax", "readToken", "()V"⟩, 10) := ⟨⟨by decide +kernel, by decide +kernel⟩, List.mem_of_getElem? (i := 52) (by decide +kernel), List.mem_of_getElem? (i := 505) (by decide +kernel), List.mem_of_getElem? (i := 506) (by decide +kernel)⟩
theorem lw_p3 : lw_okq (⟨"TinyShell$Syntax", "endLine", "()V"⟩, 10) := ⟨⟨by decide +kernel, by decide +kernel⟩, List.mem_of_getElem? (i := 52) (by decide +kernel), List.mem_of_getElem? (i := 509) (by decide +kernel), List.mem_of_getElem? (i := 510) (by decide +kernel)⟩
theorem lw_p4 : lw_okq (⟨"TinyShell$Syntax", "joinBy", "(II)V"⟩, 10) := ⟨⟨by decide +kernel, by decide +kernel⟩, List.mem_of_getElem? (i := 52) (by decide +kernel), List.mem_of_getElem? (i := 513) (by decide +kernel), List.mem_of_getElem? (i := 514) (by decide +kernel)⟩
theorem lw_p5 : lw_okq (⟨"TinyShell$Syntax", "refuse", "(I)V"⟩, 10) := ⟨⟨by decide +kernel, by decide +kernel⟩, List.mem_of_getElem? (i := 52) (by decide +kernel), List.mem_of_getElem? (i := 517) (by decide +kernel), List.mem_of_getElem? (i := 518) (by decide +kernel)⟩
theorem lw_p6 : lw_okq (⟨"TinyShell$Syntax", "redirect", "(II)V"⟩, 10) := ⟨⟨by decide +kernel, by decide +kernel⟩, List.mem_of_getElem? (i := 52) (by decide +kernel), List.mem_of_getElem? (i := 537) (by decide +kernel), List.mem_of_getElem? (i := 538) (by decide +kernel)⟩
theorem lw_p7 : lw_okq (⟨"TinyShell$Syntax", "openCommand", "()V"⟩, 10) := ⟨⟨by decide +kernel, by decide +kernel⟩, List.mem_of_getElem? (i := 52) (by decide +kernel), List.mem_of_getElem? (i := 541) (by decide +kernel), List.mem_of_getElem? (i := 542) (by decide +kernel)⟩
theorem lw_p8 : lw_okq (⟨"TinyShell$Syntax", "readWord", "()V"⟩, 10) := ⟨⟨by decide +kernel, by decide +kernel⟩, List.mem_of_getElem? (i := 52) (by decide +kernel), List.mem_of_getElem? (i := 553) (by decide +kernel), List.mem_of_getElem? (i := 554) (by decide +kernel)⟩
theorem lw_p9 : lw_okq (⟨"TinyShell$Syntax", "nameEnd", "(I)I"⟩, 10) := ⟨⟨by decide +kernel, by decide +kernel⟩, List.mem_of_getElem? (i := 52) (by decide +kernel), List.mem_of_getElem? (i := 557) (by decide +kernel), List.mem_of_getElem? (i := 558) (by decide +kernel)⟩
theorem lw_p10 : lw_okq (⟨"TinyShell$Syntax", "readPieces", "()V"⟩, 10) := ⟨⟨by decide +kernel, by decide +kernel⟩, List.mem_of_getElem? (i := 52) (by decide +kernel), List.mem_of_getElem? (i := 564) (by decide +kernel), List.mem_of_getElem? (i := 565) (by decide +kernel)⟩
theorem lw_p11 : lw_okq (⟨"TinyShell$Syntax", "addCharacters", "(III)V"⟩, 10) := ⟨⟨by decide +kernel, by decide +kernel⟩, List.mem_of_getElem? (i := 52) (by decide +kernel), List.mem_of_getElem? (i := 568) (by decide +kernel), List.mem_of_getElem? (i := 569) (by decide +kernel)⟩
theorem lw_p12 : lw_okq (⟨"TinyShell$Syntax", "readEscape", "(Z)V"⟩, 10) := ⟨⟨by decide +kernel, by decide +kernel⟩, List.mem_of_getElem? (i := 52) (by decide +kernel), List.mem_of_getElem? (i := 572) (by decide +kernel), List.mem_of_getElem? (i := 573) (by decide +kernel)⟩
theorem lw_p13 : lw_okq (⟨"TinyShell$Syntax", "readBraces", "(Z)V"⟩, 10) := ⟨⟨by decide +kernel, by decide +kernel⟩, List.mem_of_getElem? (i := 52) (by decide +kernel), List.mem_of_getElem? (i := 576) (by decide +kernel), List.mem_of_getElem? (i := 577) (by decide +kernel)⟩
theorem lw_p14 : lw_okq (⟨"TinyShell$Syntax", "textEnd", "(I)I"⟩, 10) := ⟨⟨by decide +kernel, by decide +kernel⟩, List.mem_of_getElem? (i := 52) (by decide +kernel), List.mem_of_getElem? (i := 580) (by decide +kernel), List.mem_of_getElem? (i := 581) (by decide +kernel)⟩
theorem lw_p15 : lw_okq (⟨"TinyShell$Syntax", "readDollar", "(Z)V"⟩, 10) := ⟨⟨by decide +kernel, by decide +kernel⟩, List.mem_of_getElem? (i := 52) (by decide +kernel), List.mem_of_getElem? (i := 584) (by decide +kernel), List.mem_of_getElem? (i := 585) (by decide +kernel)⟩
def lw_privs_1 : List (MethodName × Nat) := [(⟨"java/lang/Throwable", "fillInStackTrace", "(I)Ljava/lang/Throwable;"⟩, 6), (⟨"TinyShell$Syntax", "findToken", "()Z"⟩, 10), (⟨"TinyShell$Syntax", "readToken", "()V"⟩, 10), (⟨"TinyShell$Syntax", "endLine", "()V"⟩, 10), (⟨"TinyShell$Syntax", "joinBy", "(II)V"⟩, 10), (⟨"TinyShell$Syntax", "refuse", "(I)V"⟩, 10), (⟨"TinyShell$Syntax", "redirect", "(II)V"⟩, 10), (⟨"TinyShell$Syntax", "openCommand", "()V"⟩, 10), (⟨"TinyShell$Syntax", "readWord", "()V"⟩, 10), (⟨"TinyShell$Syntax", "nameEnd", "(I)I"⟩, 10), (⟨"TinyShell$Syntax", "readPieces", "()V"⟩, 10), (⟨"TinyShell$Syntax", "addCharacters", "(III)V"⟩, 10), (⟨"TinyShell$Syntax", "readEscape", "(Z)V"⟩, 10), (⟨"TinyShell$Syntax", "readBraces", "(Z)V"⟩, 10), (⟨"TinyShell$Syntax", "textEnd", "(I)I"⟩, 10), (⟨"TinyShell$Syntax", "readDollar", "(Z)V"⟩, 10)]
theorem lw_r1 : ∀ q ∈ lw_privs_1, lw_okq q := List.forall_mem_cons.mpr ⟨lw_p0, List.forall_mem_cons.mpr ⟨lw_p1, List.forall_mem_cons.mpr ⟨lw_p2, List.forall_mem_cons.mpr ⟨lw_p3, List.forall_mem_cons.mpr ⟨lw_p4, List.forall_mem_cons.mpr ⟨lw_p5, List.forall_mem_cons.mpr ⟨lw_p6, List.forall_mem_cons.mpr ⟨lw_p7, List.forall_mem_cons.mpr ⟨lw_p8, List.forall_mem_cons.mpr ⟨lw_p9, List.forall_mem_cons.mpr ⟨lw_p10, List.forall_mem_cons.mpr ⟨lw_p11, List.forall_mem_cons.mpr ⟨lw_p12, List.forall_mem_cons.mpr ⟨lw_p13, List.forall_mem_cons.mpr ⟨lw_p14, List.forall_mem_cons.mpr ⟨lw_p15, fun _ h => absurd h List.not_mem_nil⟩⟩⟩⟩⟩⟩⟩⟩⟩⟩⟩⟩⟩⟩⟩⟩
theorem lw_p16 : lw_okq (⟨"TinyShell$Syntax", "readSingleQuotes", "()V"⟩, 10) := ⟨⟨by decide +kernel, by decide +kernel⟩, List.mem_of_getElem? (i := 52) (by decide +kernel), List.mem_of_getElem? (i := 588) (by decide +kernel), List.mem_of_getElem? (i := 589) (by decide +kernel)⟩
theorem lw_p17 : lw_okq (⟨"TinyShell$Runner", "isAlone", "(I)Z"⟩, 11) := ⟨⟨by decide +kernel, by decide +kernel⟩, List.mem_of_getElem? (i := 195) (by decide +kernel), List.mem_of_getElem? (i := 673) (by decide +kernel), List.mem_of_getElem? (i := 674) (by decide +kernel)⟩
theorem lw_p18 : lw_okq (⟨"TinyShell$Runner", "isPiped", "(I)Z"⟩, 11) := ⟨⟨by decide +kernel, by decide +kernel⟩, List.mem_of_getElem? (i := 195) (by decide +kernel), List.mem_of_getElem? (i := 677) (by decide +kernel), List.mem_of_getElem? (i := 678) (by decide +kernel)⟩
theorem lw_p19 : lw_okq (⟨"TinyShell$Expander", "expandPieces", "(IZ)V"⟩, 8) := ⟨⟨by decide +kernel, by decide +kernel⟩, List.mem_of_getElem? (i := 203) (by decide +kernel), List.mem_of_getElem? (i := 693) (by decide +kernel), List.mem_of_getElem? (i := 694) (by decide +kernel)⟩
theorem lw_p20 : lw_okq (⟨"TinyShell$Expander", "addCharacters", "(LTinyShell$Text;IIZZ)V"⟩, 8) := ⟨⟨by decide +kernel, by decide +kernel⟩, List.mem_of_getElem? (i := 203) (by decide +kernel), List.mem_of_getElem? (i := 697) (by decide +kernel), List.mem_of_getElem? (i := 698) (by decide +kernel)⟩
theorem lw_p21 : lw_okq (⟨"TinyShell$Expander", "parameter", "(II)LTinyShell$Text;"⟩, 8) := ⟨⟨by decide +kernel, by decide +kernel⟩, List.mem_of_getElem? (i := 203) (by decide +kernel), List.mem_of_getElem? (i := 705) (by decide +kernel), List.mem_of_getElem? (i := 706) (by decide +kernel)⟩
theorem lw_p22 : lw_okq (⟨"TinyShell$Expander", "addField", "(LTinyShell$Text;LTinyShell$Row;)V"⟩, 8) := ⟨⟨by decide +kernel, by decide +kernel⟩, List.mem_of_getElem? (i := 203) (by decide +kernel), List.mem_of_getElem? (i := 730) (by decide +kernel), List.mem_of_getElem? (i := 731) (by decide +kernel)⟩
theorem lw_p23 : lw_okq (⟨"TinyShell$Expander", "unmark", "(LTinyShell$Text;)LTinyShell$Text;"⟩, 8) := ⟨⟨by decide +kernel, by decide +kernel⟩, List.mem_of_getElem? (i := 203) (by decide +kernel), List.mem_of_getElem? (i := 744) (by decide +kernel), List.mem_of_getElem? (i := 745) (by decide +kernel)⟩
theorem lw_p24 : lw_okq (⟨"TinyShell$Runner", "redirect", "(I)Z"⟩, 11) := ⟨⟨by decide +kernel, by decide +kernel⟩, List.mem_of_getElem? (i := 195) (by decide +kernel), List.mem_of_getElem? (i := 748) (by decide +kernel), List.mem_of_getElem? (i := 749) (by decide +kernel)⟩
theorem lw_p25 : lw_okq (⟨"TinyShell$Runner", "assign", "(I)V"⟩, 11) := ⟨⟨by decide +kernel, by decide +kernel⟩, List.mem_of_getElem? (i := 195) (by decide +kernel), List.mem_of_getElem? (i := 769) (by decide +kernel), List.mem_of_getElem? (i := 770) (by decide +kernel)⟩
theorem lw_p26 : lw_okq (⟨"TinyShell$Tools", "echo", "()I"⟩, 6) := ⟨⟨by decide +kernel, by decide +kernel⟩, List.mem_of_getElem? (i := 238) (by decide +kernel), List.mem_of_getElem? (i := 863) (by decide +kernel), List.mem_of_getElem? (i := 864) (by decide +kernel)⟩
theorem lw_p27 : lw_okq (⟨"TinyShell$Tools", "cat", "()I"⟩, 6) := ⟨⟨by decide +kernel, by decide +kernel⟩, List.mem_of_getElem? (i := 238) (by decide +kernel), List.mem_of_getElem? (i := 870) (by decide +kernel), List.mem_of_getElem? (i := 871) (by decide +kernel)⟩
theorem lw_p28 : lw_okq (⟨"TinyShell$Tools", "setPositions", "()I"⟩, 6) := ⟨⟨by decide +kernel, by decide +kernel⟩, List.mem_of_getElem? (i := 238) (by decide +kernel), List.mem_of_getElem? (i := 876) (by decide +kernel), List.mem_of_getElem? (i := 877) (by decide +kernel)⟩
theorem lw_p29 : lw_okq (⟨"TinyShell$Tools", "unset", "()I"⟩, 6) := ⟨⟨by decide +kernel, by decide +kernel⟩, List.mem_of_getElem? (i := 238) (by decide +kernel), List.mem_of_getElem? (i := 882) (by decide +kernel), List.mem_of_getElem? (i := 883) (by decide +kernel)⟩
theorem lw_p30 : lw_okq (⟨"TinyShell$Tools", "removeFiles", "()I"⟩, 6) := ⟨⟨by decide +kernel, by decide +kernel⟩, List.mem_of_getElem? (i := 238) (by decide +kernel), List.mem_of_getElem? (i := 890) (by decide +kernel), List.mem_of_getElem? (i := 891) (by decide +kernel)⟩
theorem lw_p31 : lw_okq (⟨"TinyShell$Tools", "countInput", "()I"⟩, 6) := ⟨⟨by decide +kernel, by decide +kernel⟩, List.mem_of_getElem? (i := 238) (by decide +kernel), List.mem_of_getElem? (i := 894) (by decide +kernel), List.mem_of_getElem? (i := 895) (by decide +kernel)⟩
def lw_privs_2 : List (MethodName × Nat) := [(⟨"TinyShell$Syntax", "readSingleQuotes", "()V"⟩, 10), (⟨"TinyShell$Runner", "isAlone", "(I)Z"⟩, 11), (⟨"TinyShell$Runner", "isPiped", "(I)Z"⟩, 11), (⟨"TinyShell$Expander", "expandPieces", "(IZ)V"⟩, 8), (⟨"TinyShell$Expander", "addCharacters", "(LTinyShell$Text;IIZZ)V"⟩, 8), (⟨"TinyShell$Expander", "parameter", "(II)LTinyShell$Text;"⟩, 8), (⟨"TinyShell$Expander", "addField", "(LTinyShell$Text;LTinyShell$Row;)V"⟩, 8), (⟨"TinyShell$Expander", "unmark", "(LTinyShell$Text;)LTinyShell$Text;"⟩, 8), (⟨"TinyShell$Runner", "redirect", "(I)Z"⟩, 11), (⟨"TinyShell$Runner", "assign", "(I)V"⟩, 11), (⟨"TinyShell$Tools", "echo", "()I"⟩, 6), (⟨"TinyShell$Tools", "cat", "()I"⟩, 6), (⟨"TinyShell$Tools", "setPositions", "()I"⟩, 6), (⟨"TinyShell$Tools", "unset", "()I"⟩, 6), (⟨"TinyShell$Tools", "removeFiles", "()I"⟩, 6), (⟨"TinyShell$Tools", "countInput", "()I"⟩, 6)]
theorem lw_r2 : ∀ q ∈ lw_privs_2, lw_okq q := List.forall_mem_cons.mpr ⟨lw_p16, List.forall_mem_cons.mpr ⟨lw_p17, List.forall_mem_cons.mpr ⟨lw_p18, List.forall_mem_cons.mpr ⟨lw_p19, List.forall_mem_cons.mpr ⟨lw_p20, List.forall_mem_cons.mpr ⟨lw_p21, List.forall_mem_cons.mpr ⟨lw_p22, List.forall_mem_cons.mpr ⟨lw_p23, List.forall_mem_cons.mpr ⟨lw_p24, List.forall_mem_cons.mpr ⟨lw_p25, List.forall_mem_cons.mpr ⟨lw_p26, List.forall_mem_cons.mpr ⟨lw_p27, List.forall_mem_cons.mpr ⟨lw_p28, List.forall_mem_cons.mpr ⟨lw_p29, List.forall_mem_cons.mpr ⟨lw_p30, List.forall_mem_cons.mpr ⟨lw_p31, fun _ h => absurd h List.not_mem_nil⟩⟩⟩⟩⟩⟩⟩⟩⟩⟩⟩⟩⟩⟩⟩⟩
theorem lw_p32 : lw_okq (⟨"TinyShell$Tools", "head", "()I"⟩, 6) := ⟨⟨by decide +kernel, by decide +kernel⟩, List.mem_of_getElem? (i := 238) (by decide +kernel), List.mem_of_getElem? (i := 900) (by decide +kernel), List.mem_of_getElem? (i := 901) (by decide +kernel)⟩
theorem lw_p33 : lw_okq (⟨"TinyShell$Lines", "put", "(I)V"⟩, 3) := ⟨⟨by decide +kernel, by decide +kernel⟩, List.mem_of_getElem? (i := 248) (by decide +kernel), List.mem_of_getElem? (i := 913) (by decide +kernel), List.mem_of_getElem? (i := 914) (by decide +kernel)⟩
theorem lw_p34 : lw_okq (⟨"TinyShell$Lines", "order", "(II)I"⟩, 3) := ⟨⟨by decide +kernel, by decide +kernel⟩, List.mem_of_getElem? (i := 248) (by decide +kernel), List.mem_of_getElem? (i := 929) (by decide +kernel), List.mem_of_getElem? (i := 930) (by decide +kernel)⟩
theorem lw_p35 : lw_okq (⟨"TinyShell$Lines", "holds", "(ILTinyShell$Text;)Z"⟩, 3) := ⟨⟨by decide +kernel, by decide +kernel⟩, List.mem_of_getElem? (i := 248) (by decide +kernel), List.mem_of_getElem? (i := 951) (by decide +kernel), List.mem_of_getElem? (i := 952) (by decide +kernel)⟩
theorem lw_p36 : lw_okq (⟨"TinyShell$Tools", "translate", "()I"⟩, 6) := ⟨⟨by decide +kernel, by decide +kernel⟩, List.mem_of_getElem? (i := 238) (by decide +kernel), List.mem_of_getElem? (i := 955) (by decide +kernel), List.mem_of_getElem? (i := 956) (by decide +kernel)⟩
theorem lw_p37 : lw_okq (⟨"TinyShell$Tools", "test", "()I"⟩, 6) := ⟨⟨by decide +kernel, by decide +kernel⟩, List.mem_of_getElem? (i := 238) (by decide +kernel), List.mem_of_getElem? (i := 959) (by decide +kernel), List.mem_of_getElem? (i := 960) (by decide +kernel)⟩
theorem lw_p38 : lw_okq (⟨"TinyShell$Tools", "exit", "()I"⟩, 6) := ⟨⟨by decide +kernel, by decide +kernel⟩, List.mem_of_getElem? (i := 238) (by decide +kernel), List.mem_of_getElem? (i := 968) (by decide +kernel), List.mem_of_getElem? (i := 969) (by decide +kernel)⟩
theorem lw_p39 : lw_okq (⟨"TinyShell$Runner", "sendToFile", "()V"⟩, 11) := ⟨⟨by decide +kernel, by decide +kernel⟩, List.mem_of_getElem? (i := 195) (by decide +kernel), List.mem_of_getElem? (i := 972) (by decide +kernel), List.mem_of_getElem? (i := 973) (by decide +kernel)⟩
theorem lw_p40 : lw_okq (⟨"TinyShellModel", "malformed", "()I"⟩, 45) := ⟨⟨by decide +kernel, by decide +kernel⟩, List.mem_of_getElem? (i := 982) (by decide +kernel), List.mem_of_getElem? (i := 1140) (by decide +kernel), List.mem_of_getElem? (i := 1141) (by decide +kernel)⟩
theorem lw_p41 : lw_okq (⟨"TinyShellModel", "cut", "()V"⟩, 45) := ⟨⟨by decide +kernel, by decide +kernel⟩, List.mem_of_getElem? (i := 982) (by decide +kernel), List.mem_of_getElem? (i := 1144) (by decide +kernel), List.mem_of_getElem? (i := 1145) (by decide +kernel)⟩
theorem lw_p42 : lw_okq (⟨"TinyShellModel", "ch", "(I)I"⟩, 45) := ⟨⟨by decide +kernel, by decide +kernel⟩, List.mem_of_getElem? (i := 982) (by decide +kernel), List.mem_of_getElem? (i := 1148) (by decide +kernel), List.mem_of_getElem? (i := 1149) (by decide +kernel)⟩
theorem lw_p43 : lw_okq (⟨"TinyShellModel", "operator", "(I)I"⟩, 45) := ⟨⟨by decide +kernel, by decide +kernel⟩, List.mem_of_getElem? (i := 982) (by decide +kernel), List.mem_of_getElem? (i := 1152) (by decide +kernel), List.mem_of_getElem? (i := 1153) (by decide +kernel)⟩
theorem lw_p44 : lw_okq (⟨"TinyShellModel", "pieceEnd", "(I)I"⟩, 45) := ⟨⟨by decide +kernel, by decide +kernel⟩, List.mem_of_getElem? (i := 982) (by decide +kernel), List.mem_of_getElem? (i := 1159) (by decide +kernel), List.mem_of_getElem? (i := 1160) (by decide +kernel)⟩
theorem lw_p45 : lw_okq (⟨"TinyShellModel", "dollar", "(I)I"⟩, 45) := ⟨⟨by decide +kernel, by decide +kernel⟩, List.mem_of_getElem? (i := 982) (by decide +kernel), List.mem_of_getElem? (i := 1163) (by decide +kernel), List.mem_of_getElem? (i := 1164) (by decide +kernel)⟩
theorem lw_p46 : lw_okq (⟨"TinyShellModel", "nameEnd", "(I)I"⟩, 45) := ⟨⟨by decide +kernel, by decide +kernel⟩, List.mem_of_getElem? (i := 982) (by decide +kernel), List.mem_of_getElem? (i := 1170) (by decide +kernel), List.mem_of_getElem? (i := 1171) (by decide +kernel)⟩
theorem lw_p47 : lw_okq (⟨"TinyShellModel", "behindStroke", "(I)I"⟩, 45) := ⟨⟨by decide +kernel, by decide +kernel⟩, List.mem_of_getElem? (i := 982) (by decide +kernel), List.mem_of_getElem? (i := 1180) (by decide +kernel), List.mem_of_getElem? (i := 1181) (by decide +kernel)⟩
def lw_privs_3 : List (MethodName × Nat) := [(⟨"TinyShell$Tools", "head", "()I"⟩, 6), (⟨"TinyShell$Lines", "put", "(I)V"⟩, 3), (⟨"TinyShell$Lines", "order", "(II)I"⟩, 3), (⟨"TinyShell$Lines", "holds", "(ILTinyShell$Text;)Z"⟩, 3), (⟨"TinyShell$Tools", "translate", "()I"⟩, 6), (⟨"TinyShell$Tools", "test", "()I"⟩, 6), (⟨"TinyShell$Tools", "exit", "()I"⟩, 6), (⟨"TinyShell$Runner", "sendToFile", "()V"⟩, 11), (⟨"TinyShellModel", "malformed", "()I"⟩, 45), (⟨"TinyShellModel", "cut", "()V"⟩, 45), (⟨"TinyShellModel", "ch", "(I)I"⟩, 45), (⟨"TinyShellModel", "operator", "(I)I"⟩, 45), (⟨"TinyShellModel", "pieceEnd", "(I)I"⟩, 45), (⟨"TinyShellModel", "dollar", "(I)I"⟩, 45), (⟨"TinyShellModel", "nameEnd", "(I)I"⟩, 45), (⟨"TinyShellModel", "behindStroke", "(I)I"⟩, 45)]
theorem lw_r3 : ∀ q ∈ lw_privs_3, lw_okq q := List.forall_mem_cons.mpr ⟨lw_p32, List.forall_mem_cons.mpr ⟨lw_p33, List.forall_mem_cons.mpr ⟨lw_p34, List.forall_mem_cons.mpr ⟨lw_p35, List.forall_mem_cons.mpr ⟨lw_p36, List.forall_mem_cons.mpr ⟨lw_p37, List.forall_mem_cons.mpr ⟨lw_p38, List.forall_mem_cons.mpr ⟨lw_p39, List.forall_mem_cons.mpr ⟨lw_p40, List.forall_mem_cons.mpr ⟨lw_p41, List.forall_mem_cons.mpr ⟨lw_p42, List.forall_mem_cons.mpr ⟨lw_p43, List.forall_mem_cons.mpr ⟨lw_p44, List.forall_mem_cons.mpr ⟨lw_p45, List.forall_mem_cons.mpr ⟨lw_p46, List.forall_mem_cons.mpr ⟨lw_p47, fun _ h => absurd h List.not_mem_nil⟩⟩⟩⟩⟩⟩⟩⟩⟩⟩⟩⟩⟩⟩⟩⟩
theorem lw_p48 : lw_okq (⟨"TinyShellModel", "raise", "(I)I"⟩, 45) := ⟨⟨by decide +kernel, by decide +kernel⟩, List.mem_of_getElem? (i := 982) (by decide +kernel), List.mem_of_getElem? (i := 1184) (by decide +kernel), List.mem_of_getElem? (i := 1185) (by decide +kernel)⟩
theorem lw_p49 : lw_okq (⟨"TinyShellModel", "copyAll", "(II)V"⟩, 45) := ⟨⟨by decide +kernel, by decide +kernel⟩, List.mem_of_getElem? (i := 982) (by decide +kernel), List.mem_of_getElem? (i := 1188) (by decide +kernel), List.mem_of_getElem? (i := 1189) (by decide +kernel)⟩
theorem lw_p50 : lw_okq (⟨"TinyShellModel", "copyVariables", "(II)V"⟩, 45) := ⟨⟨by decide +kernel, by decide +kernel⟩, List.mem_of_getElem? (i := 982) (by decide +kernel), List.mem_of_getElem? (i := 1192) (by decide +kernel), List.mem_of_getElem? (i := 1193) (by decide +kernel)⟩
theorem lw_p51 : lw_okq (⟨"TinyShellModel", "skipNewlines", "(I)I"⟩, 45) := ⟨⟨by decide +kernel, by decide +kernel⟩, List.mem_of_getElem? (i := 982) (by decide +kernel), List.mem_of_getElem? (i := 1196) (by decide +kernel), List.mem_of_getElem? (i := 1197) (by decide +kernel)⟩
theorem lw_p52 : lw_okq (⟨"TinyShellModel", "pipeline", "(IZ)I"⟩, 45) := ⟨⟨by decide +kernel, by decide +kernel⟩, List.mem_of_getElem? (i := 982) (by decide +kernel), List.mem_of_getElem? (i := 1200) (by decide +kernel), List.mem_of_getElem? (i := 1201) (by decide +kernel)⟩
theorem lw_p53 : lw_okq (⟨"TinyShellModel", "commandEnd", "(I)I"⟩, 45) := ⟨⟨by decide +kernel, by decide +kernel⟩, List.mem_of_getElem? (i := 982) (by decide +kernel), List.mem_of_getElem? (i := 1204) (by decide +kernel), List.mem_of_getElem? (i := 1205) (by decide +kernel)⟩
theorem lw_p54 : lw_okq (⟨"TinyShellModel", "runPipeline", "(II)V"⟩, 45) := ⟨⟨by decide +kernel, by decide +kernel⟩, List.mem_of_getElem? (i := 982) (by decide +kernel), List.mem_of_getElem? (i := 1208) (by decide +kernel), List.mem_of_getElem? (i := 1209) (by decide +kernel)⟩
theorem lw_p55 : lw_okq (⟨"TinyShellModel", "command", "(IIZ)I"⟩, 45) := ⟨⟨by decide +kernel, by decide +kernel⟩, List.mem_of_getElem? (i := 982) (by decide +kernel), List.mem_of_getElem? (i := 1212) (by decide +kernel), List.mem_of_getElem? (i := 1213) (by decide +kernel)⟩
theorem lw_p56 : lw_okq (⟨"TinyShellModel", "expandWords", "(II)V"⟩, 45) := ⟨⟨by decide +kernel, by decide +kernel⟩, List.mem_of_getElem? (i := 982) (by decide +kernel), List.mem_of_getElem? (i := 1216) (by decide +kernel), List.mem_of_getElem? (i := 1217) (by decide +kernel)⟩
theorem lw_p57 : lw_okq (⟨"TinyShellModel", "isAssignment", "(I)Z"⟩, 45) := ⟨⟨by decide +kernel, by decide +kernel⟩, List.mem_of_getElem? (i := 982) (by decide +kernel), List.mem_of_getElem? (i := 1220) (by decide +kernel), List.mem_of_getElem? (i := 1221) (by decide +kernel)⟩
theorem lw_p58 : lw_okq (⟨"TinyShellModel", "expand", "(II)V"⟩, 45) := ⟨⟨by decide +kernel, by decide +kernel⟩, List.mem_of_getElem? (i := 982) (by decide +kernel), List.mem_of_getElem? (i := 1224) (by decide +kernel), List.mem_of_getElem? (i := 1225) (by decide +kernel)⟩
theorem lw_p59 : lw_okq (⟨"TinyShellModel", "parameter", "(IIZ)V"⟩, 45) := ⟨⟨by decide +kernel, by decide +kernel⟩, List.mem_of_getElem? (i := 982) (by decide +kernel), List.mem_of_getElem? (i := 1228) (by decide +kernel), List.mem_of_getElem? (i := 1229) (by decide +kernel)⟩
theorem lw_p60 : lw_okq (⟨"TinyShellModel", "addMade", "(IZ)V"⟩, 45) := ⟨⟨by decide +kernel, by decide +kernel⟩, List.mem_of_getElem? (i := 982) (by decide +kernel), List.mem_of_getElem? (i := 1232) (by decide +kernel), List.mem_of_getElem? (i := 1233) (by decide +kernel)⟩
theorem lw_p61 : lw_okq (⟨"TinyShellModel", "giveNumber", "(IZ)V"⟩, 45) := ⟨⟨by decide +kernel, by decide +kernel⟩, List.mem_of_getElem? (i := 982) (by decide +kernel), List.mem_of_getElem? (i := 1236) (by decide +kernel), List.mem_of_getElem? (i := 1237) (by decide +kernel)⟩
theorem lw_p62 : lw_okq (⟨"TinyShellModel", "given", "(IZ)V"⟩, 45) := ⟨⟨by decide +kernel, by decide +kernel⟩, List.mem_of_getElem? (i := 982) (by decide +kernel), List.mem_of_getElem? (i := 1240) (by decide +kernel), List.mem_of_getElem? (i := 1241) (by decide +kernel)⟩
theorem lw_p63 : lw_okq (⟨"TinyShellModel", "finishField", "()V"⟩, 45) := ⟨⟨by decide +kernel, by decide +kernel⟩, List.mem_of_getElem? (i := 982) (by decide +kernel), List.mem_of_getElem? (i := 1244) (by decide +kernel), List.mem_of_getElem? (i := 1245) (by decide +kernel)⟩
def lw_privs_4 : List (MethodName × Nat) := [(⟨"TinyShellModel", "raise", "(I)I"⟩, 45), (⟨"TinyShellModel", "copyAll", "(II)V"⟩, 45), (⟨"TinyShellModel", "copyVariables", "(II)V"⟩, 45), (⟨"TinyShellModel", "skipNewlines", "(I)I"⟩, 45), (⟨"TinyShellModel", "pipeline", "(IZ)I"⟩, 45), (⟨"TinyShellModel", "commandEnd", "(I)I"⟩, 45), (⟨"TinyShellModel", "runPipeline", "(II)V"⟩, 45), (⟨"TinyShellModel", "command", "(IIZ)I"⟩, 45), (⟨"TinyShellModel", "expandWords", "(II)V"⟩, 45), (⟨"TinyShellModel", "isAssignment", "(I)Z"⟩, 45), (⟨"TinyShellModel", "expand", "(II)V"⟩, 45), (⟨"TinyShellModel", "parameter", "(IIZ)V"⟩, 45), (⟨"TinyShellModel", "addMade", "(IZ)V"⟩, 45), (⟨"TinyShellModel", "giveNumber", "(IZ)V"⟩, 45), (⟨"TinyShellModel", "given", "(IZ)V"⟩, 45), (⟨"TinyShellModel", "finishField", "()V"⟩, 45)]
theorem lw_r4 : ∀ q ∈ lw_privs_4, lw_okq q := List.forall_mem_cons.mpr ⟨lw_p48, List.forall_mem_cons.mpr ⟨lw_p49, List.forall_mem_cons.mpr ⟨lw_p50, List.forall_mem_cons.mpr ⟨lw_p51, List.forall_mem_cons.mpr ⟨lw_p52, List.forall_mem_cons.mpr ⟨lw_p53, List.forall_mem_cons.mpr ⟨lw_p54, List.forall_mem_cons.mpr ⟨lw_p55, List.forall_mem_cons.mpr ⟨lw_p56, List.forall_mem_cons.mpr ⟨lw_p57, List.forall_mem_cons.mpr ⟨lw_p58, List.forall_mem_cons.mpr ⟨lw_p59, List.forall_mem_cons.mpr ⟨lw_p60, List.forall_mem_cons.mpr ⟨lw_p61, List.forall_mem_cons.mpr ⟨lw_p62, List.forall_mem_cons.mpr ⟨lw_p63, fun _ h => absurd h List.not_mem_nil⟩⟩⟩⟩⟩⟩⟩⟩⟩⟩⟩⟩⟩⟩⟩⟩
theorem lw_p64 : lw_okq (⟨"TinyShellModel", "matches", "(I)Z"⟩, 45) := ⟨⟨by decide +kernel, by decide +kernel⟩, List.mem_of_getElem? (i := 982) (by decide +kernel), List.mem_of_getElem? (i := 1248) (by decide +kernel), List.mem_of_getElem? (i := 1249) (by decide +kernel)⟩
theorem lw_p65 : lw_okq (⟨"TinyShellModel", "stars", "(J)J"⟩, 45) := ⟨⟨by decide +kernel, by decide +kernel⟩, List.mem_of_getElem? (i := 982) (by decide +kernel), List.mem_of_getElem? (i := 1252) (by decide +kernel), List.mem_of_getElem? (i := 1253) (by decide +kernel)⟩
theorem lw_p66 : lw_okq (⟨"TinyShellModel", "pushName", "(I)V"⟩, 45) := ⟨⟨by decide +kernel, by decide +kernel⟩, List.mem_of_getElem? (i := 982) (by decide +kernel), List.mem_of_getElem? (i := 1256) (by decide +kernel), List.mem_of_getElem? (i := 1257) (by decide +kernel)⟩
theorem lw_p67 : lw_okq (⟨"TinyShellModel", "pushField", "()V"⟩, 45) := ⟨⟨by decide +kernel, by decide +kernel⟩, List.mem_of_getElem? (i := 982) (by decide +kernel), List.mem_of_getElem? (i := 1260) (by decide +kernel), List.mem_of_getElem? (i := 1261) (by decide +kernel)⟩
theorem lw_p68 : lw_okq (⟨"TinyShellModel", "variableOf", "(II)I"⟩, 45) := ⟨⟨by decide +kernel, by decide +kernel⟩, List.mem_of_getElem? (i := 982) (by decide +kernel), List.mem_of_getElem? (i := 1264) (by decide +kernel), List.mem_of_getElem? (i := 1265) (by decide +kernel)⟩
theorem lw_p69 : lw_okq (⟨"TinyShellModel", "compareVariable", "(III)I"⟩, 45) := ⟨⟨by decide +kernel, by decide +kernel⟩, List.mem_of_getElem? (i := 982) (by decide +kernel), List.mem_of_getElem? (i := 1268) (by decide +kernel), List.mem_of_getElem? (i := 1269) (by decide +kernel)⟩
theorem lw_p70 : lw_okq (⟨"TinyShellModel", "quotes", "(II)V"⟩, 45) := ⟨⟨by decide +kernel, by decide +kernel⟩, List.mem_of_getElem? (i := 982) (by decide +kernel), List.mem_of_getElem? (i := 1272) (by decide +kernel), List.mem_of_getElem? (i := 1273) (by decide +kernel)⟩
theorem lw_p71 : lw_okq (⟨"TinyShellModel", "redirect", "(I)Z"⟩, 45) := ⟨⟨by decide +kernel, by decide +kernel⟩, List.mem_of_getElem? (i := 982) (by decide +kernel), List.mem_of_getElem? (i := 1276) (by decide +kernel), List.mem_of_getElem? (i := 1277) (by decide +kernel)⟩
theorem lw_p72 : lw_okq (⟨"TinyShellModel", "fileOf", "(I)I"⟩, 45) := ⟨⟨by decide +kernel, by decide +kernel⟩, List.mem_of_getElem? (i := 982) (by decide +kernel), List.mem_of_getElem? (i := 1280) (by decide +kernel), List.mem_of_getElem? (i := 1281) (by decide +kernel)⟩
theorem lw_p73 : lw_okq (⟨"TinyShellModel", "compareFile", "(II)I"⟩, 45) := ⟨⟨by decide +kernel, by decide +kernel⟩, List.mem_of_getElem? (i := 982) (by decide +kernel), List.mem_of_getElem? (i := 1284) (by decide +kernel), List.mem_of_getElem? (i := 1285) (by decide +kernel)⟩
theorem lw_p74 : lw_okq (⟨"TinyShellModel", "makeFile", "(I)I"⟩, 45) := ⟨⟨by decide +kernel, by decide +kernel⟩, List.mem_of_getElem? (i := 982) (by decide +kernel), List.mem_of_getElem? (i := 1288) (by decide +kernel), List.mem_of_getElem? (i := 1289) (by decide +kernel)⟩
theorem lw_p75 : lw_okq (⟨"TinyShellModel", "moveFile", "(II)V"⟩, 45) := ⟨⟨by decide +kernel, by decide +kernel⟩, List.mem_of_getElem? (i := 982) (by decide +kernel), List.mem_of_getElem? (i := 1292) (by decide +kernel), List.mem_of_getElem? (i := 1293) (by decide +kernel)⟩
theorem lw_p76 : lw_okq (⟨"TinyShellModel", "assignments", "(IIZ)V"⟩, 45) := ⟨⟨by decide +kernel, by decide +kernel⟩, List.mem_of_getElem? (i := 982) (by decide +kernel), List.mem_of_getElem? (i := 1296) (by decide +kernel), List.mem_of_getElem? (i := 1297) (by decide +kernel)⟩
theorem lw_p77 : lw_okq (⟨"TinyShellModel", "assign", "(II)V"⟩, 45) := ⟨⟨by decide +kernel, by decide +kernel⟩, List.mem_of_getElem? (i := 982) (by decide +kernel), List.mem_of_getElem? (i := 1300) (by decide +kernel), List.mem_of_getElem? (i := 1301) (by decide +kernel)⟩
theorem lw_p78 : lw_okq (⟨"TinyShellModel", "moveVariable", "(II)V"⟩, 45) := ⟨⟨by decide +kernel, by decide +kernel⟩, List.mem_of_getElem? (i := 982) (by decide +kernel), List.mem_of_getElem? (i := 1304) (by decide +kernel), List.mem_of_getElem? (i := 1305) (by decide +kernel)⟩
theorem lw_p79 : lw_okq (⟨"TinyShellModel", "utility", "(Z)I"⟩, 45) := ⟨⟨by decide +kernel, by decide +kernel⟩, List.mem_of_getElem? (i := 982) (by decide +kernel), List.mem_of_getElem? (i := 1308) (by decide +kernel), List.mem_of_getElem? (i := 1309) (by decide +kernel)⟩
def lw_privs_5 : List (MethodName × Nat) := [(⟨"TinyShellModel", "matches", "(I)Z"⟩, 45), (⟨"TinyShellModel", "stars", "(J)J"⟩, 45), (⟨"TinyShellModel", "pushName", "(I)V"⟩, 45), (⟨"TinyShellModel", "pushField", "()V"⟩, 45), (⟨"TinyShellModel", "variableOf", "(II)I"⟩, 45), (⟨"TinyShellModel", "compareVariable", "(III)I"⟩, 45), (⟨"TinyShellModel", "quotes", "(II)V"⟩, 45), (⟨"TinyShellModel", "redirect", "(I)Z"⟩, 45), (⟨"TinyShellModel", "fileOf", "(I)I"⟩, 45), (⟨"TinyShellModel", "compareFile", "(II)I"⟩, 45), (⟨"TinyShellModel", "makeFile", "(I)I"⟩, 45), (⟨"TinyShellModel", "moveFile", "(II)V"⟩, 45), (⟨"TinyShellModel", "assignments", "(IIZ)V"⟩, 45), (⟨"TinyShellModel", "assign", "(II)V"⟩, 45), (⟨"TinyShellModel", "moveVariable", "(II)V"⟩, 45), (⟨"TinyShellModel", "utility", "(Z)I"⟩, 45)]
theorem lw_r5 : ∀ q ∈ lw_privs_5, lw_okq q := List.forall_mem_cons.mpr ⟨lw_p64, List.forall_mem_cons.mpr ⟨lw_p65, List.forall_mem_cons.mpr ⟨lw_p66, List.forall_mem_cons.mpr ⟨lw_p67, List.forall_mem_cons.mpr ⟨lw_p68, List.forall_mem_cons.mpr ⟨lw_p69, List.forall_mem_cons.mpr ⟨lw_p70, List.forall_mem_cons.mpr ⟨lw_p71, List.forall_mem_cons.mpr ⟨lw_p72, List.forall_mem_cons.mpr ⟨lw_p73, List.forall_mem_cons.mpr ⟨lw_p74, List.forall_mem_cons.mpr ⟨lw_p75, List.forall_mem_cons.mpr ⟨lw_p76, List.forall_mem_cons.mpr ⟨lw_p77, List.forall_mem_cons.mpr ⟨lw_p78, List.forall_mem_cons.mpr ⟨lw_p79, fun _ h => absurd h List.not_mem_nil⟩⟩⟩⟩⟩⟩⟩⟩⟩⟩⟩⟩⟩⟩⟩⟩
theorem lw_p80 : lw_okq (⟨"TinyShellModel", "is", "(IJI)Z"⟩, 45) := ⟨⟨by decide +kernel, by decide +kernel⟩, List.mem_of_getElem? (i := 982) (by decide +kernel), List.mem_of_getElem? (i := 1313) (by decide +kernel), List.mem_of_getElem? (i := 1314) (by decide +kernel)⟩
theorem lw_p81 : lw_okq (⟨"TinyShellModel", "echo", "()I"⟩, 45) := ⟨⟨by decide +kernel, by decide +kernel⟩, List.mem_of_getElem? (i := 982) (by decide +kernel), List.mem_of_getElem? (i := 1317) (by decide +kernel), List.mem_of_getElem? (i := 1318) (by decide +kernel)⟩
theorem lw_p82 : lw_okq (⟨"TinyShellModel", "out", "(I)V"⟩, 45) := ⟨⟨by decide +kernel, by decide +kernel⟩, List.mem_of_getElem? (i := 982) (by decide +kernel), List.mem_of_getElem? (i := 1321) (by decide +kernel), List.mem_of_getElem? (i := 1322) (by decide +kernel)⟩
theorem lw_p83 : lw_okq (⟨"TinyShellModel", "cat", "()I"⟩, 45) := ⟨⟨by decide +kernel, by decide +kernel⟩, List.mem_of_getElem? (i := 982) (by decide +kernel), List.mem_of_getElem? (i := 1326) (by decide +kernel), List.mem_of_getElem? (i := 1327) (by decide +kernel)⟩
theorem lw_p84 : lw_okq (⟨"TinyShellModel", "setPositions", "()I"⟩, 45) := ⟨⟨by decide +kernel, by decide +kernel⟩, List.mem_of_getElem? (i := 982) (by decide +kernel), List.mem_of_getElem? (i := 1331) (by decide +kernel), List.mem_of_getElem? (i := 1332) (by decide +kernel)⟩
theorem lw_p85 : lw_okq (⟨"TinyShellModel", "unset", "()I"⟩, 45) := ⟨⟨by decide +kernel, by decide +kernel⟩, List.mem_of_getElem? (i := 982) (by decide +kernel), List.mem_of_getElem? (i := 1336) (by decide +kernel), List.mem_of_getElem? (i := 1337) (by decide +kernel)⟩
theorem lw_p86 : lw_okq (⟨"TinyShellModel", "variableIsField", "(II)Z"⟩, 45) := ⟨⟨by decide +kernel, by decide +kernel⟩, List.mem_of_getElem? (i := 982) (by decide +kernel), List.mem_of_getElem? (i := 1340) (by decide +kernel), List.mem_of_getElem? (i := 1341) (by decide +kernel)⟩
theorem lw_p87 : lw_okq (⟨"TinyShellModel", "remove", "()I"⟩, 45) := ⟨⟨by decide +kernel, by decide +kernel⟩, List.mem_of_getElem? (i := 982) (by decide +kernel), List.mem_of_getElem? (i := 1345) (by decide +kernel), List.mem_of_getElem? (i := 1346) (by decide +kernel)⟩
theorem lw_p88 : lw_okq (⟨"TinyShellModel", "dropFile", "(I)V"⟩, 45) := ⟨⟨by decide +kernel, by decide +kernel⟩, List.mem_of_getElem? (i := 982) (by decide +kernel), List.mem_of_getElem? (i := 1349) (by decide +kernel), List.mem_of_getElem? (i := 1350) (by decide +kernel)⟩
theorem lw_p89 : lw_okq (⟨"TinyShellModel", "test", "()I"⟩, 45) := ⟨⟨by decide +kernel, by decide +kernel⟩, List.mem_of_getElem? (i := 982) (by decide +kernel), List.mem_of_getElem? (i := 1354) (by decide +kernel), List.mem_of_getElem? (i := 1355) (by decide +kernel)⟩
theorem lw_p90 : lw_okq (⟨"TinyShellModel", "sameFields", "(II)Z"⟩, 45) := ⟨⟨by decide +kernel, by decide +kernel⟩, List.mem_of_getElem? (i := 982) (by decide +kernel), List.mem_of_getElem? (i := 1361) (by decide +kernel), List.mem_of_getElem? (i := 1362) (by decide +kernel)⟩
theorem lw_p91 : lw_okq (⟨"TinyShellModel", "exit", "(Z)I"⟩, 45) := ⟨⟨by decide +kernel, by decide +kernel⟩, List.mem_of_getElem? (i := 982) (by decide +kernel), List.mem_of_getElem? (i := 1366) (by decide +kernel), List.mem_of_getElem? (i := 1367) (by decide +kernel)⟩
theorem lw_p92 : lw_okq (⟨"TinyShellModel", "number", "(II)I"⟩, 45) := ⟨⟨by decide +kernel, by decide +kernel⟩, List.mem_of_getElem? (i := 982) (by decide +kernel), List.mem_of_getElem? (i := 1370) (by decide +kernel), List.mem_of_getElem? (i := 1371) (by decide +kernel)⟩
theorem lw_p93 : lw_okq (⟨"TinyShellModel", "head", "()I"⟩, 45) := ⟨⟨by decide +kernel, by decide +kernel⟩, List.mem_of_getElem? (i := 982) (by decide +kernel), List.mem_of_getElem? (i := 1376) (by decide +kernel), List.mem_of_getElem? (i := 1377) (by decide +kernel)⟩
theorem lw_p94 : lw_okq (⟨"TinyShellModel", "cutLines", "()V"⟩, 45) := ⟨⟨by decide +kernel, by decide +kernel⟩, List.mem_of_getElem? (i := 982) (by decide +kernel), List.mem_of_getElem? (i := 1380) (by decide +kernel), List.mem_of_getElem? (i := 1381) (by decide +kernel)⟩
theorem lw_p95 : lw_okq (⟨"TinyShellModel", "outLine", "(I)V"⟩, 45) := ⟨⟨by decide +kernel, by decide +kernel⟩, List.mem_of_getElem? (i := 982) (by decide +kernel), List.mem_of_getElem? (i := 1384) (by decide +kernel), List.mem_of_getElem? (i := 1385) (by decide +kernel)⟩
def lw_privs_6 : List (MethodName × Nat) := [(⟨"TinyShellModel", "is", "(IJI)Z"⟩, 45), (⟨"TinyShellModel", "echo", "()I"⟩, 45), (⟨"TinyShellModel", "out", "(I)V"⟩, 45), (⟨"TinyShellModel", "cat", "()I"⟩, 45), (⟨"TinyShellModel", "setPositions", "()I"⟩, 45), (⟨"TinyShellModel", "unset", "()I"⟩, 45), (⟨"TinyShellModel", "variableIsField", "(II)Z"⟩, 45), (⟨"TinyShellModel", "remove", "()I"⟩, 45), (⟨"TinyShellModel", "dropFile", "(I)V"⟩, 45), (⟨"TinyShellModel", "test", "()I"⟩, 45), (⟨"TinyShellModel", "sameFields", "(II)Z"⟩, 45), (⟨"TinyShellModel", "exit", "(Z)I"⟩, 45), (⟨"TinyShellModel", "number", "(II)I"⟩, 45), (⟨"TinyShellModel", "head", "()I"⟩, 45), (⟨"TinyShellModel", "cutLines", "()V"⟩, 45), (⟨"TinyShellModel", "outLine", "(I)V"⟩, 45)]
theorem lw_r6 : ∀ q ∈ lw_privs_6, lw_okq q := List.forall_mem_cons.mpr ⟨lw_p80, List.forall_mem_cons.mpr ⟨lw_p81, List.forall_mem_cons.mpr ⟨lw_p82, List.forall_mem_cons.mpr ⟨lw_p83, List.forall_mem_cons.mpr ⟨lw_p84, List.forall_mem_cons.mpr ⟨lw_p85, List.forall_mem_cons.mpr ⟨lw_p86, List.forall_mem_cons.mpr ⟨lw_p87, List.forall_mem_cons.mpr ⟨lw_p88, List.forall_mem_cons.mpr ⟨lw_p89, List.forall_mem_cons.mpr ⟨lw_p90, List.forall_mem_cons.mpr ⟨lw_p91, List.forall_mem_cons.mpr ⟨lw_p92, List.forall_mem_cons.mpr ⟨lw_p93, List.forall_mem_cons.mpr ⟨lw_p94, List.forall_mem_cons.mpr ⟨lw_p95, fun _ h => absurd h List.not_mem_nil⟩⟩⟩⟩⟩⟩⟩⟩⟩⟩⟩⟩⟩⟩⟩⟩
theorem lw_p96 : lw_okq (⟨"TinyShellModel", "grep", "()I"⟩, 45) := ⟨⟨by decide +kernel, by decide +kernel⟩, List.mem_of_getElem? (i := 982) (by decide +kernel), List.mem_of_getElem? (i := 1388) (by decide +kernel), List.mem_of_getElem? (i := 1389) (by decide +kernel)⟩
theorem lw_p97 : lw_okq (⟨"TinyShellModel", "stands", "(I)Z"⟩, 45) := ⟨⟨by decide +kernel, by decide +kernel⟩, List.mem_of_getElem? (i := 982) (by decide +kernel), List.mem_of_getElem? (i := 1392) (by decide +kernel), List.mem_of_getElem? (i := 1393) (by decide +kernel)⟩
theorem lw_p98 : lw_okq (⟨"TinyShellModel", "turn", "()I"⟩, 45) := ⟨⟨by decide +kernel, by decide +kernel⟩, List.mem_of_getElem? (i := 982) (by decide +kernel), List.mem_of_getElem? (i := 1397) (by decide +kernel), List.mem_of_getElem? (i := 1398) (by decide +kernel)⟩
theorem lw_p99 : lw_okq (⟨"TinyShellModel", "putCounts", "()V"⟩, 45) := ⟨⟨by decide +kernel, by decide +kernel⟩, List.mem_of_getElem? (i := 982) (by decide +kernel), List.mem_of_getElem? (i := 1407) (by decide +kernel), List.mem_of_getElem? (i := 1408) (by decide +kernel)⟩
theorem lw_p100 : lw_okq (⟨"TinyShellModel", "outNumber", "(I)V"⟩, 45) := ⟨⟨by decide +kernel, by decide +kernel⟩, List.mem_of_getElem? (i := 982) (by decide +kernel), List.mem_of_getElem? (i := 1411) (by decide +kernel), List.mem_of_getElem? (i := 1412) (by decide +kernel)⟩
theorem lw_p101 : lw_okq (⟨"TinyShellModel", "byLines", "(ZZ)V"⟩, 45) := ⟨⟨by decide +kernel, by decide +kernel⟩, List.mem_of_getElem? (i := 982) (by decide +kernel), List.mem_of_getElem? (i := 1415) (by decide +kernel), List.mem_of_getElem? (i := 1416) (by decide +kernel)⟩
theorem lw_p102 : lw_okq (⟨"TinyShellModel", "compareLines", "(II)I"⟩, 45) := ⟨⟨by decide +kernel, by decide +kernel⟩, List.mem_of_getElem? (i := 982) (by decide +kernel), List.mem_of_getElem? (i := 1419) (by decide +kernel), List.mem_of_getElem? (i := 1420) (by decide +kernel)⟩
theorem lw_p103 : lw_okq (⟨"TinyShellModel", "toFile", "()V"⟩, 45) := ⟨⟨by decide +kernel, by decide +kernel⟩, List.mem_of_getElem? (i := 982) (by decide +kernel), List.mem_of_getElem? (i := 1423) (by decide +kernel), List.mem_of_getElem? (i := 1424) (by decide +kernel)⟩
def lw_privs_7 : List (MethodName × Nat) := [(⟨"TinyShellModel", "grep", "()I"⟩, 45), (⟨"TinyShellModel", "stands", "(I)Z"⟩, 45), (⟨"TinyShellModel", "turn", "()I"⟩, 45), (⟨"TinyShellModel", "putCounts", "()V"⟩, 45), (⟨"TinyShellModel", "outNumber", "(I)V"⟩, 45), (⟨"TinyShellModel", "byLines", "(ZZ)V"⟩, 45), (⟨"TinyShellModel", "compareLines", "(II)I"⟩, 45), (⟨"TinyShellModel", "toFile", "()V"⟩, 45)]
theorem lw_r7 : ∀ q ∈ lw_privs_7, lw_okq q := List.forall_mem_cons.mpr ⟨lw_p96, List.forall_mem_cons.mpr ⟨lw_p97, List.forall_mem_cons.mpr ⟨lw_p98, List.forall_mem_cons.mpr ⟨lw_p99, List.forall_mem_cons.mpr ⟨lw_p100, List.forall_mem_cons.mpr ⟨lw_p101, List.forall_mem_cons.mpr ⟨lw_p102, List.forall_mem_cons.mpr ⟨lw_p103, fun _ h => absurd h List.not_mem_nil⟩⟩⟩⟩⟩⟩⟩⟩
def lw_privs : List (MethodName × Nat) := lw_privs_1 ++ (lw_privs_2 ++ (lw_privs_3 ++ (lw_privs_4 ++ (lw_privs_5 ++ (lw_privs_6 ++ (lw_privs_7))))))
def lw_tbl : List Cond := k2_sels lw_privs ++ tables_1
theorem lw_privs_ok : ∀ q ∈ lw_privs, lw_okq q := by
  show ∀ q ∈ lw_privs_1 ++ (lw_privs_2 ++ (lw_privs_3 ++ (lw_privs_4 ++ (lw_privs_5 ++ (lw_privs_6 ++ (lw_privs_7)))))), lw_okq q
  exact List.forall_mem_append.mpr ⟨lw_r1, List.forall_mem_append.mpr ⟨lw_r2, List.forall_mem_append.mpr ⟨lw_r3, List.forall_mem_append.mpr ⟨lw_r4, List.forall_mem_append.mpr ⟨lw_r5, List.forall_mem_append.mpr ⟨lw_r6, lw_r7⟩⟩⟩⟩⟩⟩
end
section
/-! A SMALL MACHINE over a small memory, and its weakest preconditions. A cell has a kind (a number; 0: none that this machine knows), a length, ints, references (0: null) and longs. -/
abbrev mM : Type := (Nat → Nat) × (Nat → Nat) × (Nat → Nat → Int32) × (Nat → Nat → Nat) × (Nat → Nat → Int64) × Nat × Nat
def mkd (M : mM) (a : Nat) : Nat := M.1 a
def mln (M : mM) (a : Nat) : Nat := M.2.1 a
def mi (M : mM) (a k : Nat) : Int32 := M.2.2.1 a k
def mr (M : mM) (a k : Nat) : Nat := M.2.2.2.1 a k
def mj (M : mM) (a k : Nat) : Int64 := M.2.2.2.2.1 a k
def msz (M : mM) : Nat := M.2.2.2.2.2.1
def mns (M : mM) : Nat := M.2.2.2.2.2.2
def mup {α : Type} (f : Nat → α) (a : Nat) (v : α) : Nat → α := fun b => if b = a then v else f b
def mup2 {α : Type} (f : Nat → Nat → α) (a k : Nat) (v : α) : Nat → Nat → α := fun b j => if b = a ∧ j = k then v else f b j
def msi (M : mM) (a k : Nat) (v : Int32) : mM := (M.1, M.2.1, mup2 M.2.2.1 a k v, M.2.2.2)
def msr (M : mM) (a k : Nat) (v : Nat) : mM := (M.1, M.2.1, M.2.2.1, mup2 M.2.2.2.1 a k v, M.2.2.2.2)
def msj (M : mM) (a k : Nat) (v : Int64) : mM := (M.1, M.2.1, M.2.2.1, M.2.2.2.1, mup2 M.2.2.2.2.1 a k v, M.2.2.2.2.2)
/-- a new cell of kind kd and length n, that costs c slots: zeros and nulls -/
def mnw (M : mM) (kd n c : Nat) : mM := (mup M.1 (msz M) kd, mup M.2.1 (msz M) n, mup M.2.2.1 (msz M) (fun _ => 0), mup M.2.2.2.1 (msz M) (fun _ => 0), mup M.2.2.2.2.1 (msz M) (fun _ => 0), msz M + 1, mns M + c)
abbrev mL : Type := List (Option Value)
/-- returned (a value, or none), or threw the object at an address -/
abbrev mO : Type := Option Value ⊕ Nat
/-- an instruction, its length, what it was resolved to -/
abbrev mOp : Type := Instr × Nat × List Nat
/-- the first address of the cells that the machine makes; the addresses of constants -/
abbrev mE : Type := Nat × (Nat → Nat)
def m_at : mL → Nat → Option Value
  | [], _ => none
  | v :: _, 0 => v
  | _ :: l, n + 1 => m_at l n
def m_set : mL → Nat → Option Value → mL
  | [], _, _ => []
  | _ :: l, 0, v => v :: l
  | w :: l, n + 1, v => w :: m_set l n v
/-- what a store at i does to a long that begins one place before it -/
def m_kill (L : mL) : Nat → mL
  | 0 => L
  | i + 1 => match m_at L i with
    | some (.long _) => m_set L i none
    | some (.double _) => m_set L i none
    | _ => L
def m_st1 (L : mL) (i : Nat) (v : Value) : mL := m_set (m_kill L i) i (some v)
def m_st2 (L : mL) (i : Nat) (v : Value) : mL := m_set (m_set (m_kill L i) (i + 1) none) i (some v)
/-- the locals at a method's entry -/
def m_arg : List Value → mL
  | [] => []
  | .long x :: l => some (.long x) :: none :: m_arg l
  | .double x :: l => some (.double x) :: none :: m_arg l
  | v :: l => some v :: m_arg l
def m_ent (as : List Value) (n : Nat) : mL := m_arg as ++ List.replicate (n - (m_arg as).length) none
def m_I (st : List Value) (k : Int32 → List Value → Prop) : Prop := match st with
  | .int x :: r => k x r
  | _ => False
def m_J (st : List Value) (k : Int64 → List Value → Prop) : Prop := match st with
  | .long x :: r => k x r
  | _ => False
def m_R (st : List Value) (k : Nat → List Value → Prop) : Prop := match st with
  | .ref x :: r => k x r
  | _ => False
/-- two ints, the second on top -/
def m_II (st : List Value) (k : Int32 → Int32 → List Value → Prop) : Prop := m_I st fun y r => m_I r fun x r => k x y r
def m_JJ (st : List Value) (k : Int64 → Int64 → List Value → Prop) : Prop := m_J st fun y r => m_J r fun x r => k x y r
def m_JI (st : List Value) (k : Int64 → Int32 → List Value → Prop) : Prop := m_I st fun y r => m_J r fun x r => k x y r
/-- an array's reference, then a place on top -/
def m_RI (st : List Value) (k : Nat → Int32 → List Value → Prop) : Prop := m_I st fun j r => m_R r fun a r => k a j r
def m_lI (L : mL) (i : Nat) (k : Int32 → Prop) : Prop := match m_at L i with
  | some (.int x) => k x
  | _ => False
def m_lJ (L : mL) (i : Nat) (k : Int64 → Prop) : Prop := match m_at L i with
  | some (.long x) => k x
  | _ => False
def m_lR (L : mL) (i : Nat) (k : Nat → Prop) : Prop := match m_at L i with
  | some (.ref x) => k x
  | _ => False
def m_br (c : Prop) (t f : Prop) : Prop := (c → t) ∧ (¬ c → f)
def m_cat (st : List Value) : Nat := (st.map fun v => v.category).sum
/-- how many cells and slots there may be in all -/
def mCC : Nat := 601024
def mCS : Nat := 7293034
def m_room (E : mE) (M : mM) (c : Nat) : Prop := msz M - E.1 + 1 ≤ mCC ∧ mns M + c ≤ mCS
abbrev mG : Type := Nat → mL → List Value → mM → Prop
abbrev mQ : Type := mO → mM → Prop
abbrev mK : Type := mL → List Value → mM → Prop
abbrev mCl : Type := Nat → List Value → mM → mQ → Prop
/-- what is behind a call: a value goes on the stack, an exception goes out -/
def m_back (Q : mQ) (k : mK) (L : mL) (rest : List Value) : mQ := fun o M => match o with
  | .inl none => k L rest M
  | .inl (some v) => k L (v :: rest) M
  | .inr a => Q (.inr a) M
def m_catch (go : mG) (k : mK) (L : mL) (rest : List Value) (h0 h1 : Nat) : mQ := fun o M => match o with
  | .inl none => k L rest M
  | .inl (some v) => k L (v :: rest) M
  | .inr a => (mkd M a = 90 → go h0 L [.ref a] M) ∧ (mkd M a = 91 → go h1 L [.ref a] M) ∧ (mkd M a = 90 ∨ mkd M a = 91)
/-- the block of a tableswitch: the first of ps is the default's -/
def m_tab (lo hi x : Int) (ps : List Nat) : Nat := if x < lo ∨ hi < x then ps.getD 0 0 else ps.getD ((x - lo).toNat + 1) 0
def m_call (call : mCl) (Q : mQ) (y n : Nat) (k : mK) (L : mL) (st : List Value) (M : mM) : Prop := match Nat.ble (m_cat (st.drop n)) 8 with
  | true => call y (st.take n).reverse M (m_back Q k L (st.drop n))
  | false => False
def m_callC (go : mG) (call : mCl) (y n h0 h1 : Nat) (k : mK) (L : mL) (st : List Value) (M : mM) : Prop := match Nat.ble (m_cat (st.drop n)) 8 with
  | true => call y (st.take n).reverse M (m_catch go k L (st.drop n) h0 h1)
  | false => False
def m_recv (st : List Value) (n kd : Nat) (M : mM) (k : Prop) : Prop := match (st.take n).reverse with
  | .ref a :: _ => mkd M a = kd ∧ k
  | _ => False
/-- one instruction -/
def mStep (E : mE) (go : mG) (call : mCl) (Q : mQ) (o : mOp) (k : mK) (L : mL) (st : List Value) (M : mM) : Prop := match o.1 with
  | .iconst n => k L (.int (Int32.ofInt n) :: st) M
  | .bipush n => k L (.int (Int8.ofInt n).toInt32 :: st) M
  | .sipush n => k L (.int (Int16.ofInt n).toInt32 :: st) M
  | .lconst n => k L (.long (Int64.ofNat n.val) :: st) M
  | .ldc2_w _ => k L (.long (lN (o.2.2.getD 0 0)) :: st) M
  | .iload_n i => m_lI L i.val fun x => k L (.int x :: st) M
  | .iload i => m_lI L i fun x => k L (.int x :: st) M
  | .lload_n i => m_lJ L i.val fun x => k L (.long x :: st) M
  | .lload i => m_lJ L i fun x => k L (.long x :: st) M
  | .aload_n i => m_lR L i.val fun x => k L (.ref x :: st) M
  | .aload i => m_lR L i fun x => k L (.ref x :: st) M
  | .istore_n i => m_I st fun x r => k (m_st1 L i.val (.int x)) r M
  | .istore i => m_I st fun x r => k (m_st1 L i (.int x)) r M
  | .lstore_n i => m_J st fun x r => k (m_st2 L i.val (.long x)) r M
  | .lstore i => m_J st fun x r => k (m_st2 L i (.long x)) r M
  | .astore_n i => m_R st fun x r => k (m_st1 L i.val (.ref x)) r M
  | .astore i => m_R st fun x r => k (m_st1 L i (.ref x)) r M
  | .iinc i n => m_lI L i fun x => k (m_st1 L i (.int (x + Int32.ofInt n))) st M
  | .iadd => m_II st fun x y r => k L (.int (x + y) :: r) M
  | .isub => m_II st fun x y r => k L (.int (x - y) :: r) M
  | .imul => m_II st fun x y r => k L (.int (x * y) :: r) M
  | .iand => m_II st fun x y r => k L (.int (x &&& y) :: r) M
  | .ior => m_II st fun x y r => k L (.int (x ||| y) :: r) M
  | .idiv => m_II st fun x y r => ¬ y = 0 ∧ k L (.int (x / y) :: r) M
  | .irem => m_II st fun x y r => ¬ y = 0 ∧ k L (.int (x - x / y * y) :: r) M
  | .ineg => m_I st fun x r => k L (.int (-x) :: r) M
  | .ishl => m_II st fun x y r => k L (.int (x <<< (y &&& 31)) :: r) M
  | .ishr => m_II st fun x y r => k L (.int (x >>> (y &&& 31)) :: r) M
  | .land => m_JJ st fun x y r => k L (.long (x &&& y) :: r) M
  | .lor => m_JJ st fun x y r => k L (.long (x ||| y) :: r) M
  | .lshl => m_JI st fun x y r => k L (.long (x <<< (y.toInt64 &&& 63)) :: r) M
  | .lshr => m_JI st fun x y r => k L (.long (x >>> (y.toInt64 &&& 63)) :: r) M
  | .lushr => m_JI st fun x y r => k L (.long (x.toUInt64 >>> (y.toInt64.toUInt64 &&& Int64.toUInt64 63)).toInt64 :: r) M
  | .lcmp => m_JJ st fun x y r => k L (.int (lg_cmp x y) :: r) M
  | .i2l => m_I st fun x r => k L (.long x.toInt64 :: r) M
  | .l2i => m_J st fun x r => k L (.int x.toInt32 :: r) M
  | .i2c => m_I st fun x r => k L (.int (x.toUInt32 % 65536).toInt32 :: r) M
  | .dup => match st with
    | .int x :: r => k L (.int x :: .int x :: r) M
    | .ref x :: r => k L (.ref x :: .ref x :: r) M
    | _ => False
  | .dup2 => match st with
    | .int y :: .int x :: r => k L (.int y :: .int x :: .int y :: .int x :: r) M
    | .int y :: .ref x :: r => k L (.int y :: .ref x :: .int y :: .ref x :: r) M
    | _ => False
  | .ifCond c _ => m_I st fun x r => match c with
    | .eq => m_br (x = 0) (go (o.2.2.getD 0 0) L r M) (k L r M)
    | .ne => m_br (¬ x = 0) (go (o.2.2.getD 0 0) L r M) (k L r M)
    | .lt => m_br (x < 0) (go (o.2.2.getD 0 0) L r M) (k L r M)
    | .ge => m_br (0 ≤ x) (go (o.2.2.getD 0 0) L r M) (k L r M)
    | .gt => m_br (0 < x) (go (o.2.2.getD 0 0) L r M) (k L r M)
    | .le => m_br (x ≤ 0) (go (o.2.2.getD 0 0) L r M) (k L r M)
  | .if_icmp c _ => m_II st fun x y r => match c with
    | .eq => m_br (x = y) (go (o.2.2.getD 0 0) L r M) (k L r M)
    | .ne => m_br (¬ x = y) (go (o.2.2.getD 0 0) L r M) (k L r M)
    | .lt => m_br (x < y) (go (o.2.2.getD 0 0) L r M) (k L r M)
    | .ge => m_br (y ≤ x) (go (o.2.2.getD 0 0) L r M) (k L r M)
    | .gt => m_br (y < x) (go (o.2.2.getD 0 0) L r M) (k L r M)
    | .le => m_br (x ≤ y) (go (o.2.2.getD 0 0) L r M) (k L r M)
  | .goto _ => go (o.2.2.getD 0 0) L st M
  | .tableswitch _ lo hi _ => m_I st fun x r => go (m_tab lo hi x.toInt o.2.2) L r M
  | .arraylength => m_R st fun a r => mkd M a = o.2.2.getD 0 0 ∧ k L (.int (nI (mln M a)) :: r) M
  | .iaload => m_RI st fun a j r => mkd M a = o.2.2.getD 0 0 ∧ vp_in j (mln M a) ∧ k L (.int (mi M a j.toNatClampNeg) :: r) M
  | .caload => m_RI st fun a j r => mkd M a = 2 ∧ vp_in j (mln M a) ∧ k L (.int (mi M a j.toNatClampNeg) :: r) M
  | .baload => m_RI st fun a j r => mkd M a = o.2.2.getD 0 0 ∧ vp_in j (mln M a) ∧ k L (.int (mi M a j.toNatClampNeg) :: r) M
  | .laload => m_RI st fun a j r => mkd M a = 4 ∧ vp_in j (mln M a) ∧ k L (.long (mj M a j.toNatClampNeg) :: r) M
  | .aaload => m_RI st fun a j r => mkd M a = o.2.2.getD 0 0 ∧ vp_in j (mln M a) ∧ ¬ mr M a j.toNatClampNeg = 0 ∧ k L (.ref (mr M a j.toNatClampNeg) :: r) M
  | .iastore => m_I st fun x r => m_RI r fun a j r => mkd M a = 1 ∧ vp_in j (mln M a) ∧ k L r (msi M a j.toNatClampNeg x)
  | .castore => m_I st fun x r => m_RI r fun a j r => mkd M a = 2 ∧ vp_in j (mln M a) ∧ k L r (msi M a j.toNatClampNeg (vp_nar .char x))
  | .bastore => m_I st fun x r => m_RI r fun a j r => mkd M a = 3 ∧ vp_in j (mln M a) ∧ k L r (msi M a j.toNatClampNeg (vp_nar .boolean x))
  | .lastore => m_J st fun x r => m_RI r fun a j r => mkd M a = 4 ∧ vp_in j (mln M a) ∧ k L r (msj M a j.toNatClampNeg x)
  | .aastore => m_R st fun x r => m_RI r fun a j r => mkd M a = 5 ∧ vp_in j (mln M a) ∧ mkd M x = 101 ∧ k L r (msr M a j.toNatClampNeg x)
  | .getfield _ => match o.2.2 with
    | [kd, f, 1] => m_R st fun a r => mkd M a = kd ∧ ¬ mr M a f = 0 ∧ k L (.ref (mr M a f) :: r) M
    | [kd, f, _] => m_R st fun a r => mkd M a = kd ∧ k L (.int (mi M a f) :: r) M
    | _ => False
  | .putfield _ => match o.2.2 with
    | [kd, f, 1] => m_R st fun x r => m_R r fun a r => mkd M a = kd ∧ ¬ x = 0 ∧ k L r (msr M a f x)
    | [kd, f, 2] => m_I st fun x r => m_R r fun a r => mkd M a = kd ∧ (x = 0 ∨ x = 1) ∧ k L r (msi M a f x)
    | [kd, f, 0] => m_I st fun x r => m_R r fun a r => mkd M a = kd ∧ k L r (msi M a f x)
    | _ => False
  | .new _ => match o.2.2 with
    | [kd, n] => m_room E M n ∧ k L (.ref (msz M) :: st) (mnw M kd 0 n)
    | [kd, _, _] => m_room E M 6 ∧ Q (.inr (msz M)) (mnw M kd 0 6)
    | _ => False
  | .newarray _ => m_I st fun n r => ¬ n < 0 ∧ n.toNatClampNeg ≤ 1000000 ∧ m_room E M n.toNatClampNeg ∧ k L (.ref (msz M) :: r) (mnw M (o.2.2.getD 0 0) n.toNatClampNeg n.toNatClampNeg)
  | .anewarray _ => m_I st fun n r => ¬ n < 0 ∧ n.toNatClampNeg ≤ 1000000 ∧ m_room E M n.toNatClampNeg ∧ k L (.ref (msz M) :: r) (mnw M 5 n.toNatClampNeg n.toNatClampNeg)
  | .invokespecial _ => match o.2.2 with
    | [] => m_R st fun _ r => match Nat.ble (m_cat r) 8 with
      | true => k L r M
      | false => False
    | [y, n] => m_call call Q y n k L st M
    | _ => False
  | .invokestatic _ => match o.2.2 with
    | [y, n] => m_call call Q y n k L st M
    | _ => False
  | .invokevirtual _ => match o.2.2 with
    | [y, n, kd] => m_recv st n kd M (m_call call Q y n k L st M)
    | [y, n, kd, h0, h1] => m_recv st n kd M (m_callC go call y n h0 h1 k L st M)
    | _ => False
  | .ireturn => match st, o.2.2 with
    | [.int x], [0] => Q (.inl (some (.int x))) M
    | [.int x], [1] => (x = 0 ∨ x = 1) ∧ Q (.inl (some (.int x))) M
    | [.int x], [2] => narrow .char (.int x) = .int x ∧ Q (.inl (some (.int x))) M
    | _, _ => False
  | .lreturn => match st with
    | [.long x] => Q (.inl (some (.long x))) M
    | _ => False
  | .areturn => match st with
    | [.ref x] => Q (.inl (some (.ref x))) M
    | _ => False
  | .return_ => match st with
    | [] => Q (.inl none) M
    | _ => False
  | _ => False
def mBlk (E : mE) (go : mG) (call : mCl) (Q : mQ) (nx : Nat) : List mOp → mK
  | [] => go nx
  | o :: os => mStep E go call Q o (mBlk E go call Q nx os)
/-- the weakest precondition of method y at block b, within f blocks -/
def mWp (Pr : Nat → Nat → List mOp × Nat) (nL : Nat → Nat) (E : mE) : Nat → Nat → Nat → mL → List Value → mM → mQ → Prop
  | 0, _, _, _, _, _, _ => False
  | f + 1, y, b, L, st, M, Q => mBlk E (fun b' L' st' M' => mWp Pr nL E f y b' L' st' M' Q) (fun y' as M' K => mWp Pr nL E f y' 0 (m_ent as (nL y')) [] M' K) Q (Pr y b).2 (Pr y b).1 L st M
end
