section
-- ===== PART A: goes FIRST, ahead of the names: the tables' words, and 'selects' of the private methods out of them =====
/-- a private method of a class that the tables say can be made, by its rows of tables_1 -/
def lw_okq (q : MethodName × Nat) : Prop := (q.1.cls ≠ "java/lang/invoke/MethodHandle" ∧ q.1.cls ≠ "java/lang/invoke/VarHandle") ∧ Cond.instantiable q.1.cls q.2 ∈ tables_1 ∧ Cond.privateMethod q.1 ∈ tables_1 ∧ Cond.instanceMethod q.1 ∈ tables_1
theorem lw_p0 : lw_okq (⟨"PatternTrees$Tokens", "behindBlanks", "(I)I"⟩, 8) := ⟨⟨by decide +kernel, by decide +kernel⟩, List.mem_of_getElem? (i := 34) (by decide +kernel), List.mem_of_getElem? (i := 409) (by decide +kernel), List.mem_of_getElem? (i := 410) (by decide +kernel)⟩
theorem lw_p1 : lw_okq (⟨"PatternTrees$Tokens", "cutToken", "(I)I"⟩, 8) := ⟨⟨by decide +kernel, by decide +kernel⟩, List.mem_of_getElem? (i := 34) (by decide +kernel), List.mem_of_getElem? (i := 413) (by decide +kernel), List.mem_of_getElem? (i := 414) (by decide +kernel)⟩
theorem lw_p2 : lw_okq (⟨"PatternTrees$Tokens", "cutLetters", "(I)I"⟩, 8) := ⟨⟨by decide +kernel, by decide +kernel⟩, List.mem_of_getElem? (i := 34) (by decide +kernel), List.mem_of_getElem? (i := 420) (by decide +kernel), List.mem_of_getElem? (i := 421) (by decide +kernel)⟩
theorem lw_p3 : lw_okq (⟨"PatternTrees$Tokens", "kindOfLetters", "(IIZ)I"⟩, 8) := ⟨⟨by decide +kernel, by decide +kernel⟩, List.mem_of_getElem? (i := 34) (by decide +kernel), List.mem_of_getElem? (i := 425) (by decide +kernel), List.mem_of_getElem? (i := 426) (by decide +kernel)⟩
theorem lw_p4 : lw_okq (⟨"PatternTrees$Tokens", "spells", "(Ljava/lang/String;II)Z"⟩, 8) := ⟨⟨by decide +kernel, by decide +kernel⟩, List.mem_of_getElem? (i := 34) (by decide +kernel), List.mem_of_getElem? (i := 430) (by decide +kernel), List.mem_of_getElem? (i := 431) (by decide +kernel)⟩
theorem lw_p5 : lw_okq (⟨"PatternTrees$Tokens", "add", "(IIIJ)V"⟩, 8) := ⟨⟨by decide +kernel, by decide +kernel⟩, List.mem_of_getElem? (i := 34) (by decide +kernel), List.mem_of_getElem? (i := 485) (by decide +kernel), List.mem_of_getElem? (i := 486) (by decide +kernel)⟩
theorem lw_p6 : lw_okq (⟨"PatternTrees$Tokens", "cutDigits", "(I)I"⟩, 8) := ⟨⟨by decide +kernel, by decide +kernel⟩, List.mem_of_getElem? (i := 34) (by decide +kernel), List.mem_of_getElem? (i := 492) (by decide +kernel), List.mem_of_getElem? (i := 493) (by decide +kernel)⟩
theorem lw_p7 : lw_okq (⟨"PatternTrees$Form", "readTypes", "(LPatternTrees$Types;)Z"⟩, 1) := ⟨⟨by decide +kernel, by decide +kernel⟩, List.mem_of_getElem? (i := 28) (by decide +kernel), List.mem_of_getElem? (i := 556) (by decide +kernel), List.mem_of_getElem? (i := 557) (by decide +kernel)⟩
theorem lw_p8 : lw_okq (⟨"PatternTrees$Form", "readType", "(LPatternTrees$Types;Z)Z"⟩, 1) := ⟨⟨by decide +kernel, by decide +kernel⟩, List.mem_of_getElem? (i := 28) (by decide +kernel), List.mem_of_getElem? (i := 568) (by decide +kernel), List.mem_of_getElem? (i := 569) (by decide +kernel)⟩
theorem lw_p9 : lw_okq (⟨"PatternTrees$Form", "pass", "(I)Z"⟩, 1) := ⟨⟨by decide +kernel, by decide +kernel⟩, List.mem_of_getElem? (i := 28) (by decide +kernel), List.mem_of_getElem? (i := 584) (by decide +kernel), List.mem_of_getElem? (i := 585) (by decide +kernel)⟩
theorem lw_p10 : lw_okq (⟨"PatternTrees$Form", "readCon", "(LPatternTrees$Types;Z)Z"⟩, 1) := ⟨⟨by decide +kernel, by decide +kernel⟩, List.mem_of_getElem? (i := 28) (by decide +kernel), List.mem_of_getElem? (i := 588) (by decide +kernel), List.mem_of_getElem? (i := 589) (by decide +kernel)⟩
theorem lw_p11 : lw_okq (⟨"PatternTrees$Form", "readColumns", "(LPatternTrees$Rules;)Z"⟩, 1) := ⟨⟨by decide +kernel, by decide +kernel⟩, List.mem_of_getElem? (i := 28) (by decide +kernel), List.mem_of_getElem? (i := 604) (by decide +kernel), List.mem_of_getElem? (i := 605) (by decide +kernel)⟩
theorem lw_p12 : lw_okq (⟨"PatternTrees$Form", "readRows", "(LPatternTrees$Rules;)Z"⟩, 1) := ⟨⟨by decide +kernel, by decide +kernel⟩, List.mem_of_getElem? (i := 28) (by decide +kernel), List.mem_of_getElem? (i := 612) (by decide +kernel), List.mem_of_getElem? (i := 613) (by decide +kernel)⟩
theorem lw_p13 : lw_okq (⟨"PatternTrees$Form", "readList", "(LPatternTrees$Terms;ZI)I"⟩, 1) := ⟨⟨by decide +kernel, by decide +kernel⟩, List.mem_of_getElem? (i := 28) (by decide +kernel), List.mem_of_getElem? (i := 616) (by decide +kernel), List.mem_of_getElem? (i := 617) (by decide +kernel)⟩
theorem lw_p14 : lw_okq (⟨"PatternTrees$Form", "readTerm", "(LPatternTrees$Terms;ZI)I"⟩, 1) := ⟨⟨by decide +kernel, by decide +kernel⟩, List.mem_of_getElem? (i := 28) (by decide +kernel), List.mem_of_getElem? (i := 620) (by decide +kernel), List.mem_of_getElem? (i := 621) (by decide +kernel)⟩
theorem lw_p15 : lw_okq (⟨"PatternTrees$Form", "readLeaf", "(LPatternTrees$Terms;I)I"⟩, 1) := ⟨⟨by decide +kernel, by decide +kernel⟩, List.mem_of_getElem? (i := 28) (by decide +kernel), List.mem_of_getElem? (i := 624) (by decide +kernel), List.mem_of_getElem? (i := 625) (by decide +kernel)⟩
def lw_privs_1 : List (MethodName × Nat) := [(⟨"PatternTrees$Tokens", "behindBlanks", "(I)I"⟩, 8), (⟨"PatternTrees$Tokens", "cutToken", "(I)I"⟩, 8), (⟨"PatternTrees$Tokens", "cutLetters", "(I)I"⟩, 8), (⟨"PatternTrees$Tokens", "kindOfLetters", "(IIZ)I"⟩, 8), (⟨"PatternTrees$Tokens", "spells", "(Ljava/lang/String;II)Z"⟩, 8), (⟨"PatternTrees$Tokens", "add", "(IIIJ)V"⟩, 8), (⟨"PatternTrees$Tokens", "cutDigits", "(I)I"⟩, 8), (⟨"PatternTrees$Form", "readTypes", "(LPatternTrees$Types;)Z"⟩, 1), (⟨"PatternTrees$Form", "readType", "(LPatternTrees$Types;Z)Z"⟩, 1), (⟨"PatternTrees$Form", "pass", "(I)Z"⟩, 1), (⟨"PatternTrees$Form", "readCon", "(LPatternTrees$Types;Z)Z"⟩, 1), (⟨"PatternTrees$Form", "readColumns", "(LPatternTrees$Rules;)Z"⟩, 1), (⟨"PatternTrees$Form", "readRows", "(LPatternTrees$Rules;)Z"⟩, 1), (⟨"PatternTrees$Form", "readList", "(LPatternTrees$Terms;ZI)I"⟩, 1), (⟨"PatternTrees$Form", "readTerm", "(LPatternTrees$Terms;ZI)I"⟩, 1), (⟨"PatternTrees$Form", "readLeaf", "(LPatternTrees$Terms;I)I"⟩, 1)]
theorem lw_r1 : ∀ q ∈ lw_privs_1, lw_okq q := List.forall_mem_cons.mpr ⟨lw_p0, List.forall_mem_cons.mpr ⟨lw_p1, List.forall_mem_cons.mpr ⟨lw_p2, List.forall_mem_cons.mpr ⟨lw_p3, List.forall_mem_cons.mpr ⟨lw_p4, List.forall_mem_cons.mpr ⟨lw_p5, List.forall_mem_cons.mpr ⟨lw_p6, List.forall_mem_cons.mpr ⟨lw_p7, List.forall_mem_cons.mpr ⟨lw_p8, List.forall_mem_cons.mpr ⟨lw_p9, List.forall_mem_cons.mpr ⟨lw_p10, List.forall_mem_cons.mpr ⟨lw_p11, List.forall_mem_cons.mpr ⟨lw_p12, List.forall_mem_cons.mpr ⟨lw_p13, List.forall_mem_cons.mpr ⟨lw_p14, List.forall_mem_cons.mpr ⟨lw_p15, fun _ h => absurd h List.not_mem_nil⟩⟩⟩⟩⟩⟩⟩⟩⟩⟩⟩⟩⟩⟩⟩⟩
theorem lw_p16 : lw_okq (⟨"PatternTrees$Form", "readConWith", "(LPatternTrees$Terms;ZI)I"⟩, 1) := ⟨⟨by decide +kernel, by decide +kernel⟩, List.mem_of_getElem? (i := 28) (by decide +kernel), List.mem_of_getElem? (i := 633) (by decide +kernel), List.mem_of_getElem? (i := 634) (by decide +kernel)⟩
theorem lw_p17 : lw_okq (⟨"PatternTrees$Form", "readAround", "(LPatternTrees$Terms;II)I"⟩, 1) := ⟨⟨by decide +kernel, by decide +kernel⟩, List.mem_of_getElem? (i := 28) (by decide +kernel), List.mem_of_getElem? (i := 637) (by decide +kernel), List.mem_of_getElem? (i := 638) (by decide +kernel)⟩
theorem lw_p18 : lw_okq (⟨"PatternTrees$Form", "readLetter", "(LPatternTrees$Terms;I)I"⟩, 1) := ⟨⟨by decide +kernel, by decide +kernel⟩, List.mem_of_getElem? (i := 28) (by decide +kernel), List.mem_of_getElem? (i := 641) (by decide +kernel), List.mem_of_getElem? (i := 642) (by decide +kernel)⟩
theorem lw_p19 : lw_okq (⟨"PatternTrees$Form", "atListEnd", "()Z"⟩, 1) := ⟨⟨by decide +kernel, by decide +kernel⟩, List.mem_of_getElem? (i := 28) (by decide +kernel), List.mem_of_getElem? (i := 645) (by decide +kernel), List.mem_of_getElem? (i := 646) (by decide +kernel)⟩
theorem lw_p20 : lw_okq (⟨"PatternTrees$Types", "nameTypes", "()V"⟩, 15) := ⟨⟨by decide +kernel, by decide +kernel⟩, List.mem_of_getElem? (i := 230) (by decide +kernel), List.mem_of_getElem? (i := 661) (by decide +kernel), List.mem_of_getElem? (i := 662) (by decide +kernel)⟩
theorem lw_p21 : lw_okq (⟨"PatternTrees$Types", "findFaultInArgs", "(I)I"⟩, 15) := ⟨⟨by decide +kernel, by decide +kernel⟩, List.mem_of_getElem? (i := 230) (by decide +kernel), List.mem_of_getElem? (i := 673) (by decide +kernel), List.mem_of_getElem? (i := 674) (by decide +kernel)⟩
theorem lw_p22 : lw_okq (⟨"PatternTrees$Rules", "findFaultInList", "(LPatternTrees$Terms;I[IIII)I"⟩, 10) := ⟨⟨by decide +kernel, by decide +kernel⟩, List.mem_of_getElem? (i := 224) (by decide +kernel), List.mem_of_getElem? (i := 682) (by decide +kernel), List.mem_of_getElem? (i := 683) (by decide +kernel)⟩
theorem lw_p23 : lw_okq (⟨"PatternTrees$Rules", "findFaultInTerm", "(LPatternTrees$Terms;II)I"⟩, 10) := ⟨⟨by decide +kernel, by decide +kernel⟩, List.mem_of_getElem? (i := 224) (by decide +kernel), List.mem_of_getElem? (i := 686) (by decide +kernel), List.mem_of_getElem? (i := 687) (by decide +kernel)⟩
theorem lw_p24 : lw_okq (⟨"PatternTrees$Asks", "collectList", "(LPatternTrees$Rules;III)V"⟩, 7) := ⟨⟨by decide +kernel, by decide +kernel⟩, List.mem_of_getElem? (i := 179) (by decide +kernel), List.mem_of_getElem? (i := 708) (by decide +kernel), List.mem_of_getElem? (i := 709) (by decide +kernel)⟩
theorem lw_p25 : lw_okq (⟨"PatternTrees$Asks", "collectPat", "(LPatternTrees$Rules;III)V"⟩, 7) := ⟨⟨by decide +kernel, by decide +kernel⟩, List.mem_of_getElem? (i := 179) (by decide +kernel), List.mem_of_getElem? (i := 712) (by decide +kernel), List.mem_of_getElem? (i := 713) (by decide +kernel)⟩
theorem lw_p26 : lw_okq (⟨"PatternTrees$Asks", "ask", "(III)V"⟩, 7) := ⟨⟨by decide +kernel, by decide +kernel⟩, List.mem_of_getElem? (i := 179) (by decide +kernel), List.mem_of_getElem? (i := 716) (by decide +kernel), List.mem_of_getElem? (i := 717) (by decide +kernel)⟩
theorem lw_p27 : lw_okq (⟨"PatternTrees$Trial", "tryList", "(LPatternTrees$Rules;LPatternTrees$Terms;III)I"⟩, 2) := ⟨⟨by decide +kernel, by decide +kernel⟩, List.mem_of_getElem? (i := 143) (by decide +kernel), List.mem_of_getElem? (i := 756) (by decide +kernel), List.mem_of_getElem? (i := 757) (by decide +kernel)⟩
theorem lw_p28 : lw_okq (⟨"PatternTrees$Trial", "tryPat", "(LPatternTrees$Rules;LPatternTrees$Terms;III)I"⟩, 2) := ⟨⟨by decide +kernel, by decide +kernel⟩, List.mem_of_getElem? (i := 143) (by decide +kernel), List.mem_of_getElem? (i := 760) (by decide +kernel), List.mem_of_getElem? (i := 761) (by decide +kernel)⟩
theorem lw_p29 : lw_okq (⟨"PatternTrees$Trial", "look", "(LPatternTrees$Rules;LPatternTrees$Terms;II)I"⟩, 2) := ⟨⟨by decide +kernel, by decide +kernel⟩, List.mem_of_getElem? (i := 143) (by decide +kernel), List.mem_of_getElem? (i := 765) (by decide +kernel), List.mem_of_getElem? (i := 766) (by decide +kernel)⟩
theorem lw_p30 : lw_okq (⟨"PatternTrees$Trial", "keep", "(I)V"⟩, 2) := ⟨⟨by decide +kernel, by decide +kernel⟩, List.mem_of_getElem? (i := 143) (by decide +kernel), List.mem_of_getElem? (i := 769) (by decide +kernel), List.mem_of_getElem? (i := 770) (by decide +kernel)⟩
theorem lw_p31 : lw_okq (⟨"PatternTrees$Search", "unsettle", "()V"⟩, 4) := ⟨⟨by decide +kernel, by decide +kernel⟩, List.mem_of_getElem? (i := 158) (by decide +kernel), List.mem_of_getElem? (i := 793) (by decide +kernel), List.mem_of_getElem? (i := 794) (by decide +kernel)⟩
def lw_privs_2 : List (MethodName × Nat) := [(⟨"PatternTrees$Form", "readConWith", "(LPatternTrees$Terms;ZI)I"⟩, 1), (⟨"PatternTrees$Form", "readAround", "(LPatternTrees$Terms;II)I"⟩, 1), (⟨"PatternTrees$Form", "readLetter", "(LPatternTrees$Terms;I)I"⟩, 1), (⟨"PatternTrees$Form", "atListEnd", "()Z"⟩, 1), (⟨"PatternTrees$Types", "nameTypes", "()V"⟩, 15), (⟨"PatternTrees$Types", "findFaultInArgs", "(I)I"⟩, 15), (⟨"PatternTrees$Rules", "findFaultInList", "(LPatternTrees$Terms;I[IIII)I"⟩, 10), (⟨"PatternTrees$Rules", "findFaultInTerm", "(LPatternTrees$Terms;II)I"⟩, 10), (⟨"PatternTrees$Asks", "collectList", "(LPatternTrees$Rules;III)V"⟩, 7), (⟨"PatternTrees$Asks", "collectPat", "(LPatternTrees$Rules;III)V"⟩, 7), (⟨"PatternTrees$Asks", "ask", "(III)V"⟩, 7), (⟨"PatternTrees$Trial", "tryList", "(LPatternTrees$Rules;LPatternTrees$Terms;III)I"⟩, 2), (⟨"PatternTrees$Trial", "tryPat", "(LPatternTrees$Rules;LPatternTrees$Terms;III)I"⟩, 2), (⟨"PatternTrees$Trial", "look", "(LPatternTrees$Rules;LPatternTrees$Terms;II)I"⟩, 2), (⟨"PatternTrees$Trial", "keep", "(I)V"⟩, 2), (⟨"PatternTrees$Search", "unsettle", "()V"⟩, 4)]
theorem lw_r2 : ∀ q ∈ lw_privs_2, lw_okq q := List.forall_mem_cons.mpr ⟨lw_p16, List.forall_mem_cons.mpr ⟨lw_p17, List.forall_mem_cons.mpr ⟨lw_p18, List.forall_mem_cons.mpr ⟨lw_p19, List.forall_mem_cons.mpr ⟨lw_p20, List.forall_mem_cons.mpr ⟨lw_p21, List.forall_mem_cons.mpr ⟨lw_p22, List.forall_mem_cons.mpr ⟨lw_p23, List.forall_mem_cons.mpr ⟨lw_p24, List.forall_mem_cons.mpr ⟨lw_p25, List.forall_mem_cons.mpr ⟨lw_p26, List.forall_mem_cons.mpr ⟨lw_p27, List.forall_mem_cons.mpr ⟨lw_p28, List.forall_mem_cons.mpr ⟨lw_p29, List.forall_mem_cons.mpr ⟨lw_p30, List.forall_mem_cons.mpr ⟨lw_p31, fun _ h => absurd h List.not_mem_nil⟩⟩⟩⟩⟩⟩⟩⟩⟩⟩⟩⟩⟩⟩⟩⟩
theorem lw_p32 : lw_okq (⟨"PatternTrees$Search", "escapes", "(LPatternTrees$Types;II)Z"⟩, 4) := ⟨⟨by decide +kernel, by decide +kernel⟩, List.mem_of_getElem? (i := 158) (by decide +kernel), List.mem_of_getElem? (i := 797) (by decide +kernel), List.mem_of_getElem? (i := 798) (by decide +kernel)⟩
theorem lw_p33 : lw_okq (⟨"PatternTrees$Search", "openAsk", "(I)I"⟩, 4) := ⟨⟨by decide +kernel, by decide +kernel⟩, List.mem_of_getElem? (i := 158) (by decide +kernel), List.mem_of_getElem? (i := 801) (by decide +kernel), List.mem_of_getElem? (i := 802) (by decide +kernel)⟩
theorem lw_p34 : lw_okq (⟨"PatternTrees$Search", "unwantedAnswer", "(LPatternTrees$Types;II)I"⟩, 4) := ⟨⟨by decide +kernel, by decide +kernel⟩, List.mem_of_getElem? (i := 158) (by decide +kernel), List.mem_of_getElem? (i := 809) (by decide +kernel), List.mem_of_getElem? (i := 810) (by decide +kernel)⟩
theorem lw_p35 : lw_okq (⟨"PatternTrees$Search", "leastUnwanted", "(III)I"⟩, 4) := ⟨⟨by decide +kernel, by decide +kernel⟩, List.mem_of_getElem? (i := 158) (by decide +kernel), List.mem_of_getElem? (i := 813) (by decide +kernel), List.mem_of_getElem? (i := 814) (by decide +kernel)⟩
theorem lw_p36 : lw_okq (⟨"PatternTrees$Search", "leastWanted", "(III)I"⟩, 4) := ⟨⟨by decide +kernel, by decide +kernel⟩, List.mem_of_getElem? (i := 158) (by decide +kernel), List.mem_of_getElem? (i := 817) (by decide +kernel), List.mem_of_getElem? (i := 818) (by decide +kernel)⟩
theorem lw_p37 : lw_okq (⟨"PatternTrees$Search", "firstAnswer", "(LPatternTrees$Types;II)I"⟩, 4) := ⟨⟨by decide +kernel, by decide +kernel⟩, List.mem_of_getElem? (i := 158) (by decide +kernel), List.mem_of_getElem? (i := 825) (by decide +kernel), List.mem_of_getElem? (i := 826) (by decide +kernel)⟩
theorem lw_p38 : lw_okq (⟨"PatternTrees$Search", "settle", "(III)I"⟩, 4) := ⟨⟨by decide +kernel, by decide +kernel⟩, List.mem_of_getElem? (i := 158) (by decide +kernel), List.mem_of_getElem? (i := 829) (by decide +kernel), List.mem_of_getElem? (i := 830) (by decide +kernel)⟩
theorem lw_p39 : lw_okq (⟨"PatternTrees$Search", "nextAnswer", "(LPatternTrees$Types;III)I"⟩, 4) := ⟨⟨by decide +kernel, by decide +kernel⟩, List.mem_of_getElem? (i := 158) (by decide +kernel), List.mem_of_getElem? (i := 833) (by decide +kernel), List.mem_of_getElem? (i := 834) (by decide +kernel)⟩
theorem lw_p40 : lw_okq (⟨"PatternTrees$Search", "settleExample", "(LPatternTrees$Types;I)V"⟩, 4) := ⟨⟨by decide +kernel, by decide +kernel⟩, List.mem_of_getElem? (i := 158) (by decide +kernel), List.mem_of_getElem? (i := 837) (by decide +kernel), List.mem_of_getElem? (i := 838) (by decide +kernel)⟩
theorem lw_p41 : lw_okq (⟨"PatternTrees$Search", "settleFirst", "(LPatternTrees$Types;III)I"⟩, 4) := ⟨⟨by decide +kernel, by decide +kernel⟩, List.mem_of_getElem? (i := 158) (by decide +kernel), List.mem_of_getElem? (i := 841) (by decide +kernel), List.mem_of_getElem? (i := 842) (by decide +kernel)⟩
theorem lw_p42 : lw_okq (⟨"PatternTrees$Search", "writeExample", "(LPatternTrees$Rules;)V"⟩, 4) := ⟨⟨by decide +kernel, by decide +kernel⟩, List.mem_of_getElem? (i := 158) (by decide +kernel), List.mem_of_getElem? (i := 845) (by decide +kernel), List.mem_of_getElem? (i := 846) (by decide +kernel)⟩
theorem lw_p43 : lw_okq (⟨"PatternTrees$Search", "writeValue", "(LPatternTrees$Types;III)V"⟩, 4) := ⟨⟨by decide +kernel, by decide +kernel⟩, List.mem_of_getElem? (i := 158) (by decide +kernel), List.mem_of_getElem? (i := 853) (by decide +kernel), List.mem_of_getElem? (i := 854) (by decide +kernel)⟩
theorem lw_p44 : lw_okq (⟨"PatternTrees$Search", "writeConWith", "(LPatternTrees$Types;III)V"⟩, 4) := ⟨⟨by decide +kernel, by decide +kernel⟩, List.mem_of_getElem? (i := 158) (by decide +kernel), List.mem_of_getElem? (i := 858) (by decide +kernel), List.mem_of_getElem? (i := 859) (by decide +kernel)⟩
theorem lw_p45 : lw_okq (⟨"PatternTreesModel", "scan", "()V"⟩, 58) := ⟨⟨by decide +kernel, by decide +kernel⟩, List.mem_of_getElem? (i := 884) (by decide +kernel), List.mem_of_getElem? (i := 1077) (by decide +kernel), List.mem_of_getElem? (i := 1078) (by decide +kernel)⟩
theorem lw_p46 : lw_okq (⟨"PatternTreesModel", "byteAt", "(I)I"⟩, 58) := ⟨⟨by decide +kernel, by decide +kernel⟩, List.mem_of_getElem? (i := 884) (by decide +kernel), List.mem_of_getElem? (i := 1081) (by decide +kernel), List.mem_of_getElem? (i := 1082) (by decide +kernel)⟩
theorem lw_p47 : lw_okq (⟨"PatternTreesModel", "scanWord", "(II)I"⟩, 58) := ⟨⟨by decide +kernel, by decide +kernel⟩, List.mem_of_getElem? (i := 884) (by decide +kernel), List.mem_of_getElem? (i := 1091) (by decide +kernel), List.mem_of_getElem? (i := 1092) (by decide +kernel)⟩
def lw_privs_3 : List (MethodName × Nat) := [(⟨"PatternTrees$Search", "escapes", "(LPatternTrees$Types;II)Z"⟩, 4), (⟨"PatternTrees$Search", "openAsk", "(I)I"⟩, 4), (⟨"PatternTrees$Search", "unwantedAnswer", "(LPatternTrees$Types;II)I"⟩, 4), (⟨"PatternTrees$Search", "leastUnwanted", "(III)I"⟩, 4), (⟨"PatternTrees$Search", "leastWanted", "(III)I"⟩, 4), (⟨"PatternTrees$Search", "firstAnswer", "(LPatternTrees$Types;II)I"⟩, 4), (⟨"PatternTrees$Search", "settle", "(III)I"⟩, 4), (⟨"PatternTrees$Search", "nextAnswer", "(LPatternTrees$Types;III)I"⟩, 4), (⟨"PatternTrees$Search", "settleExample", "(LPatternTrees$Types;I)V"⟩, 4), (⟨"PatternTrees$Search", "settleFirst", "(LPatternTrees$Types;III)I"⟩, 4), (⟨"PatternTrees$Search", "writeExample", "(LPatternTrees$Rules;)V"⟩, 4), (⟨"PatternTrees$Search", "writeValue", "(LPatternTrees$Types;III)V"⟩, 4), (⟨"PatternTrees$Search", "writeConWith", "(LPatternTrees$Types;III)V"⟩, 4), (⟨"PatternTreesModel", "scan", "()V"⟩, 58), (⟨"PatternTreesModel", "byteAt", "(I)I"⟩, 58), (⟨"PatternTreesModel", "scanWord", "(II)I"⟩, 58)]
theorem lw_r3 : ∀ q ∈ lw_privs_3, lw_okq q := List.forall_mem_cons.mpr ⟨lw_p32, List.forall_mem_cons.mpr ⟨lw_p33, List.forall_mem_cons.mpr ⟨lw_p34, List.forall_mem_cons.mpr ⟨lw_p35, List.forall_mem_cons.mpr ⟨lw_p36, List.forall_mem_cons.mpr ⟨lw_p37, List.forall_mem_cons.mpr ⟨lw_p38, List.forall_mem_cons.mpr ⟨lw_p39, List.forall_mem_cons.mpr ⟨lw_p40, List.forall_mem_cons.mpr ⟨lw_p41, List.forall_mem_cons.mpr ⟨lw_p42, List.forall_mem_cons.mpr ⟨lw_p43, List.forall_mem_cons.mpr ⟨lw_p44, List.forall_mem_cons.mpr ⟨lw_p45, List.forall_mem_cons.mpr ⟨lw_p46, List.forall_mem_cons.mpr ⟨lw_p47, fun _ h => absurd h List.not_mem_nil⟩⟩⟩⟩⟩⟩⟩⟩⟩⟩⟩⟩⟩⟩⟩⟩
theorem lw_p48 : lw_okq (⟨"PatternTreesModel", "formOfSet", "()V"⟩, 58) := ⟨⟨by decide +kernel, by decide +kernel⟩, List.mem_of_getElem? (i := 884) (by decide +kernel), List.mem_of_getElem? (i := 1101) (by decide +kernel), List.mem_of_getElem? (i := 1102) (by decide +kernel)⟩
theorem lw_p49 : lw_okq (⟨"PatternTreesModel", "isWord", "(J)Z"⟩, 58) := ⟨⟨by decide +kernel, by decide +kernel⟩, List.mem_of_getElem? (i := 884) (by decide +kernel), List.mem_of_getElem? (i := 1106) (by decide +kernel), List.mem_of_getElem? (i := 1107) (by decide +kernel)⟩
theorem lw_p50 : lw_okq (⟨"PatternTreesModel", "takeSort", "(Z)V"⟩, 58) := ⟨⟨by decide +kernel, by decide +kernel⟩, List.mem_of_getElem? (i := 884) (by decide +kernel), List.mem_of_getElem? (i := 1111) (by decide +kernel), List.mem_of_getElem? (i := 1112) (by decide +kernel)⟩
theorem lw_p51 : lw_okq (⟨"PatternTreesModel", "misplaced", "()V"⟩, 58) := ⟨⟨by decide +kernel, by decide +kernel⟩, List.mem_of_getElem? (i := 884) (by decide +kernel), List.mem_of_getElem? (i := 1115) (by decide +kernel), List.mem_of_getElem? (i := 1116) (by decide +kernel)⟩
theorem lw_p52 : lw_okq (⟨"PatternTreesModel", "takeSign", "(I)V"⟩, 58) := ⟨⟨by decide +kernel, by decide +kernel⟩, List.mem_of_getElem? (i := 884) (by decide +kernel), List.mem_of_getElem? (i := 1119) (by decide +kernel), List.mem_of_getElem? (i := 1120) (by decide +kernel)⟩
theorem lw_p53 : lw_okq (⟨"PatternTreesModel", "isSign", "(I)Z"⟩, 58) := ⟨⟨by decide +kernel, by decide +kernel⟩, List.mem_of_getElem? (i := 884) (by decide +kernel), List.mem_of_getElem? (i := 1123) (by decide +kernel), List.mem_of_getElem? (i := 1124) (by decide +kernel)⟩
theorem lw_p54 : lw_okq (⟨"PatternTreesModel", "formOfCons", "()V"⟩, 58) := ⟨⟨by decide +kernel, by decide +kernel⟩, List.mem_of_getElem? (i := 884) (by decide +kernel), List.mem_of_getElem? (i := 1127) (by decide +kernel), List.mem_of_getElem? (i := 1128) (by decide +kernel)⟩
theorem lw_p55 : lw_okq (⟨"PatternTreesModel", "isCon", "()Z"⟩, 58) := ⟨⟨by decide +kernel, by decide +kernel⟩, List.mem_of_getElem? (i := 884) (by decide +kernel), List.mem_of_getElem? (i := 1131) (by decide +kernel), List.mem_of_getElem? (i := 1132) (by decide +kernel)⟩
theorem lw_p56 : lw_okq (⟨"PatternTreesModel", "formOfTypes", "(I)V"⟩, 58) := ⟨⟨by decide +kernel, by decide +kernel⟩, List.mem_of_getElem? (i := 884) (by decide +kernel), List.mem_of_getElem? (i := 1137) (by decide +kernel), List.mem_of_getElem? (i := 1138) (by decide +kernel)⟩
theorem lw_p57 : lw_okq (⟨"PatternTreesModel", "formOfRow", "(Z)V"⟩, 58) := ⟨⟨by decide +kernel, by decide +kernel⟩, List.mem_of_getElem? (i := 884) (by decide +kernel), List.mem_of_getElem? (i := 1141) (by decide +kernel), List.mem_of_getElem? (i := 1142) (by decide +kernel)⟩
theorem lw_p58 : lw_okq (⟨"PatternTreesModel", "beginsPat", "(Z)Z"⟩, 58) := ⟨⟨by decide +kernel, by decide +kernel⟩, List.mem_of_getElem? (i := 884) (by decide +kernel), List.mem_of_getElem? (i := 1145) (by decide +kernel), List.mem_of_getElem? (i := 1146) (by decide +kernel)⟩
theorem lw_p59 : lw_okq (⟨"PatternTreesModel", "closeFronts", "()V"⟩, 58) := ⟨⟨by decide +kernel, by decide +kernel⟩, List.mem_of_getElem? (i := 884) (by decide +kernel), List.mem_of_getElem? (i := 1149) (by decide +kernel), List.mem_of_getElem? (i := 1150) (by decide +kernel)⟩
theorem lw_p60 : lw_okq (⟨"PatternTreesModel", "formOfPat", "(Z)V"⟩, 58) := ⟨⟨by decide +kernel, by decide +kernel⟩, List.mem_of_getElem? (i := 884) (by decide +kernel), List.mem_of_getElem? (i := 1153) (by decide +kernel), List.mem_of_getElem? (i := 1154) (by decide +kernel)⟩
theorem lw_p61 : lw_okq (⟨"PatternTreesModel", "formOfInner", "(Z)V"⟩, 58) := ⟨⟨by decide +kernel, by decide +kernel⟩, List.mem_of_getElem? (i := 884) (by decide +kernel), List.mem_of_getElem? (i := 1158) (by decide +kernel), List.mem_of_getElem? (i := 1159) (by decide +kernel)⟩
theorem lw_p62 : lw_okq (⟨"PatternTreesModel", "meaningOfSet", "(I)V"⟩, 58) := ⟨⟨by decide +kernel, by decide +kernel⟩, List.mem_of_getElem? (i := 884) (by decide +kernel), List.mem_of_getElem? (i := 1162) (by decide +kernel), List.mem_of_getElem? (i := 1163) (by decide +kernel)⟩
theorem lw_p63 : lw_okq (⟨"PatternTreesModel", "meaningOfCons", "(II)V"⟩, 58) := ⟨⟨by decide +kernel, by decide +kernel⟩, List.mem_of_getElem? (i := 884) (by decide +kernel), List.mem_of_getElem? (i := 1167) (by decide +kernel), List.mem_of_getElem? (i := 1168) (by decide +kernel)⟩
def lw_privs_4 : List (MethodName × Nat) := [(⟨"PatternTreesModel", "formOfSet", "()V"⟩, 58), (⟨"PatternTreesModel", "isWord", "(J)Z"⟩, 58), (⟨"PatternTreesModel", "takeSort", "(Z)V"⟩, 58), (⟨"PatternTreesModel", "misplaced", "()V"⟩, 58), (⟨"PatternTreesModel", "takeSign", "(I)V"⟩, 58), (⟨"PatternTreesModel", "isSign", "(I)Z"⟩, 58), (⟨"PatternTreesModel", "formOfCons", "()V"⟩, 58), (⟨"PatternTreesModel", "isCon", "()Z"⟩, 58), (⟨"PatternTreesModel", "formOfTypes", "(I)V"⟩, 58), (⟨"PatternTreesModel", "formOfRow", "(Z)V"⟩, 58), (⟨"PatternTreesModel", "beginsPat", "(Z)Z"⟩, 58), (⟨"PatternTreesModel", "closeFronts", "()V"⟩, 58), (⟨"PatternTreesModel", "formOfPat", "(Z)V"⟩, 58), (⟨"PatternTreesModel", "formOfInner", "(Z)V"⟩, 58), (⟨"PatternTreesModel", "meaningOfSet", "(I)V"⟩, 58), (⟨"PatternTreesModel", "meaningOfCons", "(II)V"⟩, 58)]
theorem lw_r4 : ∀ q ∈ lw_privs_4, lw_okq q := List.forall_mem_cons.mpr ⟨lw_p48, List.forall_mem_cons.mpr ⟨lw_p49, List.forall_mem_cons.mpr ⟨lw_p50, List.forall_mem_cons.mpr ⟨lw_p51, List.forall_mem_cons.mpr ⟨lw_p52, List.forall_mem_cons.mpr ⟨lw_p53, List.forall_mem_cons.mpr ⟨lw_p54, List.forall_mem_cons.mpr ⟨lw_p55, List.forall_mem_cons.mpr ⟨lw_p56, List.forall_mem_cons.mpr ⟨lw_p57, List.forall_mem_cons.mpr ⟨lw_p58, List.forall_mem_cons.mpr ⟨lw_p59, List.forall_mem_cons.mpr ⟨lw_p60, List.forall_mem_cons.mpr ⟨lw_p61, List.forall_mem_cons.mpr ⟨lw_p62, List.forall_mem_cons.mpr ⟨lw_p63, fun _ h => absurd h List.not_mem_nil⟩⟩⟩⟩⟩⟩⟩⟩⟩⟩⟩⟩⟩⟩⟩⟩
theorem lw_p64 : lw_okq (⟨"PatternTreesModel", "findCon", "(IJ)I"⟩, 58) := ⟨⟨by decide +kernel, by decide +kernel⟩, List.mem_of_getElem? (i := 884) (by decide +kernel), List.mem_of_getElem? (i := 1171) (by decide +kernel), List.mem_of_getElem? (i := 1172) (by decide +kernel)⟩
theorem lw_p65 : lw_okq (⟨"PatternTreesModel", "meaningOfType", "(I)V"⟩, 58) := ⟨⟨by decide +kernel, by decide +kernel⟩, List.mem_of_getElem? (i := 884) (by decide +kernel), List.mem_of_getElem? (i := 1175) (by decide +kernel), List.mem_of_getElem? (i := 1176) (by decide +kernel)⟩
theorem lw_p66 : lw_okq (⟨"PatternTreesModel", "meaningOfRow", "(I)V"⟩, 58) := ⟨⟨by decide +kernel, by decide +kernel⟩, List.mem_of_getElem? (i := 884) (by decide +kernel), List.mem_of_getElem? (i := 1179) (by decide +kernel), List.mem_of_getElem? (i := 1180) (by decide +kernel)⟩
theorem lw_p67 : lw_okq (⟨"PatternTreesModel", "comeBehind", "()I"⟩, 58) := ⟨⟨by decide +kernel, by decide +kernel⟩, List.mem_of_getElem? (i := 884) (by decide +kernel), List.mem_of_getElem? (i := 1183) (by decide +kernel), List.mem_of_getElem? (i := 1184) (by decide +kernel)⟩
theorem lw_p68 : lw_okq (⟨"PatternTreesModel", "want", "(II)Z"⟩, 58) := ⟨⟨by decide +kernel, by decide +kernel⟩, List.mem_of_getElem? (i := 884) (by decide +kernel), List.mem_of_getElem? (i := 1187) (by decide +kernel), List.mem_of_getElem? (i := 1188) (by decide +kernel)⟩
theorem lw_p69 : lw_okq (⟨"PatternTreesModel", "meaningOfPat", "(II)I"⟩, 58) := ⟨⟨by decide +kernel, by decide +kernel⟩, List.mem_of_getElem? (i := 884) (by decide +kernel), List.mem_of_getElem? (i := 1191) (by decide +kernel), List.mem_of_getElem? (i := 1192) (by decide +kernel)⟩
theorem lw_p70 : lw_okq (⟨"PatternTreesModel", "act", "(IIII)V"⟩, 58) := ⟨⟨by decide +kernel, by decide +kernel⟩, List.mem_of_getElem? (i := 884) (by decide +kernel), List.mem_of_getElem? (i := 1195) (by decide +kernel), List.mem_of_getElem? (i := 1196) (by decide +kernel)⟩
theorem lw_p71 : lw_okq (⟨"PatternTreesModel", "conHere", "(I)I"⟩, 58) := ⟨⟨by decide +kernel, by decide +kernel⟩, List.mem_of_getElem? (i := 884) (by decide +kernel), List.mem_of_getElem? (i := 1199) (by decide +kernel), List.mem_of_getElem? (i := 1200) (by decide +kernel)⟩
theorem lw_p72 : lw_okq (⟨"PatternTreesModel", "askFor", "(III)V"⟩, 58) := ⟨⟨by decide +kernel, by decide +kernel⟩, List.mem_of_getElem? (i := 884) (by decide +kernel), List.mem_of_getElem? (i := 1203) (by decide +kernel), List.mem_of_getElem? (i := 1204) (by decide +kernel)⟩
theorem lw_p73 : lw_okq (⟨"PatternTreesModel", "findExample", "()V"⟩, 58) := ⟨⟨by decide +kernel, by decide +kernel⟩, List.mem_of_getElem? (i := 884) (by decide +kernel), List.mem_of_getElem? (i := 1207) (by decide +kernel), List.mem_of_getElem? (i := 1208) (by decide +kernel)⟩
theorem lw_p74 : lw_okq (⟨"PatternTreesModel", "openAll", "()V"⟩, 58) := ⟨⟨by decide +kernel, by decide +kernel⟩, List.mem_of_getElem? (i := 884) (by decide +kernel), List.mem_of_getElem? (i := 1211) (by decide +kernel), List.mem_of_getElem? (i := 1212) (by decide +kernel)⟩
theorem lw_p75 : lw_okq (⟨"PatternTreesModel", "search", "()Z"⟩, 58) := ⟨⟨by decide +kernel, by decide +kernel⟩, List.mem_of_getElem? (i := 884) (by decide +kernel), List.mem_of_getElem? (i := 1215) (by decide +kernel), List.mem_of_getElem? (i := 1216) (by decide +kernel)⟩
theorem lw_p76 : lw_okq (⟨"PatternTreesModel", "firstLeft", "()I"⟩, 58) := ⟨⟨by decide +kernel, by decide +kernel⟩, List.mem_of_getElem? (i := 884) (by decide +kernel), List.mem_of_getElem? (i := 1219) (by decide +kernel), List.mem_of_getElem? (i := 1220) (by decide +kernel)⟩
theorem lw_p77 : lw_okq (⟨"PatternTreesModel", "isLeft", "(I)Z"⟩, 58) := ⟨⟨by decide +kernel, by decide +kernel⟩, List.mem_of_getElem? (i := 884) (by decide +kernel), List.mem_of_getElem? (i := 1223) (by decide +kernel), List.mem_of_getElem? (i := 1224) (by decide +kernel)⟩
theorem lw_p78 : lw_okq (⟨"PatternTreesModel", "firstOpen", "(I)I"⟩, 58) := ⟨⟨by decide +kernel, by decide +kernel⟩, List.mem_of_getElem? (i := 884) (by decide +kernel), List.mem_of_getElem? (i := 1227) (by decide +kernel), List.mem_of_getElem? (i := 1228) (by decide +kernel)⟩
theorem lw_p79 : lw_okq (⟨"PatternTreesModel", "nextNumber", "(II)I"⟩, 58) := ⟨⟨by decide +kernel, by decide +kernel⟩, List.mem_of_getElem? (i := 884) (by decide +kernel), List.mem_of_getElem? (i := 1231) (by decide +kernel), List.mem_of_getElem? (i := 1232) (by decide +kernel)⟩
def lw_privs_5 : List (MethodName × Nat) := [(⟨"PatternTreesModel", "findCon", "(IJ)I"⟩, 58), (⟨"PatternTreesModel", "meaningOfType", "(I)V"⟩, 58), (⟨"PatternTreesModel", "meaningOfRow", "(I)V"⟩, 58), (⟨"PatternTreesModel", "comeBehind", "()I"⟩, 58), (⟨"PatternTreesModel", "want", "(II)Z"⟩, 58), (⟨"PatternTreesModel", "meaningOfPat", "(II)I"⟩, 58), (⟨"PatternTreesModel", "act", "(IIII)V"⟩, 58), (⟨"PatternTreesModel", "conHere", "(I)I"⟩, 58), (⟨"PatternTreesModel", "askFor", "(III)V"⟩, 58), (⟨"PatternTreesModel", "findExample", "()V"⟩, 58), (⟨"PatternTreesModel", "openAll", "()V"⟩, 58), (⟨"PatternTreesModel", "search", "()Z"⟩, 58), (⟨"PatternTreesModel", "firstLeft", "()I"⟩, 58), (⟨"PatternTreesModel", "isLeft", "(I)Z"⟩, 58), (⟨"PatternTreesModel", "firstOpen", "(I)I"⟩, 58), (⟨"PatternTreesModel", "nextNumber", "(II)I"⟩, 58)]
theorem lw_r5 : ∀ q ∈ lw_privs_5, lw_okq q := List.forall_mem_cons.mpr ⟨lw_p64, List.forall_mem_cons.mpr ⟨lw_p65, List.forall_mem_cons.mpr ⟨lw_p66, List.forall_mem_cons.mpr ⟨lw_p67, List.forall_mem_cons.mpr ⟨lw_p68, List.forall_mem_cons.mpr ⟨lw_p69, List.forall_mem_cons.mpr ⟨lw_p70, List.forall_mem_cons.mpr ⟨lw_p71, List.forall_mem_cons.mpr ⟨lw_p72, List.forall_mem_cons.mpr ⟨lw_p73, List.forall_mem_cons.mpr ⟨lw_p74, List.forall_mem_cons.mpr ⟨lw_p75, List.forall_mem_cons.mpr ⟨lw_p76, List.forall_mem_cons.mpr ⟨lw_p77, List.forall_mem_cons.mpr ⟨lw_p78, List.forall_mem_cons.mpr ⟨lw_p79, fun _ h => absurd h List.not_mem_nil⟩⟩⟩⟩⟩⟩⟩⟩⟩⟩⟩⟩⟩⟩⟩⟩
theorem lw_p80 : lw_okq (⟨"PatternTreesModel", "isAskedFor", "(II)Z"⟩, 58) := ⟨⟨by decide +kernel, by decide +kernel⟩, List.mem_of_getElem? (i := 884) (by decide +kernel), List.mem_of_getElem? (i := 1235) (by decide +kernel), List.mem_of_getElem? (i := 1236) (by decide +kernel)⟩
theorem lw_p81 : lw_okq (⟨"PatternTreesModel", "firstCon", "(I)I"⟩, 58) := ⟨⟨by decide +kernel, by decide +kernel⟩, List.mem_of_getElem? (i := 884) (by decide +kernel), List.mem_of_getElem? (i := 1239) (by decide +kernel), List.mem_of_getElem? (i := 1240) (by decide +kernel)⟩
theorem lw_p82 : lw_okq (⟨"PatternTreesModel", "nextCon", "(IIII)I"⟩, 58) := ⟨⟨by decide +kernel, by decide +kernel⟩, List.mem_of_getElem? (i := 884) (by decide +kernel), List.mem_of_getElem? (i := 1243) (by decide +kernel), List.mem_of_getElem? (i := 1244) (by decide +kernel)⟩
theorem lw_p83 : lw_okq (⟨"PatternTreesModel", "say", "(I)V"⟩, 58) := ⟨⟨by decide +kernel, by decide +kernel⟩, List.mem_of_getElem? (i := 884) (by decide +kernel), List.mem_of_getElem? (i := 1247) (by decide +kernel), List.mem_of_getElem? (i := 1248) (by decide +kernel)⟩
theorem lw_p84 : lw_okq (⟨"PatternTreesModel", "sayValue", "(II)V"⟩, 58) := ⟨⟨by decide +kernel, by decide +kernel⟩, List.mem_of_getElem? (i := 884) (by decide +kernel), List.mem_of_getElem? (i := 1251) (by decide +kernel), List.mem_of_getElem? (i := 1252) (by decide +kernel)⟩
theorem lw_p85 : lw_okq (⟨"PatternTreesModel", "later", "(II)V"⟩, 58) := ⟨⟨by decide +kernel, by decide +kernel⟩, List.mem_of_getElem? (i := 884) (by decide +kernel), List.mem_of_getElem? (i := 1255) (by decide +kernel), List.mem_of_getElem? (i := 1256) (by decide +kernel)⟩
theorem lw_p86 : lw_okq (⟨"PatternTreesModel", "sayNumber", "(I)V"⟩, 58) := ⟨⟨by decide +kernel, by decide +kernel⟩, List.mem_of_getElem? (i := 884) (by decide +kernel), List.mem_of_getElem? (i := 1259) (by decide +kernel), List.mem_of_getElem? (i := 1260) (by decide +kernel)⟩
theorem lw_p87 : lw_okq (⟨"PatternTreesModel", "sayCon", "(I)V"⟩, 58) := ⟨⟨by decide +kernel, by decide +kernel⟩, List.mem_of_getElem? (i := 884) (by decide +kernel), List.mem_of_getElem? (i := 1263) (by decide +kernel), List.mem_of_getElem? (i := 1264) (by decide +kernel)⟩
theorem lw_p88 : lw_okq (⟨"PatternTreesModel", "meaningOfValues", "(I)V"⟩, 58) := ⟨⟨by decide +kernel, by decide +kernel⟩, List.mem_of_getElem? (i := 884) (by decide +kernel), List.mem_of_getElem? (i := 1280) (by decide +kernel), List.mem_of_getElem? (i := 1281) (by decide +kernel)⟩
theorem lw_p89 : lw_okq (⟨"PatternTreesModel", "tryRow", "(I)I"⟩, 58) := ⟨⟨by decide +kernel, by decide +kernel⟩, List.mem_of_getElem? (i := 884) (by decide +kernel), List.mem_of_getElem? (i := 1284) (by decide +kernel), List.mem_of_getElem? (i := 1285) (by decide +kernel)⟩
theorem lw_p90 : lw_okq (⟨"PatternTreesModel", "lookAt", "(I)V"⟩, 58) := ⟨⟨by decide +kernel, by decide +kernel⟩, List.mem_of_getElem? (i := 884) (by decide +kernel), List.mem_of_getElem? (i := 1288) (by decide +kernel), List.mem_of_getElem? (i := 1289) (by decide +kernel)⟩
def lw_privs_6 : List (MethodName × Nat) := [(⟨"PatternTreesModel", "isAskedFor", "(II)Z"⟩, 58), (⟨"PatternTreesModel", "firstCon", "(I)I"⟩, 58), (⟨"PatternTreesModel", "nextCon", "(IIII)I"⟩, 58), (⟨"PatternTreesModel", "say", "(I)V"⟩, 58), (⟨"PatternTreesModel", "sayValue", "(II)V"⟩, 58), (⟨"PatternTreesModel", "later", "(II)V"⟩, 58), (⟨"PatternTreesModel", "sayNumber", "(I)V"⟩, 58), (⟨"PatternTreesModel", "sayCon", "(I)V"⟩, 58), (⟨"PatternTreesModel", "meaningOfValues", "(I)V"⟩, 58), (⟨"PatternTreesModel", "tryRow", "(I)I"⟩, 58), (⟨"PatternTreesModel", "lookAt", "(I)V"⟩, 58)]
theorem lw_r6 : ∀ q ∈ lw_privs_6, lw_okq q := List.forall_mem_cons.mpr ⟨lw_p80, List.forall_mem_cons.mpr ⟨lw_p81, List.forall_mem_cons.mpr ⟨lw_p82, List.forall_mem_cons.mpr ⟨lw_p83, List.forall_mem_cons.mpr ⟨lw_p84, List.forall_mem_cons.mpr ⟨lw_p85, List.forall_mem_cons.mpr ⟨lw_p86, List.forall_mem_cons.mpr ⟨lw_p87, List.forall_mem_cons.mpr ⟨lw_p88, List.forall_mem_cons.mpr ⟨lw_p89, List.forall_mem_cons.mpr ⟨lw_p90, fun _ h => absurd h List.not_mem_nil⟩⟩⟩⟩⟩⟩⟩⟩⟩⟩⟩
def lw_privs : List (MethodName × Nat) := lw_privs_1 ++ (lw_privs_2 ++ (lw_privs_3 ++ (lw_privs_4 ++ (lw_privs_5 ++ (lw_privs_6)))))
def lw_tbl : List Cond := k2_sels lw_privs ++ tables_1
theorem lw_privs_ok : ∀ q ∈ lw_privs, lw_okq q := by
  show ∀ q ∈ lw_privs_1 ++ (lw_privs_2 ++ (lw_privs_3 ++ (lw_privs_4 ++ (lw_privs_5 ++ (lw_privs_6))))), lw_okq q
  exact List.forall_mem_append.mpr ⟨lw_r1, List.forall_mem_append.mpr ⟨lw_r2, List.forall_mem_append.mpr ⟨lw_r3, List.forall_mem_append.mpr ⟨lw_r4, List.forall_mem_append.mpr ⟨lw_r5, lw_r6⟩⟩⟩⟩⟩
-- the tables of the small machine: printed by a program out of javap's listing
def am_T0 : u_T := fun k => match k with
  | 0 => ("PatternTrees", "form", "LPatternTrees$Form;", true)
  | 1 => ("PatternTrees", "values", "LPatternTrees$Terms;", true)
  | 2 => ("PatternTrees", "trial", "LPatternTrees$Trial;", true)
  | 3 => ("PatternTrees", "search", "LPatternTrees$Search;", true)
  | 4 => ("PatternTrees", "rules", "LPatternTrees$Rules;", false)
  | 5 => ("PatternTrees", "spare", "LPatternTrees$Rules;", false)
  | 6 => ("PatternTrees", "hasSet", "Z", false)
  | _ => ("PatternTrees", "fault", "I", false)
def am_T1 : u_T := fun k => match k with
  | 0 => ("PatternTreesModel", "tape", "[B", true)
  | 1 => ("PatternTreesModel", "size", "I", false)
  | 2 => ("PatternTreesModel", "place", "I", false)
  | 3 => ("PatternTreesModel", "tokens", "I", false)
  | 4 => ("PatternTreesModel", "sorts", "[I", true)
  | 5 => ("PatternTreesModel", "places", "[I", true)
  | 6 => ("PatternTreesModel", "whats", "[J", true)
  | 7 => ("PatternTreesModel", "at", "I", false)
  | 8 => ("PatternTreesModel", "bad", "Z", false)
  | 9 => ("PatternTreesModel", "badPlace", "I", false)
  | 10 => ("PatternTreesModel", "formPats", "I", false)
  | 11 => ("PatternTreesModel", "rowStart", "I", false)
  | 12 => ("PatternTreesModel", "open", "[I", true)
  | 13 => ("PatternTreesModel", "opened", "I", false)
  | 14 => ("PatternTreesModel", "set", "I", false)
  | 15 => ("PatternTreesModel", "typeKinds", "[I", true)
  | 16 => ("PatternTreesModel", "typeCounts", "[I", true)
  | 17 => ("PatternTreesModel", "conCounts", "[I", true)
  | 18 => ("PatternTreesModel", "conNames", "[J", true)
  | 19 => ("PatternTreesModel", "conTypes", "[I", true)
  | 20 => ("PatternTreesModel", "conWide", "[I", true)
  | 21 => ("PatternTreesModel", "conArgs", "[I", true)
  | 22 => ("PatternTreesModel", "columnCounts", "[I", true)
  | 23 => ("PatternTreesModel", "columns", "[I", true)
  | 24 => ("PatternTreesModel", "rowCounts", "[I", true)
  | 25 => ("PatternTreesModel", "patCounts", "[I", true)
  | 26 => ("PatternTreesModel", "guarded", "[Z", true)
  | 27 => ("PatternTreesModel", "actCounts", "[I", true)
  | 28 => ("PatternTreesModel", "actPlaces", "[I", true)
  | 29 => ("PatternTreesModel", "actWhats", "[I", true)
  | 30 => ("PatternTreesModel", "frameCons", "[I", true)
  | 31 => ("PatternTreesModel", "frameCounts", "[I", true)
  | 32 => ("PatternTreesModel", "framePlaces", "[I", true)
  | 33 => ("PatternTreesModel", "frames", "I", false)
  | 34 => ("PatternTreesModel", "wantedType", "I", false)
  | 35 => ("PatternTreesModel", "wantedPlace", "I", false)
  | 36 => ("PatternTreesModel", "lazy", "Z", false)
  | 37 => ("PatternTreesModel", "lazyFrames", "I", false)
  | 38 => ("PatternTreesModel", "values", "[I", true)
  | 39 => ("PatternTreesModel", "wasLooked", "[Z", true)
  | 40 => ("PatternTreesModel", "lookCount", "I", false)
  | 41 => ("PatternTreesModel", "looks", "[I", true)
  | 42 => ("PatternTreesModel", "known", "[I", true)
  | 43 => ("PatternTreesModel", "found", "Z", false)
  | 44 => ("PatternTreesModel", "nevers", "[I", true)
  | 45 => ("PatternTreesModel", "asked", "[I", true)
  | 46 => ("PatternTreesModel", "askedWhats", "[I", true)
  | 47 => ("PatternTreesModel", "askedCount", "I", false)
  | 48 => ("PatternTreesModel", "givens", "[I", true)
  | 49 => ("PatternTreesModel", "givenCount", "I", false)
  | 50 => ("PatternTreesModel", "ahead", "I", false)
  | 51 => ("PatternTreesModel", "askedNumbers", "[Z", true)
  | 52 => ("PatternTreesModel", "askedOther", "[Z", true)
  | 53 => ("PatternTreesModel", "example", "[B", true)
  | 54 => ("PatternTreesModel", "exampleSize", "I", false)
  | 55 => ("PatternTreesModel", "todo", "[I", true)
  | 56 => ("PatternTreesModel", "todoTypes", "[I", true)
  | _ => ("PatternTreesModel", "todoCount", "I", false)
def am_T2 : u_T := fun k => match k with
  | 0 => ("PatternTrees$Asks", "spots", "I", false)
  | 1 => ("PatternTrees$Asks", "count", "I", false)
  | 2 => ("PatternTrees$Asks", "spotPlace", "[I", true)
  | 3 => ("PatternTrees$Asks", "spot", "[I", true)
  | 4 => ("PatternTrees$Asks", "answer", "[I", true)
  | 5 => ("PatternTrees$Asks", "begin", "[I", true)
  | _ => ("PatternTrees$Asks", "wanted", "[I", true)
def am_T3 : u_T := fun k => match k with
  | _ => ("PatternTrees$Form", "tokens", "LPatternTrees$Tokens;", true)
def am_T4 : u_T := fun k => match k with
  | 0 => ("PatternTrees$Line", "length", "I", false)
  | _ => ("PatternTrees$Line", "bytes", "[I", true)
def am_T5 : u_T := fun k => match k with
  | 0 => ("PatternTrees$Rules", "types", "LPatternTrees$Types;", true)
  | 1 => ("PatternTrees$Rules", "pats", "LPatternTrees$Terms;", true)
  | 2 => ("PatternTrees$Rules", "columns", "I", false)
  | 3 => ("PatternTrees$Rules", "rows", "I", false)
  | 4 => ("PatternTrees$Rules", "plainRows", "I", false)
  | 5 => ("PatternTrees$Rules", "head", "[I", true)
  | 6 => ("PatternTrees$Rules", "columnType", "[I", true)
  | 7 => ("PatternTrees$Rules", "columnLetter", "[I", true)
  | 8 => ("PatternTrees$Rules", "columnAt", "[I", true)
  | _ => ("PatternTrees$Rules", "endAt", "[I", true)
def am_T6 : u_T := fun k => match k with
  | 0 => ("PatternTrees$Search", "line", "LPatternTrees$Line;", true)
  | 1 => ("PatternTrees$Search", "asks", "LPatternTrees$Asks;", true)
  | 2 => ("PatternTrees$Search", "settled", "[I", true)
  | _ => ("PatternTrees$Search", "exampleSought", "Z", false)
def am_T7 : u_T := fun k => match k with
  | 0 => ("PatternTrees$Terms", "count", "I", false)
  | 1 => ("PatternTrees$Terms", "head", "I", false)
  | 2 => ("PatternTrees$Terms", "kind", "[I", true)
  | 3 => ("PatternTrees$Terms", "at", "[I", true)
  | 4 => ("PatternTrees$Terms", "nameAt", "[I", true)
  | 5 => ("PatternTrees$Terms", "closeAt", "[I", true)
  | 6 => ("PatternTrees$Terms", "name", "[J", true)
  | 7 => ("PatternTrees$Terms", "number", "[I", true)
  | 8 => ("PatternTrees$Terms", "con", "[I", true)
  | 9 => ("PatternTrees$Terms", "first", "[I", true)
  | _ => ("PatternTrees$Terms", "next", "[I", true)
def am_T8 : u_T := fun k => match k with
  | 0 => ("PatternTrees$Tokens", "bytes", "[I", true)
  | 1 => ("PatternTrees$Tokens", "length", "I", false)
  | 2 => ("PatternTrees$Tokens", "kinds", "[I", true)
  | 3 => ("PatternTrees$Tokens", "places", "[I", true)
  | 4 => ("PatternTrees$Tokens", "numbers", "[I", true)
  | 5 => ("PatternTrees$Tokens", "names", "[J", true)
  | 6 => ("PatternTrees$Tokens", "count", "I", false)
  | _ => ("PatternTrees$Tokens", "current", "I", false)
def am_T9 : u_T := fun k => match k with
  | 0 => ("PatternTrees$Trial", "count", "I", false)
  | _ => ("PatternTrees$Trial", "places", "[I", true)
def am_T10 : u_T := fun k => match k with
  | 0 => ("PatternTrees$Types", "count", "I", false)
  | 1 => ("PatternTrees$Types", "conCount", "I", false)
  | 2 => ("PatternTrees$Types", "isNew", "[Z", true)
  | 3 => ("PatternTrees$Types", "firstCon", "[I", true)
  | 4 => ("PatternTrees$Types", "consOf", "[I", true)
  | 5 => ("PatternTrees$Types", "conType", "[I", true)
  | 6 => ("PatternTrees$Types", "arity", "[I", true)
  | 7 => ("PatternTrees$Types", "conName", "[J", true)
  | 8 => ("PatternTrees$Types", "argType", "[I", true)
  | 9 => ("PatternTrees$Types", "letter", "[I", true)
  | 10 => ("PatternTrees$Types", "letterAt", "[I", true)
  | 11 => ("PatternTrees$Types", "conAt", "[I", true)
  | 12 => ("PatternTrees$Types", "argLetter", "[I", true)
  | 13 => ("PatternTrees$Types", "argAt", "[I", true)
  | _ => ("PatternTrees$Types", "typeOfLetter", "[I", true)
def am_cls : List vw_C := [("PatternTrees", am_T0, 8), ("PatternTreesModel", am_T1, 58), ("PatternTrees$Asks", am_T2, 7), ("PatternTrees$Form", am_T3, 1), ("PatternTrees$Line", am_T4, 2), ("PatternTrees$Rules", am_T5, 10), ("PatternTrees$Search", am_T6, 4), ("PatternTrees$Terms", am_T7, 11), ("PatternTrees$Tokens", am_T8, 8), ("PatternTrees$Trial", am_T9, 2), ("PatternTrees$Types", am_T10, 15)]
def am_N (m : Nat) : Nat := (cond (Nat.ble m 5) (cond (Nat.ble m 2) (cond (Nat.ble m 0) 8 (cond (Nat.ble m 1) 58 7)) (cond (Nat.ble m 3) 1 (cond (Nat.ble m 4) 2 10))) (cond (Nat.ble m 8) (cond (Nat.ble m 6) 4 (cond (Nat.ble m 7) 11 8)) (cond (Nat.ble m 9) 2 (cond (Nat.ble m 10) 15 0))))
def am_nth {α : Type} (d : α) : List α → Nat → α
  | [], _ => d
  | x :: _, 0 => x
  | _ :: r, k + 1 => am_nth d r k
def am_ft (m k : Nat) : FieldType := am_nth .int (cond (Nat.ble m 5) (cond (Nat.ble m 2) (cond (Nat.ble m 0) [(.object "PatternTrees$Form"), (.object "PatternTrees$Terms"), (.object "PatternTrees$Trial"), (.object "PatternTrees$Search"), (.object "PatternTrees$Rules"), (.object "PatternTrees$Rules"), .boolean, .int] (cond (Nat.ble m 1) [(.array .byte), .int, .int, .int, (.array .int), (.array .int), (.array .long), .int, .boolean, .int, .int, .int, (.array .int), .int, .int, (.array .int), (.array .int), (.array .int), (.array .long), (.array .int), (.array .int), (.array .int), (.array .int), (.array .int), (.array .int), (.array .int), (.array .boolean), (.array .int), (.array .int), (.array .int), (.array .int), (.array .int), (.array .int), .int, .int, .int, .boolean, .int, (.array .int), (.array .boolean), .int, (.array .int), (.array .int), .boolean, (.array .int), (.array .int), (.array .int), .int, (.array .int), .int, .int, (.array .boolean), (.array .boolean), (.array .byte), .int, (.array .int), (.array .int), .int] [.int, .int, (.array .int), (.array .int), (.array .int), (.array .int), (.array .int)])) (cond (Nat.ble m 3) [(.object "PatternTrees$Tokens")] (cond (Nat.ble m 4) [.int, (.array .int)] [(.object "PatternTrees$Types"), (.object "PatternTrees$Terms"), .int, .int, .int, (.array .int), (.array .int), (.array .int), (.array .int), (.array .int)]))) (cond (Nat.ble m 8) (cond (Nat.ble m 6) [(.object "PatternTrees$Line"), (.object "PatternTrees$Asks"), (.array .int), .boolean] (cond (Nat.ble m 7) [.int, .int, (.array .int), (.array .int), (.array .int), (.array .int), (.array .long), (.array .int), (.array .int), (.array .int), (.array .int)] [(.array .int), .int, (.array .int), (.array .int), (.array .int), (.array .long), .int, .int])) (cond (Nat.ble m 9) [.int, (.array .int)] (cond (Nat.ble m 10) [.int, .int, (.array .boolean), (.array .int), (.array .int), (.array .int), (.array .int), (.array .long), (.array .int), (.array .int), (.array .int), (.array .int), (.array .int), (.array .int), (.array .int)] [(.array .byte), .byte])))) k
def am_fty (m k : Nat) : Nat := am_nth 9 (cond (Nat.ble m 5) (cond (Nat.ble m 2) (cond (Nat.ble m 0) [3, 3, 3, 3, 3, 3, 1, 0] (cond (Nat.ble m 1) [3, 0, 0, 0, 3, 3, 3, 0, 1, 0, 0, 0, 3, 0, 0, 3, 3, 3, 3, 3, 3, 3, 3, 3, 3, 3, 3, 3, 3, 3, 3, 3, 3, 0, 0, 0, 1, 0, 3, 3, 0, 3, 3, 1, 3, 3, 3, 0, 3, 0, 0, 3, 3, 3, 0, 3, 3, 0] [0, 0, 3, 3, 3, 3, 3])) (cond (Nat.ble m 3) [3] (cond (Nat.ble m 4) [0, 3] [3, 3, 0, 0, 0, 3, 3, 3, 3, 3]))) (cond (Nat.ble m 8) (cond (Nat.ble m 6) [3, 3, 3, 1] (cond (Nat.ble m 7) [0, 0, 3, 3, 3, 3, 3, 3, 3, 3, 3] [3, 0, 3, 3, 3, 3, 0, 0])) (cond (Nat.ble m 9) [0, 3] (cond (Nat.ble m 10) [0, 0, 3, 3, 3, 3, 3, 3, 3, 3, 3, 3, 3, 3, 3] [3, 4])))) k
def am_cn (m : Nat) : String := "java/lang/String"
def am_cN (m : Nat) : Nat := cond (Nat.beq m 11) 2 0
def am_cT (_ : Nat) : u_T := fun k => match k with
  | 0 => ("java/lang/String", "value", "[B", true)
  | _ => ("java/lang/String", "coder", "B", true)
def am_y (m : Nat) : MethodName := (cond (Nat.ble m 91) (cond (Nat.ble m 45) (cond (Nat.ble m 22) (cond (Nat.ble m 10) (cond (Nat.ble m 4) (cond (Nat.ble m 1) (cond (Nat.ble m 0) ⟨"java/lang/Object", "<init>", "()V"⟩ ⟨"java/lang/String", "checkIndex", "(II)V"⟩) (cond (Nat.ble m 2) ⟨"java/lang/Math", "max", "(II)I"⟩ (cond (Nat.ble m 3) ⟨"java/lang/Math", "min", "(II)I"⟩ ⟨"PatternTrees", "<init>", "()V"⟩))) (cond (Nat.ble m 7) (cond (Nat.ble m 5) ⟨"PatternTrees", "feed", "(IIIII)I"⟩ (cond (Nat.ble m 6) ⟨"PatternTrees", "end", "(I)I"⟩ ⟨"PatternTrees", "text", "()I"⟩)) (cond (Nat.ble m 8) ⟨"PatternTrees", "place", "()I"⟩ (cond (Nat.ble m 9) ⟨"PatternTrees", "told", "(I)I"⟩ ⟨"PatternTrees", "run", "(I)I"⟩)))) (cond (Nat.ble m 16) (cond (Nat.ble m 13) (cond (Nat.ble m 11) ⟨"PatternTrees", "looks", "()I"⟩ (cond (Nat.ble m 12) ⟨"PatternTrees", "looked", "(I)I"⟩ ⟨"PatternTrees", "misses", "()I"⟩)) (cond (Nat.ble m 14) ⟨"PatternTrees", "example", "(I)I"⟩ (cond (Nat.ble m 15) ⟨"PatternTrees", "never", "(I)I"⟩ ⟨"PatternTreesModel", "<init>", "()V"⟩))) (cond (Nat.ble m 19) (cond (Nat.ble m 17) ⟨"PatternTreesModel", "isSmall", "(I)Z"⟩ (cond (Nat.ble m 18) ⟨"PatternTreesModel", "isGreat", "(I)Z"⟩ ⟨"PatternTreesModel", "isFigure", "(I)Z"⟩)) (cond (Nat.ble m 20) ⟨"PatternTreesModel", "byteAt", "(I)I"⟩ (cond (Nat.ble m 21) ⟨"PatternTreesModel", "isSignByte", "(I)Z"⟩ ⟨"PatternTreesModel", "scan", "()V"⟩))))) (cond (Nat.ble m 33) (cond (Nat.ble m 27) (cond (Nat.ble m 24) (cond (Nat.ble m 23) ⟨"PatternTreesModel", "scanWord", "(II)I"⟩ ⟨"PatternTreesModel", "misplaced", "()V"⟩) (cond (Nat.ble m 25) ⟨"PatternTreesModel", "isSign", "(I)Z"⟩ (cond (Nat.ble m 26) ⟨"PatternTreesModel", "isWord", "(J)Z"⟩ ⟨"PatternTreesModel", "isCon", "()Z"⟩))) (cond (Nat.ble m 30) (cond (Nat.ble m 28) ⟨"PatternTreesModel", "takeSign", "(I)V"⟩ (cond (Nat.ble m 29) ⟨"PatternTreesModel", "takeSort", "(Z)V"⟩ ⟨"PatternTreesModel", "formOfSet", "()V"⟩)) (cond (Nat.ble m 31) ⟨"PatternTreesModel", "formOfTypes", "(I)V"⟩ (cond (Nat.ble m 32) ⟨"PatternTreesModel", "formOfCons", "()V"⟩ ⟨"PatternTreesModel", "beginsPat", "(Z)Z"⟩)))) (cond (Nat.ble m 39) (cond (Nat.ble m 36) (cond (Nat.ble m 34) ⟨"PatternTreesModel", "formOfRow", "(Z)V"⟩ (cond (Nat.ble m 35) ⟨"PatternTreesModel", "closeFronts", "()V"⟩ ⟨"PatternTreesModel", "formOfPat", "(Z)V"⟩)) (cond (Nat.ble m 37) ⟨"PatternTreesModel", "formOfInner", "(Z)V"⟩ (cond (Nat.ble m 38) ⟨"PatternTreesModel", "findCon", "(IJ)I"⟩ ⟨"PatternTreesModel", "meaningOfSet", "(I)V"⟩))) (cond (Nat.ble m 42) (cond (Nat.ble m 40) ⟨"PatternTreesModel", "meaningOfType", "(I)V"⟩ (cond (Nat.ble m 41) ⟨"PatternTreesModel", "meaningOfCons", "(II)V"⟩ ⟨"PatternTreesModel", "want", "(II)Z"⟩)) (cond (Nat.ble m 43) ⟨"PatternTreesModel", "act", "(IIII)V"⟩ (cond (Nat.ble m 44) ⟨"PatternTreesModel", "meaningOfRow", "(I)V"⟩ ⟨"PatternTreesModel", "comeBehind", "()I"⟩)))))) (cond (Nat.ble m 68) (cond (Nat.ble m 56) (cond (Nat.ble m 50) (cond (Nat.ble m 47) (cond (Nat.ble m 46) ⟨"PatternTreesModel", "meaningOfPat", "(II)I"⟩ ⟨"PatternTreesModel", "conHere", "(I)I"⟩) (cond (Nat.ble m 48) ⟨"PatternTreesModel", "askFor", "(III)V"⟩ (cond (Nat.ble m 49) ⟨"PatternTreesModel", "feed", "(IIIII)I"⟩ ⟨"PatternTreesModel", "end", "(I)I"⟩))) (cond (Nat.ble m 53) (cond (Nat.ble m 51) ⟨"PatternTreesModel", "text", "()I"⟩ (cond (Nat.ble m 52) ⟨"PatternTreesModel", "place", "()I"⟩ ⟨"PatternTreesModel", "told", "(I)I"⟩)) (cond (Nat.ble m 54) ⟨"PatternTreesModel", "meaningOfValues", "(I)V"⟩ (cond (Nat.ble m 55) ⟨"PatternTreesModel", "lookAt", "(I)V"⟩ ⟨"PatternTreesModel", "run", "(I)I"⟩)))) (cond (Nat.ble m 62) (cond (Nat.ble m 59) (cond (Nat.ble m 57) ⟨"PatternTreesModel", "tryRow", "(I)I"⟩ (cond (Nat.ble m 58) ⟨"PatternTreesModel", "looks", "()I"⟩ ⟨"PatternTreesModel", "looked", "(I)I"⟩)) (cond (Nat.ble m 60) ⟨"PatternTreesModel", "isLeft", "(I)Z"⟩ (cond (Nat.ble m 61) ⟨"PatternTreesModel", "firstLeft", "()I"⟩ ⟨"PatternTreesModel", "firstOpen", "(I)I"⟩))) (cond (Nat.ble m 65) (cond (Nat.ble m 63) ⟨"PatternTreesModel", "nextCon", "(IIII)I"⟩ (cond (Nat.ble m 64) ⟨"PatternTreesModel", "isAskedFor", "(II)Z"⟩ ⟨"PatternTreesModel", "nextNumber", "(II)I"⟩)) (cond (Nat.ble m 66) ⟨"PatternTreesModel", "firstCon", "(I)I"⟩ (cond (Nat.ble m 67) ⟨"PatternTreesModel", "search", "()Z"⟩ ⟨"PatternTreesModel", "openAll", "()V"⟩))))) (cond (Nat.ble m 79) (cond (Nat.ble m 73) (cond (Nat.ble m 70) (cond (Nat.ble m 69) ⟨"PatternTreesModel", "findExample", "()V"⟩ ⟨"PatternTreesModel", "say", "(I)V"⟩) (cond (Nat.ble m 71) ⟨"PatternTreesModel", "sayCon", "(I)V"⟩ (cond (Nat.ble m 72) ⟨"PatternTreesModel", "later", "(II)V"⟩ ⟨"PatternTreesModel", "sayValue", "(II)V"⟩))) (cond (Nat.ble m 76) (cond (Nat.ble m 74) ⟨"PatternTreesModel", "sayNumber", "(I)V"⟩ (cond (Nat.ble m 75) ⟨"PatternTreesModel", "misses", "()I"⟩ ⟨"PatternTreesModel", "example", "(I)I"⟩)) (cond (Nat.ble m 77) ⟨"PatternTreesModel", "never", "(I)I"⟩ (cond (Nat.ble m 78) ⟨"PatternTrees$Asks", "<init>", "()V"⟩ ⟨"PatternTrees$Asks", "collect", "(LPatternTrees$Rules;)V"⟩)))) (cond (Nat.ble m 85) (cond (Nat.ble m 82) (cond (Nat.ble m 80) ⟨"PatternTrees$Asks", "wantedAt", "(II)I"⟩ (cond (Nat.ble m 81) ⟨"PatternTrees$Asks", "spotOf", "(I)I"⟩ ⟨"PatternTrees$Asks", "collectList", "(LPatternTrees$Rules;III)V"⟩)) (cond (Nat.ble m 83) ⟨"PatternTrees$Asks", "collectPat", "(LPatternTrees$Rules;III)V"⟩ (cond (Nat.ble m 84) ⟨"PatternTrees$Asks", "ask", "(III)V"⟩ ⟨"PatternTrees$Form", "<init>", "()V"⟩))) (cond (Nat.ble m 88) (cond (Nat.ble m 86) ⟨"PatternTrees$Form", "readSet", "(LPatternTrees$Rules;)Z"⟩ (cond (Nat.ble m 87) ⟨"PatternTrees$Form", "readValues", "(LPatternTrees$Terms;)Z"⟩ ⟨"PatternTrees$Form", "readTypes", "(LPatternTrees$Types;)Z"⟩)) (cond (Nat.ble m 89) ⟨"PatternTrees$Form", "readType", "(LPatternTrees$Types;Z)Z"⟩ (cond (Nat.ble m 90) ⟨"PatternTrees$Form", "readCon", "(LPatternTrees$Types;Z)Z"⟩ ⟨"PatternTrees$Form", "readColumns", "(LPatternTrees$Rules;)Z"⟩))))))) (cond (Nat.ble m 137) (cond (Nat.ble m 114) (cond (Nat.ble m 102) (cond (Nat.ble m 96) (cond (Nat.ble m 93) (cond (Nat.ble m 92) ⟨"PatternTrees$Form", "readRows", "(LPatternTrees$Rules;)Z"⟩ ⟨"PatternTrees$Form", "pass", "(I)Z"⟩) (cond (Nat.ble m 94) ⟨"PatternTrees$Form", "readList", "(LPatternTrees$Terms;ZI)I"⟩ (cond (Nat.ble m 95) ⟨"PatternTrees$Form", "atListEnd", "()Z"⟩ ⟨"PatternTrees$Form", "readTerm", "(LPatternTrees$Terms;ZI)I"⟩))) (cond (Nat.ble m 99) (cond (Nat.ble m 97) ⟨"PatternTrees$Form", "readLeaf", "(LPatternTrees$Terms;I)I"⟩ (cond (Nat.ble m 98) ⟨"PatternTrees$Form", "readLetter", "(LPatternTrees$Terms;I)I"⟩ ⟨"PatternTrees$Form", "readAround", "(LPatternTrees$Terms;II)I"⟩)) (cond (Nat.ble m 100) ⟨"PatternTrees$Form", "readConWith", "(LPatternTrees$Terms;ZI)I"⟩ (cond (Nat.ble m 101) ⟨"PatternTrees$Line", "<init>", "()V"⟩ ⟨"PatternTrees$Line", "clear", "()V"⟩)))) (cond (Nat.ble m 108) (cond (Nat.ble m 105) (cond (Nat.ble m 103) ⟨"PatternTrees$Line", "put", "(I)V"⟩ (cond (Nat.ble m 104) ⟨"PatternTrees$Line", "putNumber", "(I)V"⟩ ⟨"PatternTrees$Line", "putName", "(J)V"⟩)) (cond (Nat.ble m 106) ⟨"PatternTrees$Rules", "<init>", "()V"⟩ (cond (Nat.ble m 107) ⟨"PatternTrees$Rules", "clear", "()V"⟩ ⟨"PatternTrees$Rules", "addColumn", "(II)V"⟩))) (cond (Nat.ble m 111) (cond (Nat.ble m 109) ⟨"PatternTrees$Rules", "addRow", "(IIZ)V"⟩ (cond (Nat.ble m 110) ⟨"PatternTrees$Rules", "isPlain", "(I)Z"⟩ ⟨"PatternTrees$Rules", "findFault", "()I"⟩)) (cond (Nat.ble m 112) ⟨"PatternTrees$Rules", "findFaultInRow", "(LPatternTrees$Terms;II)I"⟩ (cond (Nat.ble m 113) ⟨"PatternTrees$Rules", "findFaultInList", "(LPatternTrees$Terms;I[IIII)I"⟩ ⟨"PatternTrees$Rules", "findFaultInTerm", "(LPatternTrees$Terms;II)I"⟩))))) (cond (Nat.ble m 125) (cond (Nat.ble m 119) (cond (Nat.ble m 116) (cond (Nat.ble m 115) ⟨"PatternTrees$Rules", "isNewCon", "(LPatternTrees$Terms;I)Z"⟩ ⟨"PatternTrees$Search", "<init>", "()V"⟩) (cond (Nat.ble m 117) ⟨"PatternTrees$Search", "begin", "(LPatternTrees$Rules;)V"⟩ (cond (Nat.ble m 118) ⟨"PatternTrees$Search", "findExample", "(LPatternTrees$Rules;)V"⟩ ⟨"PatternTrees$Search", "reaches", "(LPatternTrees$Rules;I)Z"⟩))) (cond (Nat.ble m 122) (cond (Nat.ble m 120) ⟨"PatternTrees$Search", "unsettle", "()V"⟩ (cond (Nat.ble m 121) ⟨"PatternTrees$Search", "settle", "(III)I"⟩ ⟨"PatternTrees$Search", "escapes", "(LPatternTrees$Types;II)Z"⟩)) (cond (Nat.ble m 123) ⟨"PatternTrees$Search", "settleExample", "(LPatternTrees$Types;I)V"⟩ (cond (Nat.ble m 124) ⟨"PatternTrees$Search", "settleFirst", "(LPatternTrees$Types;III)I"⟩ ⟨"PatternTrees$Search", "openAsk", "(I)I"⟩)))) (cond (Nat.ble m 131) (cond (Nat.ble m 128) (cond (Nat.ble m 126) ⟨"PatternTrees$Search", "firstAnswer", "(LPatternTrees$Types;II)I"⟩ (cond (Nat.ble m 127) ⟨"PatternTrees$Search", "nextAnswer", "(LPatternTrees$Types;III)I"⟩ ⟨"PatternTrees$Search", "leastWanted", "(III)I"⟩)) (cond (Nat.ble m 129) ⟨"PatternTrees$Search", "unwantedAnswer", "(LPatternTrees$Types;II)I"⟩ (cond (Nat.ble m 130) ⟨"PatternTrees$Search", "leastUnwanted", "(III)I"⟩ ⟨"PatternTrees$Search", "writeExample", "(LPatternTrees$Rules;)V"⟩))) (cond (Nat.ble m 134) (cond (Nat.ble m 132) ⟨"PatternTrees$Search", "writeValue", "(LPatternTrees$Types;III)V"⟩ (cond (Nat.ble m 133) ⟨"PatternTrees$Search", "writeConWith", "(LPatternTrees$Types;III)V"⟩ ⟨"PatternTrees$Terms", "<init>", "()V"⟩)) (cond (Nat.ble m 135) ⟨"PatternTrees$Terms", "clear", "()V"⟩ (cond (Nat.ble m 136) ⟨"PatternTrees$Terms", "add", "(II)I"⟩ ⟨"PatternTrees$Terms", "isCon", "(I)Z"⟩)))))) (cond (Nat.ble m 160) (cond (Nat.ble m 148) (cond (Nat.ble m 142) (cond (Nat.ble m 139) (cond (Nat.ble m 138) ⟨"PatternTrees$Tokens", "<init>", "()V"⟩ ⟨"PatternTrees$Tokens", "addBytes", "(I)V"⟩) (cond (Nat.ble m 140) ⟨"PatternTrees$Tokens", "kind", "()I"⟩ (cond (Nat.ble m 141) ⟨"PatternTrees$Tokens", "at", "()I"⟩ ⟨"PatternTrees$Tokens", "number", "()I"⟩))) (cond (Nat.ble m 145) (cond (Nat.ble m 143) ⟨"PatternTrees$Tokens", "name", "()J"⟩ (cond (Nat.ble m 144) ⟨"PatternTrees$Tokens", "advance", "()V"⟩ ⟨"PatternTrees$Tokens", "cut", "()V"⟩)) (cond (Nat.ble m 146) ⟨"PatternTrees$Tokens", "behindBlanks", "(I)I"⟩ (cond (Nat.ble m 147) ⟨"PatternTrees$Tokens", "cutToken", "(I)I"⟩ ⟨"PatternTrees$Tokens", "cutLetters", "(I)I"⟩)))) (cond (Nat.ble m 154) (cond (Nat.ble m 151) (cond (Nat.ble m 149) ⟨"PatternTrees$Tokens", "kindOfLetters", "(IIZ)I"⟩ (cond (Nat.ble m 150) ⟨"PatternTrees$Tokens", "spells", "(Ljava/lang/String;II)Z"⟩ ⟨"PatternTrees$Tokens", "cutDigits", "(I)I"⟩)) (cond (Nat.ble m 152) ⟨"PatternTrees$Tokens", "add", "(IIIJ)V"⟩ (cond (Nat.ble m 153) ⟨"PatternTrees$Tokens", "isLetter", "(I)Z"⟩ ⟨"PatternTrees$Tokens", "isDigit", "(I)Z"⟩))) (cond (Nat.ble m 157) (cond (Nat.ble m 155) ⟨"PatternTrees$Trial", "<init>", "()V"⟩ (cond (Nat.ble m 156) ⟨"PatternTrees$Trial", "forget", "()V"⟩ ⟨"PatternTrees$Trial", "tryRows", "(LPatternTrees$Rules;LPatternTrees$Terms;I)I"⟩)) (cond (Nat.ble m 158) ⟨"PatternTrees$Trial", "tryList", "(LPatternTrees$Rules;LPatternTrees$Terms;III)I"⟩ (cond (Nat.ble m 159) ⟨"PatternTrees$Trial", "tryPat", "(LPatternTrees$Rules;LPatternTrees$Terms;III)I"⟩ ⟨"PatternTrees$Trial", "look", "(LPatternTrees$Rules;LPatternTrees$Terms;II)I"⟩))))) (cond (Nat.ble m 171) (cond (Nat.ble m 165) (cond (Nat.ble m 162) (cond (Nat.ble m 161) ⟨"PatternTrees$Trial", "keep", "(I)V"⟩ ⟨"PatternTrees$Types", "<init>", "()V"⟩) (cond (Nat.ble m 163) ⟨"PatternTrees$Types", "clear", "()V"⟩ (cond (Nat.ble m 164) ⟨"PatternTrees$Types", "addType", "(IIZ)V"⟩ ⟨"PatternTrees$Types", "addCon", "(JI)V"⟩))) (cond (Nat.ble m 168) (cond (Nat.ble m 166) ⟨"PatternTrees$Types", "addArg", "(II)V"⟩ (cond (Nat.ble m 167) ⟨"PatternTrees$Types", "typeOf", "(I)I"⟩ ⟨"PatternTrees$Types", "conOf", "(J)I"⟩)) (cond (Nat.ble m 169) ⟨"PatternTrees$Types", "findFault", "()I"⟩ (cond (Nat.ble m 170) ⟨"PatternTrees$Types", "nameTypes", "()V"⟩ ⟨"PatternTrees$Types", "findFaultInArgs", "(I)I"⟩)))) (cond (Nat.ble m 177) (cond (Nat.ble m 174) (cond (Nat.ble m 172) ⟨"PatternTreesLaw", "law", "([I)Z"⟩ (cond (Nat.ble m 173) ⟨"java/lang/String", "length", "()I"⟩ ⟨"java/lang/String", "charAt", "(I)C"⟩)) (cond (Nat.ble m 175) ⟨"java/lang/String", "indexOf", "(I)I"⟩ (cond (Nat.ble m 176) ⟨"java/lang/String", "indexOf", "(II)I"⟩ ⟨"java/lang/String", "coder", "()B"⟩))) (cond (Nat.ble m 180) (cond (Nat.ble m 178) ⟨"java/lang/String", "isLatin1", "()Z"⟩ (cond (Nat.ble m 179) ⟨"java/lang/StringLatin1", "charAt", "([BI)C"⟩ ⟨"java/lang/StringLatin1", "canEncode", "(I)Z"⟩)) (cond (Nat.ble m 181) ⟨"java/lang/StringLatin1", "indexOf", "([BIII)I"⟩ (cond (Nat.ble m 182) ⟨"java/lang/StringLatin1", "indexOfChar", "([BIII)I"⟩ ⟨"java/lang/Integer", "numberOfTrailingZeros", "(I)I"⟩))))))))
def am_by (m : Nat) : ByteArray := (cond (Nat.ble m 91) (cond (Nat.ble m 45) (cond (Nat.ble m 22) (cond (Nat.ble m 10) (cond (Nat.ble m 4) (cond (Nat.ble m 1) (cond (Nat.ble m 0) object_method_1_code prog_16_method_155_code) (cond (Nat.ble m 2) prog_15_method_65_code (cond (Nat.ble m 3) prog_15_method_69_code prog_1_method_1_code))) (cond (Nat.ble m 7) (cond (Nat.ble m 5) prog_1_method_2_code (cond (Nat.ble m 6) prog_1_method_3_code prog_1_method_4_code)) (cond (Nat.ble m 8) prog_1_method_5_code (cond (Nat.ble m 9) prog_1_method_6_code prog_1_method_7_code)))) (cond (Nat.ble m 16) (cond (Nat.ble m 13) (cond (Nat.ble m 11) prog_1_method_8_code (cond (Nat.ble m 12) prog_1_method_9_code prog_1_method_10_code)) (cond (Nat.ble m 14) prog_1_method_11_code (cond (Nat.ble m 15) prog_1_method_12_code prog_12_method_1_code))) (cond (Nat.ble m 19) (cond (Nat.ble m 17) prog_12_method_2_code (cond (Nat.ble m 18) prog_12_method_3_code prog_12_method_4_code)) (cond (Nat.ble m 20) prog_12_method_5_code (cond (Nat.ble m 21) prog_12_method_6_code prog_12_method_7_code))))) (cond (Nat.ble m 33) (cond (Nat.ble m 27) (cond (Nat.ble m 24) (cond (Nat.ble m 23) prog_12_method_8_code prog_12_method_9_code) (cond (Nat.ble m 25) prog_12_method_10_code (cond (Nat.ble m 26) prog_12_method_11_code prog_12_method_12_code))) (cond (Nat.ble m 30) (cond (Nat.ble m 28) prog_12_method_13_code (cond (Nat.ble m 29) prog_12_method_14_code prog_12_method_15_code)) (cond (Nat.ble m 31) prog_12_method_16_code (cond (Nat.ble m 32) prog_12_method_17_code prog_12_method_18_code)))) (cond (Nat.ble m 39) (cond (Nat.ble m 36) (cond (Nat.ble m 34) prog_12_method_19_code (cond (Nat.ble m 35) prog_12_method_20_code prog_12_method_21_code)) (cond (Nat.ble m 37) prog_12_method_22_code (cond (Nat.ble m 38) prog_12_method_23_code prog_12_method_24_code))) (cond (Nat.ble m 42) (cond (Nat.ble m 40) prog_12_method_25_code (cond (Nat.ble m 41) prog_12_method_26_code prog_12_method_27_code)) (cond (Nat.ble m 43) prog_12_method_28_code (cond (Nat.ble m 44) prog_12_method_29_code prog_12_method_30_code)))))) (cond (Nat.ble m 68) (cond (Nat.ble m 56) (cond (Nat.ble m 50) (cond (Nat.ble m 47) (cond (Nat.ble m 46) prog_12_method_31_code prog_12_method_32_code) (cond (Nat.ble m 48) prog_12_method_33_code (cond (Nat.ble m 49) prog_12_method_34_code prog_12_method_35_code))) (cond (Nat.ble m 53) (cond (Nat.ble m 51) prog_12_method_36_code (cond (Nat.ble m 52) prog_12_method_37_code prog_12_method_38_code)) (cond (Nat.ble m 54) prog_12_method_39_code (cond (Nat.ble m 55) prog_12_method_40_code prog_12_method_41_code)))) (cond (Nat.ble m 62) (cond (Nat.ble m 59) (cond (Nat.ble m 57) prog_12_method_42_code (cond (Nat.ble m 58) prog_12_method_43_code prog_12_method_44_code)) (cond (Nat.ble m 60) prog_12_method_45_code (cond (Nat.ble m 61) prog_12_method_46_code prog_12_method_47_code))) (cond (Nat.ble m 65) (cond (Nat.ble m 63) prog_12_method_48_code (cond (Nat.ble m 64) prog_12_method_49_code prog_12_method_50_code)) (cond (Nat.ble m 66) prog_12_method_51_code (cond (Nat.ble m 67) prog_12_method_52_code prog_12_method_53_code))))) (cond (Nat.ble m 79) (cond (Nat.ble m 73) (cond (Nat.ble m 70) (cond (Nat.ble m 69) prog_12_method_54_code prog_12_method_55_code) (cond (Nat.ble m 71) prog_12_method_56_code (cond (Nat.ble m 72) prog_12_method_57_code prog_12_method_58_code))) (cond (Nat.ble m 76) (cond (Nat.ble m 74) prog_12_method_59_code (cond (Nat.ble m 75) prog_12_method_60_code prog_12_method_61_code)) (cond (Nat.ble m 77) prog_12_method_62_code (cond (Nat.ble m 78) prog_2_method_1_code prog_2_method_2_code)))) (cond (Nat.ble m 85) (cond (Nat.ble m 82) (cond (Nat.ble m 80) prog_2_method_3_code (cond (Nat.ble m 81) prog_2_method_4_code prog_2_method_5_code)) (cond (Nat.ble m 83) prog_2_method_6_code (cond (Nat.ble m 84) prog_2_method_7_code prog_3_method_1_code))) (cond (Nat.ble m 88) (cond (Nat.ble m 86) prog_3_method_2_code (cond (Nat.ble m 87) prog_3_method_3_code prog_3_method_4_code)) (cond (Nat.ble m 89) prog_3_method_5_code (cond (Nat.ble m 90) prog_3_method_6_code prog_3_method_7_code))))))) (cond (Nat.ble m 137) (cond (Nat.ble m 114) (cond (Nat.ble m 102) (cond (Nat.ble m 96) (cond (Nat.ble m 93) (cond (Nat.ble m 92) prog_3_method_8_code prog_3_method_9_code) (cond (Nat.ble m 94) prog_3_method_10_code (cond (Nat.ble m 95) prog_3_method_11_code prog_3_method_12_code))) (cond (Nat.ble m 99) (cond (Nat.ble m 97) prog_3_method_13_code (cond (Nat.ble m 98) prog_3_method_14_code prog_3_method_15_code)) (cond (Nat.ble m 100) prog_3_method_16_code (cond (Nat.ble m 101) prog_4_method_1_code prog_4_method_2_code)))) (cond (Nat.ble m 108) (cond (Nat.ble m 105) (cond (Nat.ble m 103) prog_4_method_3_code (cond (Nat.ble m 104) prog_4_method_4_code prog_4_method_5_code)) (cond (Nat.ble m 106) prog_5_method_1_code (cond (Nat.ble m 107) prog_5_method_2_code prog_5_method_3_code))) (cond (Nat.ble m 111) (cond (Nat.ble m 109) prog_5_method_4_code (cond (Nat.ble m 110) prog_5_method_5_code prog_5_method_6_code)) (cond (Nat.ble m 112) prog_5_method_7_code (cond (Nat.ble m 113) prog_5_method_8_code prog_5_method_9_code))))) (cond (Nat.ble m 125) (cond (Nat.ble m 119) (cond (Nat.ble m 116) (cond (Nat.ble m 115) prog_5_method_10_code prog_6_method_1_code) (cond (Nat.ble m 117) prog_6_method_2_code (cond (Nat.ble m 118) prog_6_method_3_code prog_6_method_4_code))) (cond (Nat.ble m 122) (cond (Nat.ble m 120) prog_6_method_5_code (cond (Nat.ble m 121) prog_6_method_6_code prog_6_method_7_code)) (cond (Nat.ble m 123) prog_6_method_8_code (cond (Nat.ble m 124) prog_6_method_9_code prog_6_method_10_code)))) (cond (Nat.ble m 131) (cond (Nat.ble m 128) (cond (Nat.ble m 126) prog_6_method_11_code (cond (Nat.ble m 127) prog_6_method_12_code prog_6_method_13_code)) (cond (Nat.ble m 129) prog_6_method_14_code (cond (Nat.ble m 130) prog_6_method_15_code prog_6_method_16_code))) (cond (Nat.ble m 134) (cond (Nat.ble m 132) prog_6_method_17_code (cond (Nat.ble m 133) prog_6_method_18_code prog_7_method_1_code)) (cond (Nat.ble m 135) prog_7_method_2_code (cond (Nat.ble m 136) prog_7_method_3_code prog_7_method_4_code)))))) (cond (Nat.ble m 160) (cond (Nat.ble m 148) (cond (Nat.ble m 142) (cond (Nat.ble m 139) (cond (Nat.ble m 138) prog_8_method_1_code prog_8_method_2_code) (cond (Nat.ble m 140) prog_8_method_3_code (cond (Nat.ble m 141) prog_8_method_4_code prog_8_method_5_code))) (cond (Nat.ble m 145) (cond (Nat.ble m 143) prog_8_method_6_code (cond (Nat.ble m 144) prog_8_method_7_code prog_8_method_8_code)) (cond (Nat.ble m 146) prog_8_method_9_code (cond (Nat.ble m 147) prog_8_method_10_code prog_8_method_11_code)))) (cond (Nat.ble m 154) (cond (Nat.ble m 151) (cond (Nat.ble m 149) prog_8_method_12_code (cond (Nat.ble m 150) prog_8_method_13_code prog_8_method_14_code)) (cond (Nat.ble m 152) prog_8_method_15_code (cond (Nat.ble m 153) prog_8_method_16_code prog_8_method_17_code))) (cond (Nat.ble m 157) (cond (Nat.ble m 155) prog_9_method_1_code (cond (Nat.ble m 156) prog_9_method_2_code prog_9_method_3_code)) (cond (Nat.ble m 158) prog_9_method_4_code (cond (Nat.ble m 159) prog_9_method_5_code prog_9_method_6_code))))) (cond (Nat.ble m 171) (cond (Nat.ble m 165) (cond (Nat.ble m 162) (cond (Nat.ble m 161) prog_9_method_7_code prog_10_method_1_code) (cond (Nat.ble m 163) prog_10_method_2_code (cond (Nat.ble m 164) prog_10_method_3_code prog_10_method_4_code))) (cond (Nat.ble m 168) (cond (Nat.ble m 166) prog_10_method_5_code (cond (Nat.ble m 167) prog_10_method_6_code prog_10_method_7_code)) (cond (Nat.ble m 169) prog_10_method_8_code (cond (Nat.ble m 170) prog_10_method_9_code prog_10_method_10_code)))) (cond (Nat.ble m 177) (cond (Nat.ble m 174) (cond (Nat.ble m 172) code (cond (Nat.ble m 173) prog_16_method_54_code prog_16_method_56_code)) (cond (Nat.ble m 175) prog_16_method_79_code (cond (Nat.ble m 176) prog_16_method_80_code prog_16_method_152_code))) (cond (Nat.ble m 180) (cond (Nat.ble m 178) prog_16_method_154_code (cond (Nat.ble m 179) prog_17_method_2_code prog_17_method_4_code)) (cond (Nat.ble m 181) prog_17_method_22_code (cond (Nat.ble m 182) prog_17_method_23_code prog_14_method_48_code))))))))
def am_ml (m : Nat) : Nat := (cond (Nat.ble m 91) (cond (Nat.ble m 45) (cond (Nat.ble m 22) (cond (Nat.ble m 10) (cond (Nat.ble m 4) (cond (Nat.ble m 1) (cond (Nat.ble m 0) 1 2) (cond (Nat.ble m 2) 2 (cond (Nat.ble m 3) 2 1))) (cond (Nat.ble m 7) (cond (Nat.ble m 5) 7 (cond (Nat.ble m 6) 3 3)) (cond (Nat.ble m 8) 1 (cond (Nat.ble m 9) 2 4)))) (cond (Nat.ble m 16) (cond (Nat.ble m 13) (cond (Nat.ble m 11) 1 (cond (Nat.ble m 12) 2 1)) (cond (Nat.ble m 14) 2 (cond (Nat.ble m 15) 2 1))) (cond (Nat.ble m 19) (cond (Nat.ble m 17) 1 (cond (Nat.ble m 18) 1 1)) (cond (Nat.ble m 20) 2 (cond (Nat.ble m 21) 1 6))))) (cond (Nat.ble m 33) (cond (Nat.ble m 27) (cond (Nat.ble m 24) (cond (Nat.ble m 23) 8 1) (cond (Nat.ble m 25) 2 (cond (Nat.ble m 26) 3 1))) (cond (Nat.ble m 30) (cond (Nat.ble m 28) 2 (cond (Nat.ble m 29) 2 3)) (cond (Nat.ble m 31) 3 (cond (Nat.ble m 32) 3 2)))) (cond (Nat.ble m 39) (cond (Nat.ble m 36) (cond (Nat.ble m 34) 4 (cond (Nat.ble m 35) 1 3)) (cond (Nat.ble m 37) 2 (cond (Nat.ble m 38) 5 4))) (cond (Nat.ble m 42) (cond (Nat.ble m 40) 2 (cond (Nat.ble m 41) 4 6)) (cond (Nat.ble m 43) 6 (cond (Nat.ble m 44) 6 1)))))) (cond (Nat.ble m 68) (cond (Nat.ble m 56) (cond (Nat.ble m 50) (cond (Nat.ble m 47) (cond (Nat.ble m 46) 7 3) (cond (Nat.ble m 48) 4 (cond (Nat.ble m 49) 9 2))) (cond (Nat.ble m 53) (cond (Nat.ble m 51) 3 (cond (Nat.ble m 52) 1 2)) (cond (Nat.ble m 54) 5 (cond (Nat.ble m 55) 3 5)))) (cond (Nat.ble m 62) (cond (Nat.ble m 59) (cond (Nat.ble m 57) 5 (cond (Nat.ble m 58) 1 2)) (cond (Nat.ble m 60) 5 (cond (Nat.ble m 61) 2 3))) (cond (Nat.ble m 65) (cond (Nat.ble m 63) 6 (cond (Nat.ble m 64) 6 4)) (cond (Nat.ble m 66) 3 (cond (Nat.ble m 67) 7 2))))) (cond (Nat.ble m 79) (cond (Nat.ble m 73) (cond (Nat.ble m 70) (cond (Nat.ble m 69) 2 2) (cond (Nat.ble m 71) 5 (cond (Nat.ble m 72) 3 9))) (cond (Nat.ble m 76) (cond (Nat.ble m 74) 2 (cond (Nat.ble m 75) 1 2)) (cond (Nat.ble m 77) 4 (cond (Nat.ble m 78) 1 3)))) (cond (Nat.ble m 85) (cond (Nat.ble m 82) (cond (Nat.ble m 80) 3 (cond (Nat.ble m 81) 3 7)) (cond (Nat.ble m 83) 8 (cond (Nat.ble m 84) 5 1))) (cond (Nat.ble m 88) (cond (Nat.ble m 86) 2 (cond (Nat.ble m 87) 2 4)) (cond (Nat.ble m 89) 4 (cond (Nat.ble m 90) 5 3))))))) (cond (Nat.ble m 137) (cond (Nat.ble m 114) (cond (Nat.ble m 102) (cond (Nat.ble m 96) (cond (Nat.ble m 93) (cond (Nat.ble m 92) 6 2) (cond (Nat.ble m 94) 8 (cond (Nat.ble m 95) 2 5))) (cond (Nat.ble m 99) (cond (Nat.ble m 97) 4 (cond (Nat.ble m 98) 4 4)) (cond (Nat.ble m 100) 5 (cond (Nat.ble m 101) 1 1)))) (cond (Nat.ble m 108) (cond (Nat.ble m 105) (cond (Nat.ble m 103) 2 (cond (Nat.ble m 104) 2 5)) (cond (Nat.ble m 106) 1 (cond (Nat.ble m 107) 1 3))) (cond (Nat.ble m 111) (cond (Nat.ble m 109) 4 (cond (Nat.ble m 110) 2 3)) (cond (Nat.ble m 112) 4 (cond (Nat.ble m 113) 10 5))))) (cond (Nat.ble m 125) (cond (Nat.ble m 119) (cond (Nat.ble m 116) (cond (Nat.ble m 115) 4 1) (cond (Nat.ble m 117) 2 (cond (Nat.ble m 118) 2 5))) (cond (Nat.ble m 122) (cond (Nat.ble m 120) 2 (cond (Nat.ble m 121) 8 10)) (cond (Nat.ble m 123) 6 (cond (Nat.ble m 124) 9 4)))) (cond (Nat.ble m 131) (cond (Nat.ble m 128) (cond (Nat.ble m 126) 5 (cond (Nat.ble m 127) 6 7)) (cond (Nat.ble m 129) 7 (cond (Nat.ble m 130) 6 3))) (cond (Nat.ble m 134) (cond (Nat.ble m 132) 7 (cond (Nat.ble m 133) 6 1)) (cond (Nat.ble m 135) 1 (cond (Nat.ble m 136) 4 2)))))) (cond (Nat.ble m 160) (cond (Nat.ble m 148) (cond (Nat.ble m 142) (cond (Nat.ble m 139) (cond (Nat.ble m 138) 1 3) (cond (Nat.ble m 140) 1 (cond (Nat.ble m 141) 1 1))) (cond (Nat.ble m 145) (cond (Nat.ble m 143) 1 (cond (Nat.ble m 144) 1 3)) (cond (Nat.ble m 146) 3 (cond (Nat.ble m 147) 3 6)))) (cond (Nat.ble m 154) (cond (Nat.ble m 151) (cond (Nat.ble m 149) 4 (cond (Nat.ble m 150) 5 6)) (cond (Nat.ble m 152) 6 (cond (Nat.ble m 153) 1 1))) (cond (Nat.ble m 157) (cond (Nat.ble m 155) 1 (cond (Nat.ble m 156) 1 7)) (cond (Nat.ble m 158) 10 (cond (Nat.ble m 159) 10 7))))) (cond (Nat.ble m 171) (cond (Nat.ble m 165) (cond (Nat.ble m 162) (cond (Nat.ble m 161) 3 1) (cond (Nat.ble m 163) 1 (cond (Nat.ble m 164) 4 4))) (cond (Nat.ble m 168) (cond (Nat.ble m 166) 5 (cond (Nat.ble m 167) 2 4)) (cond (Nat.ble m 169) 5 (cond (Nat.ble m 170) 3 4)))) (cond (Nat.ble m 177) (cond (Nat.ble m 174) (cond (Nat.ble m 172) 4 (cond (Nat.ble m 173) 1 2)) (cond (Nat.ble m 175) 2 (cond (Nat.ble m 176) 3 1))) (cond (Nat.ble m 180) (cond (Nat.ble m 178) 1 (cond (Nat.ble m 179) 2 1)) (cond (Nat.ble m 181) 4 (cond (Nat.ble m 182) 6 2))))))))
def am_rT (m : Nat) : Option FieldType := (cond (Nat.ble m 91) (cond (Nat.ble m 45) (cond (Nat.ble m 22) (cond (Nat.ble m 10) (cond (Nat.ble m 4) (cond (Nat.ble m 1) (cond (Nat.ble m 0) none none) (cond (Nat.ble m 2) (some .int) (cond (Nat.ble m 3) (some .int) none))) (cond (Nat.ble m 7) (cond (Nat.ble m 5) (some .int) (cond (Nat.ble m 6) (some .int) (some .int))) (cond (Nat.ble m 8) (some .int) (cond (Nat.ble m 9) (some .int) (some .int))))) (cond (Nat.ble m 16) (cond (Nat.ble m 13) (cond (Nat.ble m 11) (some .int) (cond (Nat.ble m 12) (some .int) (some .int))) (cond (Nat.ble m 14) (some .int) (cond (Nat.ble m 15) (some .int) none))) (cond (Nat.ble m 19) (cond (Nat.ble m 17) (some .boolean) (cond (Nat.ble m 18) (some .boolean) (some .boolean))) (cond (Nat.ble m 20) (some .int) (cond (Nat.ble m 21) (some .boolean) none))))) (cond (Nat.ble m 33) (cond (Nat.ble m 27) (cond (Nat.ble m 24) (cond (Nat.ble m 23) (some .int) none) (cond (Nat.ble m 25) (some .boolean) (cond (Nat.ble m 26) (some .boolean) (some .boolean)))) (cond (Nat.ble m 30) (cond (Nat.ble m 28) none (cond (Nat.ble m 29) none none)) (cond (Nat.ble m 31) none (cond (Nat.ble m 32) none (some .boolean))))) (cond (Nat.ble m 39) (cond (Nat.ble m 36) (cond (Nat.ble m 34) none (cond (Nat.ble m 35) none none)) (cond (Nat.ble m 37) none (cond (Nat.ble m 38) (some .int) none))) (cond (Nat.ble m 42) (cond (Nat.ble m 40) none (cond (Nat.ble m 41) none (some .boolean))) (cond (Nat.ble m 43) none (cond (Nat.ble m 44) none (some .int))))))) (cond (Nat.ble m 68) (cond (Nat.ble m 56) (cond (Nat.ble m 50) (cond (Nat.ble m 47) (cond (Nat.ble m 46) (some .int) (some .int)) (cond (Nat.ble m 48) none (cond (Nat.ble m 49) (some .int) (some .int)))) (cond (Nat.ble m 53) (cond (Nat.ble m 51) (some .int) (cond (Nat.ble m 52) (some .int) (some .int))) (cond (Nat.ble m 54) none (cond (Nat.ble m 55) none (some .int))))) (cond (Nat.ble m 62) (cond (Nat.ble m 59) (cond (Nat.ble m 57) (some .int) (cond (Nat.ble m 58) (some .int) (some .int))) (cond (Nat.ble m 60) (some .boolean) (cond (Nat.ble m 61) (some .int) (some .int)))) (cond (Nat.ble m 65) (cond (Nat.ble m 63) (some .int) (cond (Nat.ble m 64) (some .boolean) (some .int))) (cond (Nat.ble m 66) (some .int) (cond (Nat.ble m 67) (some .boolean) none))))) (cond (Nat.ble m 79) (cond (Nat.ble m 73) (cond (Nat.ble m 70) (cond (Nat.ble m 69) none none) (cond (Nat.ble m 71) none (cond (Nat.ble m 72) none none))) (cond (Nat.ble m 76) (cond (Nat.ble m 74) none (cond (Nat.ble m 75) (some .int) (some .int))) (cond (Nat.ble m 77) (some .int) (cond (Nat.ble m 78) none none)))) (cond (Nat.ble m 85) (cond (Nat.ble m 82) (cond (Nat.ble m 80) (some .int) (cond (Nat.ble m 81) (some .int) none)) (cond (Nat.ble m 83) none (cond (Nat.ble m 84) none none))) (cond (Nat.ble m 88) (cond (Nat.ble m 86) (some .boolean) (cond (Nat.ble m 87) (some .boolean) (some .boolean))) (cond (Nat.ble m 89) (some .boolean) (cond (Nat.ble m 90) (some .boolean) (some .boolean)))))))) (cond (Nat.ble m 137) (cond (Nat.ble m 114) (cond (Nat.ble m 102) (cond (Nat.ble m 96) (cond (Nat.ble m 93) (cond (Nat.ble m 92) (some .boolean) (some .boolean)) (cond (Nat.ble m 94) (some .int) (cond (Nat.ble m 95) (some .boolean) (some .int)))) (cond (Nat.ble m 99) (cond (Nat.ble m 97) (some .int) (cond (Nat.ble m 98) (some .int) (some .int))) (cond (Nat.ble m 100) (some .int) (cond (Nat.ble m 101) none none)))) (cond (Nat.ble m 108) (cond (Nat.ble m 105) (cond (Nat.ble m 103) none (cond (Nat.ble m 104) none none)) (cond (Nat.ble m 106) none (cond (Nat.ble m 107) none none))) (cond (Nat.ble m 111) (cond (Nat.ble m 109) none (cond (Nat.ble m 110) (some .boolean) (some .int))) (cond (Nat.ble m 112) (some .int) (cond (Nat.ble m 113) (some .int) (some .int)))))) (cond (Nat.ble m 125) (cond (Nat.ble m 119) (cond (Nat.ble m 116) (cond (Nat.ble m 115) (some .boolean) none) (cond (Nat.ble m 117) none (cond (Nat.ble m 118) none (some .boolean)))) (cond (Nat.ble m 122) (cond (Nat.ble m 120) none (cond (Nat.ble m 121) (some .int) (some .boolean))) (cond (Nat.ble m 123) none (cond (Nat.ble m 124) (some .int) (some .int))))) (cond (Nat.ble m 131) (cond (Nat.ble m 128) (cond (Nat.ble m 126) (some .int) (cond (Nat.ble m 127) (some .int) (some .int))) (cond (Nat.ble m 129) (some .int) (cond (Nat.ble m 130) (some .int) none))) (cond (Nat.ble m 134) (cond (Nat.ble m 132) none (cond (Nat.ble m 133) none none)) (cond (Nat.ble m 135) none (cond (Nat.ble m 136) (some .int) (some .boolean))))))) (cond (Nat.ble m 160) (cond (Nat.ble m 148) (cond (Nat.ble m 142) (cond (Nat.ble m 139) (cond (Nat.ble m 138) none none) (cond (Nat.ble m 140) (some .int) (cond (Nat.ble m 141) (some .int) (some .int)))) (cond (Nat.ble m 145) (cond (Nat.ble m 143) (some .long) (cond (Nat.ble m 144) none none)) (cond (Nat.ble m 146) (some .int) (cond (Nat.ble m 147) (some .int) (some .int))))) (cond (Nat.ble m 154) (cond (Nat.ble m 151) (cond (Nat.ble m 149) (some .int) (cond (Nat.ble m 150) (some .boolean) (some .int))) (cond (Nat.ble m 152) none (cond (Nat.ble m 153) (some .boolean) (some .boolean)))) (cond (Nat.ble m 157) (cond (Nat.ble m 155) none (cond (Nat.ble m 156) none (some .int))) (cond (Nat.ble m 158) (some .int) (cond (Nat.ble m 159) (some .int) (some .int)))))) (cond (Nat.ble m 171) (cond (Nat.ble m 165) (cond (Nat.ble m 162) (cond (Nat.ble m 161) none none) (cond (Nat.ble m 163) none (cond (Nat.ble m 164) none none))) (cond (Nat.ble m 168) (cond (Nat.ble m 166) none (cond (Nat.ble m 167) (some .int) (some .int))) (cond (Nat.ble m 169) (some .int) (cond (Nat.ble m 170) none (some .int))))) (cond (Nat.ble m 177) (cond (Nat.ble m 174) (cond (Nat.ble m 172) (some .boolean) (cond (Nat.ble m 173) (some .int) (some .char))) (cond (Nat.ble m 175) (some .int) (cond (Nat.ble m 176) (some .int) (some .byte)))) (cond (Nat.ble m 180) (cond (Nat.ble m 178) (some .boolean) (cond (Nat.ble m 179) (some .char) (some .boolean))) (cond (Nat.ble m 181) (some .int) (cond (Nat.ble m 182) (some .int) (some .int)))))))))
def am_rc (m : Nat) : Nat := (cond (Nat.ble m 91) (cond (Nat.ble m 45) (cond (Nat.ble m 22) (cond (Nat.ble m 10) (cond (Nat.ble m 4) (cond (Nat.ble m 1) (cond (Nat.ble m 0) 0 0) (cond (Nat.ble m 2) 1 (cond (Nat.ble m 3) 1 0))) (cond (Nat.ble m 7) (cond (Nat.ble m 5) 1 (cond (Nat.ble m 6) 1 1)) (cond (Nat.ble m 8) 1 (cond (Nat.ble m 9) 1 1)))) (cond (Nat.ble m 16) (cond (Nat.ble m 13) (cond (Nat.ble m 11) 1 (cond (Nat.ble m 12) 1 1)) (cond (Nat.ble m 14) 1 (cond (Nat.ble m 15) 1 0))) (cond (Nat.ble m 19) (cond (Nat.ble m 17) 4 (cond (Nat.ble m 18) 4 4)) (cond (Nat.ble m 20) 1 (cond (Nat.ble m 21) 4 0))))) (cond (Nat.ble m 33) (cond (Nat.ble m 27) (cond (Nat.ble m 24) (cond (Nat.ble m 23) 1 0) (cond (Nat.ble m 25) 4 (cond (Nat.ble m 26) 4 4))) (cond (Nat.ble m 30) (cond (Nat.ble m 28) 0 (cond (Nat.ble m 29) 0 0)) (cond (Nat.ble m 31) 0 (cond (Nat.ble m 32) 0 4)))) (cond (Nat.ble m 39) (cond (Nat.ble m 36) (cond (Nat.ble m 34) 0 (cond (Nat.ble m 35) 0 0)) (cond (Nat.ble m 37) 0 (cond (Nat.ble m 38) 1 0))) (cond (Nat.ble m 42) (cond (Nat.ble m 40) 0 (cond (Nat.ble m 41) 0 4)) (cond (Nat.ble m 43) 0 (cond (Nat.ble m 44) 0 1)))))) (cond (Nat.ble m 68) (cond (Nat.ble m 56) (cond (Nat.ble m 50) (cond (Nat.ble m 47) (cond (Nat.ble m 46) 1 1) (cond (Nat.ble m 48) 0 (cond (Nat.ble m 49) 1 1))) (cond (Nat.ble m 53) (cond (Nat.ble m 51) 1 (cond (Nat.ble m 52) 1 1)) (cond (Nat.ble m 54) 0 (cond (Nat.ble m 55) 0 1)))) (cond (Nat.ble m 62) (cond (Nat.ble m 59) (cond (Nat.ble m 57) 1 (cond (Nat.ble m 58) 1 1)) (cond (Nat.ble m 60) 4 (cond (Nat.ble m 61) 1 1))) (cond (Nat.ble m 65) (cond (Nat.ble m 63) 1 (cond (Nat.ble m 64) 4 1)) (cond (Nat.ble m 66) 1 (cond (Nat.ble m 67) 4 0))))) (cond (Nat.ble m 79) (cond (Nat.ble m 73) (cond (Nat.ble m 70) (cond (Nat.ble m 69) 0 0) (cond (Nat.ble m 71) 0 (cond (Nat.ble m 72) 0 0))) (cond (Nat.ble m 76) (cond (Nat.ble m 74) 0 (cond (Nat.ble m 75) 1 1)) (cond (Nat.ble m 77) 1 (cond (Nat.ble m 78) 0 0)))) (cond (Nat.ble m 85) (cond (Nat.ble m 82) (cond (Nat.ble m 80) 1 (cond (Nat.ble m 81) 1 0)) (cond (Nat.ble m 83) 0 (cond (Nat.ble m 84) 0 0))) (cond (Nat.ble m 88) (cond (Nat.ble m 86) 4 (cond (Nat.ble m 87) 4 4)) (cond (Nat.ble m 89) 4 (cond (Nat.ble m 90) 4 4))))))) (cond (Nat.ble m 137) (cond (Nat.ble m 114) (cond (Nat.ble m 102) (cond (Nat.ble m 96) (cond (Nat.ble m 93) (cond (Nat.ble m 92) 4 4) (cond (Nat.ble m 94) 1 (cond (Nat.ble m 95) 4 1))) (cond (Nat.ble m 99) (cond (Nat.ble m 97) 1 (cond (Nat.ble m 98) 1 1)) (cond (Nat.ble m 100) 1 (cond (Nat.ble m 101) 0 0)))) (cond (Nat.ble m 108) (cond (Nat.ble m 105) (cond (Nat.ble m 103) 0 (cond (Nat.ble m 104) 0 0)) (cond (Nat.ble m 106) 0 (cond (Nat.ble m 107) 0 0))) (cond (Nat.ble m 111) (cond (Nat.ble m 109) 0 (cond (Nat.ble m 110) 4 1)) (cond (Nat.ble m 112) 1 (cond (Nat.ble m 113) 1 1))))) (cond (Nat.ble m 125) (cond (Nat.ble m 119) (cond (Nat.ble m 116) (cond (Nat.ble m 115) 4 0) (cond (Nat.ble m 117) 0 (cond (Nat.ble m 118) 0 4))) (cond (Nat.ble m 122) (cond (Nat.ble m 120) 0 (cond (Nat.ble m 121) 1 4)) (cond (Nat.ble m 123) 0 (cond (Nat.ble m 124) 1 1)))) (cond (Nat.ble m 131) (cond (Nat.ble m 128) (cond (Nat.ble m 126) 1 (cond (Nat.ble m 127) 1 1)) (cond (Nat.ble m 129) 1 (cond (Nat.ble m 130) 1 0))) (cond (Nat.ble m 134) (cond (Nat.ble m 132) 0 (cond (Nat.ble m 133) 0 0)) (cond (Nat.ble m 135) 0 (cond (Nat.ble m 136) 1 4)))))) (cond (Nat.ble m 160) (cond (Nat.ble m 148) (cond (Nat.ble m 142) (cond (Nat.ble m 139) (cond (Nat.ble m 138) 0 0) (cond (Nat.ble m 140) 1 (cond (Nat.ble m 141) 1 1))) (cond (Nat.ble m 145) (cond (Nat.ble m 143) 2 (cond (Nat.ble m 144) 0 0)) (cond (Nat.ble m 146) 1 (cond (Nat.ble m 147) 1 1)))) (cond (Nat.ble m 154) (cond (Nat.ble m 151) (cond (Nat.ble m 149) 1 (cond (Nat.ble m 150) 4 1)) (cond (Nat.ble m 152) 0 (cond (Nat.ble m 153) 4 4))) (cond (Nat.ble m 157) (cond (Nat.ble m 155) 0 (cond (Nat.ble m 156) 0 1)) (cond (Nat.ble m 158) 1 (cond (Nat.ble m 159) 1 1))))) (cond (Nat.ble m 171) (cond (Nat.ble m 165) (cond (Nat.ble m 162) (cond (Nat.ble m 161) 0 0) (cond (Nat.ble m 163) 0 (cond (Nat.ble m 164) 0 0))) (cond (Nat.ble m 168) (cond (Nat.ble m 166) 0 (cond (Nat.ble m 167) 1 1)) (cond (Nat.ble m 169) 1 (cond (Nat.ble m 170) 0 1)))) (cond (Nat.ble m 177) (cond (Nat.ble m 174) (cond (Nat.ble m 172) 4 (cond (Nat.ble m 173) 1 5)) (cond (Nat.ble m 175) 1 (cond (Nat.ble m 176) 1 6))) (cond (Nat.ble m 180) (cond (Nat.ble m 178) 4 (cond (Nat.ble m 179) 5 4)) (cond (Nat.ble m 181) 1 (cond (Nat.ble m 182) 1 1))))))))
def am_np (m : Nat) : Nat := (cond (Nat.ble m 91) (cond (Nat.ble m 45) (cond (Nat.ble m 22) (cond (Nat.ble m 10) (cond (Nat.ble m 4) (cond (Nat.ble m 1) (cond (Nat.ble m 0) 1 2) (cond (Nat.ble m 2) 2 (cond (Nat.ble m 3) 2 1))) (cond (Nat.ble m 7) (cond (Nat.ble m 5) 6 (cond (Nat.ble m 6) 2 1)) (cond (Nat.ble m 8) 1 (cond (Nat.ble m 9) 2 2)))) (cond (Nat.ble m 16) (cond (Nat.ble m 13) (cond (Nat.ble m 11) 1 (cond (Nat.ble m 12) 2 1)) (cond (Nat.ble m 14) 2 (cond (Nat.ble m 15) 2 1))) (cond (Nat.ble m 19) (cond (Nat.ble m 17) 1 (cond (Nat.ble m 18) 1 1)) (cond (Nat.ble m 20) 2 (cond (Nat.ble m 21) 1 1))))) (cond (Nat.ble m 33) (cond (Nat.ble m 27) (cond (Nat.ble m 24) (cond (Nat.ble m 23) 3 1) (cond (Nat.ble m 25) 2 (cond (Nat.ble m 26) 2 1))) (cond (Nat.ble m 30) (cond (Nat.ble m 28) 2 (cond (Nat.ble m 29) 2 1)) (cond (Nat.ble m 31) 2 (cond (Nat.ble m 32) 1 2)))) (cond (Nat.ble m 39) (cond (Nat.ble m 36) (cond (Nat.ble m 34) 2 (cond (Nat.ble m 35) 1 2)) (cond (Nat.ble m 37) 2 (cond (Nat.ble m 38) 3 2))) (cond (Nat.ble m 42) (cond (Nat.ble m 40) 2 (cond (Nat.ble m 41) 3 3)) (cond (Nat.ble m 43) 5 (cond (Nat.ble m 44) 2 1)))))) (cond (Nat.ble m 68) (cond (Nat.ble m 56) (cond (Nat.ble m 50) (cond (Nat.ble m 47) (cond (Nat.ble m 46) 3 2) (cond (Nat.ble m 48) 4 (cond (Nat.ble m 49) 6 2))) (cond (Nat.ble m 53) (cond (Nat.ble m 51) 1 (cond (Nat.ble m 52) 1 2)) (cond (Nat.ble m 54) 2 (cond (Nat.ble m 55) 2 2)))) (cond (Nat.ble m 62) (cond (Nat.ble m 59) (cond (Nat.ble m 57) 2 (cond (Nat.ble m 58) 1 2)) (cond (Nat.ble m 60) 2 (cond (Nat.ble m 61) 1 2))) (cond (Nat.ble m 65) (cond (Nat.ble m 63) 5 (cond (Nat.ble m 64) 3 3)) (cond (Nat.ble m 66) 2 (cond (Nat.ble m 67) 1 1))))) (cond (Nat.ble m 79) (cond (Nat.ble m 73) (cond (Nat.ble m 70) (cond (Nat.ble m 69) 1 2) (cond (Nat.ble m 71) 2 (cond (Nat.ble m 72) 3 3))) (cond (Nat.ble m 76) (cond (Nat.ble m 74) 2 (cond (Nat.ble m 75) 1 2)) (cond (Nat.ble m 77) 2 (cond (Nat.ble m 78) 1 2)))) (cond (Nat.ble m 85) (cond (Nat.ble m 82) (cond (Nat.ble m 80) 3 (cond (Nat.ble m 81) 2 5)) (cond (Nat.ble m 83) 5 (cond (Nat.ble m 84) 4 1))) (cond (Nat.ble m 88) (cond (Nat.ble m 86) 2 (cond (Nat.ble m 87) 2 2)) (cond (Nat.ble m 89) 3 (cond (Nat.ble m 90) 3 2))))))) (cond (Nat.ble m 137) (cond (Nat.ble m 114) (cond (Nat.ble m 102) (cond (Nat.ble m 96) (cond (Nat.ble m 93) (cond (Nat.ble m 92) 2 2) (cond (Nat.ble m 94) 4 (cond (Nat.ble m 95) 1 4))) (cond (Nat.ble m 99) (cond (Nat.ble m 97) 3 (cond (Nat.ble m 98) 3 4)) (cond (Nat.ble m 100) 4 (cond (Nat.ble m 101) 1 1)))) (cond (Nat.ble m 108) (cond (Nat.ble m 105) (cond (Nat.ble m 103) 2 (cond (Nat.ble m 104) 2 2)) (cond (Nat.ble m 106) 1 (cond (Nat.ble m 107) 1 3))) (cond (Nat.ble m 111) (cond (Nat.ble m 109) 4 (cond (Nat.ble m 110) 2 1)) (cond (Nat.ble m 112) 4 (cond (Nat.ble m 113) 7 4))))) (cond (Nat.ble m 125) (cond (Nat.ble m 119) (cond (Nat.ble m 116) (cond (Nat.ble m 115) 3 1) (cond (Nat.ble m 117) 2 (cond (Nat.ble m 118) 2 3))) (cond (Nat.ble m 122) (cond (Nat.ble m 120) 1 (cond (Nat.ble m 121) 4 4)) (cond (Nat.ble m 123) 3 (cond (Nat.ble m 124) 5 2)))) (cond (Nat.ble m 131) (cond (Nat.ble m 128) (cond (Nat.ble m 126) 4 (cond (Nat.ble m 127) 5 4)) (cond (Nat.ble m 129) 4 (cond (Nat.ble m 130) 4 2))) (cond (Nat.ble m 134) (cond (Nat.ble m 132) 5 (cond (Nat.ble m 133) 5 1)) (cond (Nat.ble m 135) 1 (cond (Nat.ble m 136) 3 2)))))) (cond (Nat.ble m 160) (cond (Nat.ble m 148) (cond (Nat.ble m 142) (cond (Nat.ble m 139) (cond (Nat.ble m 138) 1 2) (cond (Nat.ble m 140) 1 (cond (Nat.ble m 141) 1 1))) (cond (Nat.ble m 145) (cond (Nat.ble m 143) 1 (cond (Nat.ble m 144) 1 1)) (cond (Nat.ble m 146) 2 (cond (Nat.ble m 147) 2 2)))) (cond (Nat.ble m 154) (cond (Nat.ble m 151) (cond (Nat.ble m 149) 4 (cond (Nat.ble m 150) 4 2)) (cond (Nat.ble m 152) 5 (cond (Nat.ble m 153) 1 1))) (cond (Nat.ble m 157) (cond (Nat.ble m 155) 1 (cond (Nat.ble m 156) 1 4)) (cond (Nat.ble m 158) 6 (cond (Nat.ble m 159) 6 5))))) (cond (Nat.ble m 171) (cond (Nat.ble m 165) (cond (Nat.ble m 162) (cond (Nat.ble m 161) 2 1) (cond (Nat.ble m 163) 1 (cond (Nat.ble m 164) 4 3))) (cond (Nat.ble m 168) (cond (Nat.ble m 166) 3 (cond (Nat.ble m 167) 2 2)) (cond (Nat.ble m 169) 1 (cond (Nat.ble m 170) 1 2)))) (cond (Nat.ble m 177) (cond (Nat.ble m 174) (cond (Nat.ble m 172) 1 (cond (Nat.ble m 173) 1 2)) (cond (Nat.ble m 175) 2 (cond (Nat.ble m 176) 3 1))) (cond (Nat.ble m 180) (cond (Nat.ble m 178) 1 (cond (Nat.ble m 179) 2 1)) (cond (Nat.ble m 181) 4 (cond (Nat.ble m 182) 4 1))))))))
def am_rcv (m : Nat) : Nat := (cond (Nat.ble m 91) (cond (Nat.ble m 45) (cond (Nat.ble m 22) (cond (Nat.ble m 10) (cond (Nat.ble m 4) (cond (Nat.ble m 1) (cond (Nat.ble m 0) 0 11) (cond (Nat.ble m 2) 0 (cond (Nat.ble m 3) 0 0))) (cond (Nat.ble m 7) (cond (Nat.ble m 5) 0 (cond (Nat.ble m 6) 0 0)) (cond (Nat.ble m 8) 0 (cond (Nat.ble m 9) 0 0)))) (cond (Nat.ble m 16) (cond (Nat.ble m 13) (cond (Nat.ble m 11) 0 (cond (Nat.ble m 12) 0 0)) (cond (Nat.ble m 14) 0 (cond (Nat.ble m 15) 0 1))) (cond (Nat.ble m 19) (cond (Nat.ble m 17) 1 (cond (Nat.ble m 18) 1 1)) (cond (Nat.ble m 20) 1 (cond (Nat.ble m 21) 1 1))))) (cond (Nat.ble m 33) (cond (Nat.ble m 27) (cond (Nat.ble m 24) (cond (Nat.ble m 23) 1 1) (cond (Nat.ble m 25) 1 (cond (Nat.ble m 26) 1 1))) (cond (Nat.ble m 30) (cond (Nat.ble m 28) 1 (cond (Nat.ble m 29) 1 1)) (cond (Nat.ble m 31) 1 (cond (Nat.ble m 32) 1 1)))) (cond (Nat.ble m 39) (cond (Nat.ble m 36) (cond (Nat.ble m 34) 1 (cond (Nat.ble m 35) 1 1)) (cond (Nat.ble m 37) 1 (cond (Nat.ble m 38) 1 1))) (cond (Nat.ble m 42) (cond (Nat.ble m 40) 1 (cond (Nat.ble m 41) 1 1)) (cond (Nat.ble m 43) 1 (cond (Nat.ble m 44) 1 1)))))) (cond (Nat.ble m 68) (cond (Nat.ble m 56) (cond (Nat.ble m 50) (cond (Nat.ble m 47) (cond (Nat.ble m 46) 1 1) (cond (Nat.ble m 48) 1 (cond (Nat.ble m 49) 1 1))) (cond (Nat.ble m 53) (cond (Nat.ble m 51) 1 (cond (Nat.ble m 52) 1 1)) (cond (Nat.ble m 54) 1 (cond (Nat.ble m 55) 1 1)))) (cond (Nat.ble m 62) (cond (Nat.ble m 59) (cond (Nat.ble m 57) 1 (cond (Nat.ble m 58) 1 1)) (cond (Nat.ble m 60) 1 (cond (Nat.ble m 61) 1 1))) (cond (Nat.ble m 65) (cond (Nat.ble m 63) 1 (cond (Nat.ble m 64) 1 1)) (cond (Nat.ble m 66) 1 (cond (Nat.ble m 67) 1 1))))) (cond (Nat.ble m 79) (cond (Nat.ble m 73) (cond (Nat.ble m 70) (cond (Nat.ble m 69) 1 1) (cond (Nat.ble m 71) 1 (cond (Nat.ble m 72) 1 1))) (cond (Nat.ble m 76) (cond (Nat.ble m 74) 1 (cond (Nat.ble m 75) 1 1)) (cond (Nat.ble m 77) 1 (cond (Nat.ble m 78) 2 2)))) (cond (Nat.ble m 85) (cond (Nat.ble m 82) (cond (Nat.ble m 80) 2 (cond (Nat.ble m 81) 2 2)) (cond (Nat.ble m 83) 2 (cond (Nat.ble m 84) 2 3))) (cond (Nat.ble m 88) (cond (Nat.ble m 86) 3 (cond (Nat.ble m 87) 3 3)) (cond (Nat.ble m 89) 3 (cond (Nat.ble m 90) 3 3))))))) (cond (Nat.ble m 137) (cond (Nat.ble m 114) (cond (Nat.ble m 102) (cond (Nat.ble m 96) (cond (Nat.ble m 93) (cond (Nat.ble m 92) 3 3) (cond (Nat.ble m 94) 3 (cond (Nat.ble m 95) 3 3))) (cond (Nat.ble m 99) (cond (Nat.ble m 97) 3 (cond (Nat.ble m 98) 3 3)) (cond (Nat.ble m 100) 3 (cond (Nat.ble m 101) 4 4)))) (cond (Nat.ble m 108) (cond (Nat.ble m 105) (cond (Nat.ble m 103) 4 (cond (Nat.ble m 104) 4 4)) (cond (Nat.ble m 106) 5 (cond (Nat.ble m 107) 5 5))) (cond (Nat.ble m 111) (cond (Nat.ble m 109) 5 (cond (Nat.ble m 110) 5 5)) (cond (Nat.ble m 112) 5 (cond (Nat.ble m 113) 5 5))))) (cond (Nat.ble m 125) (cond (Nat.ble m 119) (cond (Nat.ble m 116) (cond (Nat.ble m 115) 5 6) (cond (Nat.ble m 117) 6 (cond (Nat.ble m 118) 6 6))) (cond (Nat.ble m 122) (cond (Nat.ble m 120) 6 (cond (Nat.ble m 121) 6 6)) (cond (Nat.ble m 123) 6 (cond (Nat.ble m 124) 6 6)))) (cond (Nat.ble m 131) (cond (Nat.ble m 128) (cond (Nat.ble m 126) 6 (cond (Nat.ble m 127) 6 6)) (cond (Nat.ble m 129) 6 (cond (Nat.ble m 130) 6 6))) (cond (Nat.ble m 134) (cond (Nat.ble m 132) 6 (cond (Nat.ble m 133) 6 7)) (cond (Nat.ble m 135) 7 (cond (Nat.ble m 136) 7 7)))))) (cond (Nat.ble m 160) (cond (Nat.ble m 148) (cond (Nat.ble m 142) (cond (Nat.ble m 139) (cond (Nat.ble m 138) 8 8) (cond (Nat.ble m 140) 8 (cond (Nat.ble m 141) 8 8))) (cond (Nat.ble m 145) (cond (Nat.ble m 143) 8 (cond (Nat.ble m 144) 8 8)) (cond (Nat.ble m 146) 8 (cond (Nat.ble m 147) 8 8)))) (cond (Nat.ble m 154) (cond (Nat.ble m 151) (cond (Nat.ble m 149) 8 (cond (Nat.ble m 150) 8 8)) (cond (Nat.ble m 152) 8 (cond (Nat.ble m 153) 8 8))) (cond (Nat.ble m 157) (cond (Nat.ble m 155) 9 (cond (Nat.ble m 156) 9 9)) (cond (Nat.ble m 158) 9 (cond (Nat.ble m 159) 9 9))))) (cond (Nat.ble m 171) (cond (Nat.ble m 165) (cond (Nat.ble m 162) (cond (Nat.ble m 161) 9 10) (cond (Nat.ble m 163) 10 (cond (Nat.ble m 164) 10 10))) (cond (Nat.ble m 168) (cond (Nat.ble m 166) 10 (cond (Nat.ble m 167) 10 10)) (cond (Nat.ble m 169) 10 (cond (Nat.ble m 170) 10 10)))) (cond (Nat.ble m 177) (cond (Nat.ble m 174) (cond (Nat.ble m 172) 0 (cond (Nat.ble m 173) 11 11)) (cond (Nat.ble m 175) 11 (cond (Nat.ble m 176) 11 11))) (cond (Nat.ble m 180) (cond (Nat.ble m 178) 11 (cond (Nat.ble m 179) 0 0)) (cond (Nat.ble m 181) 0 (cond (Nat.ble m 182) 0 0))))))))
def am_bud (m : Nat) : Nat × Nat := (cond (Nat.ble m 91) (cond (Nat.ble m 45) (cond (Nat.ble m 22) (cond (Nat.ble m 10) (cond (Nat.ble m 4) (cond (Nat.ble m 1) (cond (Nat.ble m 0) (0, 0) (0, 0)) (cond (Nat.ble m 2) (0, 0) (cond (Nat.ble m 3) (0, 0) (89, 11084)))) (cond (Nat.ble m 7) (cond (Nat.ble m 5) (0, 0) (cond (Nat.ble m 6) (0, 0) (0, 0))) (cond (Nat.ble m 8) (0, 0) (cond (Nat.ble m 9) (0, 0) (0, 0))))) (cond (Nat.ble m 16) (cond (Nat.ble m 13) (cond (Nat.ble m 11) (0, 0) (cond (Nat.ble m 12) (0, 0) (0, 0))) (cond (Nat.ble m 14) (0, 0) (cond (Nat.ble m 15) (0, 0) (36, 214461)))) (cond (Nat.ble m 19) (cond (Nat.ble m 17) (0, 0) (cond (Nat.ble m 18) (0, 0) (0, 0))) (cond (Nat.ble m 20) (0, 0) (cond (Nat.ble m 21) (0, 0) (0, 0)))))) (cond (Nat.ble m 33) (cond (Nat.ble m 27) (cond (Nat.ble m 24) (cond (Nat.ble m 23) (0, 0) (0, 0)) (cond (Nat.ble m 25) (0, 0) (cond (Nat.ble m 26) (0, 0) (0, 0)))) (cond (Nat.ble m 30) (cond (Nat.ble m 28) (0, 0) (cond (Nat.ble m 29) (0, 0) (0, 0))) (cond (Nat.ble m 31) (0, 0) (cond (Nat.ble m 32) (0, 0) (0, 0))))) (cond (Nat.ble m 39) (cond (Nat.ble m 36) (cond (Nat.ble m 34) (0, 0) (cond (Nat.ble m 35) (0, 0) (0, 0))) (cond (Nat.ble m 37) (0, 0) (cond (Nat.ble m 38) (0, 0) (0, 0)))) (cond (Nat.ble m 42) (cond (Nat.ble m 40) (0, 0) (cond (Nat.ble m 41) (0, 0) (0, 0))) (cond (Nat.ble m 43) (0, 0) (cond (Nat.ble m 44) (0, 0) (0, 0))))))) (cond (Nat.ble m 68) (cond (Nat.ble m 56) (cond (Nat.ble m 50) (cond (Nat.ble m 47) (cond (Nat.ble m 46) (0, 0) (0, 0)) (cond (Nat.ble m 48) (0, 0) (cond (Nat.ble m 49) (0, 0) (0, 0)))) (cond (Nat.ble m 53) (cond (Nat.ble m 51) (0, 0) (cond (Nat.ble m 52) (0, 0) (0, 0))) (cond (Nat.ble m 54) (0, 0) (cond (Nat.ble m 55) (0, 0) (0, 0))))) (cond (Nat.ble m 62) (cond (Nat.ble m 59) (cond (Nat.ble m 57) (0, 0) (cond (Nat.ble m 58) (0, 0) (0, 0))) (cond (Nat.ble m 60) (0, 0) (cond (Nat.ble m 61) (0, 0) (0, 0)))) (cond (Nat.ble m 65) (cond (Nat.ble m 63) (0, 0) (cond (Nat.ble m 64) (0, 0) (0, 0))) (cond (Nat.ble m 66) (0, 0) (cond (Nat.ble m 67) (0, 0) (0, 0)))))) (cond (Nat.ble m 79) (cond (Nat.ble m 73) (cond (Nat.ble m 70) (cond (Nat.ble m 69) (0, 0) (0, 0)) (cond (Nat.ble m 71) (0, 0) (cond (Nat.ble m 72) (0, 0) (0, 0)))) (cond (Nat.ble m 76) (cond (Nat.ble m 74) (0, 0) (cond (Nat.ble m 75) (0, 0) (0, 0))) (cond (Nat.ble m 77) (0, 0) (cond (Nat.ble m 78) (5, 913) (0, 0))))) (cond (Nat.ble m 85) (cond (Nat.ble m 82) (cond (Nat.ble m 80) (0, 0) (cond (Nat.ble m 81) (0, 0) (0, 0))) (cond (Nat.ble m 83) (0, 0) (cond (Nat.ble m 84) (0, 0) (6, 6012)))) (cond (Nat.ble m 88) (cond (Nat.ble m 86) (0, 0) (cond (Nat.ble m 87) (0, 0) (0, 0))) (cond (Nat.ble m 89) (0, 0) (cond (Nat.ble m 90) (0, 0) (0, 0)))))))) (cond (Nat.ble m 137) (cond (Nat.ble m 114) (cond (Nat.ble m 102) (cond (Nat.ble m 96) (cond (Nat.ble m 93) (cond (Nat.ble m 92) (0, 0) (0, 0)) (cond (Nat.ble m 94) (0, 0) (cond (Nat.ble m 95) (0, 0) (0, 0)))) (cond (Nat.ble m 99) (cond (Nat.ble m 97) (0, 0) (cond (Nat.ble m 98) (0, 0) (0, 0))) (cond (Nat.ble m 100) (0, 0) (cond (Nat.ble m 101) (1, 1200) (0, 0))))) (cond (Nat.ble m 108) (cond (Nat.ble m 105) (cond (Nat.ble m 103) (0, 0) (cond (Nat.ble m 104) (0, 0) (0, 0))) (cond (Nat.ble m 106) (29, 1126) (cond (Nat.ble m 107) (0, 0) (0, 0)))) (cond (Nat.ble m 111) (cond (Nat.ble m 109) (0, 0) (cond (Nat.ble m 110) (0, 0) (0, 0))) (cond (Nat.ble m 112) (0, 0) (cond (Nat.ble m 113) (0, 0) (0, 0)))))) (cond (Nat.ble m 125) (cond (Nat.ble m 119) (cond (Nat.ble m 116) (cond (Nat.ble m 115) (0, 0) (9, 2182)) (cond (Nat.ble m 117) (0, 0) (cond (Nat.ble m 118) (0, 0) (0, 0)))) (cond (Nat.ble m 122) (cond (Nat.ble m 120) (0, 0) (cond (Nat.ble m 121) (0, 0) (0, 0))) (cond (Nat.ble m 123) (0, 0) (cond (Nat.ble m 124) (0, 0) (0, 0))))) (cond (Nat.ble m 131) (cond (Nat.ble m 128) (cond (Nat.ble m 126) (0, 0) (cond (Nat.ble m 127) (0, 0) (0, 0))) (cond (Nat.ble m 129) (0, 0) (cond (Nat.ble m 130) (0, 0) (0, 0)))) (cond (Nat.ble m 134) (cond (Nat.ble m 132) (0, 0) (cond (Nat.ble m 133) (0, 0) (9, 540))) (cond (Nat.ble m 135) (0, 0) (cond (Nat.ble m 136) (0, 0) (0, 0))))))) (cond (Nat.ble m 160) (cond (Nat.ble m 148) (cond (Nat.ble m 142) (cond (Nat.ble m 139) (cond (Nat.ble m 138) (5, 6004) (0, 0)) (cond (Nat.ble m 140) (0, 0) (cond (Nat.ble m 141) (0, 0) (0, 0)))) (cond (Nat.ble m 145) (cond (Nat.ble m 143) (0, 0) (cond (Nat.ble m 144) (0, 0) (0, 0))) (cond (Nat.ble m 146) (0, 0) (cond (Nat.ble m 147) (0, 0) (0, 0))))) (cond (Nat.ble m 154) (cond (Nat.ble m 151) (cond (Nat.ble m 149) (0, 0) (cond (Nat.ble m 150) (0, 0) (0, 0))) (cond (Nat.ble m 152) (0, 0) (cond (Nat.ble m 153) (0, 0) (0, 0)))) (cond (Nat.ble m 157) (cond (Nat.ble m 155) (1, 60) (cond (Nat.ble m 156) (0, 0) (0, 0))) (cond (Nat.ble m 158) (0, 0) (cond (Nat.ble m 159) (0, 0) (0, 0)))))) (cond (Nat.ble m 171) (cond (Nat.ble m 165) (cond (Nat.ble m 162) (cond (Nat.ble m 161) (0, 0) (13, 524)) (cond (Nat.ble m 163) (0, 0) (cond (Nat.ble m 164) (0, 0) (0, 0)))) (cond (Nat.ble m 168) (cond (Nat.ble m 166) (0, 0) (cond (Nat.ble m 167) (0, 0) (0, 0))) (cond (Nat.ble m 169) (0, 0) (cond (Nat.ble m 170) (0, 0) (0, 0))))) (cond (Nat.ble m 177) (cond (Nat.ble m 174) (cond (Nat.ble m 172) (127, 225611) (cond (Nat.ble m 173) (0, 0) (0, 0))) (cond (Nat.ble m 175) (0, 0) (cond (Nat.ble m 176) (0, 0) (0, 0)))) (cond (Nat.ble m 180) (cond (Nat.ble m 178) (0, 0) (cond (Nat.ble m 179) (0, 0) (0, 0))) (cond (Nat.ble m 181) (0, 0) (cond (Nat.ble m 182) (0, 0) (0, 0)))))))))
def am_host (m : Nat) : String := (cond (Nat.ble m 91) (cond (Nat.ble m 45) (cond (Nat.ble m 22) (cond (Nat.ble m 10) (cond (Nat.ble m 4) (cond (Nat.ble m 1) (cond (Nat.ble m 0) "java/lang/Object" "java/lang/String") (cond (Nat.ble m 2) "java/lang/Math" (cond (Nat.ble m 3) "java/lang/Math" "PatternTrees"))) (cond (Nat.ble m 7) (cond (Nat.ble m 5) "PatternTrees" (cond (Nat.ble m 6) "PatternTrees" "PatternTrees")) (cond (Nat.ble m 8) "PatternTrees" (cond (Nat.ble m 9) "PatternTrees" "PatternTrees")))) (cond (Nat.ble m 16) (cond (Nat.ble m 13) (cond (Nat.ble m 11) "PatternTrees" (cond (Nat.ble m 12) "PatternTrees" "PatternTrees")) (cond (Nat.ble m 14) "PatternTrees" (cond (Nat.ble m 15) "PatternTrees" "PatternTreesModel"))) (cond (Nat.ble m 19) (cond (Nat.ble m 17) "PatternTreesModel" (cond (Nat.ble m 18) "PatternTreesModel" "PatternTreesModel")) (cond (Nat.ble m 20) "PatternTreesModel" (cond (Nat.ble m 21) "PatternTreesModel" "PatternTreesModel"))))) (cond (Nat.ble m 33) (cond (Nat.ble m 27) (cond (Nat.ble m 24) (cond (Nat.ble m 23) "PatternTreesModel" "PatternTreesModel") (cond (Nat.ble m 25) "PatternTreesModel" (cond (Nat.ble m 26) "PatternTreesModel" "PatternTreesModel"))) (cond (Nat.ble m 30) (cond (Nat.ble m 28) "PatternTreesModel" (cond (Nat.ble m 29) "PatternTreesModel" "PatternTreesModel")) (cond (Nat.ble m 31) "PatternTreesModel" (cond (Nat.ble m 32) "PatternTreesModel" "PatternTreesModel")))) (cond (Nat.ble m 39) (cond (Nat.ble m 36) (cond (Nat.ble m 34) "PatternTreesModel" (cond (Nat.ble m 35) "PatternTreesModel" "PatternTreesModel")) (cond (Nat.ble m 37) "PatternTreesModel" (cond (Nat.ble m 38) "PatternTreesModel" "PatternTreesModel"))) (cond (Nat.ble m 42) (cond (Nat.ble m 40) "PatternTreesModel" (cond (Nat.ble m 41) "PatternTreesModel" "PatternTreesModel")) (cond (Nat.ble m 43) "PatternTreesModel" (cond (Nat.ble m 44) "PatternTreesModel" "PatternTreesModel")))))) (cond (Nat.ble m 68) (cond (Nat.ble m 56) (cond (Nat.ble m 50) (cond (Nat.ble m 47) (cond (Nat.ble m 46) "PatternTreesModel" "PatternTreesModel") (cond (Nat.ble m 48) "PatternTreesModel" (cond (Nat.ble m 49) "PatternTreesModel" "PatternTreesModel"))) (cond (Nat.ble m 53) (cond (Nat.ble m 51) "PatternTreesModel" (cond (Nat.ble m 52) "PatternTreesModel" "PatternTreesModel")) (cond (Nat.ble m 54) "PatternTreesModel" (cond (Nat.ble m 55) "PatternTreesModel" "PatternTreesModel")))) (cond (Nat.ble m 62) (cond (Nat.ble m 59) (cond (Nat.ble m 57) "PatternTreesModel" (cond (Nat.ble m 58) "PatternTreesModel" "PatternTreesModel")) (cond (Nat.ble m 60) "PatternTreesModel" (cond (Nat.ble m 61) "PatternTreesModel" "PatternTreesModel"))) (cond (Nat.ble m 65) (cond (Nat.ble m 63) "PatternTreesModel" (cond (Nat.ble m 64) "PatternTreesModel" "PatternTreesModel")) (cond (Nat.ble m 66) "PatternTreesModel" (cond (Nat.ble m 67) "PatternTreesModel" "PatternTreesModel"))))) (cond (Nat.ble m 79) (cond (Nat.ble m 73) (cond (Nat.ble m 70) (cond (Nat.ble m 69) "PatternTreesModel" "PatternTreesModel") (cond (Nat.ble m 71) "PatternTreesModel" (cond (Nat.ble m 72) "PatternTreesModel" "PatternTreesModel"))) (cond (Nat.ble m 76) (cond (Nat.ble m 74) "PatternTreesModel" (cond (Nat.ble m 75) "PatternTreesModel" "PatternTreesModel")) (cond (Nat.ble m 77) "PatternTreesModel" (cond (Nat.ble m 78) "PatternTrees" "PatternTrees")))) (cond (Nat.ble m 85) (cond (Nat.ble m 82) (cond (Nat.ble m 80) "PatternTrees" (cond (Nat.ble m 81) "PatternTrees" "PatternTrees")) (cond (Nat.ble m 83) "PatternTrees" (cond (Nat.ble m 84) "PatternTrees" "PatternTrees"))) (cond (Nat.ble m 88) (cond (Nat.ble m 86) "PatternTrees" (cond (Nat.ble m 87) "PatternTrees" "PatternTrees")) (cond (Nat.ble m 89) "PatternTrees" (cond (Nat.ble m 90) "PatternTrees" "PatternTrees"))))))) (cond (Nat.ble m 137) (cond (Nat.ble m 114) (cond (Nat.ble m 102) (cond (Nat.ble m 96) (cond (Nat.ble m 93) (cond (Nat.ble m 92) "PatternTrees" "PatternTrees") (cond (Nat.ble m 94) "PatternTrees" (cond (Nat.ble m 95) "PatternTrees" "PatternTrees"))) (cond (Nat.ble m 99) (cond (Nat.ble m 97) "PatternTrees" (cond (Nat.ble m 98) "PatternTrees" "PatternTrees")) (cond (Nat.ble m 100) "PatternTrees" (cond (Nat.ble m 101) "PatternTrees" "PatternTrees")))) (cond (Nat.ble m 108) (cond (Nat.ble m 105) (cond (Nat.ble m 103) "PatternTrees" (cond (Nat.ble m 104) "PatternTrees" "PatternTrees")) (cond (Nat.ble m 106) "PatternTrees" (cond (Nat.ble m 107) "PatternTrees" "PatternTrees"))) (cond (Nat.ble m 111) (cond (Nat.ble m 109) "PatternTrees" (cond (Nat.ble m 110) "PatternTrees" "PatternTrees")) (cond (Nat.ble m 112) "PatternTrees" (cond (Nat.ble m 113) "PatternTrees" "PatternTrees"))))) (cond (Nat.ble m 125) (cond (Nat.ble m 119) (cond (Nat.ble m 116) (cond (Nat.ble m 115) "PatternTrees" "PatternTrees") (cond (Nat.ble m 117) "PatternTrees" (cond (Nat.ble m 118) "PatternTrees" "PatternTrees"))) (cond (Nat.ble m 122) (cond (Nat.ble m 120) "PatternTrees" (cond (Nat.ble m 121) "PatternTrees" "PatternTrees")) (cond (Nat.ble m 123) "PatternTrees" (cond (Nat.ble m 124) "PatternTrees" "PatternTrees")))) (cond (Nat.ble m 131) (cond (Nat.ble m 128) (cond (Nat.ble m 126) "PatternTrees" (cond (Nat.ble m 127) "PatternTrees" "PatternTrees")) (cond (Nat.ble m 129) "PatternTrees" (cond (Nat.ble m 130) "PatternTrees" "PatternTrees"))) (cond (Nat.ble m 134) (cond (Nat.ble m 132) "PatternTrees" (cond (Nat.ble m 133) "PatternTrees" "PatternTrees")) (cond (Nat.ble m 135) "PatternTrees" (cond (Nat.ble m 136) "PatternTrees" "PatternTrees")))))) (cond (Nat.ble m 160) (cond (Nat.ble m 148) (cond (Nat.ble m 142) (cond (Nat.ble m 139) (cond (Nat.ble m 138) "PatternTrees" "PatternTrees") (cond (Nat.ble m 140) "PatternTrees" (cond (Nat.ble m 141) "PatternTrees" "PatternTrees"))) (cond (Nat.ble m 145) (cond (Nat.ble m 143) "PatternTrees" (cond (Nat.ble m 144) "PatternTrees" "PatternTrees")) (cond (Nat.ble m 146) "PatternTrees" (cond (Nat.ble m 147) "PatternTrees" "PatternTrees")))) (cond (Nat.ble m 154) (cond (Nat.ble m 151) (cond (Nat.ble m 149) "PatternTrees" (cond (Nat.ble m 150) "PatternTrees" "PatternTrees")) (cond (Nat.ble m 152) "PatternTrees" (cond (Nat.ble m 153) "PatternTrees" "PatternTrees"))) (cond (Nat.ble m 157) (cond (Nat.ble m 155) "PatternTrees" (cond (Nat.ble m 156) "PatternTrees" "PatternTrees")) (cond (Nat.ble m 158) "PatternTrees" (cond (Nat.ble m 159) "PatternTrees" "PatternTrees"))))) (cond (Nat.ble m 171) (cond (Nat.ble m 165) (cond (Nat.ble m 162) (cond (Nat.ble m 161) "PatternTrees" "PatternTrees") (cond (Nat.ble m 163) "PatternTrees" (cond (Nat.ble m 164) "PatternTrees" "PatternTrees"))) (cond (Nat.ble m 168) (cond (Nat.ble m 166) "PatternTrees" (cond (Nat.ble m 167) "PatternTrees" "PatternTrees")) (cond (Nat.ble m 169) "PatternTrees" (cond (Nat.ble m 170) "PatternTrees" "PatternTrees")))) (cond (Nat.ble m 177) (cond (Nat.ble m 174) (cond (Nat.ble m 172) "PatternTreesLaw" (cond (Nat.ble m 173) "java/lang/String" "java/lang/String")) (cond (Nat.ble m 175) "java/lang/String" (cond (Nat.ble m 176) "java/lang/String" "java/lang/String"))) (cond (Nat.ble m 180) (cond (Nat.ble m 178) "java/lang/String" (cond (Nat.ble m 179) "java/lang/StringLatin1" "java/lang/StringLatin1")) (cond (Nat.ble m 181) "java/lang/StringLatin1" (cond (Nat.ble m 182) "java/lang/StringLatin1" "java/lang/Integer"))))))))
def am_nc : Nat := 11
def am_strs : List (String × Nat × String × Nat) := [("PatternTrees$Tokens", 62, "=|;()_~!@?", 1), ("PatternTrees$Tokens", 75, "data", 3), ("PatternTrees$Tokens", 81, "new", 5), ("PatternTrees$Tokens", 83, "match", 7), ("PatternTrees$Tokens", 85, "when", 9)]
def am_stats : List (String × String × String × Nat) := [("java/lang/String", "COMPACT_STRINGS", "Z", 1)]
def ar_0 : List (Nat × Jvm.ClassFile.Instr × Nat × Nat) := []
def ar_1 : List (Nat × Jvm.ClassFile.Instr × Nat × Nat) := []
def ar_2 : List (Nat × Jvm.ClassFile.Instr × Nat × Nat) := []
def ar_3 : List (Nat × Jvm.ClassFile.Instr × Nat × Nat) := []
def ar_4 : List (Nat × Jvm.ClassFile.Instr × Nat × Nat) := [(0, (.aload_n 0), 1, 0), (1, (.invokespecial 0), 4, 3), (4, (.aload_n 0), 5, 0), (5, (.new 3), 8, 9), (8, .dup, 9, 0), (9, (.invokespecial 85), 12, 11), (12, (.putfield 0), 15, 12), (15, (.aload_n 0), 16, 0), (16, (.new 7), 19, 16), (19, .dup, 20, 0), (20, (.invokespecial 134), 23, 18), (23, (.putfield 1), 26, 19), (26, (.aload_n 0), 27, 0), (27, (.new 9), 30, 23), (30, .dup, 31, 0), (31, (.invokespecial 155), 34, 25), (34, (.putfield 2), 37, 26), (37, (.aload_n 0), 38, 0), (38, (.new 6), 41, 30), (41, .dup, 42, 0), (42, (.invokespecial 116), 45, 32), (45, (.putfield 3), 48, 33), (48, (.aload_n 0), 49, 0), (49, (.new 5), 52, 37), (52, .dup, 53, 0), (53, (.invokespecial 106), 56, 39), (56, (.putfield 4), 59, 40), (59, (.aload_n 0), 60, 0), (60, (.new 5), 63, 37), (63, .dup, 64, 0), (64, (.invokespecial 106), 67, 39), (67, (.putfield 5), 70, 44), (70, (.aload_n 0), 71, 0), (71, (.iconst 0), 72, 0), (72, (.putfield 6), 75, 47), (75, (.aload_n 0), 76, 0), (76, (.iconst (-1)), 77, 0), (77, (.putfield 7), 80, 51), (80, .return_, 81, 0)]
def ar_5 : List (Nat × Jvm.ClassFile.Instr × Nat × Nat) := [(0, (.aload_n 0), 1, 0), (1, (.getfield 0), 4, 12), (4, (.getfield 192), 7, 55), (7, (.astore 6), 9, 0), (9, (.aload 6), 11, 0), (11, (.getfield 513), 14, 59), (14, (.bipush 20), 16, 0), (16, .iadd, 17, 0), (17, (.sipush 1200), 20, 0), (20, (.if_icmp .le 25), 23, 0), (23, (.iconst (-1)), 24, 0), (24, .ireturn, 25, 0), (25, (.aload 6), 27, 0), (27, (.iload_n 1), 28, 0), (28, (.invokevirtual 139), 31, 64), (31, (.aload 6), 33, 0), (33, (.iload_n 2), 34, 0), (34, (.invokevirtual 139), 37, 64), (37, (.aload 6), 39, 0), (39, (.iload_n 3), 40, 0), (40, (.invokevirtual 139), 43, 64), (43, (.aload 6), 45, 0), (45, (.iload 4), 47, 0), (47, (.invokevirtual 139), 50, 64), (50, (.aload 6), 52, 0), (52, (.iload 5), 54, 0), (54, (.invokevirtual 139), 57, 64), (57, (.aload 6), 59, 0), (59, (.getfield 513), 62, 59), (62, .ireturn, 63, 0)]
def ar_6 : List (Nat × Jvm.ClassFile.Instr × Nat × Nat) := [(0, (.aload_n 0), 1, 0), (1, (.getfield 0), 4, 12), (4, (.getfield 192), 7, 55), (7, (.astore_n 2), 8, 0), (8, (.iload_n 1), 9, 0), (9, (.ifCond .lt 27), 12, 0), (12, (.iload_n 1), 13, 0), (13, (.bipush 20), 15, 0), (15, (.if_icmp .gt 27), 18, 0), (18, (.aload_n 2), 19, 0), (19, (.getfield 513), 22, 59), (22, (.bipush 20), 24, 0), (24, (.if_icmp .ge 29), 27, 0), (27, (.iconst (-1)), 28, 0), (28, .ireturn, 29, 0), (29, (.aload_n 2), 30, 0), (30, .dup, 31, 0), (31, (.getfield 513), 34, 59), (34, (.iload_n 1), 35, 0), (35, (.bipush 20), 37, 0), (37, .isub, 38, 0), (38, .iadd, 39, 0), (39, (.putfield 513), 42, 59), (42, (.aload_n 2), 43, 0), (43, (.getfield 513), 46, 59), (46, .ireturn, 47, 0)]
def ar_7 : List (Nat × Jvm.ClassFile.Instr × Nat × Nat) := [(0, (.aload_n 0), 1, 0), (1, (.getfield 0), 4, 12), (4, (.aload_n 0), 5, 0), (5, (.getfield 5), 8, 44), (8, (.invokevirtual 86), 11, 68), (11, (.istore_n 1), 12, 0), (12, (.aload_n 0), 13, 0), (13, (.iload_n 1), 14, 0), (14, (.ifCond .eq 27), 17, 0), (17, (.aload_n 0), 18, 0), (18, (.getfield 5), 21, 44), (21, (.invokevirtual 111), 24, 72), (24, (.goto 37), 27, 0), (27, (.aload_n 0), 28, 0), (28, (.getfield 0), 31, 12), (31, (.getfield 192), 34, 55), (34, (.invokevirtual 141), 37, 76), (37, (.putfield 7), 40, 51), (40, (.aload_n 0), 41, 0), (41, (.getfield 0), 44, 12), (44, (.getfield 192), 47, 55), (47, (.iconst 0), 48, 0), (48, (.putfield 513), 51, 59), (51, (.aload_n 0), 52, 0), (52, (.getfield 7), 55, 51), (55, (.iconst (-1)), 56, 0), (56, (.if_icmp .eq 71), 59, 0), (59, (.iload_n 1), 60, 0), (60, (.ifCond .eq 68), 63, 0), (63, (.bipush (-3)), 65, 0), (65, (.goto 70), 68, 0), (68, (.bipush (-2)), 70, 0), (70, .ireturn, 71, 0), (71, (.aload_n 0), 72, 0), (72, (.getfield 4), 75, 40), (75, (.astore_n 2), 76, 0), (76, (.aload_n 0), 77, 0), (77, (.aload_n 0), 78, 0), (78, (.getfield 5), 81, 44), (81, (.putfield 4), 84, 40), (84, (.aload_n 0), 85, 0), (85, (.aload_n 2), 86, 0), (86, (.putfield 5), 89, 44), (89, (.aload_n 0), 90, 0), (90, (.iconst 1), 91, 0), (91, (.putfield 6), 94, 47), (94, (.aload_n 0), 95, 0), (95, (.getfield 2), 98, 26), (98, (.invokevirtual 156), 101, 79), (101, (.aload_n 0), 102, 0), (102, (.getfield 3), 105, 33), (105, (.aload_n 0), 106, 0), (106, (.getfield 4), 109, 40), (109, (.invokevirtual 117), 112, 82), (112, (.aload_n 0), 113, 0), (113, (.getfield 4), 116, 40), (116, (.getfield 323), 119, 86), (119, .ireturn, 120, 0)]
def ar_8 : List (Nat × Jvm.ClassFile.Instr × Nat × Nat) := [(0, (.aload_n 0), 1, 0), (1, (.getfield 7), 4, 51), (4, .ireturn, 5, 0)]
def ar_9 : List (Nat × Jvm.ClassFile.Instr × Nat × Nat) := [(0, (.aload_n 0), 1, 0), (1, (.getfield 6), 4, 47), (4, (.ifCond .ne 9), 7, 0), (7, (.iconst (-1)), 8, 0), (8, .ireturn, 9, 0), (9, (.iload_n 1), 10, 0), (10, (.tableswitch 93 0 4 #[44, 55, 66, 74, 82]), 44, 34), (44, (.aload_n 0), 45, 0), (45, (.getfield 4), 48, 40), (48, (.getfield 320), 51, 89), (51, (.getfield 640), 54, 93), (54, .ireturn, 55, 0), (55, (.aload_n 0), 56, 0), (56, (.getfield 4), 59, 40), (59, (.getfield 320), 62, 89), (62, (.getfield 641), 65, 98), (65, .ireturn, 66, 0), (66, (.aload_n 0), 67, 0), (67, (.getfield 4), 70, 40), (70, (.getfield 322), 73, 101), (73, .ireturn, 74, 0), (74, (.aload_n 0), 75, 0), (75, (.getfield 4), 78, 40), (78, (.getfield 323), 81, 86), (81, .ireturn, 82, 0), (82, (.aload_n 0), 83, 0), (83, (.getfield 4), 86, 40), (86, (.getfield 321), 89, 104), (89, (.getfield 448), 92, 107), (92, .ireturn, 93, 0), (93, (.iconst (-1)), 94, 0), (94, .ireturn, 95, 0)]
def ar_10 : List (Nat × Jvm.ClassFile.Instr × Nat × Nat) := [(0, (.aload_n 0), 1, 0), (1, (.getfield 6), 4, 47), (4, (.ifCond .ne 9), 7, 0), (7, (.iconst (-1)), 8, 0), (8, .ireturn, 9, 0), (9, (.aload_n 0), 10, 0), (10, (.getfield 2), 13, 26), (13, (.invokevirtual 156), 16, 79), (16, (.aload_n 0), 17, 0), (17, (.getfield 0), 20, 12), (20, (.aload_n 0), 21, 0), (21, (.getfield 1), 24, 19), (24, (.invokevirtual 87), 27, 108), (27, (.istore_n 2), 28, 0), (28, (.aload_n 0), 29, 0), (29, (.getfield 0), 32, 12), (32, (.getfield 192), 35, 55), (35, (.getfield 513), 38, 59), (38, (.istore_n 3), 39, 0), (39, (.aload_n 0), 40, 0), (40, (.getfield 0), 43, 12), (43, (.getfield 192), 46, 55), (46, (.iconst 0), 47, 0), (47, (.putfield 513), 50, 59), (50, (.iload_n 2), 51, 0), (51, (.ifCond .ne 57), 54, 0), (54, (.bipush (-2)), 56, 0), (56, .ireturn, 57, 0), (57, (.aload_n 0), 58, 0), (58, (.getfield 4), 61, 40), (61, (.aload_n 0), 62, 0), (62, (.getfield 1), 65, 19), (65, (.aload_n 0), 66, 0), (66, (.getfield 1), 69, 19), (69, (.getfield 449), 72, 112), (72, (.iload_n 3), 73, 0), (73, (.invokevirtual 112), 76, 115), (76, (.iconst (-1)), 77, 0), (77, (.if_icmp .eq 83), 80, 0), (80, (.bipush (-3)), 82, 0), (82, .ireturn, 83, 0), (83, (.aload_n 0), 84, 0), (84, (.getfield 2), 87, 26), (87, (.aload_n 0), 88, 0), (88, (.getfield 4), 91, 40), (91, (.aload_n 0), 92, 0), (92, (.getfield 1), 95, 19), (95, (.iload_n 1), 96, 0), (96, (.invokevirtual 157), 99, 119), (99, .ireturn, 100, 0)]
def ar_11 : List (Nat × Jvm.ClassFile.Instr × Nat × Nat) := [(0, (.aload_n 0), 1, 0), (1, (.getfield 6), 4, 47), (4, (.ifCond .eq 17), 7, 0), (7, (.aload_n 0), 8, 0), (8, (.getfield 2), 11, 26), (11, (.getfield 576), 14, 123), (14, (.goto 18), 17, 0), (17, (.iconst (-1)), 18, 0), (18, .ireturn, 19, 0)]
def ar_12 : List (Nat × Jvm.ClassFile.Instr × Nat × Nat) := [(0, (.aload_n 0), 1, 0), (1, (.getfield 6), 4, 47), (4, (.ifCond .eq 34), 7, 0), (7, (.iload_n 1), 8, 0), (8, (.ifCond .lt 34), 11, 0), (11, (.iload_n 1), 12, 0), (12, (.aload_n 0), 13, 0), (13, (.getfield 2), 16, 26), (16, (.getfield 576), 19, 123), (19, (.if_icmp .ge 34), 22, 0), (22, (.aload_n 0), 23, 0), (23, (.getfield 2), 26, 26), (26, (.getfield 577), 29, 124), (29, (.iload_n 1), 30, 0), (30, .iaload, 31, 0), (31, (.goto 35), 34, 0), (34, (.iconst (-1)), 35, 0), (35, .ireturn, 36, 0)]
def ar_13 : List (Nat × Jvm.ClassFile.Instr × Nat × Nat) := [(0, (.aload_n 0), 1, 0), (1, (.getfield 6), 4, 47), (4, (.ifCond .ne 9), 7, 0), (7, (.iconst (-1)), 8, 0), (8, .ireturn, 9, 0), (9, (.aload_n 0), 10, 0), (10, (.getfield 3), 13, 33), (13, (.aload_n 0), 14, 0), (14, (.getfield 4), 17, 40), (17, (.invokevirtual 118), 20, 128), (20, (.aload_n 0), 21, 0), (21, (.getfield 3), 24, 33), (24, (.getfield 384), 27, 131), (27, (.getfield 256), 30, 135), (30, (.ifCond .le 37), 33, 0), (33, (.iconst 1), 34, 0), (34, (.goto 38), 37, 0), (37, (.iconst 0), 38, 0), (38, .ireturn, 39, 0)]
def ar_14 : List (Nat × Jvm.ClassFile.Instr × Nat × Nat) := [(0, (.aload_n 0), 1, 0), (1, (.getfield 6), 4, 47), (4, (.ifCond .ne 9), 7, 0), (7, (.iconst (-1)), 8, 0), (8, .ireturn, 9, 0), (9, (.aload_n 0), 10, 0), (10, (.getfield 3), 13, 33), (13, (.aload_n 0), 14, 0), (14, (.getfield 4), 17, 40), (17, (.invokevirtual 118), 20, 128), (20, (.iload_n 1), 21, 0), (21, (.ifCond .lt 53), 24, 0), (24, (.iload_n 1), 25, 0), (25, (.aload_n 0), 26, 0), (26, (.getfield 3), 29, 33), (29, (.getfield 384), 32, 131), (32, (.getfield 256), 35, 135), (35, (.if_icmp .ge 53), 38, 0), (38, (.aload_n 0), 39, 0), (39, (.getfield 3), 42, 33), (42, (.getfield 384), 45, 131), (45, (.getfield 257), 48, 138), (48, (.iload_n 1), 49, 0), (49, .iaload, 50, 0), (50, (.goto 54), 53, 0), (53, (.iconst (-1)), 54, 0), (54, .ireturn, 55, 0)]
def ar_15 : List (Nat × Jvm.ClassFile.Instr × Nat × Nat) := [(0, (.aload_n 0), 1, 0), (1, (.getfield 6), 4, 47), (4, (.ifCond .eq 22), 7, 0), (7, (.iload_n 1), 8, 0), (8, (.ifCond .lt 22), 11, 0), (11, (.iload_n 1), 12, 0), (12, (.aload_n 0), 13, 0), (13, (.getfield 4), 16, 40), (16, (.getfield 323), 19, 86), (19, (.if_icmp .lt 24), 22, 0), (22, (.iconst (-1)), 23, 0), (23, .ireturn, 24, 0), (24, (.aload_n 0), 25, 0), (25, (.getfield 3), 28, 33), (28, (.aload_n 0), 29, 0), (29, (.getfield 4), 32, 40), (32, (.iload_n 1), 33, 0), (33, (.invokevirtual 119), 36, 141), (36, (.ifCond .eq 43), 39, 0), (39, (.iconst 0), 40, 0), (40, (.goto 44), 43, 0), (43, (.iconst 1), 44, 0), (44, .ireturn, 45, 0)]
def ar_16 : List (Nat × Jvm.ClassFile.Instr × Nat × Nat) := [(0, (.aload_n 0), 1, 0), (1, (.invokespecial 0), 4, 1), (4, (.aload_n 0), 5, 0), (5, (.sipush 1200), 8, 0), (8, (.newarray .byte), 10, 0), (10, (.putfield 64), 13, 7), (13, (.aload_n 0), 14, 0), (14, (.iconst (-1)), 15, 0), (15, (.putfield 66), 18, 13), (18, (.aload_n 0), 19, 0), (19, (.sipush 1201), 22, 0), (22, (.newarray .int), 24, 0), (24, (.putfield 68), 27, 17), (27, (.aload_n 0), 28, 0), (28, (.sipush 1201), 31, 0), (31, (.newarray .int), 33, 0), (33, (.putfield 69), 36, 21), (36, (.aload_n 0), 37, 0), (37, (.sipush 1201), 40, 0), (40, (.newarray .long), 42, 0), (42, (.putfield 70), 45, 24), (45, (.aload_n 0), 46, 0), (46, (.bipush 64), 48, 0), (48, (.newarray .int), 50, 0), (50, (.putfield 76), 53, 28), (53, (.aload_n 0), 54, 0), (54, (.iconst (-1)), 55, 0), (55, (.putfield 78), 58, 31), (58, (.aload_n 0), 59, 0), (59, (.bipush 52), 61, 0), (61, (.newarray .int), 63, 0), (63, (.putfield 79), 66, 34), (66, (.aload_n 0), 67, 0), (67, (.iconst 2), 68, 0), (68, (.newarray .int), 70, 0), (70, (.putfield 80), 73, 37), (73, (.aload_n 0), 74, 0), (74, (.iconst 2), 75, 0), (75, (.newarray .int), 77, 0), (77, (.putfield 81), 80, 40), (80, (.aload_n 0), 81, 0), (81, (.bipush 72), 83, 0), (83, (.newarray .long), 85, 0), (85, (.putfield 82), 88, 43), (88, (.aload_n 0), 89, 0), (89, (.bipush 72), 91, 0), (91, (.newarray .int), 93, 0), (93, (.putfield 83), 96, 46), (96, (.aload_n 0), 97, 0), (97, (.bipush 72), 99, 0), (99, (.newarray .int), 101, 0), (101, (.putfield 84), 104, 49), (104, (.aload_n 0), 105, 0), (105, (.sipush 216), 108, 0), (108, (.newarray .int), 110, 0), (110, (.putfield 85), 113, 52), (113, (.aload_n 0), 114, 0), (114, (.iconst 2), 115, 0), (115, (.newarray .int), 117, 0), (117, (.putfield 86), 120, 55), (120, (.aload_n 0), 121, 0), (121, (.bipush 8), 123, 0), (123, (.newarray .int), 125, 0), (125, (.putfield 87), 128, 58), (128, (.aload_n 0), 129, 0), (129, (.iconst 2), 130, 0), (130, (.newarray .int), 132, 0), (132, (.putfield 88), 135, 61), (135, (.aload_n 0), 136, 0), (136, (.iconst 2), 137, 0), (137, (.newarray .int), 139, 0), (139, (.putfield 89), 142, 64), (142, (.aload_n 0), 143, 0), (143, (.bipush 24), 145, 0), (145, (.newarray .boolean), 147, 0), (147, (.putfield 90), 150, 67), (150, (.aload_n 0), 151, 0), (151, (.bipush 24), 153, 0), (153, (.newarray .int), 155, 0), (155, (.putfield 91), 158, 71), (158, (.aload_n 0), 159, 0), (159, (.sipush 3600), 162, 0), (162, (.newarray .int), 164, 0), (164, (.putfield 92), 167, 74), (167, (.aload_n 0), 168, 0), (168, (.sipush 3600), 171, 0), (171, (.newarray .int), 173, 0), (173, (.putfield 93), 176, 77), (176, (.aload_n 0), 177, 0), (177, (.bipush 8), 179, 0), (179, (.newarray .int), 181, 0), (181, (.putfield 94), 184, 80), (184, (.aload_n 0), 185, 0), (185, (.bipush 8), 187, 0), (187, (.newarray .int), 189, 0), (189, (.putfield 95), 192, 83), (192, (.aload_n 0), 193, 0), (193, (.bipush 8), 195, 0), (195, (.newarray .int), 197, 0), (197, (.putfield 96), 200, 86), (200, (.aload_n 0), 201, 0), (201, (.jsr 65536), 203, 89), (203, (.newarray .int), 205, 0), (205, (.putfield 102), 208, 90), (208, (.aload_n 0), 209, 0), (209, (.jsr 65536), 211, 89), (211, (.newarray .boolean), 213, 0), (213, (.putfield 103), 216, 93), (216, (.aload_n 0), 217, 0), (217, (.sipush 400), 220, 0), (220, (.newarray .int), 222, 0), (222, (.putfield 105), 225, 96), (225, (.aload_n 0), 226, 0), (226, (.jsr 65536), 228, 89), (228, (.newarray .int), 230, 0), (230, (.putfield 106), 233, 99), (233, (.aload_n 0), 234, 0), (234, (.bipush 12), 236, 0), (236, (.newarray .int), 238, 0), (238, (.putfield 108), 241, 102), (241, (.aload_n 0), 242, 0), (242, (.sipush 200), 245, 0), (245, (.newarray .int), 247, 0), (247, (.putfield 109), 250, 105), (250, (.aload_n 0), 251, 0), (251, (.sipush 200), 254, 0), (254, (.newarray .int), 256, 0), (256, (.putfield 110), 259, 108), (259, (.aload_n 0), 260, 0), (260, (.sipush 200), 263, 0), (263, (.newarray .int), 265, 0), (265, (.putfield 112), 268, 111), (268, (.aload_n 0), 269, 0), (269, (.sipush 200), 272, 0), (272, (.newarray .boolean), 274, 0), (274, (.putfield 115), 277, 114), (277, (.aload_n 0), 278, 0), (278, (.sipush 200), 281, 0), (281, (.newarray .boolean), 283, 0), (283, (.putfield 116), 286, 117), (286, (.aload_n 0), 287, 0), (287, (.sipush 3000), 290, 0), (290, (.newarray .byte), 292, 0), (292, (.putfield 117), 295, 120), (295, (.aload_n 0), 296, 0), (296, (.sipush 400), 299, 0), (299, (.newarray .int), 301, 0), (301, (.putfield 119), 304, 123), (304, (.aload_n 0), 305, 0), (305, (.sipush 400), 308, 0), (308, (.newarray .int), 310, 0), (310, (.putfield 120), 313, 126), (313, .return_, 314, 0)]
def ar_17 : List (Nat × Jvm.ClassFile.Instr × Nat × Nat) := [(0, (.iload_n 0), 1, 0), (1, (.bipush 97), 3, 0), (3, (.if_icmp .lt 16), 6, 0), (6, (.iload_n 0), 7, 0), (7, (.bipush 122), 9, 0), (9, (.if_icmp .gt 16), 12, 0), (12, (.iconst 1), 13, 0), (13, (.goto 17), 16, 0), (16, (.iconst 0), 17, 0), (17, .ireturn, 18, 0)]
def ar_18 : List (Nat × Jvm.ClassFile.Instr × Nat × Nat) := [(0, (.iload_n 0), 1, 0), (1, (.bipush 65), 3, 0), (3, (.if_icmp .lt 16), 6, 0), (6, (.iload_n 0), 7, 0), (7, (.bipush 90), 9, 0), (9, (.if_icmp .gt 16), 12, 0), (12, (.iconst 1), 13, 0), (13, (.goto 17), 16, 0), (16, (.iconst 0), 17, 0), (17, .ireturn, 18, 0)]
def ar_19 : List (Nat × Jvm.ClassFile.Instr × Nat × Nat) := [(0, (.iload_n 0), 1, 0), (1, (.bipush 48), 3, 0), (3, (.if_icmp .lt 16), 6, 0), (6, (.iload_n 0), 7, 0), (7, (.bipush 57), 9, 0), (9, (.if_icmp .gt 16), 12, 0), (12, (.iconst 1), 13, 0), (13, (.goto 17), 16, 0), (16, (.iconst 0), 17, 0), (17, .ireturn, 18, 0)]
def ar_20 : List (Nat × Jvm.ClassFile.Instr × Nat × Nat) := [(0, (.iload_n 1), 1, 0), (1, (.aload_n 0), 2, 0), (2, (.getfield 65), 5, 129), (5, (.if_icmp .ge 21), 8, 0), (8, (.aload_n 0), 9, 0), (9, (.getfield 64), 12, 7), (12, (.iload_n 1), 13, 0), (13, .baload, 14, 0), (14, (.sipush 255), 17, 0), (17, .iand, 18, 0), (18, (.goto 22), 21, 0), (21, (.iconst (-1)), 22, 0), (22, .ireturn, 23, 0)]
def ar_21 : List (Nat × Jvm.ClassFile.Instr × Nat × Nat) := [(0, (.iload_n 0), 1, 0), (1, (.bipush 61), 3, 0), (3, (.if_icmp .eq 60), 6, 0), (6, (.iload_n 0), 7, 0), (7, (.bipush 124), 9, 0), (9, (.if_icmp .eq 60), 12, 0), (12, (.iload_n 0), 13, 0), (13, (.bipush 59), 15, 0), (15, (.if_icmp .eq 60), 18, 0), (18, (.iload_n 0), 19, 0), (19, (.bipush 40), 21, 0), (21, (.if_icmp .eq 60), 24, 0), (24, (.iload_n 0), 25, 0), (25, (.bipush 41), 27, 0), (27, (.if_icmp .eq 60), 30, 0), (30, (.iload_n 0), 31, 0), (31, (.bipush 95), 33, 0), (33, (.if_icmp .eq 60), 36, 0), (36, (.iload_n 0), 37, 0), (37, (.bipush 126), 39, 0), (39, (.if_icmp .eq 60), 42, 0), (42, (.iload_n 0), 43, 0), (43, (.bipush 33), 45, 0), (45, (.if_icmp .eq 60), 48, 0), (48, (.iload_n 0), 49, 0), (49, (.bipush 64), 51, 0), (51, (.if_icmp .eq 60), 54, 0), (54, (.iload_n 0), 55, 0), (55, (.bipush 63), 57, 0), (57, (.if_icmp .ne 64), 60, 0), (60, (.iconst 1), 61, 0), (61, (.goto 65), 64, 0), (64, (.iconst 0), 65, 0), (65, .ireturn, 66, 0)]
def ar_22 : List (Nat × Jvm.ClassFile.Instr × Nat × Nat) := [(0, (.aload_n 0), 1, 0), (1, (.iconst 0), 2, 0), (2, (.putfield 67), 5, 132), (5, (.iconst 0), 6, 0), (6, (.istore_n 1), 7, 0), (7, (.iconst 1), 8, 0), (8, (.istore_n 2), 9, 0), (9, (.iload_n 2), 10, 0), (10, (.ifCond .eq 255), 13, 0), (13, (.aload_n 0), 14, 0), (14, (.iload_n 1), 15, 0), (15, (.invokevirtual 20), 18, 135), (18, (.istore_n 3), 19, 0), (19, (.iload_n 3), 20, 0), (20, (.bipush 32), 22, 0), (22, (.if_icmp .eq 31), 25, 0), (25, (.iload_n 3), 26, 0), (26, (.bipush 10), 28, 0), (28, (.if_icmp .ne 43), 31, 0), (31, (.iinc 1 1), 34, 0), (34, (.aload_n 0), 35, 0), (35, (.iload_n 1), 36, 0), (36, (.invokevirtual 20), 39, 135), (39, (.istore_n 3), 40, 0), (40, (.goto 19), 43, 0), (43, (.aload_n 0), 44, 0), (44, (.getfield 69), 47, 21), (47, (.aload_n 0), 48, 0), (48, (.getfield 67), 51, 132), (51, (.iload_n 1), 52, 0), (52, .iastore, 53, 0), (53, (.aload_n 0), 54, 0), (54, (.getfield 70), 57, 24), (57, (.aload_n 0), 58, 0), (58, (.getfield 67), 61, 132), (61, (.iload_n 3), 62, 0), (62, .i2l, 63, 0), (63, .lastore, 64, 0), (64, (.iload_n 3), 65, 0), (65, (.ifCond .ge 83), 68, 0), (68, (.aload_n 0), 69, 0), (69, (.getfield 68), 72, 17), (72, (.aload_n 0), 73, 0), (73, (.getfield 67), 76, 132), (76, (.iconst 0), 77, 0), (77, .iastore, 78, 0), (78, (.iconst 0), 79, 0), (79, (.istore_n 2), 80, 0), (80, (.goto 242), 83, 0), (83, (.iload_n 3), 84, 0), (84, (.invokestatic 17), 87, 139), (87, (.ifCond .ne 97), 90, 0), (90, (.iload_n 3), 91, 0), (91, (.invokestatic 18), 94, 143), (94, (.ifCond .eq 107), 97, 0), (97, (.aload_n 0), 98, 0), (98, (.iload_n 1), 99, 0), (99, (.iload_n 3), 100, 0), (100, (.invokevirtual 23), 103, 146), (103, (.istore_n 1), 104, 0), (104, (.goto 242), 107, 0), (107, (.iload_n 3), 108, 0), (108, (.invokestatic 19), 111, 150), (111, (.ifCond .eq 217), 114, 0), (114, (.iconst 0), 115, 0), (115, (.istore 4), 117, 0), (117, (.iconst 0), 118, 0), (118, (.istore 5), 120, 0), (120, (.aload_n 0), 121, 0), (121, (.iload_n 1), 122, 0), (122, (.invokevirtual 20), 125, 135), (125, (.invokestatic 19), 128, 150), (128, (.ifCond .eq 168), 131, 0), (131, (.iload 4), 133, 0), (133, (.iconst 4), 134, 0), (134, (.if_icmp .ge 154), 137, 0), (137, (.bipush 10), 139, 0), (139, (.iload 5), 141, 0), (141, .imul, 142, 0), (142, (.aload_n 0), 143, 0), (143, (.iload_n 1), 144, 0), (144, (.invokevirtual 20), 147, 135), (147, .iadd, 148, 0), (148, (.bipush 48), 150, 0), (150, .isub, 151, 0), (151, (.goto 157), 154, 0), (154, (.sipush 9999), 157, 0), (157, (.istore 5), 159, 0), (159, (.iinc 4 1), 162, 0), (162, (.iinc 1 1), 165, 0), (165, (.goto 120), 168, 0), (168, (.aload_n 0), 169, 0), (169, (.getfield 68), 172, 17), (172, (.aload_n 0), 173, 0), (173, (.getfield 67), 176, 132), (176, (.iload 5), 178, 0), (178, (.sipush 999), 181, 0), (181, (.if_icmp .gt 196), 184, 0), (184, (.iload 4), 186, 0), (186, (.iconst 1), 187, 0), (187, (.if_icmp .le 200), 190, 0), (190, (.iload_n 3), 191, 0), (191, (.bipush 48), 193, 0), (193, (.if_icmp .ne 200), 196, 0), (196, (.iconst 1), 197, 0), (197, (.goto 201), 200, 0), (200, (.iconst 5), 201, 0), (201, .iastore, 202, 0), (202, (.aload_n 0), 203, 0), (203, (.getfield 70), 206, 24), (206, (.aload_n 0), 207, 0), (207, (.getfield 67), 210, 132), (210, (.iload 5), 212, 0), (212, .i2l, 213, 0), (213, .lastore, 214, 0), (214, (.goto 242), 217, 0), (217, (.aload_n 0), 218, 0), (218, (.getfield 68), 221, 17), (221, (.aload_n 0), 222, 0), (222, (.getfield 67), 225, 132), (225, (.iload_n 3), 226, 0), (226, (.invokestatic 21), 229, 153), (229, (.ifCond .eq 237), 232, 0), (232, (.bipush 6), 234, 0), (234, (.goto 238), 237, 0), (237, (.iconst 1), 238, 0), (238, .iastore, 239, 0), (239, (.iinc 1 1), 242, 0), (242, (.aload_n 0), 243, 0), (243, .dup, 244, 0), (244, (.getfield 67), 247, 132), (247, (.iconst 1), 248, 0), (248, .iadd, 249, 0), (249, (.putfield 67), 252, 132), (252, (.goto 9), 255, 0), (255, .return_, 256, 0)]
def ar_23 : List (Nat × Jvm.ClassFile.Instr × Nat × Nat) := [(0, (.iload_n 1), 1, 0), (1, (.istore_n 3), 2, 0), (2, (.lconst 0), 3, 0), (3, (.lstore 4), 5, 0), (5, (.iconst 1), 6, 0), (6, (.istore 6), 8, 0), (8, (.aload_n 0), 9, 0), (9, (.iload_n 3), 10, 0), (10, (.invokevirtual 20), 13, 135), (13, (.invokestatic 17), 16, 139), (16, (.ifCond .ne 30), 19, 0), (19, (.aload_n 0), 20, 0), (20, (.iload_n 3), 21, 0), (21, (.invokevirtual 20), 24, 135), (24, (.invokestatic 18), 27, 143), (27, (.ifCond .eq 86), 30, 0), (30, (.iload 6), 32, 0), (32, (.ifCond .eq 50), 35, 0), (35, (.aload_n 0), 36, 0), (36, (.iload_n 3), 37, 0), (37, (.invokevirtual 20), 40, 135), (40, (.invokestatic 17), 43, 139), (43, (.ifCond .eq 50), 46, 0), (46, (.iconst 1), 47, 0), (47, (.goto 51), 50, 0), (50, (.iconst 0), 51, 0), (51, (.istore 6), 53, 0), (53, (.iload_n 3), 54, 0), (54, (.iload_n 1), 55, 0), (55, .isub, 56, 0), (56, (.bipush 8), 58, 0), (58, (.if_icmp .ge 76), 61, 0), (61, (.lload 4), 63, 0), (63, (.bipush 8), 65, 0), (65, .lshl, 66, 0), (66, (.aload_n 0), 67, 0), (67, (.iload_n 3), 68, 0), (68, (.invokevirtual 20), 71, 135), (71, .i2l, 72, 0), (72, .lor, 73, 0), (73, (.goto 78), 76, 0), (76, (.lload 4), 78, 0), (78, (.lstore 4), 80, 0), (80, (.iinc 3 1), 83, 0), (83, (.goto 8), 86, 0), (86, (.iload_n 3), 87, 0), (87, (.iload_n 1), 88, 0), (88, .isub, 89, 0), (89, (.istore 7), 91, 0), (91, (.aload_n 0), 92, 0), (92, (.getfield 68), 95, 17), (95, (.aload_n 0), 96, 0), (96, (.getfield 67), 99, 132), (99, (.iload 7), 101, 0), (101, (.iconst 1), 102, 0), (102, (.if_icmp .ne 120), 105, 0), (105, (.iload_n 2), 106, 0), (106, (.invokestatic 18), 109, 143), (109, (.ifCond .eq 116), 112, 0), (112, (.iconst 2), 113, 0), (113, (.goto 137), 116, 0), (116, (.iconst 4), 117, 0), (117, (.goto 137), 120, 0), (120, (.iload 6), 122, 0), (122, (.ifCond .eq 136), 125, 0), (125, (.iload 7), 127, 0), (127, (.bipush 8), 129, 0), (129, (.if_icmp .gt 136), 132, 0), (132, (.iconst 3), 133, 0), (133, (.goto 137), 136, 0), (136, (.iconst 1), 137, 0), (137, .iastore, 138, 0), (138, (.aload_n 0), 139, 0), (139, (.getfield 70), 142, 24), (142, (.aload_n 0), 143, 0), (143, (.getfield 67), 146, 132), (146, (.iload 7), 148, 0), (148, (.iconst 1), 149, 0), (149, (.if_icmp .ne 171), 152, 0), (152, (.iload_n 2), 153, 0), (153, (.invokestatic 18), 156, 143), (156, (.ifCond .eq 166), 159, 0), (159, (.iload_n 2), 160, 0), (160, (.bipush 65), 162, 0), (162, .isub, 163, 0), (163, (.goto 167), 166, 0), (166, (.iload_n 2), 167, 0), (167, .i2l, 168, 0), (168, (.goto 173), 171, 0), (171, (.lload 4), 173, 0), (173, .lastore, 174, 0), (174, (.iload_n 3), 175, 0), (175, .ireturn, 176, 0)]
def ar_24 : List (Nat × Jvm.ClassFile.Instr × Nat × Nat) := [(0, (.aload_n 0), 1, 0), (1, (.getfield 72), 4, 156), (4, (.ifCond .ne 25), 7, 0), (7, (.aload_n 0), 8, 0), (8, (.iconst 1), 9, 0), (9, (.putfield 72), 12, 156), (12, (.aload_n 0), 13, 0), (13, (.aload_n 0), 14, 0), (14, (.getfield 69), 17, 21), (17, (.aload_n 0), 18, 0), (18, (.getfield 71), 21, 160), (21, .iaload, 22, 0), (22, (.putfield 73), 25, 163), (25, .return_, 26, 0)]
def ar_25 : List (Nat × Jvm.ClassFile.Instr × Nat × Nat) := [(0, (.aload_n 0), 1, 0), (1, (.getfield 68), 4, 17), (4, (.aload_n 0), 5, 0), (5, (.getfield 71), 8, 160), (8, .iaload, 9, 0), (9, (.bipush 6), 11, 0), (11, (.if_icmp .ne 33), 14, 0), (14, (.aload_n 0), 15, 0), (15, (.getfield 70), 18, 24), (18, (.aload_n 0), 19, 0), (19, (.getfield 71), 22, 160), (22, .laload, 23, 0), (23, (.iload_n 1), 24, 0), (24, .i2l, 25, 0), (25, .lcmp, 26, 0), (26, (.ifCond .ne 33), 29, 0), (29, (.iconst 1), 30, 0), (30, (.goto 34), 33, 0), (33, (.iconst 0), 34, 0), (34, .ireturn, 35, 0)]
def ar_26 : List (Nat × Jvm.ClassFile.Instr × Nat × Nat) := [(0, (.aload_n 0), 1, 0), (1, (.getfield 68), 4, 17), (4, (.aload_n 0), 5, 0), (5, (.getfield 71), 8, 160), (8, .iaload, 9, 0), (9, (.iconst 3), 10, 0), (10, (.if_icmp .ne 31), 13, 0), (13, (.aload_n 0), 14, 0), (14, (.getfield 70), 17, 24), (17, (.aload_n 0), 18, 0), (18, (.getfield 71), 21, 160), (21, .laload, 22, 0), (22, (.lload_n 1), 23, 0), (23, .lcmp, 24, 0), (24, (.ifCond .ne 31), 27, 0), (27, (.iconst 1), 28, 0), (28, (.goto 32), 31, 0), (31, (.iconst 0), 32, 0), (32, .ireturn, 33, 0)]
def ar_27 : List (Nat × Jvm.ClassFile.Instr × Nat × Nat) := [(0, (.aload_n 0), 1, 0), (1, (.getfield 68), 4, 17), (4, (.aload_n 0), 5, 0), (5, (.getfield 71), 8, 160), (8, .iaload, 9, 0), (9, (.iconst 3), 10, 0), (10, (.if_icmp .ne 81), 13, 0), (13, (.aload_n 0), 14, 0), (14, (.getfield 70), 17, 24), (17, (.aload_n 0), 18, 0), (18, (.getfield 71), 21, 160), (21, .laload, 22, 0), (22, (.jsr_w 1684108385), 25, 166), (25, .lcmp, 26, 0), (26, (.ifCond .eq 81), 29, 0), (29, (.aload_n 0), 30, 0), (30, (.getfield 70), 33, 24), (33, (.aload_n 0), 34, 0), (34, (.getfield 71), 37, 160), (37, .laload, 38, 0), (38, (.jsr_w 7234935), 41, 168), (41, .lcmp, 42, 0), (42, (.ifCond .eq 81), 45, 0), (45, (.aload_n 0), 46, 0), (46, (.getfield 70), 49, 24), (49, (.aload_n 0), 50, 0), (50, (.getfield 71), 53, 160), (53, .laload, 54, 0), (54, (.jsr_w 469786452840), 57, 170), (57, .lcmp, 58, 0), (58, (.ifCond .eq 81), 61, 0), (61, (.aload_n 0), 62, 0), (62, (.getfield 70), 65, 24), (65, (.aload_n 0), 66, 0), (66, (.getfield 71), 69, 160), (69, .laload, 70, 0), (70, (.jsr_w 2003330414), 73, 172), (73, .lcmp, 74, 0), (74, (.ifCond .eq 81), 77, 0), (77, (.iconst 1), 78, 0), (78, (.goto 82), 81, 0), (81, (.iconst 0), 82, 0), (82, .ireturn, 83, 0)]
def ar_28 : List (Nat × Jvm.ClassFile.Instr × Nat × Nat) := [(0, (.aload_n 0), 1, 0), (1, (.iload_n 1), 2, 0), (2, (.invokevirtual 25), 5, 174), (5, (.ifCond .ne 12), 8, 0), (8, (.aload_n 0), 9, 0), (9, (.invokevirtual 24), 12, 177), (12, (.aload_n 0), 13, 0), (13, (.getfield 72), 16, 156), (16, (.ifCond .ne 29), 19, 0), (19, (.aload_n 0), 20, 0), (20, .dup, 21, 0), (21, (.getfield 71), 24, 160), (24, (.iconst 1), 25, 0), (25, .iadd, 26, 0), (26, (.putfield 71), 29, 160), (29, .return_, 30, 0)]
def ar_29 : List (Nat × Jvm.ClassFile.Instr × Nat × Nat) := [(0, (.iload_n 1), 1, 0), (1, (.ifCond .ne 8), 4, 0), (4, (.aload_n 0), 5, 0), (5, (.invokevirtual 24), 8, 177), (8, (.aload_n 0), 9, 0), (9, (.getfield 72), 12, 156), (12, (.ifCond .ne 25), 15, 0), (15, (.aload_n 0), 16, 0), (16, .dup, 17, 0), (17, (.getfield 71), 20, 160), (20, (.iconst 1), 21, 0), (21, .iadd, 22, 0), (22, (.putfield 71), 25, 160), (25, .return_, 26, 0)]
def ar_30 : List (Nat × Jvm.ClassFile.Instr × Nat × Nat) := [(0, (.iconst 0), 1, 0), (1, (.istore_n 1), 2, 0), (2, (.aload_n 0), 3, 0), (3, (.getfield 72), 6, 156), (6, (.ifCond .ne 155), 9, 0), (9, (.aload_n 0), 10, 0), (10, (.jsr_w 1684108385), 13, 166), (13, (.invokevirtual 26), 16, 180), (16, (.ifCond .ne 33), 19, 0), (19, (.aload_n 0), 20, 0), (20, (.jsr_w 7234935), 23, 168), (23, (.invokevirtual 26), 26, 180), (26, (.ifCond .ne 33), 29, 0), (29, (.iload_n 1), 30, 0), (30, (.ifCond .ne 155), 33, 0), (33, (.aload_n 0), 34, 0), (34, (.jsr_w 1684108385), 37, 166), (37, (.invokevirtual 26), 40, 180), (40, (.istore_n 2), 41, 0), (41, (.aload_n 0), 42, 0), (42, (.iload_n 2), 43, 0), (43, (.ifCond .ne 56), 46, 0), (46, (.aload_n 0), 47, 0), (47, (.jsr_w 7234935), 50, 168), (50, (.invokevirtual 26), 53, 180), (53, (.ifCond .eq 60), 56, 0), (56, (.iconst 1), 57, 0), (57, (.goto 61), 60, 0), (60, (.iconst 0), 61, 0), (61, (.invokevirtual 29), 64, 184), (64, (.iload_n 1), 65, 0), (65, (.bipush 6), 67, 0), (67, (.if_icmp .ne 74), 70, 0), (70, (.aload_n 0), 71, 0), (71, (.invokevirtual 24), 74, 177), (74, (.aload_n 0), 75, 0), (75, (.aload_n 0), 76, 0), (76, (.getfield 68), 79, 17), (79, (.aload_n 0), 80, 0), (80, (.getfield 71), 83, 160), (83, .iaload, 84, 0), (84, (.iconst 2), 85, 0), (85, (.if_icmp .ne 92), 88, 0), (88, (.iconst 1), 89, 0), (89, (.goto 93), 92, 0), (92, (.iconst 0), 93, 0), (93, (.invokevirtual 29), 96, 184), (96, (.aload_n 0), 97, 0), (97, (.bipush 61), 99, 0), (99, (.invokevirtual 28), 102, 188), (102, (.iload_n 2), 103, 0), (103, (.ifCond .eq 113), 106, 0), (106, (.aload_n 0), 107, 0), (107, (.invokevirtual 32), 110, 192), (110, (.goto 143), 113, 0), (113, (.aload_n 0), 114, 0), (114, (.aload_n 0), 115, 0), (115, (.invokevirtual 27), 118, 195), (118, (.invokevirtual 29), 121, 184), (121, (.aload_n 0), 122, 0), (122, (.aload_n 0), 123, 0), (123, (.getfield 68), 126, 17), (126, (.aload_n 0), 127, 0), (127, (.getfield 71), 130, 160), (130, .iaload, 131, 0), (131, (.iconst 2), 132, 0), (132, (.if_icmp .ne 139), 135, 0), (135, (.iconst 1), 136, 0), (136, (.goto 140), 139, 0), (139, (.iconst 0), 140, 0), (140, (.invokevirtual 29), 143, 184), (143, (.aload_n 0), 144, 0), (144, (.bipush 59), 146, 0), (146, (.invokevirtual 28), 149, 188), (149, (.iinc 1 1), 152, 0), (152, (.goto 2), 155, 0), (155, (.aload_n 0), 156, 0), (156, (.aload_n 0), 157, 0), (157, (.jsr_w 469786452840), 160, 170), (160, (.invokevirtual 26), 163, 180), (163, (.invokevirtual 29), 166, 184), (166, (.aload_n 0), 167, 0), (167, (.iconst 4), 168, 0), (168, (.invokevirtual 31), 171, 199), (171, (.aload_n 0), 172, 0), (172, (.getfield 72), 175, 156), (175, (.ifCond .ne 197), 178, 0), (178, (.aload_n 0), 179, 0), (179, (.getfield 68), 182, 17), (182, (.aload_n 0), 183, 0), (183, (.getfield 71), 186, 160), (186, (.iconst 1), 187, 0), (187, .isub, 188, 0), (188, .iaload, 189, 0), (189, (.iconst 2), 190, 0), (190, (.if_icmp .eq 197), 193, 0), (193, (.aload_n 0), 194, 0), (194, (.invokevirtual 24), 197, 177), (197, (.aload_n 0), 198, 0), (198, (.bipush 59), 200, 0), (200, (.invokevirtual 28), 203, 188), (203, (.aload_n 0), 204, 0), (204, (.aload_n 0), 205, 0), (205, (.getfield 71), 208, 160), (208, (.putfield 75), 211, 202), (211, (.aload_n 0), 212, 0), (212, (.iconst 0), 213, 0), (213, (.putfield 74), 216, 205), (216, (.iconst 0), 217, 0), (217, (.istore_n 2), 218, 0), (218, (.aload_n 0), 219, 0), (219, (.getfield 72), 222, 156), (222, (.ifCond .ne 295), 225, 0), (225, (.aload_n 0), 226, 0), (226, (.getfield 68), 229, 17), (229, (.aload_n 0), 230, 0), (230, (.getfield 71), 233, 160), (233, .iaload, 234, 0), (234, (.ifCond .ne 241), 237, 0), (237, (.iload_n 2), 238, 0), (238, (.ifCond .ne 295), 241, 0), (241, (.iload_n 2), 242, 0), (242, (.bipush 12), 244, 0), (244, (.if_icmp .ne 251), 247, 0), (247, (.aload_n 0), 248, 0), (248, (.invokevirtual 24), 251, 177), (251, (.aload_n 0), 252, 0), (252, (.iconst 0), 253, 0), (253, (.invokevirtual 34), 256, 208), (256, (.aload_n 0), 257, 0), (257, (.getfield 72), 260, 156), (260, (.ifCond .ne 283), 263, 0), (263, (.aload_n 0), 264, 0), (264, (.jsr_w 2003330414), 267, 172), (267, (.invokevirtual 26), 270, 180), (270, (.ifCond .eq 283), 273, 0), (273, (.aload_n 0), 274, 0), (274, .dup, 275, 0), (275, (.getfield 71), 278, 160), (278, (.iconst 1), 279, 0), (279, .iadd, 280, 0), (280, (.putfield 71), 283, 160), (283, (.aload_n 0), 284, 0), (284, (.bipush 59), 286, 0), (286, (.invokevirtual 28), 289, 188), (289, (.iinc 2 1), 292, 0), (292, (.goto 218), 295, 0), (295, .return_, 296, 0)]
def ar_31 : List (Nat × Jvm.ClassFile.Instr × Nat × Nat) := [(0, (.iconst 0), 1, 0), (1, (.istore_n 2), 2, 0), (2, (.aload_n 0), 3, 0), (3, (.getfield 72), 6, 156), (6, (.ifCond .ne 50), 9, 0), (9, (.aload_n 0), 10, 0), (10, (.getfield 68), 13, 17), (13, (.aload_n 0), 14, 0), (14, (.getfield 71), 17, 160), (17, .iaload, 18, 0), (18, (.iconst 2), 19, 0), (19, (.if_icmp .ne 50), 22, 0), (22, (.iload_n 2), 23, 0), (23, (.iload_n 1), 24, 0), (24, (.if_icmp .ne 34), 27, 0), (27, (.aload_n 0), 28, 0), (28, (.invokevirtual 24), 31, 177), (31, (.goto 2), 34, 0), (34, (.aload_n 0), 35, 0), (35, .dup, 36, 0), (36, (.getfield 71), 39, 160), (39, (.iconst 1), 40, 0), (40, .iadd, 41, 0), (41, (.putfield 71), 44, 160), (44, (.iinc 2 1), 47, 0), (47, (.goto 2), 50, 0), (50, .return_, 51, 0)]
def ar_32 : List (Nat × Jvm.ClassFile.Instr × Nat × Nat) := [(0, (.iconst 0), 1, 0), (1, (.istore_n 1), 2, 0), (2, (.iconst 1), 3, 0), (3, (.istore_n 2), 4, 0), (4, (.iload_n 2), 5, 0), (5, (.ifCond .eq 80), 8, 0), (8, (.aload_n 0), 9, 0), (9, (.getfield 72), 12, 156), (12, (.ifCond .ne 80), 15, 0), (15, (.iload_n 1), 16, 0), (16, (.bipush 6), 18, 0), (18, (.if_icmp .ne 25), 21, 0), (21, (.aload_n 0), 22, 0), (22, (.invokevirtual 24), 25, 177), (25, (.aload_n 0), 26, 0), (26, (.aload_n 0), 27, 0), (27, (.invokevirtual 27), 30, 195), (30, (.invokevirtual 29), 33, 184), (33, (.aload_n 0), 34, 0), (34, (.iconst 3), 35, 0), (35, (.invokevirtual 31), 38, 199), (38, (.iinc 1 1), 41, 0), (41, (.aload_n 0), 42, 0), (42, (.getfield 72), 45, 156), (45, (.ifCond .ne 61), 48, 0), (48, (.aload_n 0), 49, 0), (49, (.bipush 124), 51, 0), (51, (.invokevirtual 25), 54, 174), (54, (.ifCond .eq 61), 57, 0), (57, (.iconst 1), 58, 0), (58, (.goto 62), 61, 0), (61, (.iconst 0), 62, 0), (62, (.istore_n 2), 63, 0), (63, (.iload_n 2), 64, 0), (64, (.ifCond .eq 4), 67, 0), (67, (.aload_n 0), 68, 0), (68, .dup, 69, 0), (69, (.getfield 71), 72, 160), (72, (.iconst 1), 73, 0), (73, .iadd, 74, 0), (74, (.putfield 71), 77, 160), (77, (.goto 4), 80, 0), (80, .return_, 81, 0)]
def ar_33 : List (Nat × Jvm.ClassFile.Instr × Nat × Nat) := [(0, (.aload_n 0), 1, 0), (1, (.getfield 68), 4, 17), (4, (.aload_n 0), 5, 0), (5, (.getfield 71), 8, 160), (8, .iaload, 9, 0), (9, (.iconst 5), 10, 0), (10, (.if_icmp .eq 85), 13, 0), (13, (.aload_n 0), 14, 0), (14, (.invokevirtual 27), 17, 195), (17, (.ifCond .ne 85), 20, 0), (20, (.aload_n 0), 21, 0), (21, (.bipush 40), 23, 0), (23, (.invokevirtual 25), 26, 174), (26, (.ifCond .ne 85), 29, 0), (29, (.iload_n 1), 30, 0), (30, (.ifCond .eq 45), 33, 0), (33, (.aload_n 0), 34, 0), (34, (.bipush 63), 36, 0), (36, (.invokevirtual 25), 39, 174), (39, (.ifCond .eq 89), 42, 0), (42, (.goto 85), 45, 0), (45, (.aload_n 0), 46, 0), (46, (.getfield 68), 49, 17), (49, (.aload_n 0), 50, 0), (50, (.getfield 71), 53, 160), (53, .iaload, 54, 0), (54, (.iconst 4), 55, 0), (55, (.if_icmp .eq 85), 58, 0), (58, (.aload_n 0), 59, 0), (59, (.bipush 95), 61, 0), (61, (.invokevirtual 25), 64, 174), (64, (.ifCond .ne 85), 67, 0), (67, (.aload_n 0), 68, 0), (68, (.bipush 126), 70, 0), (70, (.invokevirtual 25), 73, 174), (73, (.ifCond .ne 85), 76, 0), (76, (.aload_n 0), 77, 0), (77, (.bipush 33), 79, 0), (79, (.invokevirtual 25), 82, 174), (82, (.ifCond .eq 89), 85, 0), (85, (.iconst 1), 86, 0), (86, (.goto 90), 89, 0), (89, (.iconst 0), 90, 0), (90, .ireturn, 91, 0)]
def ar_34 : List (Nat × Jvm.ClassFile.Instr × Nat × Nat) := [(0, (.aload_n 0), 1, 0), (1, (.iconst 0), 2, 0), (2, (.putfield 77), 5, 211), (5, (.iconst 1), 6, 0), (6, (.istore_n 2), 7, 0), (7, (.iconst 1), 8, 0), (8, (.istore_n 3), 9, 0), (9, (.iload_n 2), 10, 0), (10, (.ifCond .eq 101), 13, 0), (13, (.aload_n 0), 14, 0), (14, (.getfield 72), 17, 156), (17, (.ifCond .ne 101), 20, 0), (20, (.aload_n 0), 21, 0), (21, (.iload_n 1), 22, 0), (22, (.invokevirtual 33), 25, 214), (25, (.ifCond .ne 44), 28, 0), (28, (.aload_n 0), 29, 0), (29, (.getfield 77), 32, 211), (32, (.ifCond .ne 44), 35, 0), (35, (.iload_n 3), 36, 0), (36, (.ifCond .ne 44), 39, 0), (39, (.iconst 0), 40, 0), (40, (.istore_n 2), 41, 0), (41, (.goto 9), 44, 0), (44, (.iload_n 3), 45, 0), (45, (.ifCond .ne 91), 48, 0), (48, (.aload_n 0), 49, 0), (49, (.getfield 77), 52, 211), (52, (.ifCond .le 91), 55, 0), (55, (.aload_n 0), 56, 0), (56, (.bipush 41), 58, 0), (58, (.invokevirtual 25), 61, 174), (61, (.ifCond .eq 91), 64, 0), (64, (.aload_n 0), 65, 0), (65, .dup, 66, 0), (66, (.getfield 71), 69, 160), (69, (.iconst 1), 70, 0), (70, .iadd, 71, 0), (71, (.putfield 71), 74, 160), (74, (.aload_n 0), 75, 0), (75, .dup, 76, 0), (76, (.getfield 77), 79, 211), (79, (.iconst 1), 80, 0), (80, .isub, 81, 0), (81, (.putfield 77), 84, 211), (84, (.aload_n 0), 85, 0), (85, (.invokevirtual 35), 88, 218), (88, (.goto 9), 91, 0), (91, (.aload_n 0), 92, 0), (92, (.iload_n 1), 93, 0), (93, (.invokevirtual 36), 96, 221), (96, (.iconst 0), 97, 0), (97, (.istore_n 3), 98, 0), (98, (.goto 9), 101, 0), (101, .return_, 102, 0)]
def ar_35 : List (Nat × Jvm.ClassFile.Instr × Nat × Nat) := [(0, (.aload_n 0), 1, 0), (1, (.getfield 77), 4, 211), (4, (.ifCond .le 35), 7, 0), (7, (.aload_n 0), 8, 0), (8, (.getfield 76), 11, 28), (11, (.aload_n 0), 12, 0), (12, (.getfield 77), 15, 211), (15, (.iconst 1), 16, 0), (16, .isub, 17, 0), (17, .iaload, 18, 0), (18, (.iconst 1), 19, 0), (19, (.if_icmp .ne 35), 22, 0), (22, (.aload_n 0), 23, 0), (23, .dup, 24, 0), (24, (.getfield 77), 27, 211), (27, (.iconst 1), 28, 0), (28, .isub, 29, 0), (29, (.putfield 77), 32, 211), (32, (.goto 0), 35, 0), (35, .return_, 36, 0)]
def ar_36 : List (Nat × Jvm.ClassFile.Instr × Nat × Nat) := [(0, (.aload_n 0), 1, 0), (1, (.iload_n 1), 2, 0), (2, (.invokevirtual 33), 5, 214), (5, (.ifCond .eq 26), 8, 0), (8, (.aload_n 0), 9, 0), (9, (.getfield 74), 12, 205), (12, (.bipush 60), 14, 0), (14, (.if_icmp .eq 26), 17, 0), (17, (.aload_n 0), 18, 0), (18, (.getfield 77), 21, 211), (21, (.bipush 6), 23, 0), (23, (.if_icmp .lt 31), 26, 0), (26, (.aload_n 0), 27, 0), (27, (.invokevirtual 24), 30, 177), (30, .return_, 31, 0), (31, (.aload_n 0), 32, 0), (32, .dup, 33, 0), (33, (.getfield 74), 36, 205), (36, (.iconst 1), 37, 0), (37, .iadd, 38, 0), (38, (.putfield 74), 41, 205), (41, (.aload_n 0), 42, 0), (42, (.bipush 126), 44, 0), (44, (.invokevirtual 25), 47, 174), (47, (.ifCond .ne 106), 50, 0), (50, (.aload_n 0), 51, 0), (51, (.bipush 33), 53, 0), (53, (.invokevirtual 25), 56, 174), (56, (.ifCond .ne 106), 59, 0), (59, (.aload_n 0), 60, 0), (60, (.getfield 68), 63, 17), (63, (.aload_n 0), 64, 0), (64, (.getfield 71), 67, 160), (67, .iaload, 68, 0), (68, (.iconst 4), 69, 0), (69, (.if_icmp .ne 110), 72, 0), (72, (.aload_n 0), 73, 0), (73, (.getfield 68), 76, 17), (76, (.aload_n 0), 77, 0), (77, (.getfield 71), 80, 160), (80, (.iconst 1), 81, 0), (81, .iadd, 82, 0), (82, .iaload, 83, 0), (83, (.bipush 6), 85, 0), (85, (.if_icmp .ne 110), 88, 0), (88, (.aload_n 0), 89, 0), (89, (.getfield 70), 92, 24), (92, (.aload_n 0), 93, 0), (93, (.getfield 71), 96, 160), (96, (.iconst 1), 97, 0), (97, .iadd, 98, 0), (98, .laload, 99, 0), (99, (.jsr_w 64), 102, 224), (102, .lcmp, 103, 0), (103, (.ifCond .ne 110), 106, 0), (106, (.iconst 1), 107, 0), (107, (.goto 111), 110, 0), (110, (.iconst 0), 111, 0), (111, (.istore_n 2), 112, 0), (112, (.iload_n 2), 113, 0), (113, (.ifCond .eq 171), 116, 0), (116, (.aload_n 0), 117, 0), (117, .dup, 118, 0), (118, (.getfield 71), 121, 160), (121, (.aload_n 0), 122, 0), (122, (.getfield 68), 125, 17), (125, (.aload_n 0), 126, 0), (126, (.getfield 71), 129, 160), (129, .iaload, 130, 0), (130, (.iconst 4), 131, 0), (131, (.if_icmp .ne 138), 134, 0), (134, (.iconst 2), 135, 0), (135, (.goto 139), 138, 0), (138, (.iconst 1), 139, 0), (139, .iadd, 140, 0), (140, (.putfield 71), 143, 160), (143, (.aload_n 0), 144, 0), (144, (.getfield 76), 147, 28), (147, (.aload_n 0), 148, 0), (148, (.getfield 77), 151, 211), (151, (.iconst 1), 152, 0), (152, .iastore, 153, 0), (153, (.aload_n 0), 154, 0), (154, .dup, 155, 0), (155, (.getfield 77), 158, 211), (158, (.iconst 1), 159, 0), (159, .iadd, 160, 0), (160, (.putfield 77), 163, 211), (163, (.aload_n 0), 164, 0), (164, (.iload_n 1), 165, 0), (165, (.invokevirtual 37), 168, 226), (168, (.goto 247), 171, 0), (171, (.aload_n 0), 172, 0), (172, (.bipush 40), 174, 0), (174, (.invokevirtual 25), 177, 174), (177, (.ifCond .eq 233), 180, 0), (180, (.aload_n 0), 181, 0), (181, .dup, 182, 0), (182, (.getfield 71), 185, 160), (185, (.iconst 1), 186, 0), (186, .iadd, 187, 0), (187, (.putfield 71), 190, 160), (190, (.aload_n 0), 191, 0), (191, (.aload_n 0), 192, 0), (192, (.invokevirtual 27), 195, 195), (195, (.invokevirtual 29), 198, 184), (198, (.aload_n 0), 199, 0), (199, (.getfield 72), 202, 156), (202, (.ifCond .ne 247), 205, 0), (205, (.aload_n 0), 206, 0), (206, (.getfield 76), 209, 28), (209, (.aload_n 0), 210, 0), (210, (.getfield 77), 213, 211), (213, (.iconst 2), 214, 0), (214, .iastore, 215, 0), (215, (.aload_n 0), 216, 0), (216, .dup, 217, 0), (217, (.getfield 77), 220, 211), (220, (.iconst 1), 221, 0), (221, .iadd, 222, 0), (222, (.putfield 77), 225, 211), (225, (.aload_n 0), 226, 0), (226, (.iload_n 1), 227, 0), (227, (.invokevirtual 37), 230, 226), (230, (.goto 247), 233, 0), (233, (.aload_n 0), 234, 0), (234, .dup, 235, 0), (235, (.getfield 71), 238, 160), (238, (.iconst 1), 239, 0), (239, .iadd, 240, 0), (240, (.putfield 71), 243, 160), (243, (.aload_n 0), 244, 0), (244, (.invokevirtual 35), 247, 218), (247, .return_, 248, 0)]
def ar_37 : List (Nat × Jvm.ClassFile.Instr × Nat × Nat) := [(0, (.aload_n 0), 1, 0), (1, (.iload_n 1), 2, 0), (2, (.invokevirtual 33), 5, 214), (5, (.ifCond .ne 12), 8, 0), (8, (.aload_n 0), 9, 0), (9, (.invokevirtual 24), 12, 177), (12, .return_, 13, 0)]
def ar_38 : List (Nat × Jvm.ClassFile.Instr × Nat × Nat) := [(0, (.iconst 0), 1, 0), (1, (.istore 4), 3, 0), (3, (.iload 4), 5, 0), (5, (.aload_n 0), 6, 0), (6, (.getfield 81), 9, 40), (9, (.iload_n 1), 10, 0), (10, .iaload, 11, 0), (11, (.if_icmp .ge 40), 14, 0), (14, (.aload_n 0), 15, 0), (15, (.getfield 82), 18, 43), (18, (.bipush 36), 20, 0), (20, (.iload_n 1), 21, 0), (21, .imul, 22, 0), (22, (.iload 4), 24, 0), (24, .iadd, 25, 0), (25, .laload, 26, 0), (26, (.lload_n 2), 27, 0), (27, .lcmp, 28, 0), (28, (.ifCond .ne 34), 31, 0), (31, (.iload 4), 33, 0), (33, .ireturn, 34, 0), (34, (.iinc 4 1), 37, 0), (37, (.goto 3), 40, 0), (40, (.iconst (-1)), 41, 0), (41, .ireturn, 42, 0)]
def ar_39 : List (Nat × Jvm.ClassFile.Instr × Nat × Nat) := [(0, (.iconst 0), 1, 0), (1, (.istore_n 2), 2, 0), (2, (.iload_n 2), 3, 0), (3, (.bipush 26), 5, 0), (5, (.if_icmp .ge 36), 8, 0), (8, (.aload_n 0), 9, 0), (9, (.getfield 79), 12, 34), (12, (.bipush 26), 14, 0), (14, (.iload_n 1), 15, 0), (15, .imul, 16, 0), (16, (.iload_n 2), 17, 0), (17, .iadd, 18, 0), (18, (.iload_n 2), 19, 0), (19, (.bipush 8), 21, 0), (21, (.if_icmp .ne 28), 24, 0), (24, (.iconst 3), 25, 0), (25, (.goto 29), 28, 0), (28, (.iconst 0), 29, 0), (29, .iastore, 30, 0), (30, (.iinc 2 1), 33, 0), (33, (.goto 2), 36, 0), (36, (.aload_n 0), 37, 0), (37, (.getfield 80), 40, 37), (40, (.iload_n 1), 41, 0), (41, (.iconst 0), 42, 0), (42, .iastore, 43, 0), (43, (.aload_n 0), 44, 0), (44, (.getfield 81), 47, 40), (47, (.iload_n 1), 48, 0), (48, (.iconst 0), 49, 0), (49, .iastore, 50, 0), (50, (.aload_n 0), 51, 0), (51, (.getfield 86), 54, 55), (54, (.iload_n 1), 55, 0), (55, (.iconst 0), 56, 0), (56, .iastore, 57, 0), (57, (.aload_n 0), 58, 0), (58, (.getfield 88), 61, 61), (61, (.iload_n 1), 62, 0), (62, (.iconst 0), 63, 0), (63, .iastore, 64, 0), (64, (.aload_n 0), 65, 0), (65, (.getfield 89), 68, 64), (68, (.iload_n 1), 69, 0), (69, (.aload_n 0), 70, 0), (70, (.getfield 74), 73, 205), (73, .iastore, 74, 0), (74, (.iconst 0), 75, 0), (75, (.istore_n 2), 76, 0), (76, (.iload_n 2), 77, 0), (77, (.iconst 1), 78, 0), (78, .iadd, 79, 0), (79, (.aload_n 0), 80, 0), (80, (.getfield 75), 83, 202), (83, (.if_icmp .ge 202), 86, 0), (86, (.aload_n 0), 87, 0), (87, (.getfield 68), 90, 17), (90, (.iload_n 2), 91, 0), (91, .iaload, 92, 0), (92, (.iconst 3), 93, 0), (93, (.if_icmp .ne 196), 96, 0), (96, (.aload_n 0), 97, 0), (97, (.getfield 70), 100, 24), (100, (.iload_n 2), 101, 0), (101, .laload, 102, 0), (102, (.jsr_w 1684108385), 105, 166), (105, .lcmp, 106, 0), (106, (.ifCond .eq 122), 109, 0), (109, (.aload_n 0), 110, 0), (110, (.getfield 70), 113, 24), (113, (.iload_n 2), 114, 0), (114, .laload, 115, 0), (115, (.jsr_w 7234935), 118, 168), (118, .lcmp, 119, 0), (119, (.ifCond .ne 196), 122, 0), (122, (.aload_n 0), 123, 0), (123, (.getfield 70), 126, 24), (126, (.iload_n 2), 127, 0), (127, (.iconst 1), 128, 0), (128, .iadd, 129, 0), (129, .laload, 130, 0), (130, (.jsr_w 8), 133, 229), (133, .lcmp, 134, 0), (134, (.ifCond .eq 196), 137, 0), (137, (.aload_n 0), 138, 0), (138, (.getfield 79), 141, 34), (141, (.bipush 26), 143, 0), (143, (.iload_n 1), 144, 0), (144, .imul, 145, 0), (145, (.aload_n 0), 146, 0), (146, (.getfield 70), 149, 24), (149, (.iload_n 2), 150, 0), (150, (.iconst 1), 151, 0), (151, .iadd, 152, 0), (152, .laload, 153, 0), (153, .l2i, 154, 0), (154, .iadd, 155, 0), (155, .iaload, 156, 0), (156, (.ifCond .ne 196), 159, 0), (159, (.aload_n 0), 160, 0), (160, (.getfield 79), 163, 34), (163, (.bipush 26), 165, 0), (165, (.iload_n 1), 166, 0), (166, .imul, 167, 0), (167, (.aload_n 0), 168, 0), (168, (.getfield 70), 171, 24), (171, (.iload_n 2), 172, 0), (172, (.iconst 1), 173, 0), (173, .iadd, 174, 0), (174, .laload, 175, 0), (175, .l2i, 176, 0), (176, .iadd, 177, 0), (177, (.aload_n 0), 178, 0), (178, (.getfield 70), 181, 24), (181, (.iload_n 2), 182, 0), (182, .laload, 183, 0), (183, (.jsr_w 1684108385), 186, 166), (186, .lcmp, 187, 0), (187, (.ifCond .ne 194), 190, 0), (190, (.iconst 1), 191, 0), (191, (.goto 195), 194, 0), (194, (.iconst 2), 195, 0), (195, .iastore, 196, 0), (196, (.iinc 2 1), 199, 0), (199, (.goto 76), 202, 0), (202, (.aload_n 0), 203, 0), (203, (.iconst 0), 204, 0), (204, (.putfield 71), 207, 160), (207, (.iconst 0), 208, 0), (208, (.istore_n 2), 209, 0), (209, (.aload_n 0), 210, 0), (210, (.getfield 72), 213, 156), (213, (.ifCond .ne 301), 216, 0), (216, (.aload_n 0), 217, 0), (217, (.jsr_w 469786452840), 220, 170), (220, (.invokevirtual 26), 223, 180), (223, (.ifCond .ne 301), 226, 0), (226, (.aload_n 0), 227, 0), (227, .dup, 228, 0), (228, (.getfield 71), 231, 160), (231, (.iconst 1), 232, 0), (232, .iadd, 233, 0), (233, (.putfield 71), 236, 160), (236, (.aload_n 0), 237, 0), (237, (.getfield 70), 240, 24), (240, (.aload_n 0), 241, 0), (241, (.getfield 71), 244, 160), (244, .laload, 245, 0), (245, .l2i, 246, 0), (246, (.istore_n 3), 247, 0), (247, (.iload_n 3), 248, 0), (248, (.bipush 8), 250, 0), (250, (.if_icmp .eq 262), 253, 0), (253, (.iload_n 2), 254, 0), (254, (.iload_n 3), 255, 0), (255, .ishr, 256, 0), (256, (.iconst 1), 257, 0), (257, .iand, 258, 0), (258, (.iconst 1), 259, 0), (259, (.if_icmp .ne 266), 262, 0), (262, (.aload_n 0), 263, 0), (263, (.invokevirtual 24), 266, 177), (266, (.iload_n 2), 267, 0), (267, (.iconst 1), 268, 0), (268, (.iload_n 3), 269, 0), (269, .ishl, 270, 0), (270, .ior, 271, 0), (271, (.istore_n 2), 272, 0), (272, (.aload_n 0), 273, 0), (273, (.getfield 80), 276, 37), (276, (.iload_n 1), 277, 0), (277, .dup2, 278, 0), (278, .iaload, 279, 0), (279, (.iconst 1), 280, 0), (280, .iadd, 281, 0), (281, .iastore, 282, 0), (282, (.aload_n 0), 283, 0), (283, .dup, 284, 0), (284, (.getfield 71), 287, 160), (287, (.iconst 2), 288, 0), (288, .iadd, 289, 0), (289, (.putfield 71), 292, 160), (292, (.aload_n 0), 293, 0), (293, (.iload_n 1), 294, 0), (294, (.iload_n 3), 295, 0), (295, (.invokevirtual 41), 298, 231), (298, (.goto 209), 301, 0), (301, (.aload_n 0), 302, 0), (302, .dup, 303, 0), (303, (.getfield 71), 306, 160), (306, (.aload_n 0), 307, 0), (307, (.getfield 72), 310, 156), (310, (.ifCond .eq 317), 313, 0), (313, (.iconst 0), 314, 0), (314, (.goto 318), 317, 0), (317, (.iconst 1), 318, 0), (318, .iadd, 319, 0), (319, (.putfield 71), 322, 160), (322, (.aload_n 0), 323, 0), (323, (.getfield 72), 326, 156), (326, (.ifCond .ne 381), 329, 0), (329, (.aload_n 0), 330, 0), (330, (.bipush 59), 332, 0), (332, (.invokevirtual 25), 335, 174), (335, (.ifCond .ne 381), 338, 0), (338, (.aload_n 0), 339, 0), (339, (.getfield 87), 342, 58), (342, (.iconst 4), 343, 0), (343, (.iload_n 1), 344, 0), (344, .imul, 345, 0), (345, (.aload_n 0), 346, 0), (346, (.getfield 86), 349, 55), (349, (.iload_n 1), 350, 0), (350, .iaload, 351, 0), (351, .iadd, 352, 0), (352, (.aload_n 0), 353, 0), (353, (.getfield 70), 356, 24), (356, (.aload_n 0), 357, 0), (357, (.getfield 71), 360, 160), (360, .laload, 361, 0), (361, .l2i, 362, 0), (362, .iastore, 363, 0), (363, (.aload_n 0), 364, 0), (364, (.getfield 86), 367, 55), (367, (.iload_n 1), 368, 0), (368, .dup2, 369, 0), (369, .iaload, 370, 0), (370, (.iconst 1), 371, 0), (371, .iadd, 372, 0), (372, .iastore, 373, 0), (373, (.aload_n 0), 374, 0), (374, (.iload_n 1), 375, 0), (375, (.invokevirtual 40), 378, 235), (378, (.goto 322), 381, 0), (381, (.aload_n 0), 382, 0), (382, .dup, 383, 0), (383, (.getfield 71), 386, 160), (386, (.iconst 1), 387, 0), (387, .iadd, 388, 0), (388, (.putfield 71), 391, 160), (391, (.aload_n 0), 392, 0), (392, (.getfield 72), 395, 156), (395, (.ifCond .ne 418), 398, 0), (398, (.aload_n 0), 399, 0), (399, (.getfield 68), 402, 17), (402, (.aload_n 0), 403, 0), (403, (.getfield 71), 406, 160), (406, .iaload, 407, 0), (407, (.ifCond .eq 418), 410, 0), (410, (.aload_n 0), 411, 0), (411, (.iload_n 1), 412, 0), (412, (.invokevirtual 44), 415, 238), (415, (.goto 391), 418, 0), (418, .return_, 419, 0)]
def ar_40 : List (Nat × Jvm.ClassFile.Instr × Nat × Nat) := [(0, (.aload_n 0), 1, 0), (1, (.getfield 79), 4, 34), (4, (.bipush 26), 6, 0), (6, (.iload_n 1), 7, 0), (7, .imul, 8, 0), (8, (.aload_n 0), 9, 0), (9, (.getfield 70), 12, 24), (12, (.aload_n 0), 13, 0), (13, (.getfield 71), 16, 160), (16, .laload, 17, 0), (17, .l2i, 18, 0), (18, .iadd, 19, 0), (19, .iaload, 20, 0), (20, (.ifCond .ne 27), 23, 0), (23, (.aload_n 0), 24, 0), (24, (.invokevirtual 24), 27, 177), (27, (.aload_n 0), 28, 0), (28, .dup, 29, 0), (29, (.getfield 71), 32, 160), (32, (.aload_n 0), 33, 0), (33, (.getfield 72), 36, 156), (36, (.ifCond .eq 43), 39, 0), (39, (.iconst 0), 40, 0), (40, (.goto 44), 43, 0), (43, (.iconst 1), 44, 0), (44, .iadd, 45, 0), (45, (.putfield 71), 48, 160), (48, .return_, 49, 0)]
def ar_41 : List (Nat × Jvm.ClassFile.Instr × Nat × Nat) := [(0, (.aload_n 0), 1, 0), (1, (.getfield 72), 4, 156), (4, (.ifCond .ne 186), 7, 0), (7, (.aload_n 0), 8, 0), (8, (.bipush 59), 10, 0), (10, (.invokevirtual 25), 13, 174), (13, (.ifCond .ne 186), 16, 0), (16, (.aload_n 0), 17, 0), (17, (.bipush 124), 19, 0), (19, (.invokevirtual 25), 22, 174), (22, (.ifCond .eq 38), 25, 0), (25, (.aload_n 0), 26, 0), (26, .dup, 27, 0), (27, (.getfield 71), 30, 160), (30, (.iconst 1), 31, 0), (31, .iadd, 32, 0), (32, (.putfield 71), 35, 160), (35, (.goto 0), 38, 0), (38, (.bipush 36), 40, 0), (40, (.iload_n 1), 41, 0), (41, .imul, 42, 0), (42, (.aload_n 0), 43, 0), (43, (.getfield 81), 46, 40), (46, (.iload_n 1), 47, 0), (47, .iaload, 48, 0), (48, .iadd, 49, 0), (49, (.istore_n 3), 50, 0), (50, (.aload_n 0), 51, 0), (51, (.iload_n 1), 52, 0), (52, (.aload_n 0), 53, 0), (53, (.getfield 70), 56, 24), (56, (.aload_n 0), 57, 0), (57, (.getfield 71), 60, 160), (60, .laload, 61, 0), (61, (.invokevirtual 38), 64, 241), (64, (.ifCond .lt 71), 67, 0), (67, (.aload_n 0), 68, 0), (68, (.invokevirtual 24), 71, 177), (71, (.aload_n 0), 72, 0), (72, (.getfield 82), 75, 43), (75, (.iload_n 3), 76, 0), (76, (.aload_n 0), 77, 0), (77, (.getfield 70), 80, 24), (80, (.aload_n 0), 81, 0), (81, (.getfield 71), 84, 160), (84, .laload, 85, 0), (85, .lastore, 86, 0), (86, (.aload_n 0), 87, 0), (87, (.getfield 83), 90, 46), (90, (.iload_n 3), 91, 0), (91, (.iload_n 2), 92, 0), (92, .iastore, 93, 0), (93, (.aload_n 0), 94, 0), (94, (.getfield 84), 97, 49), (97, (.iload_n 3), 98, 0), (98, (.iconst 0), 99, 0), (99, .iastore, 100, 0), (100, (.aload_n 0), 101, 0), (101, (.getfield 81), 104, 40), (104, (.iload_n 1), 105, 0), (105, .dup2, 106, 0), (106, .iaload, 107, 0), (107, (.iconst 1), 108, 0), (108, .iadd, 109, 0), (109, .iastore, 110, 0), (110, (.aload_n 0), 111, 0), (111, .dup, 112, 0), (112, (.getfield 71), 115, 160), (115, (.iconst 1), 116, 0), (116, .iadd, 117, 0), (117, (.putfield 71), 120, 160), (120, (.aload_n 0), 121, 0), (121, (.getfield 72), 124, 156), (124, (.ifCond .ne 183), 127, 0), (127, (.aload_n 0), 128, 0), (128, (.getfield 68), 131, 17), (131, (.aload_n 0), 132, 0), (132, (.getfield 71), 135, 160), (135, .iaload, 136, 0), (136, (.iconst 2), 137, 0), (137, (.if_icmp .ne 183), 140, 0), (140, (.aload_n 0), 141, 0), (141, (.getfield 85), 144, 52), (144, (.iconst 3), 145, 0), (145, (.iload_n 3), 146, 0), (146, .imul, 147, 0), (147, (.aload_n 0), 148, 0), (148, (.getfield 84), 151, 49), (151, (.iload_n 3), 152, 0), (152, .iaload, 153, 0), (153, .iadd, 154, 0), (154, (.aload_n 0), 155, 0), (155, (.getfield 70), 158, 24), (158, (.aload_n 0), 159, 0), (159, (.getfield 71), 162, 160), (162, .laload, 163, 0), (163, .l2i, 164, 0), (164, .iastore, 165, 0), (165, (.aload_n 0), 166, 0), (166, (.getfield 84), 169, 49), (169, (.iload_n 3), 170, 0), (170, .dup2, 171, 0), (171, .iaload, 172, 0), (172, (.iconst 1), 173, 0), (173, .iadd, 174, 0), (174, .iastore, 175, 0), (175, (.aload_n 0), 176, 0), (176, (.iload_n 1), 177, 0), (177, (.invokevirtual 40), 180, 235), (180, (.goto 120), 183, 0), (183, (.goto 0), 186, 0), (186, (.aload_n 0), 187, 0), (187, .dup, 188, 0), (188, (.getfield 71), 191, 160), (191, (.aload_n 0), 192, 0), (192, (.getfield 72), 195, 156), (195, (.ifCond .eq 202), 198, 0), (198, (.iconst 0), 199, 0), (199, (.goto 203), 202, 0), (202, (.iconst 1), 203, 0), (203, .iadd, 204, 0), (204, (.putfield 71), 207, 160), (207, .return_, 208, 0)]
def ar_42 : List (Nat × Jvm.ClassFile.Instr × Nat × Nat) := [(0, (.aload_n 0), 1, 0), (1, (.getfield 97), 4, 245), (4, (.ifCond .ne 58), 7, 0), (7, (.aload_n 0), 8, 0), (8, (.iload_n 2), 9, 0), (9, (.aload_n 0), 10, 0), (10, (.getfield 86), 13, 55), (13, (.iload_n 1), 14, 0), (14, .iaload, 15, 0), (15, (.if_icmp .ge 31), 18, 0), (18, (.aload_n 0), 19, 0), (19, (.getfield 87), 22, 58), (22, (.iconst 4), 23, 0), (23, (.iload_n 1), 24, 0), (24, .imul, 25, 0), (25, (.iload_n 2), 26, 0), (26, .iadd, 27, 0), (27, .iaload, 28, 0), (28, (.goto 32), 31, 0), (31, (.iconst (-1)), 32, 0), (32, (.putfield 98), 35, 248), (35, (.aload_n 0), 36, 0), (36, (.iload_n 2), 37, 0), (37, (.iconst 1), 38, 0), (38, .iadd, 39, 0), (39, (.putfield 99), 42, 251), (42, (.iload_n 2), 43, 0), (43, (.aload_n 0), 44, 0), (44, (.getfield 86), 47, 55), (47, (.iload_n 1), 48, 0), (48, .iaload, 49, 0), (49, (.if_icmp .ge 56), 52, 0), (52, (.iconst 1), 53, 0), (53, (.goto 57), 56, 0), (56, (.iconst 0), 57, 0), (57, .ireturn, 58, 0), (58, (.aload_n 0), 59, 0), (59, (.getfield 97), 62, 245), (62, (.iconst 1), 63, 0), (63, .isub, 64, 0), (64, (.istore_n 3), 65, 0), (65, (.bipush 36), 67, 0), (67, (.iload_n 1), 68, 0), (68, .imul, 69, 0), (69, (.aload_n 0), 70, 0), (70, (.getfield 94), 73, 80), (73, (.iload_n 3), 74, 0), (74, .iaload, 75, 0), (75, .iadd, 76, 0), (76, (.istore 4), 78, 0), (78, (.aload_n 0), 79, 0), (79, (.getfield 95), 82, 83), (82, (.iload_n 3), 83, 0), (83, .iaload, 84, 0), (84, (.istore 5), 86, 0), (86, (.iload 5), 88, 0), (88, (.aload_n 0), 89, 0), (89, (.getfield 84), 92, 49), (92, (.iload 4), 94, 0), (94, .iaload, 95, 0), (95, (.if_icmp .lt 100), 98, 0), (98, (.iconst 0), 99, 0), (99, .ireturn, 100, 0), (100, (.aload_n 0), 101, 0), (101, (.aload_n 0), 102, 0), (102, (.getfield 85), 105, 52), (105, (.iconst 3), 106, 0), (106, (.iload 4), 108, 0), (108, .imul, 109, 0), (109, (.iload 5), 111, 0), (111, .iadd, 112, 0), (112, .iaload, 113, 0), (113, (.putfield 98), 116, 248), (116, (.aload_n 0), 117, 0), (117, (.aload_n 0), 118, 0), (118, (.getfield 79), 121, 34), (121, (.bipush 26), 123, 0), (123, (.iload_n 1), 124, 0), (124, .imul, 125, 0), (125, (.aload_n 0), 126, 0), (126, (.getfield 83), 129, 46), (129, (.iload 4), 131, 0), (131, .iaload, 132, 0), (132, .iadd, 133, 0), (133, .iaload, 134, 0), (134, (.iconst 2), 135, 0), (135, (.if_icmp .ne 147), 138, 0), (138, (.aload_n 0), 139, 0), (139, (.getfield 96), 142, 86), (142, (.iload_n 3), 143, 0), (143, .iaload, 144, 0), (144, (.goto 160), 147, 0), (147, (.iconst 4), 148, 0), (148, (.aload_n 0), 149, 0), (149, (.getfield 96), 152, 86), (152, (.iload_n 3), 153, 0), (153, .iaload, 154, 0), (154, .imul, 155, 0), (155, (.iload 5), 157, 0), (157, .iadd, 158, 0), (158, (.iconst 1), 159, 0), (159, .iadd, 160, 0), (160, (.putfield 99), 163, 251), (163, (.iconst 1), 164, 0), (164, .ireturn, 165, 0)]
def ar_43 : List (Nat × Jvm.ClassFile.Instr × Nat × Nat) := [(0, (.bipush 12), 2, 0), (2, (.iload_n 1), 3, 0), (3, .imul, 4, 0), (4, (.iload_n 2), 5, 0), (5, .iadd, 6, 0), (6, (.istore 5), 8, 0), (8, (.aload_n 0), 9, 0), (9, (.getfield 92), 12, 74), (12, (.sipush 150), 15, 0), (15, (.iload 5), 17, 0), (17, .imul, 18, 0), (18, (.aload_n 0), 19, 0), (19, (.getfield 91), 22, 71), (22, (.iload 5), 24, 0), (24, .iaload, 25, 0), (25, .iadd, 26, 0), (26, (.iload_n 3), 27, 0), (27, .iastore, 28, 0), (28, (.aload_n 0), 29, 0), (29, (.getfield 93), 32, 77), (32, (.sipush 150), 35, 0), (35, (.iload 5), 37, 0), (37, .imul, 38, 0), (38, (.aload_n 0), 39, 0), (39, (.getfield 91), 42, 71), (42, (.iload 5), 44, 0), (44, .iaload, 45, 0), (45, .iadd, 46, 0), (46, (.iload 4), 48, 0), (48, .iastore, 49, 0), (49, (.aload_n 0), 50, 0), (50, (.getfield 91), 53, 71), (53, (.iload 5), 55, 0), (55, .dup2, 56, 0), (56, .iaload, 57, 0), (57, (.iconst 1), 58, 0), (58, .iadd, 59, 0), (59, .iastore, 60, 0), (60, .return_, 61, 0)]
def ar_44 : List (Nat × Jvm.ClassFile.Instr × Nat × Nat) := [(0, (.aload_n 0), 1, 0), (1, (.getfield 88), 4, 61), (4, (.iload_n 1), 5, 0), (5, .iaload, 6, 0), (6, (.istore_n 2), 7, 0), (7, (.aload_n 0), 8, 0), (8, (.getfield 91), 11, 71), (11, (.bipush 12), 13, 0), (13, (.iload_n 1), 14, 0), (14, .imul, 15, 0), (15, (.iload_n 2), 16, 0), (16, .iadd, 17, 0), (17, (.iconst 0), 18, 0), (18, .iastore, 19, 0), (19, (.aload_n 0), 20, 0), (20, (.getfield 90), 23, 67), (23, (.bipush 12), 25, 0), (25, (.iload_n 1), 26, 0), (26, .imul, 27, 0), (27, (.iload_n 2), 28, 0), (28, .iadd, 29, 0), (29, (.iconst 0), 30, 0), (30, .bastore, 31, 0), (31, (.aload_n 0), 32, 0), (32, (.iconst 0), 33, 0), (33, (.putfield 97), 36, 245), (36, (.aload_n 0), 37, 0), (37, (.iconst 0), 38, 0), (38, (.putfield 100), 41, 254), (41, (.iconst 0), 42, 0), (42, (.istore_n 3), 43, 0), (43, (.iconst 1), 44, 0), (44, (.istore 4), 46, 0), (46, (.iload 4), 48, 0), (48, (.ifCond .eq 265), 51, 0), (51, (.aload_n 0), 52, 0), (52, (.getfield 72), 55, 156), (55, (.ifCond .ne 265), 58, 0), (58, (.aload_n 0), 59, 0), (59, (.getfield 97), 62, 245), (62, (.ifCond .ne 90), 65, 0), (65, (.aload_n 0), 66, 0), (66, (.bipush 59), 68, 0), (68, (.invokevirtual 25), 71, 174), (71, (.ifCond .ne 84), 74, 0), (74, (.aload_n 0), 75, 0), (75, (.jsr_w 2003330414), 78, 172), (78, (.invokevirtual 26), 81, 180), (81, (.ifCond .eq 90), 84, 0), (84, (.iconst 0), 85, 0), (85, (.istore 4), 87, 0), (87, (.goto 46), 90, 0), (90, (.aload_n 0), 91, 0), (91, (.bipush 41), 93, 0), (93, (.invokevirtual 25), 96, 174), (96, (.ifCond .eq 237), 99, 0), (99, (.bipush 36), 101, 0), (101, (.iload_n 1), 102, 0), (102, .imul, 103, 0), (103, (.aload_n 0), 104, 0), (104, (.getfield 94), 107, 80), (107, (.aload_n 0), 108, 0), (108, (.getfield 97), 111, 245), (111, (.iconst 1), 112, 0), (112, .isub, 113, 0), (113, .iaload, 114, 0), (114, .iadd, 115, 0), (115, (.istore 5), 117, 0), (117, (.aload_n 0), 118, 0), (118, (.getfield 95), 121, 83), (121, (.aload_n 0), 122, 0), (122, (.getfield 97), 125, 245), (125, (.iconst 1), 126, 0), (126, .isub, 127, 0), (127, .iaload, 128, 0), (128, (.aload_n 0), 129, 0), (129, (.getfield 84), 132, 49), (132, (.iload 5), 134, 0), (134, .iaload, 135, 0), (135, (.if_icmp .ge 142), 138, 0), (138, (.aload_n 0), 139, 0), (139, (.invokevirtual 24), 142, 177), (142, (.aload_n 0), 143, 0), (143, .dup, 144, 0), (144, (.getfield 97), 147, 245), (147, (.iconst 1), 148, 0), (148, .isub, 149, 0), (149, (.putfield 97), 152, 245), (152, (.aload_n 0), 153, 0), (153, (.aload_n 0), 154, 0), (154, (.getfield 100), 157, 254), (157, (.ifCond .eq 175), 160, 0), (160, (.aload_n 0), 161, 0), (161, (.getfield 101), 164, 257), (164, (.aload_n 0), 165, 0), (165, (.getfield 97), 168, 245), (168, (.if_icmp .gt 175), 171, 0), (171, (.iconst 1), 172, 0), (172, (.goto 176), 175, 0), (175, (.iconst 0), 176, 0), (176, (.putfield 100), 179, 254), (179, (.iload_n 3), 180, 0), (180, (.aload_n 0), 181, 0), (181, (.invokevirtual 45), 184, 260), (184, .iadd, 185, 0), (185, (.istore_n 3), 186, 0), (186, (.aload_n 0), 187, 0), (187, .dup, 188, 0), (188, (.getfield 71), 191, 160), (191, (.aload_n 0), 192, 0), (192, (.getfield 72), 195, 156), (195, (.ifCond .eq 202), 198, 0), (198, (.iconst 0), 199, 0), (199, (.goto 203), 202, 0), (202, (.iconst 1), 203, 0), (203, .iadd, 204, 0), (204, (.putfield 71), 207, 160), (207, (.aload_n 0), 208, 0), (208, (.aload_n 0), 209, 0), (209, (.getfield 100), 212, 254), (212, (.ifCond .eq 230), 215, 0), (215, (.aload_n 0), 216, 0), (216, (.getfield 101), 219, 257), (219, (.aload_n 0), 220, 0), (220, (.getfield 97), 223, 245), (223, (.if_icmp .ge 230), 226, 0), (226, (.iconst 1), 227, 0), (227, (.goto 231), 230, 0), (230, (.iconst 0), 231, 0), (231, (.putfield 100), 234, 254), (234, (.goto 46), 237, 0), (237, (.aload_n 0), 238, 0), (238, (.iload_n 1), 239, 0), (239, (.iload_n 3), 240, 0), (240, (.invokevirtual 42), 243, 264), (243, (.ifCond .ne 253), 246, 0), (246, (.aload_n 0), 247, 0), (247, (.invokevirtual 24), 250, 177), (250, (.goto 46), 253, 0), (253, (.iload_n 3), 254, 0), (254, (.aload_n 0), 255, 0), (255, (.iload_n 1), 256, 0), (256, (.iload_n 2), 257, 0), (257, (.invokevirtual 46), 260, 268), (260, .iadd, 261, 0), (261, (.istore_n 3), 262, 0), (262, (.goto 46), 265, 0), (265, (.aload_n 0), 266, 0), (266, (.getfield 72), 269, 156), (269, (.ifCond .ne 286), 272, 0), (272, (.iload_n 3), 273, 0), (273, (.aload_n 0), 274, 0), (274, (.getfield 86), 277, 55), (277, (.iload_n 1), 278, 0), (278, .iaload, 279, 0), (279, (.if_icmp .ge 286), 282, 0), (282, (.aload_n 0), 283, 0), (283, (.invokevirtual 24), 286, 177), (286, (.aload_n 0), 287, 0), (287, (.getfield 72), 290, 156), (290, (.ifCond .ne 325), 293, 0), (293, (.aload_n 0), 294, 0), (294, (.jsr_w 2003330414), 297, 172), (297, (.invokevirtual 26), 300, 180), (300, (.ifCond .eq 325), 303, 0), (303, (.aload_n 0), 304, 0), (304, (.getfield 90), 307, 67), (307, (.bipush 12), 309, 0), (309, (.iload_n 1), 310, 0), (310, .imul, 311, 0), (311, (.iload_n 2), 312, 0), (312, .iadd, 313, 0), (313, (.iconst 1), 314, 0), (314, .bastore, 315, 0), (315, (.aload_n 0), 316, 0), (316, .dup, 317, 0), (317, (.getfield 71), 320, 160), (320, (.iconst 1), 321, 0), (321, .iadd, 322, 0), (322, (.putfield 71), 325, 160), (325, (.aload_n 0), 326, 0), (326, .dup, 327, 0), (327, (.getfield 71), 330, 160), (330, (.aload_n 0), 331, 0), (331, (.getfield 72), 334, 156), (334, (.ifCond .eq 341), 337, 0), (337, (.iconst 0), 338, 0), (338, (.goto 342), 341, 0), (341, (.iconst 1), 342, 0), (342, .iadd, 343, 0), (343, (.putfield 71), 346, 160), (346, (.aload_n 0), 347, 0), (347, (.getfield 88), 350, 61), (350, (.iload_n 1), 351, 0), (351, .dup2, 352, 0), (352, .iaload, 353, 0), (353, (.iconst 1), 354, 0), (354, .iadd, 355, 0), (355, .iastore, 356, 0), (356, .return_, 357, 0)]
def ar_45 : List (Nat × Jvm.ClassFile.Instr × Nat × Nat) := [(0, (.aload_n 0), 1, 0), (1, (.getfield 97), 4, 245), (4, (.ifCond .ne 9), 7, 0), (7, (.iconst 1), 8, 0), (8, .ireturn, 9, 0), (9, (.aload_n 0), 10, 0), (10, (.getfield 95), 13, 83), (13, (.aload_n 0), 14, 0), (14, (.getfield 97), 17, 245), (17, (.iconst 1), 18, 0), (18, .isub, 19, 0), (19, .dup2, 20, 0), (20, .iaload, 21, 0), (21, (.iconst 1), 22, 0), (22, .iadd, 23, 0), (23, .iastore, 24, 0), (24, (.iconst 0), 25, 0), (25, .ireturn, 26, 0)]
def ar_46 : List (Nat × Jvm.ClassFile.Instr × Nat × Nat) := [(0, (.iconst 1), 1, 0), (1, (.istore_n 3), 2, 0), (2, (.aload_n 0), 3, 0), (3, (.getfield 100), 6, 254), (6, (.istore 4), 8, 0), (8, (.iload_n 3), 9, 0), (9, (.ifCond .eq 159), 12, 0), (12, (.aload_n 0), 13, 0), (13, (.bipush 33), 15, 0), (15, (.invokevirtual 25), 18, 174), (18, (.ifCond .eq 52), 21, 0), (21, (.aload_n 0), 22, 0), (22, (.getfield 100), 25, 254), (25, (.ifCond .ne 39), 28, 0), (28, (.aload_n 0), 29, 0), (29, (.iload_n 1), 30, 0), (30, (.iload_n 2), 31, 0), (31, (.aload_n 0), 32, 0), (32, (.getfield 99), 35, 251), (35, (.iconst (-1)), 36, 0), (36, (.invokevirtual 43), 39, 271), (39, (.aload_n 0), 40, 0), (40, .dup, 41, 0), (41, (.getfield 71), 44, 160), (44, (.iconst 1), 45, 0), (45, .iadd, 46, 0), (46, (.putfield 71), 49, 160), (49, (.goto 8), 52, 0), (52, (.aload_n 0), 53, 0), (53, (.bipush 126), 55, 0), (55, (.invokevirtual 25), 58, 174), (58, (.ifCond .eq 94), 61, 0), (61, (.aload_n 0), 62, 0), (62, (.getfield 100), 65, 254), (65, (.ifCond .ne 81), 68, 0), (68, (.aload_n 0), 69, 0), (69, (.iconst 1), 70, 0), (70, (.putfield 100), 73, 254), (73, (.aload_n 0), 74, 0), (74, (.aload_n 0), 75, 0), (75, (.getfield 97), 78, 245), (78, (.putfield 101), 81, 257), (81, (.aload_n 0), 82, 0), (82, .dup, 83, 0), (83, (.getfield 71), 86, 160), (86, (.iconst 1), 87, 0), (87, .iadd, 88, 0), (88, (.putfield 71), 91, 160), (91, (.goto 8), 94, 0), (94, (.aload_n 0), 95, 0), (95, (.getfield 68), 98, 17), (98, (.aload_n 0), 99, 0), (99, (.getfield 71), 102, 160), (102, .iaload, 103, 0), (103, (.iconst 4), 104, 0), (104, (.if_icmp .ne 154), 107, 0), (107, (.aload_n 0), 108, 0), (108, (.getfield 68), 111, 17), (111, (.aload_n 0), 112, 0), (112, (.getfield 71), 115, 160), (115, (.iconst 1), 116, 0), (116, .iadd, 117, 0), (117, .iaload, 118, 0), (118, (.bipush 6), 120, 0), (120, (.if_icmp .ne 154), 123, 0), (123, (.aload_n 0), 124, 0), (124, (.getfield 70), 127, 24), (127, (.aload_n 0), 128, 0), (128, (.getfield 71), 131, 160), (131, (.iconst 1), 132, 0), (132, .iadd, 133, 0), (133, .laload, 134, 0), (134, (.jsr_w 64), 137, 224), (137, .lcmp, 138, 0), (138, (.ifCond .ne 154), 141, 0), (141, (.aload_n 0), 142, 0), (142, .dup, 143, 0), (143, (.getfield 71), 146, 160), (146, (.iconst 2), 147, 0), (147, .iadd, 148, 0), (148, (.putfield 71), 151, 160), (151, (.goto 8), 154, 0), (154, (.iconst 0), 155, 0), (155, (.istore_n 3), 156, 0), (156, (.goto 8), 159, 0), (159, (.iconst 0), 160, 0), (160, (.istore 5), 162, 0), (162, (.aload_n 0), 163, 0), (163, (.getfield 68), 166, 17), (166, (.aload_n 0), 167, 0), (167, (.getfield 71), 170, 160), (170, .iaload, 171, 0), (171, (.iconst 5), 172, 0), (172, (.if_icmp .ne 262), 175, 0), (175, (.aload_n 0), 176, 0), (176, (.getfield 98), 179, 248), (179, (.bipush 8), 181, 0), (181, (.if_icmp .eq 191), 184, 0), (184, (.aload_n 0), 185, 0), (185, (.invokevirtual 24), 188, 177), (188, (.goto 221), 191, 0), (191, (.aload_n 0), 192, 0), (192, (.getfield 100), 195, 254), (195, (.ifCond .ne 221), 198, 0), (198, (.aload_n 0), 199, 0), (199, (.iload_n 1), 200, 0), (200, (.iload_n 2), 201, 0), (201, (.aload_n 0), 202, 0), (202, (.getfield 99), 205, 251), (205, (.bipush 100), 207, 0), (207, (.aload_n 0), 208, 0), (208, (.getfield 70), 211, 24), (211, (.aload_n 0), 212, 0), (212, (.getfield 71), 215, 160), (215, .laload, 216, 0), (216, .l2i, 217, 0), (217, .iadd, 218, 0), (218, (.invokevirtual 43), 221, 271), (221, (.aload_n 0), 222, 0), (222, (.getfield 72), 225, 156), (225, (.ifCond .eq 232), 228, 0), (228, (.iconst 0), 229, 0), (229, (.goto 236), 232, 0), (232, (.aload_n 0), 233, 0), (233, (.invokevirtual 45), 236, 260), (236, (.istore 5), 238, 0), (238, (.aload_n 0), 239, 0), (239, .dup, 240, 0), (240, (.getfield 71), 243, 160), (243, (.aload_n 0), 244, 0), (244, (.getfield 72), 247, 156), (247, (.ifCond .eq 254), 250, 0), (250, (.iconst 0), 251, 0), (251, (.goto 255), 254, 0), (254, (.iconst 1), 255, 0), (255, .iadd, 256, 0), (256, (.putfield 71), 259, 160), (259, (.goto 452), 262, 0), (262, (.aload_n 0), 263, 0), (263, (.invokevirtual 27), 266, 195), (266, (.ifCond .eq 336), 269, 0), (269, (.aload_n 0), 270, 0), (270, (.iload_n 1), 271, 0), (271, (.invokevirtual 47), 274, 275), (274, (.istore 6), 276, 0), (276, (.aload_n 0), 277, 0), (277, (.getfield 72), 280, 156), (280, (.ifCond .ne 302), 283, 0), (283, (.aload_n 0), 284, 0), (284, (.getfield 84), 287, 49), (287, (.bipush 36), 289, 0), (289, (.iload_n 1), 290, 0), (290, .imul, 291, 0), (291, (.iload 6), 293, 0), (293, .iadd, 294, 0), (294, .iaload, 295, 0), (295, (.ifCond .le 302), 298, 0), (298, (.aload_n 0), 299, 0), (299, (.invokevirtual 24), 302, 177), (302, (.aload_n 0), 303, 0), (303, (.getfield 72), 306, 156), (306, (.ifCond .ne 333), 309, 0), (309, (.aload_n 0), 310, 0), (310, (.iload_n 1), 311, 0), (311, (.iload_n 2), 312, 0), (312, (.iload 6), 314, 0), (314, (.invokevirtual 48), 317, 278), (317, (.aload_n 0), 318, 0), (318, (.invokevirtual 45), 321, 260), (321, (.istore 5), 323, 0), (323, (.aload_n 0), 324, 0), (324, .dup, 325, 0), (325, (.getfield 71), 328, 160), (328, (.iconst 1), 329, 0), (329, .iadd, 330, 0), (330, (.putfield 71), 333, 160), (333, (.goto 452), 336, 0), (336, (.aload_n 0), 337, 0), (337, (.bipush 40), 339, 0), (339, (.invokevirtual 25), 342, 174), (342, (.ifCond .eq 436), 345, 0), (345, (.aload_n 0), 346, 0), (346, .dup, 347, 0), (347, (.getfield 71), 350, 160), (350, (.iconst 1), 351, 0), (351, .iadd, 352, 0), (352, (.putfield 71), 355, 160), (355, (.aload_n 0), 356, 0), (356, (.iload_n 1), 357, 0), (357, (.invokevirtual 47), 360, 275), (360, (.istore 6), 362, 0), (362, (.aload_n 0), 363, 0), (363, (.getfield 72), 366, 156), (366, (.ifCond .ne 433), 369, 0), (369, (.aload_n 0), 370, 0), (370, (.iload_n 1), 371, 0), (371, (.iload_n 2), 372, 0), (372, (.iload 6), 374, 0), (374, (.invokevirtual 48), 377, 278), (377, (.aload_n 0), 378, 0), (378, .dup, 379, 0), (379, (.getfield 71), 382, 160), (382, (.iconst 1), 383, 0), (383, .iadd, 384, 0), (384, (.putfield 71), 387, 160), (387, (.aload_n 0), 388, 0), (388, (.getfield 94), 391, 80), (391, (.aload_n 0), 392, 0), (392, (.getfield 97), 395, 245), (395, (.iload 6), 397, 0), (397, .iastore, 398, 0), (398, (.aload_n 0), 399, 0), (399, (.getfield 95), 402, 83), (402, (.aload_n 0), 403, 0), (403, (.getfield 97), 406, 245), (406, (.iconst 0), 407, 0), (407, .iastore, 408, 0), (408, (.aload_n 0), 409, 0), (409, (.getfield 96), 412, 86), (412, (.aload_n 0), 413, 0), (413, (.getfield 97), 416, 245), (416, (.aload_n 0), 417, 0), (417, (.getfield 99), 420, 251), (420, .iastore, 421, 0), (421, (.aload_n 0), 422, 0), (422, .dup, 423, 0), (423, (.getfield 97), 426, 245), (426, (.iconst 1), 427, 0), (427, .iadd, 428, 0), (428, (.putfield 97), 431, 245), (431, (.iconst 0), 432, 0), (432, .ireturn, 433, 0), (433, (.goto 452), 436, 0), (436, (.aload_n 0), 437, 0), (437, (.invokevirtual 45), 440, 260), (440, (.istore 5), 442, 0), (442, (.aload_n 0), 443, 0), (443, .dup, 444, 0), (444, (.getfield 71), 447, 160), (447, (.iconst 1), 448, 0), (448, .iadd, 449, 0), (449, (.putfield 71), 452, 160), (452, (.aload_n 0), 453, 0), (453, (.iload 4), 455, 0), (455, (.putfield 100), 458, 254), (458, (.iload 5), 460, 0), (460, .ireturn, 461, 0)]
def ar_47 : List (Nat × Jvm.ClassFile.Instr × Nat × Nat) := [(0, (.aload_n 0), 1, 0), (1, (.iload_n 1), 2, 0), (2, (.aload_n 0), 3, 0), (3, (.getfield 70), 6, 24), (6, (.aload_n 0), 7, 0), (7, (.getfield 71), 10, 160), (10, .laload, 11, 0), (11, (.invokevirtual 38), 14, 241), (14, (.istore_n 2), 15, 0), (15, (.iload_n 2), 16, 0), (16, (.ifCond .lt 37), 19, 0), (19, (.aload_n 0), 20, 0), (20, (.getfield 83), 23, 46), (23, (.bipush 36), 25, 0), (25, (.iload_n 1), 26, 0), (26, .imul, 27, 0), (27, (.iload_n 2), 28, 0), (28, .iadd, 29, 0), (29, .iaload, 30, 0), (30, (.aload_n 0), 31, 0), (31, (.getfield 98), 34, 248), (34, (.if_icmp .eq 41), 37, 0), (37, (.aload_n 0), 38, 0), (38, (.invokevirtual 24), 41, 177), (41, (.iload_n 2), 42, 0), (42, .ireturn, 43, 0)]
def ar_48 : List (Nat × Jvm.ClassFile.Instr × Nat × Nat) := [(0, (.aload_n 0), 1, 0), (1, (.getfield 100), 4, 254), (4, (.ifCond .ne 36), 7, 0), (7, (.aload_n 0), 8, 0), (8, (.getfield 79), 11, 34), (11, (.bipush 26), 13, 0), (13, (.iload_n 1), 14, 0), (14, .imul, 15, 0), (15, (.aload_n 0), 16, 0), (16, (.getfield 98), 19, 248), (19, .iadd, 20, 0), (20, .iaload, 21, 0), (21, (.iconst 1), 22, 0), (22, (.if_icmp .ne 36), 25, 0), (25, (.aload_n 0), 26, 0), (26, (.iload_n 1), 27, 0), (27, (.iload_n 2), 28, 0), (28, (.aload_n 0), 29, 0), (29, (.getfield 99), 32, 251), (32, (.iload_n 3), 33, 0), (33, (.invokevirtual 43), 36, 271), (36, .return_, 37, 0)]
def ar_49 : List (Nat × Jvm.ClassFile.Instr × Nat × Nat) := [(0, (.aload_n 0), 1, 0), (1, (.getfield 65), 4, 129), (4, (.bipush 20), 6, 0), (6, .iadd, 7, 0), (7, (.sipush 1200), 10, 0), (10, (.if_icmp .le 15), 13, 0), (13, (.iconst (-1)), 14, 0), (14, .ireturn, 15, 0), (15, (.iconst 0), 16, 0), (16, (.istore 6), 18, 0), (18, (.iload 6), 20, 0), (20, (.bipush 20), 22, 0), (22, (.if_icmp .ge 114), 25, 0), (25, (.iload 6), 27, 0), (27, (.iconst 4), 28, 0), (28, .idiv, 29, 0), (29, (.istore 7), 31, 0), (31, (.iload 7), 33, 0), (33, (.ifCond .ne 40), 36, 0), (36, (.iload_n 1), 37, 0), (37, (.goto 73), 40, 0), (40, (.iload 7), 42, 0), (42, (.iconst 1), 43, 0), (43, (.if_icmp .ne 50), 46, 0), (46, (.iload_n 2), 47, 0), (47, (.goto 73), 50, 0), (50, (.iload 7), 52, 0), (52, (.iconst 2), 53, 0), (53, (.if_icmp .ne 60), 56, 0), (56, (.iload_n 3), 57, 0), (57, (.goto 73), 60, 0), (60, (.iload 7), 62, 0), (62, (.iconst 3), 63, 0), (63, (.if_icmp .ne 71), 66, 0), (66, (.iload 4), 68, 0), (68, (.goto 73), 71, 0), (71, (.iload 5), 73, 0), (73, (.istore 8), 75, 0), (75, (.aload_n 0), 76, 0), (76, (.getfield 64), 79, 7), (79, (.aload_n 0), 80, 0), (80, (.getfield 65), 83, 129), (83, (.iload 8), 85, 0), (85, (.bipush 24), 87, 0), (87, (.bipush 8), 89, 0), (89, (.iload 6), 91, 0), (91, (.iconst 4), 92, 0), (92, .irem, 93, 0), (93, .imul, 94, 0), (94, .isub, 95, 0), (95, .ishr, 96, 0), (96, .i2b, 97, 0), (97, .bastore, 98, 0), (98, (.aload_n 0), 99, 0), (99, .dup, 100, 0), (100, (.getfield 65), 103, 129), (103, (.iconst 1), 104, 0), (104, .iadd, 105, 0), (105, (.putfield 65), 108, 129), (108, (.iinc 6 1), 111, 0), (111, (.goto 18), 114, 0), (114, (.aload_n 0), 115, 0), (115, (.getfield 65), 118, 129), (118, .ireturn, 119, 0)]
def ar_50 : List (Nat × Jvm.ClassFile.Instr × Nat × Nat) := [(0, (.iload_n 1), 1, 0), (1, (.ifCond .lt 19), 4, 0), (4, (.iload_n 1), 5, 0), (5, (.bipush 20), 7, 0), (7, (.if_icmp .gt 19), 10, 0), (10, (.aload_n 0), 11, 0), (11, (.getfield 65), 14, 129), (14, (.bipush 20), 16, 0), (16, (.if_icmp .ge 21), 19, 0), (19, (.iconst (-1)), 20, 0), (20, .ireturn, 21, 0), (21, (.aload_n 0), 22, 0), (22, .dup, 23, 0), (23, (.getfield 65), 26, 129), (26, (.bipush 20), 28, 0), (28, (.iload_n 1), 29, 0), (29, .isub, 30, 0), (30, .isub, 31, 0), (31, (.putfield 65), 34, 129), (34, (.aload_n 0), 35, 0), (35, (.getfield 65), 38, 129), (38, .ireturn, 39, 0)]
def ar_51 : List (Nat × Jvm.ClassFile.Instr × Nat × Nat) := [(0, (.aload_n 0), 1, 0), (1, (.invokevirtual 22), 4, 282), (4, (.aload_n 0), 5, 0), (5, (.iconst 0), 6, 0), (6, (.putfield 65), 9, 129), (9, (.aload_n 0), 10, 0), (10, (.iconst 0), 11, 0), (11, (.putfield 71), 14, 160), (14, (.aload_n 0), 15, 0), (15, (.iconst 0), 16, 0), (16, (.putfield 72), 19, 156), (19, (.aload_n 0), 20, 0), (20, (.iconst (-1)), 21, 0), (21, (.putfield 66), 24, 13), (24, (.aload_n 0), 25, 0), (25, (.invokevirtual 30), 28, 285), (28, (.aload_n 0), 29, 0), (29, (.getfield 72), 32, 156), (32, (.ifCond .eq 46), 35, 0), (35, (.aload_n 0), 36, 0), (36, (.aload_n 0), 37, 0), (37, (.getfield 73), 40, 163), (40, (.putfield 66), 43, 13), (43, (.bipush (-2)), 45, 0), (45, .ireturn, 46, 0), (46, (.aload_n 0), 47, 0), (47, (.getfield 78), 50, 31), (50, (.ifCond .ne 57), 53, 0), (53, (.iconst 1), 54, 0), (54, (.goto 58), 57, 0), (57, (.iconst 0), 58, 0), (58, (.istore_n 1), 59, 0), (59, (.aload_n 0), 60, 0), (60, (.iload_n 1), 61, 0), (61, (.invokevirtual 39), 64, 288), (64, (.aload_n 0), 65, 0), (65, (.getfield 72), 68, 156), (68, (.ifCond .eq 82), 71, 0), (71, (.aload_n 0), 72, 0), (72, (.aload_n 0), 73, 0), (73, (.getfield 73), 76, 163), (76, (.putfield 66), 79, 13), (79, (.bipush (-3)), 81, 0), (81, .ireturn, 82, 0), (82, (.aload_n 0), 83, 0), (83, (.iload_n 1), 84, 0), (84, (.putfield 78), 87, 31), (87, (.aload_n 0), 88, 0), (88, (.iconst 0), 89, 0), (89, (.putfield 104), 92, 291), (92, (.iconst 0), 93, 0), (93, (.istore_n 2), 94, 0), (94, (.iload_n 2), 95, 0), (95, (.bipush 12), 97, 0), (97, (.if_icmp .ge 113), 100, 0), (100, (.aload_n 0), 101, 0), (101, (.getfield 108), 104, 102), (104, (.iload_n 2), 105, 0), (105, (.iconst (-1)), 106, 0), (106, .iastore, 107, 0), (107, (.iinc 2 1), 110, 0), (110, (.goto 94), 113, 0), (113, (.aload_n 0), 114, 0), (114, (.invokevirtual 69), 117, 294), (117, (.aload_n 0), 118, 0), (118, (.getfield 88), 121, 61), (121, (.iload_n 1), 122, 0), (122, .iaload, 123, 0), (123, .ireturn, 124, 0)]
def ar_52 : List (Nat × Jvm.ClassFile.Instr × Nat × Nat) := [(0, (.aload_n 0), 1, 0), (1, (.getfield 66), 4, 13), (4, .ireturn, 5, 0)]
def ar_53 : List (Nat × Jvm.ClassFile.Instr × Nat × Nat) := [(0, (.aload_n 0), 1, 0), (1, (.getfield 78), 4, 31), (4, (.ifCond .ge 9), 7, 0), (7, (.iconst (-1)), 8, 0), (8, .ireturn, 9, 0), (9, (.iload_n 1), 10, 0), (10, (.ifCond .ne 25), 13, 0), (13, (.aload_n 0), 14, 0), (14, (.getfield 80), 17, 37), (17, (.aload_n 0), 18, 0), (18, (.getfield 78), 21, 31), (21, .iaload, 22, 0), (22, (.goto 94), 25, 0), (25, (.iload_n 1), 26, 0), (26, (.iconst 1), 27, 0), (27, (.if_icmp .ne 42), 30, 0), (30, (.aload_n 0), 31, 0), (31, (.getfield 81), 34, 40), (34, (.aload_n 0), 35, 0), (35, (.getfield 78), 38, 31), (38, .iaload, 39, 0), (39, (.goto 94), 42, 0), (42, (.iload_n 1), 43, 0), (43, (.iconst 2), 44, 0), (44, (.if_icmp .ne 59), 47, 0), (47, (.aload_n 0), 48, 0), (48, (.getfield 86), 51, 55), (51, (.aload_n 0), 52, 0), (52, (.getfield 78), 55, 31), (55, .iaload, 56, 0), (56, (.goto 94), 59, 0), (59, (.iload_n 1), 60, 0), (60, (.iconst 3), 61, 0), (61, (.if_icmp .ne 76), 64, 0), (64, (.aload_n 0), 65, 0), (65, (.getfield 88), 68, 61), (68, (.aload_n 0), 69, 0), (69, (.getfield 78), 72, 31), (72, .iaload, 73, 0), (73, (.goto 94), 76, 0), (76, (.iload_n 1), 77, 0), (77, (.iconst 4), 78, 0), (78, (.if_icmp .ne 93), 81, 0), (81, (.aload_n 0), 82, 0), (82, (.getfield 89), 85, 64), (85, (.aload_n 0), 86, 0), (86, (.getfield 78), 89, 31), (89, .iaload, 90, 0), (90, (.goto 94), 93, 0), (93, (.iconst (-1)), 94, 0), (94, .ireturn, 95, 0)]
def ar_54 : List (Nat × Jvm.ClassFile.Instr × Nat × Nat) := [(0, (.aload_n 0), 1, 0), (1, (.iconst 0), 2, 0), (2, (.putfield 71), 5, 160), (5, (.aload_n 0), 6, 0), (6, (.iconst 0), 7, 0), (7, (.putfield 97), 10, 245), (10, (.iconst 0), 11, 0), (11, (.istore_n 2), 12, 0), (12, (.aload_n 0), 13, 0), (13, (.getfield 72), 16, 156), (16, (.ifCond .ne 404), 19, 0), (19, (.aload_n 0), 20, 0), (20, (.getfield 68), 23, 17), (23, (.aload_n 0), 24, 0), (24, (.getfield 71), 27, 160), (27, .iaload, 28, 0), (28, (.ifCond .eq 404), 31, 0), (31, (.aload_n 0), 32, 0), (32, (.bipush 41), 34, 0), (34, (.invokevirtual 25), 37, 174), (37, (.ifCond .eq 111), 40, 0), (40, (.bipush 36), 42, 0), (42, (.iload_n 1), 43, 0), (43, .imul, 44, 0), (44, (.aload_n 0), 45, 0), (45, (.getfield 94), 48, 80), (48, (.aload_n 0), 49, 0), (49, (.getfield 97), 52, 245), (52, (.iconst 1), 53, 0), (53, .isub, 54, 0), (54, .iaload, 55, 0), (55, .iadd, 56, 0), (56, (.istore_n 3), 57, 0), (57, (.aload_n 0), 58, 0), (58, (.getfield 95), 61, 83), (61, (.aload_n 0), 62, 0), (62, (.getfield 97), 65, 245), (65, (.iconst 1), 66, 0), (66, .isub, 67, 0), (67, .iaload, 68, 0), (68, (.aload_n 0), 69, 0), (69, (.getfield 84), 72, 49), (72, (.iload_n 3), 73, 0), (73, .iaload, 74, 0), (74, (.if_icmp .ge 81), 77, 0), (77, (.aload_n 0), 78, 0), (78, (.invokevirtual 24), 81, 177), (81, (.aload_n 0), 82, 0), (82, .dup, 83, 0), (83, (.getfield 97), 86, 245), (86, (.iconst 1), 87, 0), (87, .isub, 88, 0), (88, (.putfield 97), 91, 245), (91, (.iload_n 2), 92, 0), (92, (.aload_n 0), 93, 0), (93, (.invokevirtual 45), 96, 260), (96, .iadd, 97, 0), (97, (.istore_n 2), 98, 0), (98, (.aload_n 0), 99, 0), (99, .dup, 100, 0), (100, (.getfield 71), 103, 160), (103, (.iconst 1), 104, 0), (104, .iadd, 105, 0), (105, (.putfield 71), 108, 160), (108, (.goto 12), 111, 0), (111, (.aload_n 0), 112, 0), (112, (.iload_n 1), 113, 0), (113, (.iload_n 2), 114, 0), (114, (.invokevirtual 42), 117, 264), (117, (.ifCond .ne 127), 120, 0), (120, (.aload_n 0), 121, 0), (121, (.invokevirtual 24), 124, 177), (124, (.goto 12), 127, 0), (127, (.aload_n 0), 128, 0), (128, (.bipush 63), 130, 0), (130, (.invokevirtual 25), 133, 174), (133, (.ifCond .eq 167), 136, 0), (136, (.aload_n 0), 137, 0), (137, (.getfield 102), 140, 90), (140, (.aload_n 0), 141, 0), (141, (.getfield 99), 144, 251), (144, (.bipush (-2)), 146, 0), (146, .iastore, 147, 0), (147, (.iload_n 2), 148, 0), (148, (.aload_n 0), 149, 0), (149, (.invokevirtual 45), 152, 260), (152, .iadd, 153, 0), (153, (.istore_n 2), 154, 0), (154, (.aload_n 0), 155, 0), (155, .dup, 156, 0), (156, (.getfield 71), 159, 160), (159, (.iconst 1), 160, 0), (160, .iadd, 161, 0), (161, (.putfield 71), 164, 160), (164, (.goto 12), 167, 0), (167, (.aload_n 0), 168, 0), (168, (.getfield 68), 171, 17), (171, (.aload_n 0), 172, 0), (172, (.getfield 71), 175, 160), (175, .iaload, 176, 0), (176, (.iconst 5), 177, 0), (177, (.if_icmp .ne 235), 180, 0), (180, (.aload_n 0), 181, 0), (181, (.getfield 98), 184, 248), (184, (.bipush 8), 186, 0), (186, (.if_icmp .eq 193), 189, 0), (189, (.aload_n 0), 190, 0), (190, (.invokevirtual 24), 193, 177), (193, (.aload_n 0), 194, 0), (194, (.getfield 102), 197, 90), (197, (.aload_n 0), 198, 0), (198, (.getfield 99), 201, 251), (201, (.bipush 100), 203, 0), (203, (.aload_n 0), 204, 0), (204, (.getfield 70), 207, 24), (207, (.aload_n 0), 208, 0), (208, (.getfield 71), 211, 160), (211, .laload, 212, 0), (212, .l2i, 213, 0), (213, .iadd, 214, 0), (214, .iastore, 215, 0), (215, (.iload_n 2), 216, 0), (216, (.aload_n 0), 217, 0), (217, (.invokevirtual 45), 220, 260), (220, .iadd, 221, 0), (221, (.istore_n 2), 222, 0), (222, (.aload_n 0), 223, 0), (223, .dup, 224, 0), (224, (.getfield 71), 227, 160), (227, (.iconst 1), 228, 0), (228, .iadd, 229, 0), (229, (.putfield 71), 232, 160), (232, (.goto 12), 235, 0), (235, (.aload_n 0), 236, 0), (236, (.bipush 40), 238, 0), (238, (.invokevirtual 25), 241, 174), (241, (.istore_n 3), 242, 0), (242, (.aload_n 0), 243, 0), (243, .dup, 244, 0), (244, (.getfield 71), 247, 160), (247, (.iload_n 3), 248, 0), (248, (.ifCond .eq 255), 251, 0), (251, (.iconst 1), 252, 0), (252, (.goto 256), 255, 0), (255, (.iconst 0), 256, 0), (256, .iadd, 257, 0), (257, (.putfield 71), 260, 160), (260, (.aload_n 0), 261, 0), (261, (.iload_n 1), 262, 0), (262, (.invokevirtual 47), 265, 275), (265, (.istore 4), 267, 0), (267, (.aload_n 0), 268, 0), (268, (.getfield 72), 271, 156), (271, (.ifCond .ne 297), 274, 0), (274, (.iload_n 3), 275, 0), (275, (.ifCond .ne 297), 278, 0), (278, (.aload_n 0), 279, 0), (279, (.getfield 84), 282, 49), (282, (.bipush 36), 284, 0), (284, (.iload_n 1), 285, 0), (285, .imul, 286, 0), (286, (.iload 4), 288, 0), (288, .iadd, 289, 0), (289, .iaload, 290, 0), (290, (.ifCond .le 297), 293, 0), (293, (.aload_n 0), 294, 0), (294, (.invokevirtual 24), 297, 177), (297, (.aload_n 0), 298, 0), (298, (.getfield 72), 301, 156), (301, (.ifCond .ne 401), 304, 0), (304, (.aload_n 0), 305, 0), (305, (.getfield 79), 308, 34), (308, (.bipush 26), 310, 0), (310, (.iload_n 1), 311, 0), (311, .imul, 312, 0), (312, (.aload_n 0), 313, 0), (313, (.getfield 98), 316, 248), (316, .iadd, 317, 0), (317, .iaload, 318, 0), (318, (.iconst 1), 319, 0), (319, (.if_icmp .ne 333), 322, 0), (322, (.aload_n 0), 323, 0), (323, (.getfield 102), 326, 90), (326, (.aload_n 0), 327, 0), (327, (.getfield 99), 330, 251), (330, (.iload 4), 332, 0), (332, .iastore, 333, 0), (333, (.aload_n 0), 334, 0), (334, .dup, 335, 0), (335, (.getfield 71), 338, 160), (338, (.iconst 1), 339, 0), (339, .iadd, 340, 0), (340, (.putfield 71), 343, 160), (343, (.iload_n 3), 344, 0), (344, (.ifCond .eq 394), 347, 0), (347, (.aload_n 0), 348, 0), (348, (.getfield 94), 351, 80), (351, (.aload_n 0), 352, 0), (352, (.getfield 97), 355, 245), (355, (.iload 4), 357, 0), (357, .iastore, 358, 0), (358, (.aload_n 0), 359, 0), (359, (.getfield 95), 362, 83), (362, (.aload_n 0), 363, 0), (363, (.getfield 97), 366, 245), (366, (.iconst 0), 367, 0), (367, .iastore, 368, 0), (368, (.aload_n 0), 369, 0), (369, (.getfield 96), 372, 86), (372, (.aload_n 0), 373, 0), (373, (.getfield 97), 376, 245), (376, (.aload_n 0), 377, 0), (377, (.getfield 99), 380, 251), (380, .iastore, 381, 0), (381, (.aload_n 0), 382, 0), (382, .dup, 383, 0), (383, (.getfield 97), 386, 245), (386, (.iconst 1), 387, 0), (387, .iadd, 388, 0), (388, (.putfield 97), 391, 245), (391, (.goto 401), 394, 0), (394, (.iload_n 2), 395, 0), (395, (.aload_n 0), 396, 0), (396, (.invokevirtual 45), 399, 260), (399, .iadd, 400, 0), (400, (.istore_n 2), 401, 0), (401, (.goto 12), 404, 0), (404, (.iload_n 2), 405, 0), (405, (.aload_n 0), 406, 0), (406, (.getfield 86), 409, 55), (409, (.iload_n 1), 410, 0), (410, .iaload, 411, 0), (411, (.if_icmp .ge 418), 414, 0), (414, (.aload_n 0), 415, 0), (415, (.invokevirtual 24), 418, 177), (418, .return_, 419, 0)]
def ar_55 : List (Nat × Jvm.ClassFile.Instr × Nat × Nat) := [(0, (.iconst 0), 1, 0), (1, (.istore_n 2), 2, 0), (2, (.iload_n 2), 3, 0), (3, (.aload_n 0), 4, 0), (4, (.getfield 104), 7, 291), (7, (.if_icmp .ge 27), 10, 0), (10, (.aload_n 0), 11, 0), (11, (.getfield 105), 14, 96), (14, (.iload_n 2), 15, 0), (15, .iaload, 16, 0), (16, (.iload_n 1), 17, 0), (17, (.if_icmp .ne 21), 20, 0), (20, .return_, 21, 0), (21, (.iinc 2 1), 24, 0), (24, (.goto 2), 27, 0), (27, (.aload_n 0), 28, 0), (28, (.getfield 105), 31, 96), (31, (.aload_n 0), 32, 0), (32, (.getfield 104), 35, 291), (35, (.iload_n 1), 36, 0), (36, .iastore, 37, 0), (37, (.aload_n 0), 38, 0), (38, .dup, 39, 0), (39, (.getfield 104), 42, 291), (42, (.iconst 1), 43, 0), (43, .iadd, 44, 0), (44, (.putfield 104), 47, 291), (47, .return_, 48, 0)]
def ar_56 : List (Nat × Jvm.ClassFile.Instr × Nat × Nat) := [(0, (.aload_n 0), 1, 0), (1, (.getfield 78), 4, 31), (4, (.ifCond .ge 9), 7, 0), (7, (.iconst (-1)), 8, 0), (8, .ireturn, 9, 0), (9, (.aload_n 0), 10, 0), (10, (.invokevirtual 22), 13, 282), (13, (.aload_n 0), 14, 0), (14, (.iconst 0), 15, 0), (15, (.putfield 65), 18, 129), (18, (.aload_n 0), 19, 0), (19, (.iconst 0), 20, 0), (20, (.putfield 71), 23, 160), (23, (.aload_n 0), 24, 0), (24, (.iconst 0), 25, 0), (25, (.putfield 72), 28, 156), (28, (.aload_n 0), 29, 0), (29, (.iconst 0), 30, 0), (30, (.putfield 104), 33, 291), (33, (.aload_n 0), 34, 0), (34, (.iconst 0), 35, 0), (35, (.putfield 74), 38, 205), (38, (.aload_n 0), 39, 0), (39, (.iconst 1), 40, 0), (40, (.invokevirtual 34), 43, 208), (43, (.aload_n 0), 44, 0), (44, (.getfield 72), 47, 156), (47, (.ifCond .ne 66), 50, 0), (50, (.aload_n 0), 51, 0), (51, (.getfield 68), 54, 17), (54, (.aload_n 0), 55, 0), (55, (.getfield 71), 58, 160), (58, .iaload, 59, 0), (59, (.ifCond .eq 66), 62, 0), (62, (.aload_n 0), 63, 0), (63, (.invokevirtual 24), 66, 177), (66, (.aload_n 0), 67, 0), (67, (.getfield 72), 70, 156), (70, (.ifCond .eq 76), 73, 0), (73, (.bipush (-2)), 75, 0), (75, .ireturn, 76, 0), (76, (.aload_n 0), 77, 0), (77, (.aload_n 0), 78, 0), (78, (.getfield 78), 81, 31), (81, (.invokevirtual 54), 84, 297), (84, (.aload_n 0), 85, 0), (85, (.getfield 72), 88, 156), (88, (.ifCond .eq 94), 91, 0), (91, (.bipush (-3)), 93, 0), (93, .ireturn, 94, 0), (94, (.iconst 0), 95, 0), (95, (.istore_n 2), 96, 0), (96, (.iload_n 2), 97, 0), (97, (.aload_n 0), 98, 0), (98, (.getfield 88), 101, 61), (101, (.aload_n 0), 102, 0), (102, (.getfield 78), 105, 31), (105, .iaload, 106, 0), (106, (.if_icmp .ge 168), 109, 0), (109, (.bipush 12), 111, 0), (111, (.aload_n 0), 112, 0), (112, (.getfield 78), 115, 31), (115, .imul, 116, 0), (116, (.iload_n 2), 117, 0), (117, .iadd, 118, 0), (118, (.istore_n 3), 119, 0), (119, (.aload_n 0), 120, 0), (120, (.iload_n 3), 121, 0), (121, (.invokevirtual 57), 124, 300), (124, (.istore 4), 126, 0), (126, (.iload 4), 128, 0), (128, (.bipush (-2)), 130, 0), (130, (.if_icmp .ne 136), 133, 0), (133, (.bipush (-6)), 135, 0), (135, .ireturn, 136, 0), (136, (.iload 4), 138, 0), (138, (.iconst 1), 139, 0), (139, (.if_icmp .ne 162), 142, 0), (142, (.aload_n 0), 143, 0), (143, (.getfield 90), 146, 67), (146, (.iload_n 3), 147, 0), (147, .baload, 148, 0), (148, (.ifCond .eq 160), 151, 0), (151, (.iload_n 1), 152, 0), (152, (.iload_n 2), 153, 0), (153, .ishr, 154, 0), (154, (.iconst 1), 155, 0), (155, .iand, 156, 0), (156, (.iconst 1), 157, 0), (157, (.if_icmp .ne 162), 160, 0), (160, (.iload_n 2), 161, 0), (161, .ireturn, 162, 0), (162, (.iinc 2 1), 165, 0), (165, (.goto 96), 168, 0), (168, (.bipush (-5)), 170, 0), (170, .ireturn, 171, 0)]
def ar_57 : List (Nat × Jvm.ClassFile.Instr × Nat × Nat) := [(0, (.iconst 0), 1, 0), (1, (.istore_n 2), 2, 0), (2, (.iload_n 2), 3, 0), (3, (.aload_n 0), 4, 0), (4, (.getfield 91), 7, 71), (7, (.iload_n 1), 8, 0), (8, .iaload, 9, 0), (9, (.if_icmp .ge 83), 12, 0), (12, (.aload_n 0), 13, 0), (13, (.getfield 92), 16, 74), (16, (.sipush 150), 19, 0), (19, (.iload_n 1), 20, 0), (20, .imul, 21, 0), (21, (.iload_n 2), 22, 0), (22, .iadd, 23, 0), (23, .iaload, 24, 0), (24, (.istore_n 3), 25, 0), (25, (.aload_n 0), 26, 0), (26, (.getfield 93), 29, 77), (29, (.sipush 150), 32, 0), (32, (.iload_n 1), 33, 0), (33, .imul, 34, 0), (34, (.iload_n 2), 35, 0), (35, .iadd, 36, 0), (36, .iaload, 37, 0), (37, (.istore 4), 39, 0), (39, (.aload_n 0), 40, 0), (40, (.iload_n 3), 41, 0), (41, (.invokevirtual 55), 44, 303), (44, (.aload_n 0), 45, 0), (45, (.getfield 102), 48, 90), (48, (.iload_n 3), 49, 0), (49, .iaload, 50, 0), (50, (.bipush (-2)), 52, 0), (52, (.if_icmp .ne 58), 55, 0), (55, (.bipush (-2)), 57, 0), (57, .ireturn, 58, 0), (58, (.iload 4), 60, 0), (60, (.iconst (-1)), 61, 0), (61, (.if_icmp .eq 77), 64, 0), (64, (.aload_n 0), 65, 0), (65, (.getfield 102), 68, 90), (68, (.iload_n 3), 69, 0), (69, .iaload, 70, 0), (70, (.iload 4), 72, 0), (72, (.if_icmp .eq 77), 75, 0), (75, (.iconst 0), 76, 0), (76, .ireturn, 77, 0), (77, (.iinc 2 1), 80, 0), (80, (.goto 2), 83, 0), (83, (.iconst 1), 84, 0), (84, .ireturn, 85, 0)]
def ar_58 : List (Nat × Jvm.ClassFile.Instr × Nat × Nat) := [(0, (.aload_n 0), 1, 0), (1, (.getfield 78), 4, 31), (4, (.ifCond .ge 11), 7, 0), (7, (.iconst (-1)), 8, 0), (8, (.goto 15), 11, 0), (11, (.aload_n 0), 12, 0), (12, (.getfield 104), 15, 291), (15, .ireturn, 16, 0)]
def ar_59 : List (Nat × Jvm.ClassFile.Instr × Nat × Nat) := [(0, (.aload_n 0), 1, 0), (1, (.getfield 78), 4, 31), (4, (.ifCond .lt 19), 7, 0), (7, (.iload_n 1), 8, 0), (8, (.ifCond .lt 19), 11, 0), (11, (.iload_n 1), 12, 0), (12, (.aload_n 0), 13, 0), (13, (.getfield 104), 16, 291), (16, (.if_icmp .lt 23), 19, 0), (19, (.iconst (-1)), 20, 0), (20, (.goto 29), 23, 0), (23, (.aload_n 0), 24, 0), (24, (.getfield 105), 27, 96), (27, (.iload_n 1), 28, 0), (28, .iaload, 29, 0), (29, .ireturn, 30, 0)]
def ar_60 : List (Nat × Jvm.ClassFile.Instr × Nat × Nat) := [(0, (.iconst 0), 1, 0), (1, (.istore_n 2), 2, 0), (2, (.iload_n 2), 3, 0), (3, (.aload_n 0), 4, 0), (4, (.getfield 91), 7, 71), (7, (.iload_n 1), 8, 0), (8, .iaload, 9, 0), (9, (.if_icmp .ge 74), 12, 0), (12, (.aload_n 0), 13, 0), (13, (.getfield 92), 16, 74), (16, (.sipush 150), 19, 0), (19, (.iload_n 1), 20, 0), (20, .imul, 21, 0), (21, (.iload_n 2), 22, 0), (22, .iadd, 23, 0), (23, .iaload, 24, 0), (24, (.istore_n 3), 25, 0), (25, (.aload_n 0), 26, 0), (26, (.getfield 93), 29, 77), (29, (.sipush 150), 32, 0), (32, (.iload_n 1), 33, 0), (33, .imul, 34, 0), (34, (.iload_n 2), 35, 0), (35, .iadd, 36, 0), (36, .iaload, 37, 0), (37, (.istore 4), 39, 0), (39, (.iload 4), 41, 0), (41, (.iconst (-1)), 42, 0), (42, (.if_icmp .eq 68), 45, 0), (45, (.aload_n 0), 46, 0), (46, (.getfield 106), 49, 99), (49, (.iload_n 3), 50, 0), (50, .iaload, 51, 0), (51, (.iconst (-1)), 52, 0), (52, (.if_icmp .eq 68), 55, 0), (55, (.aload_n 0), 56, 0), (56, (.getfield 106), 59, 99), (59, (.iload_n 3), 60, 0), (60, .iaload, 61, 0), (61, (.iload 4), 63, 0), (63, (.if_icmp .eq 68), 66, 0), (66, (.iconst 0), 67, 0), (67, .ireturn, 68, 0), (68, (.iinc 2 1), 71, 0), (71, (.goto 2), 74, 0), (74, (.iconst 1), 75, 0), (75, .ireturn, 76, 0)]
def ar_61 : List (Nat × Jvm.ClassFile.Instr × Nat × Nat) := [(0, (.iconst 0), 1, 0), (1, (.istore_n 1), 2, 0), (2, (.iload_n 1), 3, 0), (3, (.aload_n 0), 4, 0), (4, (.getfield 114), 7, 306), (7, (.if_icmp .ge 59), 10, 0), (10, (.aload_n 0), 11, 0), (11, (.getfield 90), 14, 67), (14, (.bipush 12), 16, 0), (16, (.aload_n 0), 17, 0), (17, (.getfield 78), 20, 31), (20, .imul, 21, 0), (21, (.iload_n 1), 22, 0), (22, .iadd, 23, 0), (23, .baload, 24, 0), (24, (.ifCond .ne 53), 27, 0), (27, (.aload_n 0), 28, 0), (28, (.bipush 12), 30, 0), (30, (.aload_n 0), 31, 0), (31, (.getfield 78), 34, 31), (34, .imul, 35, 0), (35, (.iload_n 1), 36, 0), (36, .iadd, 37, 0), (37, (.invokevirtual 60), 40, 309), (40, (.ifCond .eq 53), 43, 0), (43, (.bipush 12), 45, 0), (45, (.aload_n 0), 46, 0), (46, (.getfield 78), 49, 31), (49, .imul, 50, 0), (50, (.iload_n 1), 51, 0), (51, .iadd, 52, 0), (52, .ireturn, 53, 0), (53, (.iinc 1 1), 56, 0), (56, (.goto 2), 59, 0), (59, (.iconst (-1)), 60, 0), (60, .ireturn, 61, 0)]
def ar_62 : List (Nat × Jvm.ClassFile.Instr × Nat × Nat) := [(0, (.iconst 0), 1, 0), (1, (.istore_n 2), 2, 0), (2, (.iload_n 2), 3, 0), (3, (.aload_n 0), 4, 0), (4, (.getfield 91), 7, 71), (7, (.iload_n 1), 8, 0), (8, .iaload, 9, 0), (9, (.if_icmp .ge 63), 12, 0), (12, (.aload_n 0), 13, 0), (13, (.getfield 93), 16, 77), (16, (.sipush 150), 19, 0), (19, (.iload_n 1), 20, 0), (20, .imul, 21, 0), (21, (.iload_n 2), 22, 0), (22, .iadd, 23, 0), (23, .iaload, 24, 0), (24, (.iconst (-1)), 25, 0), (25, (.if_icmp .eq 57), 28, 0), (28, (.aload_n 0), 29, 0), (29, (.getfield 106), 32, 99), (32, (.aload_n 0), 33, 0), (33, (.getfield 92), 36, 74), (36, (.sipush 150), 39, 0), (39, (.iload_n 1), 40, 0), (40, .imul, 41, 0), (41, (.iload_n 2), 42, 0), (42, .iadd, 43, 0), (43, .iaload, 44, 0), (44, .iaload, 45, 0), (45, (.iconst (-1)), 46, 0), (46, (.if_icmp .ne 57), 49, 0), (49, (.sipush 150), 52, 0), (52, (.iload_n 1), 53, 0), (53, .imul, 54, 0), (54, (.iload_n 2), 55, 0), (55, .iadd, 56, 0), (56, .ireturn, 57, 0), (57, (.iinc 2 1), 60, 0), (60, (.goto 2), 63, 0), (63, (.iconst (-1)), 64, 0), (64, .ireturn, 65, 0)]
def ar_63 : List (Nat × Jvm.ClassFile.Instr × Nat × Nat) := [(0, (.iload 4), 2, 0), (2, (.istore 5), 4, 0), (4, (.iload 5), 6, 0), (6, (.aload_n 0), 7, 0), (7, (.getfield 81), 10, 40), (10, (.aload_n 0), 11, 0), (11, (.getfield 78), 14, 31), (14, .iaload, 15, 0), (15, (.if_icmp .ge 75), 18, 0), (18, (.aload_n 0), 19, 0), (19, (.getfield 83), 22, 46), (22, (.bipush 36), 24, 0), (24, (.aload_n 0), 25, 0), (25, (.getfield 78), 28, 31), (28, .imul, 29, 0), (29, (.iload 5), 31, 0), (31, .iadd, 32, 0), (32, .iaload, 33, 0), (33, (.iload_n 3), 34, 0), (34, (.if_icmp .ne 75), 37, 0), (37, (.aload_n 0), 38, 0), (38, (.iload_n 2), 39, 0), (39, (.iload 5), 41, 0), (41, (.invokevirtual 64), 44, 312), (44, (.ifCond .eq 50), 47, 0), (47, (.iload 5), 49, 0), (49, .ireturn, 50, 0), (50, (.aload_n 0), 51, 0), (51, (.getfield 116), 54, 117), (54, (.iload_n 1), 55, 0), (55, .baload, 56, 0), (56, (.ifCond .ne 69), 59, 0), (59, (.aload_n 0), 60, 0), (60, (.getfield 116), 63, 117), (63, (.iload_n 1), 64, 0), (64, (.iconst 1), 65, 0), (65, .bastore, 66, 0), (66, (.iload 5), 68, 0), (68, .ireturn, 69, 0), (69, (.iinc 5 1), 72, 0), (72, (.goto 4), 75, 0), (75, (.iconst (-1)), 76, 0), (76, .ireturn, 77, 0)]
def ar_64 : List (Nat × Jvm.ClassFile.Instr × Nat × Nat) := [(0, (.iconst 0), 1, 0), (1, (.istore_n 3), 2, 0), (2, (.iload_n 3), 3, 0), (3, (.aload_n 0), 4, 0), (4, (.getfield 114), 7, 306), (7, (.if_icmp .ge 105), 10, 0), (10, (.bipush 12), 12, 0), (12, (.aload_n 0), 13, 0), (13, (.getfield 78), 16, 31), (16, .imul, 17, 0), (17, (.iload_n 3), 18, 0), (18, .iadd, 19, 0), (19, (.istore 4), 21, 0), (21, (.aload_n 0), 22, 0), (22, (.getfield 90), 25, 67), (25, (.iload 4), 27, 0), (27, .baload, 28, 0), (28, (.ifCond .ne 99), 31, 0), (31, (.aload_n 0), 32, 0), (32, (.iload 4), 34, 0), (34, (.invokevirtual 60), 37, 309), (37, (.ifCond .eq 99), 40, 0), (40, (.iconst 0), 41, 0), (41, (.istore 5), 43, 0), (43, (.iload 5), 45, 0), (45, (.aload_n 0), 46, 0), (46, (.getfield 91), 49, 71), (49, (.iload 4), 51, 0), (51, .iaload, 52, 0), (52, (.if_icmp .ge 99), 55, 0), (55, (.aload_n 0), 56, 0), (56, (.getfield 92), 59, 74), (59, (.sipush 150), 62, 0), (62, (.iload 4), 64, 0), (64, .imul, 65, 0), (65, (.iload 5), 67, 0), (67, .iadd, 68, 0), (68, .iaload, 69, 0), (69, (.iload_n 1), 70, 0), (70, (.if_icmp .ne 93), 73, 0), (73, (.aload_n 0), 74, 0), (74, (.getfield 93), 77, 77), (77, (.sipush 150), 80, 0), (80, (.iload 4), 82, 0), (82, .imul, 83, 0), (83, (.iload 5), 85, 0), (85, .iadd, 86, 0), (86, .iaload, 87, 0), (87, (.iload_n 2), 88, 0), (88, (.if_icmp .ne 93), 91, 0), (91, (.iconst 1), 92, 0), (92, .ireturn, 93, 0), (93, (.iinc 5 1), 96, 0), (96, (.goto 43), 99, 0), (99, (.iinc 3 1), 102, 0), (102, (.goto 2), 105, 0), (105, (.iconst 0), 106, 0), (106, .ireturn, 107, 0)]
def ar_65 : List (Nat × Jvm.ClassFile.Instr × Nat × Nat) := [(0, (.iload_n 2), 1, 0), (1, (.sipush 1000), 4, 0), (4, (.if_icmp .lt 9), 7, 0), (7, (.iconst (-1)), 8, 0), (8, .ireturn, 9, 0), (9, (.iload_n 2), 10, 0), (10, (.iconst 1), 11, 0), (11, .iadd, 12, 0), (12, (.istore_n 3), 13, 0), (13, (.iload_n 3), 14, 0), (14, (.sipush 1000), 17, 0), (17, (.if_icmp .ge 40), 20, 0), (20, (.aload_n 0), 21, 0), (21, (.iload_n 1), 22, 0), (22, (.bipush 100), 24, 0), (24, (.iload_n 3), 25, 0), (25, .iadd, 26, 0), (26, (.invokevirtual 64), 29, 312), (29, (.ifCond .eq 34), 32, 0), (32, (.iload_n 3), 33, 0), (33, .ireturn, 34, 0), (34, (.iinc 3 1), 37, 0), (37, (.goto 13), 40, 0), (40, (.iconst 0), 41, 0), (41, (.istore_n 3), 42, 0), (42, (.iload_n 3), 43, 0), (43, (.sipush 1000), 46, 0), (46, (.if_icmp .ge 67), 49, 0), (49, (.aload_n 0), 50, 0), (50, (.iload_n 1), 51, 0), (51, (.bipush 100), 53, 0), (53, (.iload_n 3), 54, 0), (54, .iadd, 55, 0), (55, (.invokevirtual 64), 58, 312), (58, (.ifCond .eq 67), 61, 0), (61, (.iinc 3 1), 64, 0), (64, (.goto 42), 67, 0), (67, (.iload_n 3), 68, 0), (68, (.sipush 1000), 71, 0), (71, (.if_icmp .ge 82), 74, 0), (74, (.sipush 1000), 77, 0), (77, (.iload_n 3), 78, 0), (78, .iadd, 79, 0), (79, (.goto 83), 82, 0), (82, (.iconst (-1)), 83, 0), (83, .ireturn, 84, 0)]
def ar_66 : List (Nat × Jvm.ClassFile.Instr × Nat × Nat) := [(0, (.iconst 0), 1, 0), (1, (.istore_n 2), 2, 0), (2, (.aload_n 0), 3, 0), (3, (.getfield 83), 6, 46), (6, (.bipush 36), 8, 0), (8, (.aload_n 0), 9, 0), (9, (.getfield 78), 12, 31), (12, .imul, 13, 0), (13, (.iload_n 2), 14, 0), (14, .iadd, 15, 0), (15, .iaload, 16, 0), (16, (.iload_n 1), 17, 0), (17, (.if_icmp .eq 26), 20, 0), (20, (.iinc 2 1), 23, 0), (23, (.goto 2), 26, 0), (26, (.iload_n 2), 27, 0), (27, .ireturn, 28, 0)]
def ar_67 : List (Nat × Jvm.ClassFile.Instr × Nat × Nat) := [(0, (.aload_n 0), 1, 0), (1, (.iconst 0), 2, 0), (2, (.putfield 111), 5, 315), (5, (.iconst 1), 6, 0), (6, (.istore_n 1), 7, 0), (7, (.iload_n 1), 8, 0), (8, (.ifCond .eq 134), 11, 0), (11, (.aload_n 0), 12, 0), (12, (.invokevirtual 61), 15, 318), (15, (.istore_n 2), 16, 0), (16, (.iload_n 2), 17, 0), (17, (.ifCond .ge 22), 20, 0), (20, (.iconst 1), 21, 0), (21, .ireturn, 22, 0), (22, (.aload_n 0), 23, 0), (23, (.iload_n 2), 24, 0), (24, (.invokevirtual 62), 27, 321), (27, (.istore_n 3), 28, 0), (28, (.iload_n 3), 29, 0), (29, (.ifCond .lt 134), 32, 0), (32, (.aload_n 0), 33, 0), (33, (.getfield 109), 36, 105), (36, (.aload_n 0), 37, 0), (37, (.getfield 111), 40, 315), (40, (.aload_n 0), 41, 0), (41, (.getfield 92), 44, 74), (44, (.iload_n 3), 45, 0), (45, .iaload, 46, 0), (46, .iastore, 47, 0), (47, (.aload_n 0), 48, 0), (48, (.getfield 93), 51, 77), (51, (.iload_n 3), 52, 0), (52, .iaload, 53, 0), (53, (.istore 4), 55, 0), (55, (.aload_n 0), 56, 0), (56, (.getfield 115), 59, 114), (59, (.aload_n 0), 60, 0), (60, (.getfield 111), 63, 315), (63, (.iload 4), 65, 0), (65, (.bipush 100), 67, 0), (67, (.if_icmp .lt 74), 70, 0), (70, (.iconst 1), 71, 0), (71, (.goto 75), 74, 0), (74, (.iconst 0), 75, 0), (75, .bastore, 76, 0), (76, (.aload_n 0), 77, 0), (77, (.getfield 116), 80, 117), (80, (.aload_n 0), 81, 0), (81, (.getfield 111), 84, 315), (84, (.iconst 0), 85, 0), (85, .bastore, 86, 0), (86, (.aload_n 0), 87, 0), (87, (.getfield 110), 90, 108), (90, (.aload_n 0), 91, 0), (91, (.getfield 111), 94, 315), (94, (.iload 4), 96, 0), (96, (.bipush 100), 98, 0), (98, (.if_icmp .lt 105), 101, 0), (101, (.iconst (-1)), 102, 0), (102, (.goto 123), 105, 0), (105, (.aload_n 0), 106, 0), (106, (.getfield 83), 109, 46), (109, (.bipush 36), 111, 0), (111, (.aload_n 0), 112, 0), (112, (.getfield 78), 115, 31), (115, .imul, 116, 0), (116, (.iload 4), 118, 0), (118, .iadd, 119, 0), (119, .iaload, 120, 0), (120, (.bipush 100), 122, 0), (122, .isub, 123, 0), (123, .iastore, 124, 0), (124, (.aload_n 0), 125, 0), (125, .dup, 126, 0), (126, (.getfield 111), 129, 315), (129, (.iconst 1), 130, 0), (130, .iadd, 131, 0), (131, (.putfield 111), 134, 315), (134, (.iconst 0), 135, 0), (135, (.istore_n 2), 136, 0), (136, (.aload_n 0), 137, 0), (137, (.getfield 111), 140, 315), (140, (.ifCond .le 316), 143, 0), (143, (.iload_n 2), 144, 0), (144, (.ifCond .ne 316), 147, 0), (147, (.aload_n 0), 148, 0), (148, (.getfield 111), 151, 315), (151, (.iconst 1), 152, 0), (152, .isub, 153, 0), (153, (.istore_n 3), 154, 0), (154, (.aload_n 0), 155, 0), (155, (.getfield 109), 158, 105), (158, (.iload_n 3), 159, 0), (159, .iaload, 160, 0), (160, (.istore 4), 162, 0), (162, (.aload_n 0), 163, 0), (163, (.getfield 106), 166, 99), (166, (.iload 4), 168, 0), (168, (.iconst (-1)), 169, 0), (169, .iastore, 170, 0), (170, (.aload_n 0), 171, 0), (171, (.getfield 110), 174, 108), (174, (.iload_n 3), 175, 0), (175, .iaload, 176, 0), (176, (.istore 5), 178, 0), (178, (.aload_n 0), 179, 0), (179, (.getfield 115), 182, 114), (182, (.iload_n 3), 183, 0), (183, .baload, 184, 0), (184, (.ifCond .eq 198), 187, 0), (187, (.aload_n 0), 188, 0), (188, (.iload 4), 190, 0), (190, (.iload 5), 192, 0), (192, (.invokevirtual 65), 195, 324), (195, (.goto 253), 198, 0), (198, (.iload 5), 200, 0), (200, (.ifCond .ge 227), 203, 0), (203, (.aload_n 0), 204, 0), (204, (.iload_n 3), 205, 0), (205, (.iload 4), 207, 0), (207, (.iload 5), 209, 0), (209, (.bipush 100), 211, 0), (211, .iadd, 212, 0), (212, (.aload_n 0), 213, 0), (213, (.iload 5), 215, 0), (215, (.bipush 100), 217, 0), (217, .iadd, 218, 0), (218, (.invokevirtual 66), 221, 327), (221, (.invokevirtual 63), 224, 330), (224, (.goto 253), 227, 0), (227, (.aload_n 0), 228, 0), (228, (.iload_n 3), 229, 0), (229, (.iload 4), 231, 0), (231, (.aload_n 0), 232, 0), (232, (.getfield 83), 235, 46), (235, (.bipush 36), 237, 0), (237, (.aload_n 0), 238, 0), (238, (.getfield 78), 241, 31), (241, .imul, 242, 0), (242, (.iload 5), 244, 0), (244, .iadd, 245, 0), (245, .iaload, 246, 0), (246, (.iload 5), 248, 0), (248, (.iconst 1), 249, 0), (249, .iadd, 250, 0), (250, (.invokevirtual 63), 253, 330), (253, (.istore 6), 255, 0), (255, (.iload 6), 257, 0), (257, (.ifCond .ge 273), 260, 0), (260, (.aload_n 0), 261, 0), (261, .dup, 262, 0), (262, (.getfield 111), 265, 315), (265, (.iconst 1), 266, 0), (266, .isub, 267, 0), (267, (.putfield 111), 270, 315), (270, (.goto 313), 273, 0), (273, (.aload_n 0), 274, 0), (274, (.getfield 110), 277, 108), (277, (.iload_n 3), 278, 0), (278, (.iload 6), 280, 0), (280, .iastore, 281, 0), (281, (.aload_n 0), 282, 0), (282, (.getfield 106), 285, 99), (285, (.iload 4), 287, 0), (287, (.aload_n 0), 288, 0), (288, (.getfield 115), 291, 114), (291, (.iload_n 3), 292, 0), (292, .baload, 293, 0), (293, (.ifCond .eq 308), 296, 0), (296, (.bipush 100), 298, 0), (298, (.iload 6), 300, 0), (300, (.sipush 1000), 303, 0), (303, .irem, 304, 0), (304, .iadd, 305, 0), (305, (.goto 310), 308, 0), (308, (.iload 6), 310, 0), (310, .iastore, 311, 0), (311, (.iconst 1), 312, 0), (312, (.istore_n 2), 313, 0), (313, (.goto 136), 316, 0), (316, (.iload_n 2), 317, 0), (317, (.ifCond .ne 322), 320, 0), (320, (.iconst 0), 321, 0), (321, .ireturn, 322, 0), (322, (.iconst 1), 323, 0), (323, (.istore_n 1), 324, 0), (324, (.goto 7), 327, 0)]
def ar_68 : List (Nat × Jvm.ClassFile.Instr × Nat × Nat) := [(0, (.iconst 0), 1, 0), (1, (.istore_n 1), 2, 0), (2, (.iload_n 1), 3, 0), (3, (.jsr 65536), 5, 89), (5, (.if_icmp .ge 21), 8, 0), (8, (.aload_n 0), 9, 0), (9, (.getfield 106), 12, 99), (12, (.iload_n 1), 13, 0), (13, (.iconst (-1)), 14, 0), (14, .iastore, 15, 0), (15, (.iinc 1 1), 18, 0), (18, (.goto 2), 21, 0), (21, .return_, 22, 0)]
def ar_69 : List (Nat × Jvm.ClassFile.Instr × Nat × Nat) := [(0, (.aload_n 0), 1, 0), (1, (.invokevirtual 68), 4, 334), (4, (.aload_n 0), 5, 0), (5, (.aload_n 0), 6, 0), (6, (.getfield 88), 9, 61), (9, (.aload_n 0), 10, 0), (10, (.getfield 78), 13, 31), (13, .iaload, 14, 0), (14, (.putfield 114), 17, 306), (17, (.aload_n 0), 18, 0), (18, (.aload_n 0), 19, 0), (19, (.invokevirtual 67), 22, 337), (22, (.putfield 107), 25, 340), (25, (.aload_n 0), 26, 0), (26, (.iconst 0), 27, 0), (27, (.putfield 118), 30, 343), (30, (.iconst 0), 31, 0), (31, (.istore_n 1), 32, 0), (32, (.iload_n 1), 33, 0), (33, (.aload_n 0), 34, 0), (34, (.getfield 86), 37, 55), (37, (.aload_n 0), 38, 0), (38, (.getfield 78), 41, 31), (41, .iaload, 42, 0), (42, (.if_icmp .ge 88), 45, 0), (45, (.aload_n 0), 46, 0), (46, (.getfield 107), 49, 340), (49, (.ifCond .eq 88), 52, 0), (52, (.iload_n 1), 53, 0), (53, (.ifCond .le 62), 56, 0), (56, (.aload_n 0), 57, 0), (57, (.bipush 32), 59, 0), (59, (.invokevirtual 70), 62, 346), (62, (.aload_n 0), 63, 0), (63, (.iload_n 1), 64, 0), (64, (.iconst 1), 65, 0), (65, .iadd, 66, 0), (66, (.aload_n 0), 67, 0), (67, (.getfield 87), 70, 58), (70, (.iconst 4), 71, 0), (71, (.aload_n 0), 72, 0), (72, (.getfield 78), 75, 31), (75, .imul, 76, 0), (76, (.iload_n 1), 77, 0), (77, .iadd, 78, 0), (78, .iaload, 79, 0), (79, (.invokevirtual 73), 82, 349), (82, (.iinc 1 1), 85, 0), (85, (.goto 32), 88, 0), (88, .return_, 89, 0)]
def ar_70 : List (Nat × Jvm.ClassFile.Instr × Nat × Nat) := [(0, (.aload_n 0), 1, 0), (1, (.getfield 117), 4, 120), (4, (.aload_n 0), 5, 0), (5, (.getfield 118), 8, 343), (8, (.iload_n 1), 9, 0), (9, .i2b, 10, 0), (10, .bastore, 11, 0), (11, (.aload_n 0), 12, 0), (12, .dup, 13, 0), (13, (.getfield 118), 16, 343), (16, (.iconst 1), 17, 0), (17, .iadd, 18, 0), (18, (.putfield 118), 21, 343), (21, .return_, 22, 0)]
def ar_71 : List (Nat × Jvm.ClassFile.Instr × Nat × Nat) := [(0, (.aload_n 0), 1, 0), (1, (.getfield 82), 4, 43), (4, (.bipush 36), 6, 0), (6, (.aload_n 0), 7, 0), (7, (.getfield 78), 10, 31), (10, .imul, 11, 0), (11, (.iload_n 1), 12, 0), (12, .iadd, 13, 0), (13, .laload, 14, 0), (14, (.lstore_n 2), 15, 0), (15, (.bipush 56), 17, 0), (17, (.istore 4), 19, 0), (19, (.iload 4), 21, 0), (21, (.ifCond .lt 56), 24, 0), (24, (.lload_n 2), 25, 0), (25, (.iload 4), 27, 0), (27, .lshr, 28, 0), (28, (.jsr_w 255), 31, 352), (31, .land, 32, 0), (32, (.lconst 0), 33, 0), (33, .lcmp, 34, 0), (34, (.ifCond .eq 50), 37, 0), (37, (.aload_n 0), 38, 0), (38, (.lload_n 2), 39, 0), (39, (.iload 4), 41, 0), (41, .lshr, 42, 0), (42, (.jsr_w 255), 45, 352), (45, .land, 46, 0), (46, .l2i, 47, 0), (47, (.invokevirtual 70), 50, 346), (50, (.iinc 4 (-8)), 53, 0), (53, (.goto 19), 56, 0), (56, .return_, 57, 0)]
def ar_72 : List (Nat × Jvm.ClassFile.Instr × Nat × Nat) := [(0, (.aload_n 0), 1, 0), (1, (.getfield 119), 4, 123), (4, (.aload_n 0), 5, 0), (5, (.getfield 121), 8, 354), (8, (.iload_n 1), 9, 0), (9, .iastore, 10, 0), (10, (.aload_n 0), 11, 0), (11, (.getfield 120), 14, 126), (14, (.aload_n 0), 15, 0), (15, (.getfield 121), 18, 354), (18, (.iload_n 2), 19, 0), (19, .iastore, 20, 0), (20, (.aload_n 0), 21, 0), (21, .dup, 22, 0), (22, (.getfield 121), 25, 354), (25, (.iconst 1), 26, 0), (26, .iadd, 27, 0), (27, (.putfield 121), 30, 354), (30, .return_, 31, 0)]
def ar_73 : List (Nat × Jvm.ClassFile.Instr × Nat × Nat) := [(0, (.aload_n 0), 1, 0), (1, (.iconst 0), 2, 0), (2, (.putfield 121), 5, 354), (5, (.aload_n 0), 6, 0), (6, (.iload_n 1), 7, 0), (7, (.iload_n 2), 8, 0), (8, (.invokevirtual 72), 11, 357), (11, (.aload_n 0), 12, 0), (12, (.getfield 121), 15, 354), (15, (.ifCond .le 274), 18, 0), (18, (.aload_n 0), 19, 0), (19, .dup, 20, 0), (20, (.getfield 121), 23, 354), (23, (.iconst 1), 24, 0), (24, .isub, 25, 0), (25, (.putfield 121), 28, 354), (28, (.aload_n 0), 29, 0), (29, (.getfield 119), 32, 123), (32, (.aload_n 0), 33, 0), (33, (.getfield 121), 36, 354), (36, .iaload, 37, 0), (37, (.istore_n 3), 38, 0), (38, (.aload_n 0), 39, 0), (39, (.getfield 120), 42, 126), (42, (.aload_n 0), 43, 0), (43, (.getfield 121), 46, 354), (46, .iaload, 47, 0), (47, (.istore 4), 49, 0), (49, (.iload 4), 51, 0), (51, (.iconst (-1)), 52, 0), (52, (.if_icmp .ne 63), 55, 0), (55, (.aload_n 0), 56, 0), (56, (.iload_n 3), 57, 0), (57, (.invokevirtual 70), 60, 346), (60, (.goto 271), 63, 0), (63, (.aload_n 0), 64, 0), (64, (.getfield 106), 67, 99), (67, (.iload_n 3), 68, 0), (68, .iaload, 69, 0), (69, (.iconst (-1)), 70, 0), (70, (.if_icmp .ne 82), 73, 0), (73, (.aload_n 0), 74, 0), (74, (.bipush 95), 76, 0), (76, (.invokevirtual 70), 79, 346), (79, (.goto 271), 82, 0), (82, (.aload_n 0), 83, 0), (83, (.getfield 79), 86, 34), (86, (.bipush 26), 88, 0), (88, (.aload_n 0), 89, 0), (89, (.getfield 78), 92, 31), (92, .imul, 93, 0), (93, (.iload 4), 95, 0), (95, .iadd, 96, 0), (96, .iaload, 97, 0), (97, (.iconst 3), 98, 0), (98, (.if_icmp .ne 117), 101, 0), (101, (.aload_n 0), 102, 0), (102, (.aload_n 0), 103, 0), (103, (.getfield 106), 106, 99), (106, (.iload_n 3), 107, 0), (107, .iaload, 108, 0), (108, (.bipush 100), 110, 0), (110, .isub, 111, 0), (111, (.invokevirtual 74), 114, 360), (114, (.goto 271), 117, 0), (117, (.aload_n 0), 118, 0), (118, (.getfield 79), 121, 34), (121, (.bipush 26), 123, 0), (123, (.aload_n 0), 124, 0), (124, (.getfield 78), 127, 31), (127, .imul, 128, 0), (128, (.iload 4), 130, 0), (130, .iadd, 131, 0), (131, .iaload, 132, 0), (132, (.iconst 2), 133, 0), (133, (.if_icmp .ne 140), 136, 0), (136, (.iconst 1), 137, 0), (137, (.goto 141), 140, 0), (140, (.iconst 0), 141, 0), (141, (.istore 5), 143, 0), (143, (.iload 5), 145, 0), (145, (.ifCond .eq 157), 148, 0), (148, (.aload_n 0), 149, 0), (149, (.iload 4), 151, 0), (151, (.invokevirtual 66), 154, 327), (154, (.goto 163), 157, 0), (157, (.aload_n 0), 158, 0), (158, (.getfield 106), 161, 99), (161, (.iload_n 3), 162, 0), (162, .iaload, 163, 0), (163, (.istore 6), 165, 0), (165, (.aload_n 0), 166, 0), (166, (.getfield 84), 169, 49), (169, (.bipush 36), 171, 0), (171, (.aload_n 0), 172, 0), (172, (.getfield 78), 175, 31), (175, .imul, 176, 0), (176, (.iload 6), 178, 0), (178, .iadd, 179, 0), (179, .iaload, 180, 0), (180, (.istore 7), 182, 0), (182, (.iload 7), 184, 0), (184, (.ifCond .le 265), 187, 0), (187, (.aload_n 0), 188, 0), (188, (.bipush 40), 190, 0), (190, (.invokevirtual 70), 193, 346), (193, (.aload_n 0), 194, 0), (194, (.bipush 41), 196, 0), (196, (.iconst (-1)), 197, 0), (197, (.invokevirtual 72), 200, 357), (200, (.iload 7), 202, 0), (202, (.iconst 1), 203, 0), (203, .isub, 204, 0), (204, (.istore 8), 206, 0), (206, (.iload 8), 208, 0), (208, (.ifCond .lt 265), 211, 0), (211, (.aload_n 0), 212, 0), (212, (.iload 5), 214, 0), (214, (.ifCond .eq 221), 217, 0), (217, (.iload_n 3), 218, 0), (218, (.goto 229), 221, 0), (221, (.iconst 4), 222, 0), (222, (.iload_n 3), 223, 0), (223, .imul, 224, 0), (224, (.iload 8), 226, 0), (226, .iadd, 227, 0), (227, (.iconst 1), 228, 0), (228, .iadd, 229, 0), (229, (.aload_n 0), 230, 0), (230, (.getfield 85), 233, 52), (233, (.iconst 3), 234, 0), (234, (.bipush 36), 236, 0), (236, (.aload_n 0), 237, 0), (237, (.getfield 78), 240, 31), (240, .imul, 241, 0), (241, (.iload 6), 243, 0), (243, .iadd, 244, 0), (244, .imul, 245, 0), (245, (.iload 8), 247, 0), (247, .iadd, 248, 0), (248, .iaload, 249, 0), (249, (.invokevirtual 72), 252, 357), (252, (.aload_n 0), 253, 0), (253, (.bipush 32), 255, 0), (255, (.iconst (-1)), 256, 0), (256, (.invokevirtual 72), 259, 357), (259, (.iinc 8 (-1)), 262, 0), (262, (.goto 206), 265, 0), (265, (.aload_n 0), 266, 0), (266, (.iload 6), 268, 0), (268, (.invokevirtual 71), 271, 363), (271, (.goto 11), 274, 0), (274, .return_, 275, 0)]
def ar_74 : List (Nat × Jvm.ClassFile.Instr × Nat × Nat) := [(0, (.iload_n 1), 1, 0), (1, (.bipush 99), 3, 0), (3, (.if_icmp .le 17), 6, 0), (6, (.aload_n 0), 7, 0), (7, (.bipush 48), 9, 0), (9, (.iload_n 1), 10, 0), (10, (.bipush 100), 12, 0), (12, .idiv, 13, 0), (13, .iadd, 14, 0), (14, (.invokevirtual 70), 17, 346), (17, (.iload_n 1), 18, 0), (18, (.bipush 9), 20, 0), (20, (.if_icmp .le 37), 23, 0), (23, (.aload_n 0), 24, 0), (24, (.bipush 48), 26, 0), (26, (.iload_n 1), 27, 0), (27, (.bipush 10), 29, 0), (29, .idiv, 30, 0), (30, (.bipush 10), 32, 0), (32, .irem, 33, 0), (33, .iadd, 34, 0), (34, (.invokevirtual 70), 37, 346), (37, (.aload_n 0), 38, 0), (38, (.bipush 48), 40, 0), (40, (.iload_n 1), 41, 0), (41, (.bipush 10), 43, 0), (43, .irem, 44, 0), (44, .iadd, 45, 0), (45, (.invokevirtual 70), 48, 346), (48, .return_, 49, 0)]
def ar_75 : List (Nat × Jvm.ClassFile.Instr × Nat × Nat) := [(0, (.aload_n 0), 1, 0), (1, (.getfield 78), 4, 31), (4, (.ifCond .ge 11), 7, 0), (7, (.iconst (-1)), 8, 0), (8, (.goto 23), 11, 0), (11, (.aload_n 0), 12, 0), (12, (.getfield 107), 15, 340), (15, (.ifCond .eq 22), 18, 0), (18, (.iconst 1), 19, 0), (19, (.goto 23), 22, 0), (22, (.iconst 0), 23, 0), (23, .ireturn, 24, 0)]
def ar_76 : List (Nat × Jvm.ClassFile.Instr × Nat × Nat) := [(0, (.aload_n 0), 1, 0), (1, (.getfield 78), 4, 31), (4, (.ifCond .lt 26), 7, 0), (7, (.aload_n 0), 8, 0), (8, (.getfield 107), 11, 340), (11, (.ifCond .eq 26), 14, 0), (14, (.iload_n 1), 15, 0), (15, (.ifCond .lt 26), 18, 0), (18, (.iload_n 1), 19, 0), (19, (.aload_n 0), 20, 0), (20, (.getfield 118), 23, 343), (23, (.if_icmp .lt 30), 26, 0), (26, (.iconst (-1)), 27, 0), (27, (.goto 36), 30, 0), (30, (.aload_n 0), 31, 0), (31, (.getfield 117), 34, 120), (34, (.iload_n 1), 35, 0), (35, .baload, 36, 0), (36, .ireturn, 37, 0)]
def ar_77 : List (Nat × Jvm.ClassFile.Instr × Nat × Nat) := [(0, (.aload_n 0), 1, 0), (1, (.getfield 78), 4, 31), (4, (.ifCond .lt 24), 7, 0), (7, (.iload_n 1), 8, 0), (8, (.ifCond .lt 24), 11, 0), (11, (.iload_n 1), 12, 0), (12, (.aload_n 0), 13, 0), (13, (.getfield 88), 16, 61), (16, (.aload_n 0), 17, 0), (17, (.getfield 78), 20, 31), (20, .iaload, 21, 0), (21, (.if_icmp .lt 26), 24, 0), (24, (.iconst (-1)), 25, 0), (25, .ireturn, 26, 0), (26, (.aload_n 0), 27, 0), (27, (.getfield 108), 30, 102), (30, (.iload_n 1), 31, 0), (31, .iaload, 32, 0), (32, (.ifCond .lt 42), 35, 0), (35, (.aload_n 0), 36, 0), (36, (.getfield 108), 39, 102), (39, (.iload_n 1), 40, 0), (40, .iaload, 41, 0), (41, .ireturn, 42, 0), (42, (.aload_n 0), 43, 0), (43, (.invokevirtual 68), 46, 334), (46, (.bipush 12), 48, 0), (48, (.aload_n 0), 49, 0), (49, (.getfield 78), 52, 31), (52, .imul, 53, 0), (53, (.iload_n 1), 54, 0), (54, .iadd, 55, 0), (55, (.istore_n 2), 56, 0), (56, (.iconst 0), 57, 0), (57, (.istore_n 3), 58, 0), (58, (.iload_n 3), 59, 0), (59, (.aload_n 0), 60, 0), (60, (.getfield 91), 63, 71), (63, (.iload_n 2), 64, 0), (64, .iaload, 65, 0), (65, (.if_icmp .ge 119), 68, 0), (68, (.aload_n 0), 69, 0), (69, (.getfield 93), 72, 77), (72, (.sipush 150), 75, 0), (75, (.iload_n 2), 76, 0), (76, .imul, 77, 0), (77, (.iload_n 3), 78, 0), (78, .iadd, 79, 0), (79, .iaload, 80, 0), (80, (.iconst (-1)), 81, 0), (81, (.if_icmp .eq 113), 84, 0), (84, (.aload_n 0), 85, 0), (85, (.getfield 106), 88, 99), (88, (.aload_n 0), 89, 0), (89, (.getfield 92), 92, 74), (92, (.sipush 150), 95, 0), (95, (.iload_n 2), 96, 0), (96, .imul, 97, 0), (97, (.iload_n 3), 98, 0), (98, .iadd, 99, 0), (99, .iaload, 100, 0), (100, (.aload_n 0), 101, 0), (101, (.getfield 93), 104, 77), (104, (.sipush 150), 107, 0), (107, (.iload_n 2), 108, 0), (108, .imul, 109, 0), (109, (.iload_n 3), 110, 0), (110, .iadd, 111, 0), (111, .iaload, 112, 0), (112, .iastore, 113, 0), (113, (.iinc 3 1), 116, 0), (116, (.goto 58), 119, 0), (119, (.aload_n 0), 120, 0), (120, (.iload_n 1), 121, 0), (121, (.putfield 114), 124, 306), (124, (.aload_n 0), 125, 0), (125, (.getfield 108), 128, 102), (128, (.iload_n 1), 129, 0), (129, (.aload_n 0), 130, 0), (130, (.invokevirtual 67), 133, 337), (133, (.ifCond .eq 140), 136, 0), (136, (.iconst 0), 137, 0), (137, (.goto 141), 140, 0), (140, (.iconst 1), 141, 0), (141, .iastore, 142, 0), (142, (.aload_n 0), 143, 0), (143, (.getfield 108), 146, 102), (146, (.iload_n 1), 147, 0), (147, .iaload, 148, 0), (148, .ireturn, 149, 0)]
def ar_78 : List (Nat × Jvm.ClassFile.Instr × Nat × Nat) := [(0, (.aload_n 0), 1, 0), (1, (.invokespecial 0), 4, 3), (4, (.aload_n 0), 5, 0), (5, (.iconst 0), 6, 0), (6, (.putfield 128), 9, 9), (9, (.aload_n 0), 10, 0), (10, (.iconst 0), 11, 0), (11, (.putfield 129), 14, 15), (14, (.aload_n 0), 15, 0), (15, (.bipush 60), 17, 0), (17, (.newarray .int), 19, 0), (19, (.putfield 130), 22, 18), (22, (.aload_n 0), 23, 0), (23, (.bipush 60), 25, 0), (25, (.newarray .int), 27, 0), (27, (.putfield 131), 30, 22), (30, (.aload_n 0), 31, 0), (31, (.bipush 60), 33, 0), (33, (.newarray .int), 35, 0), (35, (.putfield 132), 38, 25), (38, (.aload_n 0), 39, 0), (39, (.bipush 13), 41, 0), (41, (.newarray .int), 43, 0), (43, (.putfield 133), 46, 28), (46, (.aload_n 0), 47, 0), (47, (.sipush 720), 50, 0), (50, (.newarray .int), 52, 0), (52, (.putfield 134), 55, 31), (55, .return_, 56, 0)]
def ar_79 : List (Nat × Jvm.ClassFile.Instr × Nat × Nat) := [(0, (.aload_n 0), 1, 0), (1, (.iconst 0), 2, 0), (2, (.putfield 128), 5, 9), (5, (.aload_n 0), 6, 0), (6, (.iconst 0), 7, 0), (7, (.putfield 129), 10, 15), (10, (.iconst 0), 11, 0), (11, (.istore_n 2), 12, 0), (12, (.iload_n 2), 13, 0), (13, (.aload_n 0), 14, 0), (14, (.getfield 134), 17, 31), (17, .arraylength, 18, 0), (18, (.if_icmp .ge 34), 21, 0), (21, (.aload_n 0), 22, 0), (22, (.getfield 134), 25, 31), (25, (.iload_n 2), 26, 0), (26, (.iconst (-1)), 27, 0), (27, .iastore, 28, 0), (28, (.iinc 2 1), 31, 0), (31, (.goto 12), 34, 0), (34, (.iconst 0), 35, 0), (35, (.istore_n 2), 36, 0), (36, (.iload_n 2), 37, 0), (37, (.aload_n 1), 38, 0), (38, (.getfield 323), 41, 34), (41, (.if_icmp .ge 85), 44, 0), (44, (.aload_n 0), 45, 0), (45, (.getfield 133), 48, 28), (48, (.iload_n 2), 49, 0), (49, (.aload_n 0), 50, 0), (50, (.getfield 129), 53, 15), (53, .iastore, 54, 0), (54, (.aload_n 0), 55, 0), (55, (.aload_n 1), 56, 0), (56, (.iload_n 2), 57, 0), (57, (.aload_n 1), 58, 0), (58, (.getfield 325), 61, 39), (61, (.iload_n 2), 62, 0), (62, .iaload, 63, 0), (63, (.iconst 1), 64, 0), (64, (.invokevirtual 82), 67, 42), (67, (.aload_n 0), 68, 0), (68, (.getfield 133), 71, 28), (71, (.iload_n 2), 72, 0), (72, (.iconst 1), 73, 0), (73, .iadd, 74, 0), (74, (.aload_n 0), 75, 0), (75, (.getfield 129), 78, 15), (78, .iastore, 79, 0), (79, (.iinc 2 1), 82, 0), (82, (.goto 36), 85, 0), (85, .return_, 86, 0)]
def ar_80 : List (Nat × Jvm.ClassFile.Instr × Nat × Nat) := [(0, (.aload_n 0), 1, 0), (1, (.getfield 134), 4, 31), (4, (.iload_n 1), 5, 0), (5, (.bipush 60), 7, 0), (7, .imul, 8, 0), (8, (.iload_n 2), 9, 0), (9, .iadd, 10, 0), (10, .iaload, 11, 0), (11, .ireturn, 12, 0)]
def ar_81 : List (Nat × Jvm.ClassFile.Instr × Nat × Nat) := [(0, (.iconst 0), 1, 0), (1, (.istore_n 2), 2, 0), (2, (.iload_n 2), 3, 0), (3, (.aload_n 0), 4, 0), (4, (.getfield 128), 7, 9), (7, (.if_icmp .ge 28), 10, 0), (10, (.aload_n 0), 11, 0), (11, (.getfield 130), 14, 18), (14, (.iload_n 2), 15, 0), (15, .iaload, 16, 0), (16, (.iload_n 1), 17, 0), (17, (.if_icmp .ne 22), 20, 0), (20, (.iload_n 2), 21, 0), (21, .ireturn, 22, 0), (22, (.iinc 2 1), 25, 0), (25, (.goto 2), 28, 0), (28, (.iconst (-1)), 29, 0), (29, .ireturn, 30, 0)]
def ar_82 : List (Nat × Jvm.ClassFile.Instr × Nat × Nat) := [(0, (.iload_n 3), 1, 0), (1, (.istore 5), 3, 0), (3, (.iconst 0), 4, 0), (4, (.istore 6), 6, 0), (6, (.iload 6), 8, 0), (8, (.iconst 4), 9, 0), (9, (.if_icmp .ge 49), 12, 0), (12, (.iload 5), 14, 0), (14, (.iconst (-1)), 15, 0), (15, (.if_icmp .eq 49), 18, 0), (18, (.aload_n 0), 19, 0), (19, (.aload_n 1), 20, 0), (20, (.iload_n 2), 21, 0), (21, (.iload 5), 23, 0), (23, (.iload 4), 25, 0), (25, (.iload 6), 27, 0), (27, .iadd, 28, 0), (28, (.invokevirtual 83), 31, 46), (31, (.aload_n 1), 32, 0), (32, (.getfield 321), 35, 49), (35, (.getfield 458), 38, 53), (38, (.iload 5), 40, 0), (40, .iaload, 41, 0), (41, (.istore 5), 43, 0), (43, (.iinc 6 1), 46, 0), (46, (.goto 6), 49, 0), (49, .return_, 50, 0)]
def ar_83 : List (Nat × Jvm.ClassFile.Instr × Nat × Nat) := [(0, (.aload_n 1), 1, 0), (1, (.getfield 321), 4, 49), (4, (.astore 5), 6, 0), (6, (.aload 5), 8, 0), (8, (.getfield 450), 11, 58), (11, (.iload_n 3), 12, 0), (12, .iaload, 13, 0), (13, (.istore 6), 15, 0), (15, (.aload 5), 17, 0), (17, (.getfield 457), 20, 61), (20, (.iload_n 3), 21, 0), (21, .iaload, 22, 0), (22, (.istore 7), 24, 0), (24, (.iload 6), 26, 0), (26, (.iconst 4), 27, 0), (27, (.if_icmp .ne 50), 30, 0), (30, (.aload_n 0), 31, 0), (31, (.iload_n 2), 32, 0), (32, (.iload 4), 34, 0), (34, (.bipush 36), 36, 0), (36, (.aload 5), 38, 0), (38, (.getfield 455), 41, 64), (41, (.iload_n 3), 42, 0), (42, .iaload, 43, 0), (43, .iadd, 44, 0), (44, (.invokevirtual 84), 47, 67), (47, (.goto 128), 50, 0), (50, (.iload 6), 52, 0), (52, (.iconst 2), 53, 0), (53, (.if_icmp .eq 72), 56, 0), (56, (.iload 6), 58, 0), (58, (.iconst 3), 59, 0), (59, (.if_icmp .eq 72), 62, 0), (62, (.aload_n 1), 63, 0), (63, (.aload 5), 65, 0), (65, (.iload_n 3), 66, 0), (66, (.invokevirtual 115), 69, 71), (69, (.ifCond .eq 91), 72, 0), (72, (.iload 7), 74, 0), (74, (.iconst (-1)), 75, 0), (75, (.if_icmp .eq 128), 78, 0), (78, (.aload_n 0), 79, 0), (79, (.aload_n 1), 80, 0), (80, (.iload_n 2), 81, 0), (81, (.iload 7), 83, 0), (83, (.iload 4), 85, 0), (85, (.invokevirtual 83), 88, 46), (88, (.goto 128), 91, 0), (91, (.aload 5), 93, 0), (93, (.iload_n 3), 94, 0), (94, (.invokevirtual 137), 97, 75), (97, (.ifCond .eq 128), 100, 0), (100, (.aload_n 0), 101, 0), (101, (.iload_n 2), 102, 0), (102, (.iload 4), 104, 0), (104, (.aload 5), 106, 0), (106, (.getfield 456), 109, 79), (109, (.iload_n 3), 110, 0), (110, .iaload, 111, 0), (111, (.invokevirtual 84), 114, 67), (114, (.aload_n 0), 115, 0), (115, (.aload_n 1), 116, 0), (116, (.iload_n 2), 117, 0), (117, (.iload 7), 119, 0), (119, (.iconst 4), 120, 0), (120, (.iload 4), 122, 0), (122, .imul, 123, 0), (123, (.iconst 1), 124, 0), (124, .iadd, 125, 0), (125, (.invokevirtual 82), 128, 42), (128, .return_, 129, 0)]
def ar_84 : List (Nat × Jvm.ClassFile.Instr × Nat × Nat) := [(0, (.aload_n 0), 1, 0), (1, (.getfield 129), 4, 15), (4, (.bipush 60), 6, 0), (6, (.if_icmp .lt 10), 9, 0), (9, .return_, 10, 0), (10, (.aload_n 0), 11, 0), (11, (.iload_n 2), 12, 0), (12, (.invokevirtual 81), 15, 82), (15, (.istore 4), 17, 0), (17, (.iload 4), 19, 0), (19, (.iconst (-1)), 20, 0), (20, (.if_icmp .ne 49), 23, 0), (23, (.aload_n 0), 24, 0), (24, (.getfield 128), 27, 9), (27, (.istore 4), 29, 0), (29, (.aload_n 0), 30, 0), (30, (.getfield 130), 33, 18), (33, (.aload_n 0), 34, 0), (34, (.getfield 128), 37, 9), (37, (.iload_n 2), 38, 0), (38, .iastore, 39, 0), (39, (.aload_n 0), 40, 0), (40, .dup, 41, 0), (41, (.getfield 128), 44, 9), (44, (.iconst 1), 45, 0), (45, .iadd, 46, 0), (46, (.putfield 128), 49, 9), (49, (.aload_n 0), 50, 0), (50, (.getfield 131), 53, 22), (53, (.aload_n 0), 54, 0), (54, (.getfield 129), 57, 15), (57, (.iload 4), 59, 0), (59, .iastore, 60, 0), (60, (.aload_n 0), 61, 0), (61, (.getfield 132), 64, 25), (64, (.aload_n 0), 65, 0), (65, (.getfield 129), 68, 15), (68, (.iload_n 3), 69, 0), (69, .iastore, 70, 0), (70, (.aload_n 0), 71, 0), (71, (.getfield 134), 74, 31), (74, (.iload_n 1), 75, 0), (75, (.bipush 60), 77, 0), (77, .imul, 78, 0), (78, (.iload 4), 80, 0), (80, .iadd, 81, 0), (81, (.iload_n 3), 82, 0), (82, .iastore, 83, 0), (83, (.aload_n 0), 84, 0), (84, .dup, 85, 0), (85, (.getfield 129), 88, 15), (88, (.iconst 1), 89, 0), (89, .iadd, 90, 0), (90, (.putfield 129), 93, 15), (93, .return_, 94, 0)]
def ar_85 : List (Nat × Jvm.ClassFile.Instr × Nat × Nat) := [(0, (.aload_n 0), 1, 0), (1, (.invokespecial 0), 4, 3), (4, (.aload_n 0), 5, 0), (5, (.new 8), 8, 9), (8, .dup, 9, 0), (9, (.invokespecial 138), 12, 11), (12, (.putfield 192), 15, 12), (15, .return_, 16, 0)]
def ar_86 : List (Nat × Jvm.ClassFile.Instr × Nat × Nat) := [(0, (.aload_n 1), 1, 0), (1, (.invokevirtual 107), 4, 18), (4, (.aload_n 0), 5, 0), (5, (.getfield 192), 8, 12), (8, (.invokevirtual 145), 11, 23), (11, (.aload_n 0), 12, 0), (12, (.aload_n 1), 13, 0), (13, (.getfield 320), 16, 26), (16, (.invokevirtual 88), 19, 30), (19, (.ifCond .eq 42), 22, 0), (22, (.aload_n 0), 23, 0), (23, (.aload_n 1), 24, 0), (24, (.invokevirtual 91), 27, 34), (27, (.ifCond .eq 42), 30, 0), (30, (.aload_n 0), 31, 0), (31, (.aload_n 1), 32, 0), (32, (.invokevirtual 92), 35, 38), (35, (.ifCond .eq 42), 38, 0), (38, (.iconst 1), 39, 0), (39, (.goto 43), 42, 0), (42, (.iconst 0), 43, 0), (43, .ireturn, 44, 0)]
def ar_87 : List (Nat × Jvm.ClassFile.Instr × Nat × Nat) := [(0, (.aload_n 1), 1, 0), (1, (.invokevirtual 135), 4, 41), (4, (.aload_n 0), 5, 0), (5, (.getfield 192), 8, 12), (8, (.invokevirtual 145), 11, 23), (11, (.aload_n 1), 12, 0), (12, (.aload_n 0), 13, 0), (13, (.aload_n 1), 14, 0), (14, (.iconst 1), 15, 0), (15, (.iconst 1), 16, 0), (16, (.invokevirtual 94), 19, 44), (19, (.putfield 449), 22, 48), (22, (.aload_n 1), 23, 0), (23, (.getfield 449), 26, 48), (26, (.iconst (-1)), 27, 0), (27, (.if_icmp .eq 44), 30, 0), (30, (.aload_n 0), 31, 0), (31, (.getfield 192), 34, 12), (34, (.invokevirtual 140), 37, 52), (37, (.ifCond .ne 44), 40, 0), (40, (.iconst 1), 41, 0), (41, (.goto 45), 44, 0), (44, (.iconst 0), 45, 0), (45, .ireturn, 46, 0)]
def ar_88 : List (Nat × Jvm.ClassFile.Instr × Nat × Nat) := [(0, (.iconst 0), 1, 0), (1, (.istore_n 2), 2, 0), (2, (.iload_n 2), 3, 0), (3, (.bipush 6), 5, 0), (5, (.if_icmp .gt 80), 8, 0), (8, (.aload_n 0), 9, 0), (9, (.getfield 192), 12, 12), (12, (.invokevirtual 140), 15, 52), (15, (.istore_n 3), 16, 0), (16, (.iload_n 3), 17, 0), (17, (.bipush 8), 19, 0), (19, (.if_icmp .ne 32), 22, 0), (22, (.iload_n 2), 23, 0), (23, (.ifCond .le 30), 26, 0), (26, (.iconst 1), 27, 0), (27, (.goto 31), 30, 0), (30, (.iconst 0), 31, 0), (31, .ireturn, 32, 0), (32, (.iload_n 3), 33, 0), (33, (.bipush 6), 35, 0), (35, (.if_icmp .eq 46), 38, 0), (38, (.iload_n 3), 39, 0), (39, (.bipush 7), 41, 0), (41, (.if_icmp .eq 46), 44, 0), (44, (.iconst 0), 45, 0), (45, .ireturn, 46, 0), (46, (.aload_n 0), 47, 0), (47, (.getfield 192), 50, 12), (50, (.invokevirtual 144), 53, 56), (53, (.aload_n 0), 54, 0), (54, (.aload_n 1), 55, 0), (55, (.iload_n 3), 56, 0), (56, (.bipush 7), 58, 0), (58, (.if_icmp .ne 65), 61, 0), (61, (.iconst 1), 62, 0), (62, (.goto 66), 65, 0), (65, (.iconst 0), 66, 0), (66, (.invokevirtual 89), 69, 59), (69, (.ifCond .ne 74), 72, 0), (72, (.iconst 0), 73, 0), (73, .ireturn, 74, 0), (74, (.iinc 2 1), 77, 0), (77, (.goto 2), 80, 0), (80, (.iconst 0), 81, 0), (81, .ireturn, 82, 0)]
def ar_89 : List (Nat × Jvm.ClassFile.Instr × Nat × Nat) := [(0, (.aload_n 0), 1, 0), (1, (.getfield 192), 4, 12), (4, (.invokevirtual 140), 7, 52), (7, (.iconst 2), 8, 0), (8, (.if_icmp .ne 20), 11, 0), (11, (.aload_n 1), 12, 0), (12, (.getfield 640), 15, 63), (15, (.bipush 6), 17, 0), (17, (.if_icmp .lt 22), 20, 0), (20, (.iconst 0), 21, 0), (21, .ireturn, 22, 0), (22, (.aload_n 1), 23, 0), (23, (.aload_n 0), 24, 0), (24, (.getfield 192), 27, 12), (27, (.invokevirtual 142), 30, 68), (30, (.aload_n 0), 31, 0), (31, (.getfield 192), 34, 12), (34, (.invokevirtual 141), 37, 71), (37, (.iload_n 2), 38, 0), (38, (.invokevirtual 164), 41, 74), (41, (.aload_n 0), 42, 0), (42, (.getfield 192), 45, 12), (45, (.invokevirtual 144), 48, 56), (48, (.aload_n 0), 49, 0), (49, (.bipush 61), 51, 0), (51, (.invokevirtual 93), 54, 78), (54, (.ifCond .ne 59), 57, 0), (57, (.iconst 0), 58, 0), (58, .ireturn, 59, 0), (59, (.iconst 0), 60, 0), (60, (.istore_n 3), 61, 0), (61, (.iload_n 3), 62, 0), (62, (.bipush 6), 64, 0), (64, (.if_icmp .ge 110), 67, 0), (67, (.aload_n 0), 68, 0), (68, (.aload_n 1), 69, 0), (69, (.iload_n 2), 70, 0), (70, (.invokevirtual 90), 73, 82), (73, (.ifCond .ne 78), 76, 0), (76, (.iconst 0), 77, 0), (77, .ireturn, 78, 0), (78, (.aload_n 0), 79, 0), (79, (.bipush 59), 81, 0), (81, (.invokevirtual 93), 84, 78), (84, (.ifCond .eq 89), 87, 0), (87, (.iconst 1), 88, 0), (88, .ireturn, 89, 0), (89, (.iload_n 2), 90, 0), (90, (.ifCond .ne 102), 93, 0), (93, (.aload_n 0), 94, 0), (94, (.bipush 124), 96, 0), (96, (.invokevirtual 93), 99, 78), (99, (.ifCond .ne 104), 102, 0), (102, (.iconst 0), 103, 0), (103, .ireturn, 104, 0), (104, (.iinc 3 1), 107, 0), (107, (.goto 61), 110, 0), (110, (.iconst 0), 111, 0), (111, .ireturn, 112, 0)]
def ar_90 : List (Nat × Jvm.ClassFile.Instr × Nat × Nat) := [(0, (.aload_n 0), 1, 0), (1, (.getfield 192), 4, 12), (4, (.invokevirtual 140), 7, 52), (7, (.iconst 3), 8, 0), (8, (.if_icmp .eq 13), 11, 0), (11, (.iconst 0), 12, 0), (12, .ireturn, 13, 0), (13, (.aload_n 1), 14, 0), (14, (.aload_n 0), 15, 0), (15, (.getfield 192), 18, 12), (18, (.invokevirtual 143), 21, 85), (21, (.aload_n 0), 22, 0), (22, (.getfield 192), 25, 12), (25, (.invokevirtual 141), 28, 71), (28, (.invokevirtual 165), 31, 89), (31, (.aload_n 0), 32, 0), (32, (.getfield 192), 35, 12), (35, (.invokevirtual 144), 38, 56), (38, (.iload_n 2), 39, 0), (39, (.ifCond .eq 46), 42, 0), (42, (.iconst 1), 43, 0), (43, (.goto 47), 46, 0), (46, (.iconst 3), 47, 0), (47, (.istore_n 3), 48, 0), (48, (.iconst 0), 49, 0), (49, (.istore 4), 51, 0), (51, (.iload 4), 53, 0), (53, (.iload_n 3), 54, 0), (54, (.if_icmp .ge 99), 57, 0), (57, (.aload_n 0), 58, 0), (58, (.getfield 192), 61, 12), (61, (.invokevirtual 140), 64, 52), (64, (.iconst 2), 65, 0), (65, (.if_icmp .ne 99), 68, 0), (68, (.aload_n 1), 69, 0), (69, (.aload_n 0), 70, 0), (70, (.getfield 192), 73, 12), (73, (.invokevirtual 142), 76, 68), (76, (.aload_n 0), 77, 0), (77, (.getfield 192), 80, 12), (80, (.invokevirtual 141), 83, 71), (83, (.invokevirtual 166), 86, 93), (86, (.aload_n 0), 87, 0), (87, (.getfield 192), 90, 12), (90, (.invokevirtual 144), 93, 56), (93, (.iinc 4 1), 96, 0), (96, (.goto 51), 99, 0), (99, (.iload_n 2), 100, 0), (100, (.ifCond .eq 109), 103, 0), (103, (.iload 4), 105, 0), (105, (.iconst 1), 106, 0), (106, (.if_icmp .ne 113), 109, 0), (109, (.iconst 1), 110, 0), (110, (.goto 114), 113, 0), (113, (.iconst 0), 114, 0), (114, .ireturn, 115, 0)]
def ar_91 : List (Nat × Jvm.ClassFile.Instr × Nat × Nat) := [(0, (.aload_n 0), 1, 0), (1, (.getfield 192), 4, 12), (4, (.invokevirtual 144), 7, 56), (7, (.iconst 0), 8, 0), (8, (.istore_n 2), 9, 0), (9, (.iload_n 2), 10, 0), (10, (.iconst 4), 11, 0), (11, (.if_icmp .ge 56), 14, 0), (14, (.aload_n 0), 15, 0), (15, (.getfield 192), 18, 12), (18, (.invokevirtual 140), 21, 52), (21, (.iconst 2), 22, 0), (22, (.if_icmp .ne 56), 25, 0), (25, (.aload_n 1), 26, 0), (26, (.aload_n 0), 27, 0), (27, (.getfield 192), 30, 12), (30, (.invokevirtual 142), 33, 68), (33, (.aload_n 0), 34, 0), (34, (.getfield 192), 37, 12), (37, (.invokevirtual 141), 40, 71), (40, (.invokevirtual 108), 43, 97), (43, (.aload_n 0), 44, 0), (44, (.getfield 192), 47, 12), (47, (.invokevirtual 144), 50, 56), (50, (.iinc 2 1), 53, 0), (53, (.goto 9), 56, 0), (56, (.aload_n 1), 57, 0), (57, (.getfield 322), 60, 100), (60, (.ifCond .le 76), 63, 0), (63, (.aload_n 0), 64, 0), (64, (.bipush 59), 66, 0), (66, (.invokevirtual 93), 69, 78), (69, (.ifCond .eq 76), 72, 0), (72, (.iconst 1), 73, 0), (73, (.goto 77), 76, 0), (76, (.iconst 0), 77, 0), (77, .ireturn, 78, 0)]
def ar_92 : List (Nat × Jvm.ClassFile.Instr × Nat × Nat) := [(0, (.iconst 0), 1, 0), (1, (.istore_n 2), 2, 0), (2, (.iload_n 2), 3, 0), (3, (.bipush 12), 5, 0), (5, (.if_icmp .ge 90), 8, 0), (8, (.aload_n 0), 9, 0), (9, (.getfield 192), 12, 12), (12, (.invokevirtual 140), 15, 52), (15, (.ifCond .eq 90), 18, 0), (18, (.aload_n 0), 19, 0), (19, (.aload_n 1), 20, 0), (20, (.getfield 321), 23, 103), (23, (.iconst 0), 24, 0), (24, (.iconst 1), 25, 0), (25, (.invokevirtual 94), 28, 44), (28, (.istore_n 3), 29, 0), (29, (.aload_n 0), 30, 0), (30, (.getfield 192), 33, 12), (33, (.invokevirtual 141), 36, 71), (36, (.istore 4), 38, 0), (38, (.iload_n 3), 39, 0), (39, (.iconst (-1)), 40, 0), (40, (.if_icmp .eq 56), 43, 0), (43, (.aload_n 0), 44, 0), (44, (.bipush 9), 46, 0), (46, (.invokevirtual 93), 49, 78), (49, (.ifCond .eq 56), 52, 0), (52, (.iconst 1), 53, 0), (53, (.goto 57), 56, 0), (56, (.iconst 0), 57, 0), (57, (.istore 5), 59, 0), (59, (.iload_n 3), 60, 0), (60, (.iconst (-1)), 61, 0), (61, (.if_icmp .eq 73), 64, 0), (64, (.aload_n 0), 65, 0), (65, (.bipush 59), 67, 0), (67, (.invokevirtual 93), 70, 78), (70, (.ifCond .ne 75), 73, 0), (73, (.iconst 0), 74, 0), (74, .ireturn, 75, 0), (75, (.aload_n 1), 76, 0), (76, (.iload_n 3), 77, 0), (77, (.iload 4), 79, 0), (79, (.iload 5), 81, 0), (81, (.invokevirtual 109), 84, 107), (84, (.iinc 2 1), 87, 0), (87, (.goto 2), 90, 0), (90, (.aload_n 1), 91, 0), (91, (.getfield 323), 94, 110), (94, (.ifCond .le 111), 97, 0), (97, (.aload_n 0), 98, 0), (98, (.getfield 192), 101, 12), (101, (.invokevirtual 140), 104, 52), (104, (.ifCond .ne 111), 107, 0), (107, (.iconst 1), 108, 0), (108, (.goto 112), 111, 0), (111, (.iconst 0), 112, 0), (112, .ireturn, 113, 0)]
def ar_93 : List (Nat × Jvm.ClassFile.Instr × Nat × Nat) := [(0, (.aload_n 0), 1, 0), (1, (.getfield 192), 4, 12), (4, (.invokevirtual 140), 7, 52), (7, (.iload_n 1), 8, 0), (8, (.if_icmp .eq 13), 11, 0), (11, (.iconst 0), 12, 0), (12, .ireturn, 13, 0), (13, (.aload_n 0), 14, 0), (14, (.getfield 192), 17, 12), (17, (.invokevirtual 144), 20, 56), (20, (.iconst 1), 21, 0), (21, .ireturn, 22, 0)]
def ar_94 : List (Nat × Jvm.ClassFile.Instr × Nat × Nat) := [(0, (.aload_n 0), 1, 0), (1, (.aload_n 1), 2, 0), (2, (.iload_n 2), 3, 0), (3, (.iload_n 3), 4, 0), (4, (.invokevirtual 96), 7, 113), (7, (.istore 4), 9, 0), (9, (.iload 4), 11, 0), (11, (.istore 5), 13, 0), (13, (.iconst 0), 14, 0), (14, (.istore 6), 16, 0), (16, (.iload 6), 18, 0), (18, (.bipush 60), 20, 0), (20, (.if_icmp .ge 64), 23, 0), (23, (.iload 5), 25, 0), (25, (.iconst (-1)), 26, 0), (26, (.if_icmp .eq 64), 29, 0), (29, (.aload_n 0), 30, 0), (30, (.invokevirtual 95), 33, 116), (33, (.ifCond .ne 64), 36, 0), (36, (.aload_n 0), 37, 0), (37, (.aload_n 1), 38, 0), (38, (.iload_n 2), 39, 0), (39, (.iload_n 3), 40, 0), (40, (.invokevirtual 96), 43, 113), (43, (.istore 7), 45, 0), (45, (.aload_n 1), 46, 0), (46, (.getfield 458), 49, 120), (49, (.iload 5), 51, 0), (51, (.iload 7), 53, 0), (53, .iastore, 54, 0), (54, (.iload 7), 56, 0), (56, (.istore 5), 58, 0), (58, (.iinc 6 1), 61, 0), (61, (.goto 16), 64, 0), (64, (.iload 5), 66, 0), (66, (.iconst (-1)), 67, 0), (67, (.if_icmp .ne 74), 70, 0), (70, (.iconst (-1)), 71, 0), (71, (.goto 76), 74, 0), (74, (.iload 4), 76, 0), (76, .ireturn, 77, 0)]
def ar_95 : List (Nat × Jvm.ClassFile.Instr × Nat × Nat) := [(0, (.aload_n 0), 1, 0), (1, (.getfield 192), 4, 12), (4, (.invokevirtual 140), 7, 52), (7, (.istore_n 1), 8, 0), (8, (.iload_n 1), 9, 0), (9, (.bipush 41), 11, 0), (11, (.if_icmp .eq 30), 14, 0), (14, (.iload_n 1), 15, 0), (15, (.bipush 59), 17, 0), (17, (.if_icmp .eq 30), 20, 0), (20, (.iload_n 1), 21, 0), (21, (.bipush 9), 23, 0), (23, (.if_icmp .eq 30), 26, 0), (26, (.iload_n 1), 27, 0), (27, (.ifCond .ne 34), 30, 0), (30, (.iconst 1), 31, 0), (31, (.goto 35), 34, 0), (34, (.iconst 0), 35, 0), (35, .ireturn, 36, 0)]
def ar_96 : List (Nat × Jvm.ClassFile.Instr × Nat × Nat) := [(0, (.iload_n 3), 1, 0), (1, (.bipush 6), 3, 0), (3, (.if_icmp .gt 15), 6, 0), (6, (.aload_n 1), 7, 0), (7, (.getfield 448), 10, 124), (10, (.bipush 60), 12, 0), (12, (.if_icmp .lt 17), 15, 0), (15, (.iconst (-1)), 16, 0), (16, .ireturn, 17, 0), (17, (.aload_n 0), 18, 0), (18, (.getfield 192), 21, 12), (21, (.invokevirtual 140), 24, 52), (24, (.istore 4), 26, 0), (26, (.iload 4), 28, 0), (28, (.iconst 5), 29, 0), (29, (.if_icmp .ne 39), 32, 0), (32, (.aload_n 0), 33, 0), (33, (.aload_n 1), 34, 0), (34, (.iconst 4), 35, 0), (35, (.invokevirtual 97), 38, 125), (38, .ireturn, 39, 0), (39, (.iload 4), 41, 0), (41, (.iconst 3), 42, 0), (42, (.if_icmp .ne 52), 45, 0), (45, (.aload_n 0), 46, 0), (46, (.aload_n 1), 47, 0), (47, (.iconst 5), 48, 0), (48, (.invokevirtual 97), 51, 125), (51, .ireturn, 52, 0), (52, (.iload 4), 54, 0), (54, (.bipush 40), 56, 0), (56, (.if_icmp .ne 67), 59, 0), (59, (.aload_n 0), 60, 0), (60, (.aload_n 1), 61, 0), (61, (.iload_n 2), 62, 0), (62, (.iload_n 3), 63, 0), (63, (.invokevirtual 100), 66, 129), (66, .ireturn, 67, 0), (67, (.iload_n 2), 68, 0), (68, (.ifCond .eq 90), 71, 0), (71, (.iload 4), 73, 0), (73, (.bipush 63), 75, 0), (75, (.if_icmp .ne 88), 78, 0), (78, (.aload_n 0), 79, 0), (79, (.aload_n 1), 80, 0), (80, (.bipush 7), 82, 0), (82, (.invokevirtual 97), 85, 125), (85, (.goto 89), 88, 0), (88, (.iconst (-1)), 89, 0), (89, .ireturn, 90, 0), (90, (.iload 4), 92, 0), (92, (.bipush 126), 94, 0), (94, (.if_icmp .ne 110), 97, 0), (97, (.aload_n 0), 98, 0), (98, (.aload_n 1), 99, 0), (99, (.aload_n 0), 100, 0), (100, (.aload_n 1), 101, 0), (101, (.iconst 1), 102, 0), (102, (.invokevirtual 97), 105, 125), (105, (.iload_n 3), 106, 0), (106, (.invokevirtual 99), 109, 132), (109, .ireturn, 110, 0), (110, (.iload 4), 112, 0), (112, (.bipush 33), 114, 0), (114, (.if_icmp .ne 130), 117, 0), (117, (.aload_n 0), 118, 0), (118, (.aload_n 1), 119, 0), (119, (.aload_n 0), 120, 0), (120, (.aload_n 1), 121, 0), (121, (.iconst 2), 122, 0), (122, (.invokevirtual 97), 125, 125), (125, (.iload_n 3), 126, 0), (126, (.invokevirtual 99), 129, 132), (129, .ireturn, 130, 0), (130, (.iload 4), 132, 0), (132, (.iconst 4), 133, 0), (133, (.if_icmp .ne 143), 136, 0), (136, (.aload_n 0), 137, 0), (137, (.aload_n 1), 138, 0), (138, (.iload_n 3), 139, 0), (139, (.invokevirtual 98), 142, 136), (142, .ireturn, 143, 0), (143, (.iload 4), 145, 0), (145, (.bipush 95), 147, 0), (147, (.if_icmp .ne 159), 150, 0), (150, (.aload_n 0), 151, 0), (151, (.aload_n 1), 152, 0), (152, (.iconst 0), 153, 0), (153, (.invokevirtual 97), 156, 125), (156, (.goto 160), 159, 0), (159, (.iconst (-1)), 160, 0), (160, .ireturn, 161, 0)]
def ar_97 : List (Nat × Jvm.ClassFile.Instr × Nat × Nat) := [(0, (.aload_n 1), 1, 0), (1, (.iload_n 2), 2, 0), (2, (.aload_n 0), 3, 0), (3, (.getfield 192), 6, 12), (6, (.invokevirtual 141), 9, 71), (9, (.invokevirtual 136), 12, 139), (12, (.istore_n 3), 13, 0), (13, (.aload_n 1), 14, 0), (14, (.getfield 455), 17, 143), (17, (.iload_n 3), 18, 0), (18, (.aload_n 0), 19, 0), (19, (.getfield 192), 22, 12), (22, (.invokevirtual 142), 25, 68), (25, .iastore, 26, 0), (26, (.aload_n 1), 27, 0), (27, (.getfield 454), 30, 145), (30, (.iload_n 3), 31, 0), (31, (.aload_n 0), 32, 0), (32, (.getfield 192), 35, 12), (35, (.invokevirtual 143), 38, 85), (38, .lastore, 39, 0), (39, (.aload_n 0), 40, 0), (40, (.getfield 192), 43, 12), (43, (.invokevirtual 144), 46, 56), (46, (.iload_n 3), 47, 0), (47, .ireturn, 48, 0)]
def ar_98 : List (Nat × Jvm.ClassFile.Instr × Nat × Nat) := [(0, (.aload_n 0), 1, 0), (1, (.aload_n 1), 2, 0), (2, (.iconst 0), 3, 0), (3, (.invokevirtual 97), 6, 125), (6, (.istore_n 3), 7, 0), (7, (.aload_n 0), 8, 0), (8, (.bipush 64), 10, 0), (10, (.invokevirtual 93), 13, 78), (13, (.ifCond .ne 18), 16, 0), (16, (.iload_n 3), 17, 0), (17, .ireturn, 18, 0), (18, (.aload_n 1), 19, 0), (19, (.getfield 450), 22, 148), (22, (.iload_n 3), 23, 0), (23, (.iconst 3), 24, 0), (24, .iastore, 25, 0), (25, (.aload_n 0), 26, 0), (26, (.aload_n 1), 27, 0), (27, (.iload_n 3), 28, 0), (28, (.iload_n 2), 29, 0), (29, (.invokevirtual 99), 32, 132), (32, .ireturn, 33, 0)]
def ar_99 : List (Nat × Jvm.ClassFile.Instr × Nat × Nat) := [(0, (.aload_n 1), 1, 0), (1, (.getfield 457), 4, 150), (4, (.iload_n 2), 5, 0), (5, (.aload_n 0), 6, 0), (6, (.aload_n 1), 7, 0), (7, (.iconst 0), 8, 0), (8, (.iload_n 3), 9, 0), (9, (.iconst 1), 10, 0), (10, .iadd, 11, 0), (11, (.invokevirtual 96), 14, 113), (14, .iastore, 15, 0), (15, (.aload_n 1), 16, 0), (16, (.getfield 457), 19, 150), (19, (.iload_n 2), 20, 0), (20, .iaload, 21, 0), (21, (.iconst (-1)), 22, 0), (22, (.if_icmp .ne 29), 25, 0), (25, (.iconst (-1)), 26, 0), (26, (.goto 30), 29, 0), (29, (.iload_n 2), 30, 0), (30, .ireturn, 31, 0)]
def ar_100 : List (Nat × Jvm.ClassFile.Instr × Nat × Nat) := [(0, (.aload_n 0), 1, 0), (1, (.aload_n 1), 2, 0), (2, (.bipush 6), 4, 0), (4, (.invokevirtual 97), 7, 125), (7, (.istore 4), 9, 0), (9, (.aload_n 0), 10, 0), (10, (.getfield 192), 13, 12), (13, (.invokevirtual 140), 16, 52), (16, (.iconst 3), 17, 0), (17, (.if_icmp .eq 22), 20, 0), (20, (.iconst (-1)), 21, 0), (21, .ireturn, 22, 0), (22, (.aload_n 1), 23, 0), (23, (.getfield 454), 26, 145), (26, (.iload 4), 28, 0), (28, (.aload_n 0), 29, 0), (29, (.getfield 192), 32, 12), (32, (.invokevirtual 143), 35, 85), (35, .lastore, 36, 0), (36, (.aload_n 1), 37, 0), (37, (.getfield 452), 40, 153), (40, (.iload 4), 42, 0), (42, (.aload_n 0), 43, 0), (43, (.getfield 192), 46, 12), (46, (.invokevirtual 141), 49, 71), (49, .iastore, 50, 0), (50, (.aload_n 0), 51, 0), (51, (.getfield 192), 54, 12), (54, (.invokevirtual 144), 57, 56), (57, (.aload_n 1), 58, 0), (58, (.getfield 457), 61, 150), (61, (.iload 4), 63, 0), (63, (.aload_n 0), 64, 0), (64, (.aload_n 1), 65, 0), (65, (.iload_n 2), 66, 0), (66, (.iload_n 3), 67, 0), (67, (.iconst 1), 68, 0), (68, .iadd, 69, 0), (69, (.invokevirtual 94), 72, 44), (72, .iastore, 73, 0), (73, (.aload_n 1), 74, 0), (74, (.getfield 453), 77, 156), (77, (.iload 4), 79, 0), (79, (.aload_n 0), 80, 0), (80, (.getfield 192), 83, 12), (83, (.invokevirtual 141), 86, 71), (86, .iastore, 87, 0), (87, (.aload_n 1), 88, 0), (88, (.getfield 457), 91, 150), (91, (.iload 4), 93, 0), (93, .iaload, 94, 0), (94, (.iconst (-1)), 95, 0), (95, (.if_icmp .eq 112), 98, 0), (98, (.aload_n 0), 99, 0), (99, (.bipush 41), 101, 0), (101, (.invokevirtual 93), 104, 78), (104, (.ifCond .eq 112), 107, 0), (107, (.iload 4), 109, 0), (109, (.goto 113), 112, 0), (112, (.iconst (-1)), 113, 0), (113, .ireturn, 114, 0)]
def ar_101 : List (Nat × Jvm.ClassFile.Instr × Nat × Nat) := [(0, (.aload_n 0), 1, 0), (1, (.invokespecial 0), 4, 3), (4, (.aload_n 0), 5, 0), (5, (.iconst 0), 6, 0), (6, (.putfield 256), 9, 9), (9, (.aload_n 0), 10, 0), (10, (.sipush 1200), 13, 0), (13, (.newarray .int), 15, 0), (15, (.putfield 257), 18, 15), (18, .return_, 19, 0)]
def ar_102 : List (Nat × Jvm.ClassFile.Instr × Nat × Nat) := [(0, (.aload_n 0), 1, 0), (1, (.iconst 0), 2, 0), (2, (.putfield 256), 5, 9), (5, .return_, 6, 0)]
def ar_103 : List (Nat × Jvm.ClassFile.Instr × Nat × Nat) := [(0, (.aload_n 0), 1, 0), (1, (.getfield 256), 4, 9), (4, (.sipush 1200), 7, 0), (7, (.if_icmp .ge 30), 10, 0), (10, (.aload_n 0), 11, 0), (11, (.getfield 257), 14, 15), (14, (.aload_n 0), 15, 0), (15, (.getfield 256), 18, 9), (18, (.iload_n 1), 19, 0), (19, .iastore, 20, 0), (20, (.aload_n 0), 21, 0), (21, .dup, 22, 0), (22, (.getfield 256), 25, 9), (25, (.iconst 1), 26, 0), (26, .iadd, 27, 0), (27, (.putfield 256), 30, 9), (30, .return_, 31, 0)]
def ar_104 : List (Nat × Jvm.ClassFile.Instr × Nat × Nat) := [(0, (.iload_n 1), 1, 0), (1, (.bipush 99), 3, 0), (3, (.if_icmp .le 20), 6, 0), (6, (.aload_n 0), 7, 0), (7, (.bipush 48), 9, 0), (9, (.iload_n 1), 10, 0), (10, (.bipush 100), 12, 0), (12, .idiv, 13, 0), (13, (.bipush 10), 15, 0), (15, .irem, 16, 0), (16, .iadd, 17, 0), (17, (.invokevirtual 103), 20, 19), (20, (.iload_n 1), 21, 0), (21, (.bipush 9), 23, 0), (23, (.if_icmp .le 40), 26, 0), (26, (.aload_n 0), 27, 0), (27, (.bipush 48), 29, 0), (29, (.iload_n 1), 30, 0), (30, (.bipush 10), 32, 0), (32, .idiv, 33, 0), (33, (.bipush 10), 35, 0), (35, .irem, 36, 0), (36, .iadd, 37, 0), (37, (.invokevirtual 103), 40, 19), (40, (.aload_n 0), 41, 0), (41, (.bipush 48), 43, 0), (43, (.iload_n 1), 44, 0), (44, (.bipush 10), 46, 0), (46, .irem, 47, 0), (47, .iadd, 48, 0), (48, (.invokevirtual 103), 51, 19), (51, .return_, 52, 0)]
def ar_105 : List (Nat × Jvm.ClassFile.Instr × Nat × Nat) := [(0, (.bipush 35), 2, 0), (2, (.istore_n 3), 3, 0), (3, (.iload_n 3), 4, 0), (4, (.ifCond .lt 39), 7, 0), (7, (.lload_n 1), 8, 0), (8, (.iload_n 3), 9, 0), (9, .lshr, 10, 0), (10, (.jsr_w 31), 13, 23), (13, .land, 14, 0), (14, .l2i, 15, 0), (15, (.istore 4), 17, 0), (17, (.iload 4), 19, 0), (19, (.ifCond .le 33), 22, 0), (22, (.aload_n 0), 23, 0), (23, (.bipush 97), 25, 0), (25, (.iload 4), 27, 0), (27, .iadd, 28, 0), (28, (.iconst 1), 29, 0), (29, .isub, 30, 0), (30, (.invokevirtual 103), 33, 19), (33, (.iinc 3 (-5)), 36, 0), (36, (.goto 3), 39, 0), (39, .return_, 40, 0)]
def ar_106 : List (Nat × Jvm.ClassFile.Instr × Nat × Nat) := [(0, (.aload_n 0), 1, 0), (1, (.invokespecial 0), 4, 3), (4, (.aload_n 0), 5, 0), (5, (.new 10), 8, 9), (8, .dup, 9, 0), (9, (.invokespecial 162), 12, 11), (12, (.putfield 320), 15, 12), (15, (.aload_n 0), 16, 0), (16, (.new 7), 19, 18), (19, .dup, 20, 0), (20, (.invokespecial 134), 23, 20), (23, (.putfield 321), 26, 21), (26, (.aload_n 0), 27, 0), (27, (.iconst 0), 28, 0), (28, (.putfield 322), 31, 25), (31, (.aload_n 0), 32, 0), (32, (.iconst 0), 33, 0), (33, (.putfield 323), 36, 29), (36, (.aload_n 0), 37, 0), (37, (.iconst 0), 38, 0), (38, (.putfield 324), 41, 32), (41, (.aload_n 0), 42, 0), (42, (.bipush 12), 44, 0), (44, (.newarray .int), 46, 0), (46, (.putfield 325), 49, 35), (49, (.aload_n 0), 50, 0), (50, (.iconst 4), 51, 0), (51, (.newarray .int), 53, 0), (53, (.putfield 326), 56, 39), (56, (.aload_n 0), 57, 0), (57, (.iconst 4), 58, 0), (58, (.newarray .int), 60, 0), (60, (.putfield 327), 63, 42), (63, (.aload_n 0), 64, 0), (64, (.iconst 4), 65, 0), (65, (.newarray .int), 67, 0), (67, (.putfield 328), 70, 45), (70, (.aload_n 0), 71, 0), (71, (.bipush 12), 73, 0), (73, (.newarray .int), 75, 0), (75, (.putfield 329), 78, 48), (78, .return_, 79, 0)]
def ar_107 : List (Nat × Jvm.ClassFile.Instr × Nat × Nat) := [(0, (.aload_n 0), 1, 0), (1, (.getfield 320), 4, 12), (4, (.invokevirtual 163), 7, 51), (7, (.aload_n 0), 8, 0), (8, (.getfield 321), 11, 21), (11, (.invokevirtual 135), 14, 54), (14, (.aload_n 0), 15, 0), (15, (.iconst 0), 16, 0), (16, (.putfield 322), 19, 25), (19, (.aload_n 0), 20, 0), (20, (.iconst 0), 21, 0), (21, (.putfield 323), 24, 29), (24, (.aload_n 0), 25, 0), (25, (.iconst 0), 26, 0), (26, (.putfield 324), 29, 32), (29, .return_, 30, 0)]
def ar_108 : List (Nat × Jvm.ClassFile.Instr × Nat × Nat) := [(0, (.aload_n 0), 1, 0), (1, (.getfield 322), 4, 25), (4, (.iconst 4), 5, 0), (5, (.if_icmp .ge 38), 8, 0), (8, (.aload_n 0), 9, 0), (9, (.getfield 327), 12, 42), (12, (.aload_n 0), 13, 0), (13, (.getfield 322), 16, 25), (16, (.iload_n 1), 17, 0), (17, .iastore, 18, 0), (18, (.aload_n 0), 19, 0), (19, (.getfield 328), 22, 45), (22, (.aload_n 0), 23, 0), (23, (.getfield 322), 26, 25), (26, (.iload_n 2), 27, 0), (27, .iastore, 28, 0), (28, (.aload_n 0), 29, 0), (29, .dup, 30, 0), (30, (.getfield 322), 33, 25), (33, (.iconst 1), 34, 0), (34, .iadd, 35, 0), (35, (.putfield 322), 38, 25), (38, .return_, 39, 0)]
def ar_109 : List (Nat × Jvm.ClassFile.Instr × Nat × Nat) := [(0, (.aload_n 0), 1, 0), (1, (.getfield 323), 4, 29), (4, (.bipush 12), 6, 0), (6, (.if_icmp .ge 62), 9, 0), (9, (.aload_n 0), 10, 0), (10, (.getfield 325), 13, 35), (13, (.aload_n 0), 14, 0), (14, (.getfield 323), 17, 29), (17, (.iload_n 1), 18, 0), (18, .iastore, 19, 0), (19, (.aload_n 0), 20, 0), (20, (.getfield 329), 23, 48), (23, (.aload_n 0), 24, 0), (24, (.getfield 323), 27, 29), (27, (.iload_n 2), 28, 0), (28, .iastore, 29, 0), (29, (.aload_n 0), 30, 0), (30, .dup, 31, 0), (31, (.getfield 324), 34, 32), (34, (.iload_n 3), 35, 0), (35, (.ifCond .eq 42), 38, 0), (38, (.iconst 0), 39, 0), (39, (.goto 48), 42, 0), (42, (.iconst 1), 43, 0), (43, (.aload_n 0), 44, 0), (44, (.getfield 323), 47, 29), (47, .ishl, 48, 0), (48, .ior, 49, 0), (49, (.putfield 324), 52, 32), (52, (.aload_n 0), 53, 0), (53, .dup, 54, 0), (54, (.getfield 323), 57, 29), (57, (.iconst 1), 58, 0), (58, .iadd, 59, 0), (59, (.putfield 323), 62, 29), (62, .return_, 63, 0)]
def ar_110 : List (Nat × Jvm.ClassFile.Instr × Nat × Nat) := [(0, (.aload_n 0), 1, 0), (1, (.getfield 324), 4, 32), (4, (.iload_n 1), 5, 0), (5, .ishr, 6, 0), (6, (.iconst 1), 7, 0), (7, .iand, 8, 0), (8, (.iconst 1), 9, 0), (9, (.if_icmp .ne 16), 12, 0), (12, (.iconst 1), 13, 0), (13, (.goto 17), 16, 0), (16, (.iconst 0), 17, 0), (17, .ireturn, 18, 0)]
def ar_111 : List (Nat × Jvm.ClassFile.Instr × Nat × Nat) := [(0, (.aload_n 0), 1, 0), (1, (.getfield 320), 4, 12), (4, (.invokevirtual 169), 7, 55), (7, (.istore_n 1), 8, 0), (8, (.iconst 0), 9, 0), (9, (.istore_n 2), 10, 0), (10, (.iload_n 2), 11, 0), (11, (.aload_n 0), 12, 0), (12, (.getfield 322), 15, 25), (15, (.if_icmp .ge 69), 18, 0), (18, (.iload_n 1), 19, 0), (19, (.iconst (-1)), 20, 0), (20, (.if_icmp .ne 69), 23, 0), (23, (.aload_n 0), 24, 0), (24, (.getfield 326), 27, 39), (27, (.iload_n 2), 28, 0), (28, (.aload_n 0), 29, 0), (29, (.getfield 320), 32, 12), (32, (.aload_n 0), 33, 0), (33, (.getfield 327), 36, 42), (36, (.iload_n 2), 37, 0), (37, .iaload, 38, 0), (38, (.invokevirtual 167), 41, 59), (41, .iastore, 42, 0), (42, (.aload_n 0), 43, 0), (43, (.getfield 326), 46, 39), (46, (.iload_n 2), 47, 0), (47, .iaload, 48, 0), (48, (.iconst (-1)), 49, 0), (49, (.if_icmp .ne 61), 52, 0), (52, (.aload_n 0), 53, 0), (53, (.getfield 328), 56, 45), (56, (.iload_n 2), 57, 0), (57, .iaload, 58, 0), (58, (.goto 62), 61, 0), (61, (.iconst (-1)), 62, 0), (62, (.istore_n 1), 63, 0), (63, (.iinc 2 1), 66, 0), (66, (.goto 10), 69, 0), (69, (.iconst 0), 70, 0), (70, (.istore_n 2), 71, 0), (71, (.iload_n 2), 72, 0), (72, (.aload_n 0), 73, 0), (73, (.getfield 323), 76, 29), (76, (.if_icmp .ge 111), 79, 0), (79, (.iload_n 1), 80, 0), (80, (.iconst (-1)), 81, 0), (81, (.if_icmp .ne 111), 84, 0), (84, (.aload_n 0), 85, 0), (85, (.aload_n 0), 86, 0), (86, (.getfield 321), 89, 21), (89, (.aload_n 0), 90, 0), (90, (.getfield 325), 93, 35), (93, (.iload_n 2), 94, 0), (94, .iaload, 95, 0), (95, (.aload_n 0), 96, 0), (96, (.getfield 329), 99, 48), (99, (.iload_n 2), 100, 0), (100, .iaload, 101, 0), (101, (.invokevirtual 112), 104, 63), (104, (.istore_n 1), 105, 0), (105, (.iinc 2 1), 108, 0), (108, (.goto 71), 111, 0), (111, (.iload_n 1), 112, 0), (112, .ireturn, 113, 0)]
def ar_112 : List (Nat × Jvm.ClassFile.Instr × Nat × Nat) := [(0, (.aload_n 0), 1, 0), (1, (.aload_n 1), 2, 0), (2, (.iload_n 2), 3, 0), (3, (.aload_n 0), 4, 0), (4, (.getfield 326), 7, 39), (7, (.iconst 0), 8, 0), (8, (.aload_n 0), 9, 0), (9, (.getfield 322), 12, 25), (12, (.iload_n 3), 13, 0), (13, (.invokevirtual 113), 16, 67), (16, .ireturn, 17, 0)]
def ar_113 : List (Nat × Jvm.ClassFile.Instr × Nat × Nat) := [(0, (.iload_n 2), 1, 0), (1, (.istore 7), 3, 0), (3, (.iconst 0), 4, 0), (4, (.istore 8), 6, 0), (6, (.iload 8), 8, 0), (8, (.iload 5), 10, 0), (10, (.if_icmp .ge 62), 13, 0), (13, (.iload 7), 15, 0), (15, (.iconst (-1)), 16, 0), (16, (.if_icmp .ne 22), 19, 0), (19, (.iload 6), 21, 0), (21, .ireturn, 22, 0), (22, (.aload_n 0), 23, 0), (23, (.aload_n 1), 24, 0), (24, (.iload 7), 26, 0), (26, (.aload_n 3), 27, 0), (27, (.iload 4), 29, 0), (29, (.iload 8), 31, 0), (31, .iadd, 32, 0), (32, .iaload, 33, 0), (33, (.invokevirtual 114), 36, 71), (36, (.istore 9), 38, 0), (38, (.iload 9), 40, 0), (40, (.iconst (-1)), 41, 0), (41, (.if_icmp .eq 47), 44, 0), (44, (.iload 9), 46, 0), (46, .ireturn, 47, 0), (47, (.aload_n 1), 48, 0), (48, (.getfield 458), 51, 74), (51, (.iload 7), 53, 0), (53, .iaload, 54, 0), (54, (.istore 7), 56, 0), (56, (.iinc 8 1), 59, 0), (59, (.goto 6), 62, 0), (62, (.iload 7), 64, 0), (64, (.iconst (-1)), 65, 0), (65, (.if_icmp .ne 72), 68, 0), (68, (.iconst (-1)), 69, 0), (69, (.goto 79), 72, 0), (72, (.aload_n 1), 73, 0), (73, (.getfield 451), 76, 77), (76, (.iload 7), 78, 0), (78, .iaload, 79, 0), (79, .ireturn, 80, 0)]
def ar_114 : List (Nat × Jvm.ClassFile.Instr × Nat × Nat) := [(0, (.aload_n 1), 1, 0), (1, (.getfield 450), 4, 80), (4, (.iload_n 2), 5, 0), (5, .iaload, 6, 0), (6, (.iconst 4), 7, 0), (7, (.if_icmp .ne 27), 10, 0), (10, (.iload_n 3), 11, 0), (11, (.bipush 6), 13, 0), (13, (.if_icmp .ne 20), 16, 0), (16, (.iconst (-1)), 17, 0), (17, (.goto 26), 20, 0), (20, (.aload_n 1), 21, 0), (21, (.getfield 451), 24, 77), (24, (.iload_n 2), 25, 0), (25, .iaload, 26, 0), (26, .ireturn, 27, 0), (27, (.aload_n 1), 28, 0), (28, (.iload_n 2), 29, 0), (29, (.invokevirtual 137), 32, 83), (32, (.ifCond .ne 62), 35, 0), (35, (.aload_n 1), 36, 0), (36, (.getfield 457), 39, 87), (39, (.iload_n 2), 40, 0), (40, .iaload, 41, 0), (41, (.istore 4), 43, 0), (43, (.iload 4), 45, 0), (45, (.iconst (-1)), 46, 0), (46, (.if_icmp .ne 53), 49, 0), (49, (.iconst (-1)), 50, 0), (50, (.goto 61), 53, 0), (53, (.aload_n 0), 54, 0), (54, (.aload_n 1), 55, 0), (55, (.iload 4), 57, 0), (57, (.iload_n 3), 58, 0), (58, (.invokevirtual 114), 61, 71), (61, .ireturn, 62, 0), (62, (.aload_n 0), 63, 0), (63, (.getfield 320), 66, 12), (66, (.aload_n 1), 67, 0), (67, (.getfield 454), 70, 90), (70, (.iload_n 2), 71, 0), (71, .laload, 72, 0), (72, (.invokevirtual 168), 75, 94), (75, (.istore 4), 77, 0), (77, (.iload 4), 79, 0), (79, (.iconst (-1)), 80, 0), (80, (.if_icmp .eq 97), 83, 0), (83, (.aload_n 0), 84, 0), (84, (.getfield 320), 87, 12), (87, (.getfield 645), 90, 98), (90, (.iload 4), 92, 0), (92, .iaload, 93, 0), (93, (.iload_n 3), 94, 0), (94, (.if_icmp .eq 104), 97, 0), (97, (.aload_n 1), 98, 0), (98, (.getfield 452), 101, 101), (101, (.iload_n 2), 102, 0), (102, .iaload, 103, 0), (103, .ireturn, 104, 0), (104, (.aload_n 1), 105, 0), (105, (.getfield 456), 108, 104), (108, (.iload_n 2), 109, 0), (109, (.iload 4), 111, 0), (111, .iastore, 112, 0), (112, (.aload_n 1), 113, 0), (113, (.getfield 450), 116, 80), (116, (.iload_n 2), 117, 0), (117, .iaload, 118, 0), (118, (.iconst 5), 119, 0), (119, (.if_icmp .ne 146), 122, 0), (122, (.aload_n 0), 123, 0), (123, (.getfield 320), 126, 12), (126, (.getfield 646), 129, 107), (129, (.iload 4), 131, 0), (131, .iaload, 132, 0), (132, (.ifCond .ne 139), 135, 0), (135, (.iconst (-1)), 136, 0), (136, (.goto 145), 139, 0), (139, (.aload_n 1), 140, 0), (140, (.getfield 452), 143, 101), (143, (.iload_n 2), 144, 0), (144, .iaload, 145, 0), (145, .ireturn, 146, 0), (146, (.aload_n 0), 147, 0), (147, (.aload_n 1), 148, 0), (148, (.aload_n 1), 149, 0), (149, (.getfield 457), 152, 87), (152, (.iload_n 2), 153, 0), (153, .iaload, 154, 0), (154, (.aload_n 0), 155, 0), (155, (.getfield 320), 158, 12), (158, (.getfield 648), 161, 110), (161, (.iload 4), 163, 0), (163, (.iconst 3), 164, 0), (164, .imul, 165, 0), (165, (.aload_n 0), 166, 0), (166, (.getfield 320), 169, 12), (169, (.getfield 646), 172, 107), (172, (.iload 4), 174, 0), (174, .iaload, 175, 0), (175, (.aload_n 1), 176, 0), (176, (.getfield 453), 179, 113), (179, (.iload_n 2), 180, 0), (180, .iaload, 181, 0), (181, (.invokevirtual 113), 184, 67), (184, .ireturn, 185, 0)]
def ar_115 : List (Nat × Jvm.ClassFile.Instr × Nat × Nat) := [(0, (.aload_n 1), 1, 0), (1, (.getfield 456), 4, 104), (4, (.iload_n 2), 5, 0), (5, .iaload, 6, 0), (6, (.istore_n 3), 7, 0), (7, (.aload_n 1), 8, 0), (8, (.iload_n 2), 9, 0), (9, (.invokevirtual 137), 12, 83), (12, (.ifCond .eq 44), 15, 0), (15, (.iload_n 3), 16, 0), (16, (.iconst (-1)), 17, 0), (17, (.if_icmp .eq 44), 20, 0), (20, (.aload_n 0), 21, 0), (21, (.getfield 320), 24, 12), (24, (.getfield 642), 27, 116), (27, (.aload_n 0), 28, 0), (28, (.getfield 320), 31, 12), (31, (.getfield 645), 34, 98), (34, (.iload_n 3), 35, 0), (35, .iaload, 36, 0), (36, .baload, 37, 0), (37, (.ifCond .eq 44), 40, 0), (40, (.iconst 1), 41, 0), (41, (.goto 45), 44, 0), (44, (.iconst 0), 45, 0), (45, .ireturn, 46, 0)]
def ar_116 : List (Nat × Jvm.ClassFile.Instr × Nat × Nat) := [(0, (.aload_n 0), 1, 0), (1, (.invokespecial 0), 4, 3), (4, (.aload_n 0), 5, 0), (5, (.new 4), 8, 9), (8, .dup, 9, 0), (9, (.invokespecial 101), 12, 11), (12, (.putfield 384), 15, 12), (15, (.aload_n 0), 16, 0), (16, (.new 2), 19, 18), (19, .dup, 20, 0), (20, (.invokespecial 78), 23, 20), (23, (.putfield 385), 26, 21), (26, (.aload_n 0), 27, 0), (27, (.bipush 60), 29, 0), (29, (.newarray .int), 31, 0), (31, (.putfield 386), 34, 25), (34, (.aload_n 0), 35, 0), (35, (.iconst 0), 36, 0), (36, (.putfield 387), 39, 29), (39, .return_, 40, 0)]
def ar_117 : List (Nat × Jvm.ClassFile.Instr × Nat × Nat) := [(0, (.aload_n 0), 1, 0), (1, (.getfield 385), 4, 21), (4, (.aload_n 1), 5, 0), (5, (.invokevirtual 79), 8, 33), (8, (.aload_n 0), 9, 0), (9, (.getfield 384), 12, 12), (12, (.invokevirtual 102), 15, 37), (15, (.aload_n 0), 16, 0), (16, (.iconst 0), 17, 0), (17, (.putfield 387), 20, 29), (20, .return_, 21, 0)]
def ar_118 : List (Nat × Jvm.ClassFile.Instr × Nat × Nat) := [(0, (.aload_n 0), 1, 0), (1, (.getfield 387), 4, 29), (4, (.ifCond .eq 8), 7, 0), (7, .return_, 8, 0), (8, (.aload_n 0), 9, 0), (9, (.iconst 1), 10, 0), (10, (.putfield 387), 13, 29), (13, (.aload_n 0), 14, 0), (14, (.invokevirtual 120), 17, 40), (17, (.aload_n 0), 18, 0), (18, (.aload_n 1), 19, 0), (19, (.getfield 320), 22, 43), (22, (.aload_n 1), 23, 0), (23, (.getfield 324), 26, 49), (26, (.iconst 0), 27, 0), (27, (.invokevirtual 122), 30, 53), (30, (.ifCond .eq 50), 33, 0), (33, (.aload_n 0), 34, 0), (34, (.aload_n 1), 35, 0), (35, (.getfield 320), 38, 43), (38, (.aload_n 1), 39, 0), (39, (.getfield 324), 42, 49), (42, (.invokevirtual 123), 45, 57), (45, (.aload_n 0), 46, 0), (46, (.aload_n 1), 47, 0), (47, (.invokevirtual 131), 50, 61), (50, .return_, 51, 0)]
def ar_119 : List (Nat × Jvm.ClassFile.Instr × Nat × Nat) := [(0, (.aload_n 0), 1, 0), (1, (.invokevirtual 120), 4, 40), (4, (.aload_n 1), 5, 0), (5, (.getfield 324), 8, 49), (8, (.iconst 1), 9, 0), (9, (.iload_n 2), 10, 0), (10, .ishl, 11, 0), (11, (.iconst 1), 12, 0), (12, .isub, 13, 0), (13, .iand, 14, 0), (14, (.istore_n 3), 15, 0), (15, (.aload_n 0), 16, 0), (16, (.getfield 385), 19, 21), (19, (.getfield 133), 22, 64), (22, (.iload_n 2), 23, 0), (23, .iaload, 24, 0), (24, (.istore 4), 26, 0), (26, (.iload 4), 28, 0), (28, (.aload_n 0), 29, 0), (29, (.getfield 385), 32, 21), (32, (.getfield 133), 35, 64), (35, (.iload_n 2), 36, 0), (36, (.iconst 1), 37, 0), (37, .iadd, 38, 0), (38, .iaload, 39, 0), (39, (.if_icmp .ge 74), 42, 0), (42, (.aload_n 0), 43, 0), (43, (.iload_n 3), 44, 0), (44, (.aload_n 0), 45, 0), (45, (.getfield 385), 48, 21), (48, (.getfield 131), 51, 67), (51, (.iload 4), 53, 0), (53, .iaload, 54, 0), (54, (.aload_n 0), 55, 0), (55, (.getfield 385), 58, 21), (58, (.getfield 132), 61, 70), (61, (.iload 4), 63, 0), (63, .iaload, 64, 0), (64, (.invokevirtual 121), 67, 73), (67, (.istore_n 3), 68, 0), (68, (.iinc 4 1), 71, 0), (71, (.goto 26), 74, 0), (74, (.aload_n 0), 75, 0), (75, (.aload_n 1), 76, 0), (76, (.getfield 320), 79, 43), (79, (.iload_n 3), 80, 0), (80, (.iconst 0), 81, 0), (81, (.invokevirtual 122), 84, 53), (84, .ireturn, 85, 0)]
def ar_120 : List (Nat × Jvm.ClassFile.Instr × Nat × Nat) := [(0, (.iconst 0), 1, 0), (1, (.istore_n 1), 2, 0), (2, (.iload_n 1), 3, 0), (3, (.bipush 60), 5, 0), (5, (.if_icmp .ge 21), 8, 0), (8, (.aload_n 0), 9, 0), (9, (.getfield 386), 12, 25), (12, (.iload_n 1), 13, 0), (13, (.iconst (-1)), 14, 0), (14, .iastore, 15, 0), (15, (.iinc 1 1), 18, 0), (18, (.goto 2), 21, 0), (21, .return_, 22, 0)]
def ar_121 : List (Nat × Jvm.ClassFile.Instr × Nat × Nat) := [(0, (.aload_n 0), 1, 0), (1, (.getfield 386), 4, 25), (4, (.iload_n 2), 5, 0), (5, (.iload_n 3), 6, 0), (6, .iastore, 7, 0), (7, (.iconst 0), 8, 0), (8, (.istore 4), 10, 0), (10, (.iconst 0), 11, 0), (11, (.istore 5), 13, 0), (13, (.iload 5), 15, 0), (15, (.bipush 12), 17, 0), (17, (.if_icmp .ge 90), 20, 0), (20, (.iload_n 1), 21, 0), (21, (.iload 5), 23, 0), (23, .ishr, 24, 0), (24, (.iconst 1), 25, 0), (25, .iand, 26, 0), (26, (.iconst 1), 27, 0), (27, (.if_icmp .ne 34), 30, 0), (30, (.iconst 1), 31, 0), (31, (.goto 35), 34, 0), (34, (.iconst 0), 35, 0), (35, (.istore 6), 37, 0), (37, (.iload 6), 39, 0), (39, (.ifCond .eq 55), 42, 0), (42, (.aload_n 0), 43, 0), (43, (.getfield 385), 46, 21), (46, (.iload 5), 48, 0), (48, (.iload_n 2), 49, 0), (49, (.invokevirtual 80), 52, 77), (52, (.goto 56), 55, 0), (55, (.iconst (-1)), 56, 0), (56, (.istore 7), 58, 0), (58, (.iload 6), 60, 0), (60, (.ifCond .eq 84), 63, 0), (63, (.iload 7), 65, 0), (65, (.iconst (-1)), 66, 0), (66, (.if_icmp .eq 75), 69, 0), (69, (.iload 7), 71, 0), (71, (.iload_n 3), 72, 0), (72, (.if_icmp .ne 84), 75, 0), (75, (.iload 4), 77, 0), (77, (.iconst 1), 78, 0), (78, (.iload 5), 80, 0), (80, .ishl, 81, 0), (81, .ior, 82, 0), (82, (.istore 4), 84, 0), (84, (.iinc 5 1), 87, 0), (87, (.goto 13), 90, 0), (90, (.iload 4), 92, 0), (92, .ireturn, 93, 0)]
def ar_122 : List (Nat × Jvm.ClassFile.Instr × Nat × Nat) := [(0, (.iload_n 2), 1, 0), (1, (.ifCond .ne 6), 4, 0), (4, (.iconst 1), 5, 0), (5, .ireturn, 6, 0), (6, (.iload_n 3), 7, 0), (7, (.bipush 60), 9, 0), (9, (.if_icmp .ge 20), 12, 0), (12, (.aload_n 0), 13, 0), (13, (.iload_n 2), 14, 0), (14, (.invokevirtual 125), 17, 81), (17, (.goto 21), 20, 0), (20, (.iconst (-1)), 21, 0), (21, (.istore 4), 23, 0), (23, (.iload 4), 25, 0), (25, (.iconst (-1)), 26, 0), (26, (.if_icmp .ne 31), 29, 0), (29, (.iconst 0), 30, 0), (30, .ireturn, 31, 0), (31, (.aload_n 0), 32, 0), (32, (.getfield 385), 35, 21), (35, (.getfield 131), 38, 67), (38, (.iload 4), 40, 0), (40, .iaload, 41, 0), (41, (.istore 5), 43, 0), (43, (.aload_n 0), 44, 0), (44, (.aload_n 1), 45, 0), (45, (.iload_n 2), 46, 0), (46, (.iload 4), 48, 0), (48, (.invokevirtual 129), 51, 85), (51, (.istore 6), 53, 0), (53, (.iload 6), 55, 0), (55, (.iconst (-1)), 56, 0), (56, (.if_icmp .ne 70), 59, 0), (59, (.aload_n 0), 60, 0), (60, (.aload_n 1), 61, 0), (61, (.iload_n 2), 62, 0), (62, (.iload 4), 64, 0), (64, (.invokevirtual 126), 67, 89), (67, (.goto 72), 70, 0), (70, (.iload 6), 72, 0), (72, (.istore 7), 74, 0), (74, (.iconst 0), 75, 0), (75, (.istore 8), 77, 0), (77, (.iconst 0), 78, 0), (78, (.istore 9), 80, 0), (80, (.iload 9), 82, 0), (82, (.bipush 6), 84, 0), (84, (.if_icmp .ge 145), 87, 0), (87, (.iload 7), 89, 0), (89, (.iconst (-1)), 90, 0), (90, (.if_icmp .eq 145), 93, 0), (93, (.iload 8), 95, 0), (95, (.ifCond .ne 145), 98, 0), (98, (.aload_n 0), 99, 0), (99, (.aload_n 1), 100, 0), (100, (.aload_n 0), 101, 0), (101, (.iload_n 2), 102, 0), (102, (.iload 5), 104, 0), (104, (.iload 7), 106, 0), (106, (.invokevirtual 121), 109, 73), (109, (.iload_n 3), 110, 0), (110, (.iconst 1), 111, 0), (111, .iadd, 112, 0), (112, (.invokevirtual 122), 115, 53), (115, (.istore 8), 117, 0), (117, (.iload 6), 119, 0), (119, (.iconst (-1)), 120, 0), (120, (.if_icmp .ne 136), 123, 0), (123, (.aload_n 0), 124, 0), (124, (.aload_n 1), 125, 0), (125, (.iload_n 2), 126, 0), (126, (.iload 5), 128, 0), (128, (.iload 7), 130, 0), (130, (.invokevirtual 127), 133, 92), (133, (.goto 137), 136, 0), (136, (.iconst (-1)), 137, 0), (137, (.istore 7), 139, 0), (139, (.iinc 9 1), 142, 0), (142, (.goto 80), 145, 0), (145, (.aload_n 0), 146, 0), (146, (.getfield 386), 149, 25), (149, (.iload 5), 151, 0), (151, (.iconst (-1)), 152, 0), (152, .iastore, 153, 0), (153, (.iload 8), 155, 0), (155, .ireturn, 156, 0)]
def ar_123 : List (Nat × Jvm.ClassFile.Instr × Nat × Nat) := [(0, (.iload_n 2), 1, 0), (1, (.istore_n 3), 2, 0), (2, (.aload_n 0), 3, 0), (3, (.iload_n 3), 4, 0), (4, (.invokevirtual 125), 7, 81), (7, (.istore 4), 9, 0), (9, (.iconst 1), 10, 0), (10, (.istore 5), 12, 0), (12, (.iload 5), 14, 0), (14, (.bipush 60), 16, 0), (16, (.if_icmp .gt 49), 19, 0), (19, (.iload 4), 21, 0), (21, (.iconst (-1)), 22, 0), (22, (.if_icmp .eq 49), 25, 0), (25, (.aload_n 0), 26, 0), (26, (.aload_n 1), 27, 0), (27, (.iload_n 3), 28, 0), (28, (.iload 4), 30, 0), (30, (.iload 5), 32, 0), (32, (.invokevirtual 124), 35, 96), (35, (.istore_n 3), 36, 0), (36, (.aload_n 0), 37, 0), (37, (.iload_n 3), 38, 0), (38, (.invokevirtual 125), 41, 81), (41, (.istore 4), 43, 0), (43, (.iinc 5 1), 46, 0), (46, (.goto 12), 49, 0), (49, .return_, 50, 0)]
def ar_124 : List (Nat × Jvm.ClassFile.Instr × Nat × Nat) := [(0, (.aload_n 0), 1, 0), (1, (.getfield 385), 4, 21), (4, (.getfield 131), 7, 67), (7, (.iload_n 3), 8, 0), (8, .iaload, 9, 0), (9, (.istore 5), 11, 0), (11, (.aload_n 0), 12, 0), (12, (.aload_n 1), 13, 0), (13, (.iload_n 2), 14, 0), (14, (.iload_n 3), 15, 0), (15, (.invokevirtual 126), 18, 89), (18, (.istore 6), 20, 0), (20, (.aload_n 0), 21, 0), (21, (.iload_n 2), 22, 0), (22, (.iload 5), 24, 0), (24, (.iload 6), 26, 0), (26, (.invokevirtual 121), 29, 73), (29, (.istore 7), 31, 0), (31, (.iconst 0), 32, 0), (32, (.istore 8), 34, 0), (34, (.iload 8), 36, 0), (36, (.bipush 12), 38, 0), (38, (.if_icmp .gt 88), 41, 0), (41, (.iload 6), 43, 0), (43, (.iconst (-1)), 44, 0), (44, (.if_icmp .eq 88), 47, 0), (47, (.aload_n 0), 48, 0), (48, (.aload_n 1), 49, 0), (49, (.iload 7), 51, 0), (51, (.iload 4), 53, 0), (53, (.invokevirtual 122), 56, 53), (56, (.ifCond .ne 88), 59, 0), (59, (.aload_n 0), 60, 0), (60, (.aload_n 1), 61, 0), (61, (.iload_n 2), 62, 0), (62, (.iload 5), 64, 0), (64, (.iload 6), 66, 0), (66, (.invokevirtual 127), 69, 92), (69, (.istore 6), 71, 0), (71, (.aload_n 0), 72, 0), (72, (.iload_n 2), 73, 0), (73, (.iload 5), 75, 0), (75, (.iload 6), 77, 0), (77, (.invokevirtual 121), 80, 73), (80, (.istore 7), 82, 0), (82, (.iinc 8 1), 85, 0), (85, (.goto 34), 88, 0), (88, (.iload 7), 90, 0), (90, .ireturn, 91, 0)]
def ar_125 : List (Nat × Jvm.ClassFile.Instr × Nat × Nat) := [(0, (.iload_n 1), 1, 0), (1, (.invokestatic 183), 4, 99), (4, (.istore_n 2), 5, 0), (5, (.iload_n 2), 6, 0), (6, (.bipush 12), 8, 0), (8, (.if_icmp .lt 13), 11, 0), (11, (.iconst (-1)), 12, 0), (12, .ireturn, 13, 0), (13, (.aload_n 0), 14, 0), (14, (.getfield 385), 17, 21), (17, (.getfield 133), 20, 64), (20, (.iload_n 2), 21, 0), (21, .iaload, 22, 0), (22, (.istore_n 3), 23, 0), (23, (.iload_n 3), 24, 0), (24, (.aload_n 0), 25, 0), (25, (.getfield 385), 28, 21), (28, (.getfield 133), 31, 64), (31, (.iload_n 2), 32, 0), (32, (.iconst 1), 33, 0), (33, .iadd, 34, 0), (34, .iaload, 35, 0), (35, (.if_icmp .ge 64), 38, 0), (38, (.aload_n 0), 39, 0), (39, (.getfield 386), 42, 25), (42, (.aload_n 0), 43, 0), (43, (.getfield 385), 46, 21), (46, (.getfield 131), 49, 67), (49, (.iload_n 3), 50, 0), (50, .iaload, 51, 0), (51, .iaload, 52, 0), (52, (.iconst (-1)), 53, 0), (53, (.if_icmp .ne 58), 56, 0), (56, (.iload_n 3), 57, 0), (57, .ireturn, 58, 0), (58, (.iinc 3 1), 61, 0), (61, (.goto 23), 64, 0), (64, (.iconst (-1)), 65, 0), (65, .ireturn, 66, 0)]
def ar_126 : List (Nat × Jvm.ClassFile.Instr × Nat × Nat) := [(0, (.aload_n 0), 1, 0), (1, (.getfield 385), 4, 21), (4, (.getfield 132), 7, 70), (7, (.iload_n 3), 8, 0), (8, .iaload, 9, 0), (9, (.istore 4), 11, 0), (11, (.iload 4), 13, 0), (13, (.bipush 36), 15, 0), (15, (.if_icmp .ge 31), 18, 0), (18, (.aload_n 1), 19, 0), (19, (.getfield 643), 22, 104), (22, (.aload_n 1), 23, 0), (23, (.getfield 645), 26, 109), (26, (.iload 4), 28, 0), (28, .iaload, 29, 0), (29, .iaload, 30, 0), (30, .ireturn, 31, 0), (31, (.aload_n 0), 32, 0), (32, (.iload_n 2), 33, 0), (33, (.aload_n 0), 34, 0), (34, (.getfield 385), 37, 21), (37, (.getfield 131), 40, 67), (40, (.iload_n 3), 41, 0), (41, .iaload, 42, 0), (42, (.bipush 36), 44, 0), (44, (.invokevirtual 128), 47, 112), (47, .ireturn, 48, 0)]
def ar_127 : List (Nat × Jvm.ClassFile.Instr × Nat × Nat) := [(0, (.iload 4), 2, 0), (2, (.bipush 36), 4, 0), (4, (.if_icmp .ge 47), 7, 0), (7, (.aload_n 1), 8, 0), (8, (.getfield 645), 11, 109), (11, (.iload 4), 13, 0), (13, .iaload, 14, 0), (14, (.istore 5), 16, 0), (16, (.iload 4), 18, 0), (18, (.iconst 1), 19, 0), (19, .iadd, 20, 0), (20, (.aload_n 1), 21, 0), (21, (.getfield 643), 24, 104), (24, (.iload 5), 26, 0), (26, .iaload, 27, 0), (27, (.aload_n 1), 28, 0), (28, (.getfield 644), 31, 115), (31, (.iload 5), 33, 0), (33, .iaload, 34, 0), (34, .iadd, 35, 0), (35, (.if_icmp .ge 45), 38, 0), (38, (.iload 4), 40, 0), (40, (.iconst 1), 41, 0), (41, .iadd, 42, 0), (42, (.goto 46), 45, 0), (45, (.iconst (-1)), 46, 0), (46, .ireturn, 47, 0), (47, (.aload_n 0), 48, 0), (48, (.iload_n 2), 49, 0), (49, (.iload_n 3), 50, 0), (50, (.iload 4), 52, 0), (52, (.invokevirtual 128), 55, 112), (55, (.iload 4), 57, 0), (57, (.if_icmp .eq 62), 60, 0), (60, (.iconst (-1)), 61, 0), (61, .ireturn, 62, 0), (62, (.aload_n 0), 63, 0), (63, (.iload_n 2), 64, 0), (64, (.iload_n 3), 65, 0), (65, (.iload 4), 67, 0), (67, (.iconst 1), 68, 0), (68, .iadd, 69, 0), (69, (.invokevirtual 128), 72, 112), (72, (.istore 5), 74, 0), (74, (.iload 5), 76, 0), (76, (.iconst (-1)), 77, 0), (77, (.if_icmp .ne 91), 80, 0), (80, (.aload_n 0), 81, 0), (81, (.iload_n 2), 82, 0), (82, (.iload_n 3), 83, 0), (83, (.bipush 36), 85, 0), (85, (.invokevirtual 130), 88, 118), (88, (.goto 93), 91, 0), (91, (.iload 5), 93, 0), (93, .ireturn, 94, 0)]
def ar_128 : List (Nat × Jvm.ClassFile.Instr × Nat × Nat) := [(0, (.iconst (-1)), 1, 0), (1, (.istore 4), 3, 0), (3, (.iconst 0), 4, 0), (4, (.istore 5), 6, 0), (6, (.iload 5), 8, 0), (8, (.bipush 12), 10, 0), (10, (.if_icmp .ge 68), 13, 0), (13, (.iload_n 1), 14, 0), (14, (.iload 5), 16, 0), (16, .ishr, 17, 0), (17, (.iconst 1), 18, 0), (18, .iand, 19, 0), (19, (.iconst 1), 20, 0), (20, (.if_icmp .ne 36), 23, 0), (23, (.aload_n 0), 24, 0), (24, (.getfield 385), 27, 21), (27, (.iload 5), 29, 0), (29, (.iload_n 2), 30, 0), (30, (.invokevirtual 80), 33, 77), (33, (.goto 37), 36, 0), (36, (.iconst (-1)), 37, 0), (37, (.istore 6), 39, 0), (39, (.iload 6), 41, 0), (41, (.iload_n 3), 42, 0), (42, (.if_icmp .lt 62), 45, 0), (45, (.iload 4), 47, 0), (47, (.iconst (-1)), 48, 0), (48, (.if_icmp .eq 58), 51, 0), (51, (.iload 6), 53, 0), (53, (.iload 4), 55, 0), (55, (.if_icmp .ge 62), 58, 0), (58, (.iload 6), 60, 0), (60, (.istore 4), 62, 0), (62, (.iinc 5 1), 65, 0), (65, (.goto 6), 68, 0), (68, (.iload 4), 70, 0), (70, .ireturn, 71, 0)]
def ar_129 : List (Nat × Jvm.ClassFile.Instr × Nat × Nat) := [(0, (.aload_n 0), 1, 0), (1, (.getfield 385), 4, 21), (4, (.getfield 131), 7, 67), (7, (.iload_n 3), 8, 0), (8, .iaload, 9, 0), (9, (.istore 4), 11, 0), (11, (.aload_n 0), 12, 0), (12, (.getfield 385), 15, 21), (15, (.getfield 132), 18, 70), (18, (.iload_n 3), 19, 0), (19, .iaload, 20, 0), (20, (.bipush 36), 22, 0), (22, (.if_icmp .lt 35), 25, 0), (25, (.aload_n 0), 26, 0), (26, (.iload_n 2), 27, 0), (27, (.iload 4), 29, 0), (29, (.bipush 36), 31, 0), (31, (.invokevirtual 130), 34, 118), (34, .ireturn, 35, 0), (35, (.aload_n 1), 36, 0), (36, (.getfield 645), 39, 109), (39, (.aload_n 0), 40, 0), (40, (.getfield 385), 43, 21), (43, (.getfield 132), 46, 70), (46, (.iload_n 3), 47, 0), (47, .iaload, 48, 0), (48, .iaload, 49, 0), (49, (.istore 5), 51, 0), (51, (.aload_n 0), 52, 0), (52, (.iload_n 2), 53, 0), (53, (.iload 4), 55, 0), (55, (.aload_n 1), 56, 0), (56, (.getfield 643), 59, 104), (59, (.iload 5), 61, 0), (61, .iaload, 62, 0), (62, (.invokevirtual 130), 65, 118), (65, (.istore 6), 67, 0), (67, (.iload 6), 69, 0), (69, (.aload_n 1), 70, 0), (70, (.getfield 643), 73, 104), (73, (.iload 5), 75, 0), (75, .iaload, 76, 0), (76, (.aload_n 1), 77, 0), (77, (.getfield 644), 80, 115), (80, (.iload 5), 82, 0), (82, .iaload, 83, 0), (83, .iadd, 84, 0), (84, (.if_icmp .ge 92), 87, 0), (87, (.iload 6), 89, 0), (89, (.goto 93), 92, 0), (92, (.iconst (-1)), 93, 0), (93, .ireturn, 94, 0)]
def ar_130 : List (Nat × Jvm.ClassFile.Instr × Nat × Nat) := [(0, (.iload_n 3), 1, 0), (1, (.istore 4), 3, 0), (3, (.iconst 0), 4, 0), (4, (.istore 5), 6, 0), (6, (.iload 5), 8, 0), (8, (.bipush 12), 10, 0), (10, (.if_icmp .ge 35), 13, 0), (13, (.aload_n 0), 14, 0), (14, (.iload_n 1), 15, 0), (15, (.iload_n 2), 16, 0), (16, (.iload 4), 18, 0), (18, (.invokevirtual 128), 21, 112), (21, (.iload 4), 23, 0), (23, (.if_icmp .ne 35), 26, 0), (26, (.iinc 4 1), 29, 0), (29, (.iinc 5 1), 32, 0), (32, (.goto 6), 35, 0), (35, (.iload 4), 37, 0), (37, .ireturn, 38, 0)]
def ar_131 : List (Nat × Jvm.ClassFile.Instr × Nat × Nat) := [(0, (.iconst 0), 1, 0), (1, (.istore_n 2), 2, 0), (2, (.iload_n 2), 3, 0), (3, (.aload_n 1), 4, 0), (4, (.getfield 322), 7, 121), (7, (.if_icmp .ge 47), 10, 0), (10, (.iload_n 2), 11, 0), (11, (.ifCond .le 23), 14, 0), (14, (.aload_n 0), 15, 0), (15, (.getfield 384), 18, 12), (18, (.bipush 32), 20, 0), (20, (.invokevirtual 103), 23, 124), (23, (.aload_n 0), 24, 0), (24, (.aload_n 1), 25, 0), (25, (.getfield 320), 28, 43), (28, (.aload_n 1), 29, 0), (29, (.getfield 326), 32, 128), (32, (.iload_n 2), 33, 0), (33, .iaload, 34, 0), (34, (.iload_n 2), 35, 0), (35, (.iconst 1), 36, 0), (36, .iadd, 37, 0), (37, (.iconst 1), 38, 0), (38, (.invokevirtual 132), 41, 131), (41, (.iinc 2 1), 44, 0), (44, (.goto 2), 47, 0), (47, .return_, 48, 0)]
def ar_132 : List (Nat × Jvm.ClassFile.Instr × Nat × Nat) := [(0, (.aload_n 0), 1, 0), (1, (.getfield 385), 4, 21), (4, (.iload_n 3), 5, 0), (5, (.invokevirtual 81), 8, 135), (8, (.istore 5), 10, 0), (10, (.iload 5), 12, 0), (12, (.iconst (-1)), 13, 0), (13, (.if_icmp .ne 20), 16, 0), (16, (.iconst (-1)), 17, 0), (17, (.goto 27), 20, 0), (20, (.aload_n 0), 21, 0), (21, (.getfield 386), 24, 25), (24, (.iload 5), 26, 0), (26, .iaload, 27, 0), (27, (.istore 6), 29, 0), (29, (.iload 6), 31, 0), (31, (.iconst (-1)), 32, 0), (32, (.if_icmp .eq 42), 35, 0), (35, (.iload 4), 37, 0), (37, (.bipush 6), 39, 0), (39, (.if_icmp .le 54), 42, 0), (42, (.aload_n 0), 43, 0), (43, (.getfield 384), 46, 12), (46, (.bipush 95), 48, 0), (48, (.invokevirtual 103), 51, 124), (51, (.goto 149), 54, 0), (54, (.iload_n 2), 55, 0), (55, (.bipush 6), 57, 0), (57, (.if_icmp .ge 86), 60, 0), (60, (.aload_n 1), 61, 0), (61, (.getfield 642), 64, 138), (64, (.iload_n 2), 65, 0), (65, .baload, 66, 0), (66, (.ifCond .eq 86), 69, 0), (69, (.aload_n 0), 70, 0), (70, (.aload_n 1), 71, 0), (71, (.aload_n 1), 72, 0), (72, (.getfield 643), 75, 104), (75, (.iload_n 2), 76, 0), (76, .iaload, 77, 0), (77, (.iload_n 3), 78, 0), (78, (.iload 4), 80, 0), (80, (.invokevirtual 133), 83, 142), (83, (.goto 149), 86, 0), (86, (.iload 6), 88, 0), (88, (.bipush 36), 90, 0), (90, (.if_icmp .lt 108), 93, 0), (93, (.aload_n 0), 94, 0), (94, (.getfield 384), 97, 12), (97, (.iload 6), 99, 0), (99, (.bipush 36), 101, 0), (101, .isub, 102, 0), (102, (.invokevirtual 104), 105, 145), (105, (.goto 149), 108, 0), (108, (.aload_n 1), 109, 0), (109, (.getfield 646), 112, 148), (112, (.iload 6), 114, 0), (114, .iaload, 115, 0), (115, (.ifCond .ne 135), 118, 0), (118, (.aload_n 0), 119, 0), (119, (.getfield 384), 122, 12), (122, (.aload_n 1), 123, 0), (123, (.getfield 647), 126, 151), (126, (.iload 6), 128, 0), (128, .laload, 129, 0), (129, (.invokevirtual 105), 132, 155), (132, (.goto 149), 135, 0), (135, (.aload_n 0), 136, 0), (136, (.aload_n 1), 137, 0), (137, (.iload 6), 139, 0), (139, (.iconst 4), 140, 0), (140, (.iload_n 3), 141, 0), (141, .imul, 142, 0), (142, (.iconst 1), 143, 0), (143, .iadd, 144, 0), (144, (.iload 4), 146, 0), (146, (.invokevirtual 133), 149, 142), (149, .return_, 150, 0)]
def ar_133 : List (Nat × Jvm.ClassFile.Instr × Nat × Nat) := [(0, (.aload_n 0), 1, 0), (1, (.getfield 384), 4, 12), (4, (.bipush 40), 6, 0), (6, (.invokevirtual 103), 9, 124), (9, (.aload_n 0), 10, 0), (10, (.getfield 384), 13, 12), (13, (.aload_n 1), 14, 0), (14, (.getfield 647), 17, 151), (17, (.iload_n 2), 18, 0), (18, .laload, 19, 0), (19, (.invokevirtual 105), 22, 155), (22, (.iconst 0), 23, 0), (23, (.istore 5), 25, 0), (25, (.iload 5), 27, 0), (27, (.aload_n 1), 28, 0), (28, (.getfield 646), 31, 148), (31, (.iload_n 2), 32, 0), (32, .iaload, 33, 0), (33, (.if_icmp .ge 75), 36, 0), (36, (.aload_n 0), 37, 0), (37, (.getfield 384), 40, 12), (40, (.bipush 32), 42, 0), (42, (.invokevirtual 103), 45, 124), (45, (.aload_n 0), 46, 0), (46, (.aload_n 1), 47, 0), (47, (.aload_n 1), 48, 0), (48, (.getfield 648), 51, 159), (51, (.iload_n 2), 52, 0), (52, (.iconst 3), 53, 0), (53, .imul, 54, 0), (54, (.iload 5), 56, 0), (56, .iadd, 57, 0), (57, .iaload, 58, 0), (58, (.iload_n 3), 59, 0), (59, (.iload 5), 61, 0), (61, .iadd, 62, 0), (62, (.iload 4), 64, 0), (64, (.iconst 1), 65, 0), (65, .iadd, 66, 0), (66, (.invokevirtual 132), 69, 131), (69, (.iinc 5 1), 72, 0), (72, (.goto 25), 75, 0), (75, (.aload_n 0), 76, 0), (76, (.getfield 384), 79, 12), (79, (.bipush 41), 81, 0), (81, (.invokevirtual 103), 84, 124), (84, .return_, 85, 0)]
def ar_134 : List (Nat × Jvm.ClassFile.Instr × Nat × Nat) := [(0, (.aload_n 0), 1, 0), (1, (.invokespecial 0), 4, 3), (4, (.aload_n 0), 5, 0), (5, (.iconst 0), 6, 0), (6, (.putfield 448), 9, 9), (9, (.aload_n 0), 10, 0), (10, (.iconst (-1)), 11, 0), (11, (.putfield 449), 14, 15), (14, (.aload_n 0), 15, 0), (15, (.bipush 60), 17, 0), (17, (.newarray .int), 19, 0), (19, (.putfield 450), 22, 18), (22, (.aload_n 0), 23, 0), (23, (.bipush 60), 25, 0), (25, (.newarray .int), 27, 0), (27, (.putfield 451), 30, 22), (30, (.aload_n 0), 31, 0), (31, (.bipush 60), 33, 0), (33, (.newarray .int), 35, 0), (35, (.putfield 452), 38, 25), (38, (.aload_n 0), 39, 0), (39, (.bipush 60), 41, 0), (41, (.newarray .int), 43, 0), (43, (.putfield 453), 46, 28), (46, (.aload_n 0), 47, 0), (47, (.bipush 60), 49, 0), (49, (.newarray .long), 51, 0), (51, (.putfield 454), 54, 31), (54, (.aload_n 0), 55, 0), (55, (.bipush 60), 57, 0), (57, (.newarray .int), 59, 0), (59, (.putfield 455), 62, 35), (62, (.aload_n 0), 63, 0), (63, (.bipush 60), 65, 0), (65, (.newarray .int), 67, 0), (67, (.putfield 456), 70, 38), (70, (.aload_n 0), 71, 0), (71, (.bipush 60), 73, 0), (73, (.newarray .int), 75, 0), (75, (.putfield 457), 78, 41), (78, (.aload_n 0), 79, 0), (79, (.bipush 60), 81, 0), (81, (.newarray .int), 83, 0), (83, (.putfield 458), 86, 44), (86, .return_, 87, 0)]
def ar_135 : List (Nat × Jvm.ClassFile.Instr × Nat × Nat) := [(0, (.aload_n 0), 1, 0), (1, (.iconst 0), 2, 0), (2, (.putfield 448), 5, 9), (5, (.aload_n 0), 6, 0), (6, (.iconst (-1)), 7, 0), (7, (.putfield 449), 10, 15), (10, .return_, 11, 0)]
def ar_136 : List (Nat × Jvm.ClassFile.Instr × Nat × Nat) := [(0, (.aload_n 0), 1, 0), (1, (.getfield 448), 4, 9), (4, (.bipush 59), 6, 0), (6, (.invokestatic 3), 9, 47), (9, (.istore_n 3), 10, 0), (10, (.aload_n 0), 11, 0), (11, (.getfield 450), 14, 18), (14, (.iload_n 3), 15, 0), (15, (.iload_n 1), 16, 0), (16, .iastore, 17, 0), (17, (.aload_n 0), 18, 0), (18, (.getfield 451), 21, 22), (21, (.iload_n 3), 22, 0), (22, (.iload_n 2), 23, 0), (23, .iastore, 24, 0), (24, (.aload_n 0), 25, 0), (25, (.getfield 452), 28, 25), (28, (.iload_n 3), 29, 0), (29, (.iload_n 2), 30, 0), (30, .iastore, 31, 0), (31, (.aload_n 0), 32, 0), (32, (.getfield 453), 35, 28), (35, (.iload_n 3), 36, 0), (36, (.iload_n 2), 37, 0), (37, .iastore, 38, 0), (38, (.aload_n 0), 39, 0), (39, (.getfield 456), 42, 38), (42, (.iload_n 3), 43, 0), (43, (.iconst (-1)), 44, 0), (44, .iastore, 45, 0), (45, (.aload_n 0), 46, 0), (46, (.getfield 457), 49, 41), (49, (.iload_n 3), 50, 0), (50, (.iconst (-1)), 51, 0), (51, .iastore, 52, 0), (52, (.aload_n 0), 53, 0), (53, (.getfield 458), 56, 44), (56, (.iload_n 3), 57, 0), (57, (.iconst (-1)), 58, 0), (58, .iastore, 59, 0), (59, (.aload_n 0), 60, 0), (60, (.iload_n 3), 61, 0), (61, (.iconst 1), 62, 0), (62, .iadd, 63, 0), (63, (.putfield 448), 66, 9), (66, (.iload_n 3), 67, 0), (67, .ireturn, 68, 0)]
def ar_137 : List (Nat × Jvm.ClassFile.Instr × Nat × Nat) := [(0, (.aload_n 0), 1, 0), (1, (.getfield 450), 4, 18), (4, (.iload_n 1), 5, 0), (5, .iaload, 6, 0), (6, (.iconst 5), 7, 0), (7, (.if_icmp .eq 21), 10, 0), (10, (.aload_n 0), 11, 0), (11, (.getfield 450), 14, 18), (14, (.iload_n 1), 15, 0), (15, .iaload, 16, 0), (16, (.bipush 6), 18, 0), (18, (.if_icmp .ne 25), 21, 0), (21, (.iconst 1), 22, 0), (22, (.goto 26), 25, 0), (25, (.iconst 0), 26, 0), (26, .ireturn, 27, 0)]
def ar_138 : List (Nat × Jvm.ClassFile.Instr × Nat × Nat) := [(0, (.aload_n 0), 1, 0), (1, (.invokespecial 0), 4, 3), (4, (.aload_n 0), 5, 0), (5, (.sipush 1200), 8, 0), (8, (.newarray .int), 10, 0), (10, (.putfield 512), 13, 9), (13, (.aload_n 0), 14, 0), (14, (.iconst 0), 15, 0), (15, (.putfield 513), 18, 15), (18, (.aload_n 0), 19, 0), (19, (.sipush 1201), 22, 0), (22, (.newarray .int), 24, 0), (24, (.putfield 514), 27, 19), (27, (.aload_n 0), 28, 0), (28, (.sipush 1201), 31, 0), (31, (.newarray .int), 33, 0), (33, (.putfield 515), 36, 22), (36, (.aload_n 0), 37, 0), (37, (.sipush 1201), 40, 0), (40, (.newarray .int), 42, 0), (42, (.putfield 516), 45, 25), (45, (.aload_n 0), 46, 0), (46, (.sipush 1201), 49, 0), (49, (.newarray .long), 51, 0), (51, (.putfield 517), 54, 28), (54, (.aload_n 0), 55, 0), (55, (.iconst 0), 56, 0), (56, (.putfield 518), 59, 32), (59, (.aload_n 0), 60, 0), (60, (.iconst 0), 61, 0), (61, (.putfield 519), 64, 35), (64, .return_, 65, 0)]
def ar_139 : List (Nat × Jvm.ClassFile.Instr × Nat × Nat) := [(0, (.bipush 24), 2, 0), (2, (.istore_n 2), 3, 0), (3, (.iload_n 2), 4, 0), (4, (.ifCond .lt 49), 7, 0), (7, (.aload_n 0), 8, 0), (8, (.getfield 513), 11, 15), (11, (.sipush 1200), 14, 0), (14, (.if_icmp .ge 49), 17, 0), (17, (.aload_n 0), 18, 0), (18, (.getfield 512), 21, 9), (21, (.aload_n 0), 22, 0), (22, (.getfield 513), 25, 15), (25, (.iload_n 1), 26, 0), (26, (.iload_n 2), 27, 0), (27, .iushr, 28, 0), (28, (.sipush 255), 31, 0), (31, .iand, 32, 0), (32, .iastore, 33, 0), (33, (.aload_n 0), 34, 0), (34, .dup, 35, 0), (35, (.getfield 513), 38, 15), (38, (.iconst 1), 39, 0), (39, .iadd, 40, 0), (40, (.putfield 513), 43, 15), (43, (.iinc 2 (-8)), 46, 0), (46, (.goto 3), 49, 0), (49, .return_, 50, 0)]
def ar_140 : List (Nat × Jvm.ClassFile.Instr × Nat × Nat) := [(0, (.aload_n 0), 1, 0), (1, (.getfield 514), 4, 19), (4, (.aload_n 0), 5, 0), (5, (.getfield 519), 8, 35), (8, .iaload, 9, 0), (9, .ireturn, 10, 0)]
def ar_141 : List (Nat × Jvm.ClassFile.Instr × Nat × Nat) := [(0, (.aload_n 0), 1, 0), (1, (.getfield 515), 4, 22), (4, (.aload_n 0), 5, 0), (5, (.getfield 519), 8, 35), (8, .iaload, 9, 0), (9, .ireturn, 10, 0)]
def ar_142 : List (Nat × Jvm.ClassFile.Instr × Nat × Nat) := [(0, (.aload_n 0), 1, 0), (1, (.getfield 516), 4, 25), (4, (.aload_n 0), 5, 0), (5, (.getfield 519), 8, 35), (8, .iaload, 9, 0), (9, .ireturn, 10, 0)]
def ar_143 : List (Nat × Jvm.ClassFile.Instr × Nat × Nat) := [(0, (.aload_n 0), 1, 0), (1, (.getfield 517), 4, 28), (4, (.aload_n 0), 5, 0), (5, (.getfield 519), 8, 35), (8, .laload, 9, 0), (9, .lreturn, 10, 0)]
def ar_144 : List (Nat × Jvm.ClassFile.Instr × Nat × Nat) := [(0, (.aload_n 0), 1, 0), (1, (.getfield 519), 4, 35), (4, (.aload_n 0), 5, 0), (5, (.getfield 518), 8, 32), (8, (.iconst 1), 9, 0), (9, .isub, 10, 0), (10, (.if_icmp .ge 23), 13, 0), (13, (.aload_n 0), 14, 0), (14, .dup, 15, 0), (15, (.getfield 519), 18, 35), (18, (.iconst 1), 19, 0), (19, .iadd, 20, 0), (20, (.putfield 519), 23, 35), (23, .return_, 24, 0)]
def ar_145 : List (Nat × Jvm.ClassFile.Instr × Nat × Nat) := [(0, (.aload_n 0), 1, 0), (1, (.iconst 0), 2, 0), (2, (.putfield 518), 5, 32), (5, (.aload_n 0), 6, 0), (6, (.iconst 0), 7, 0), (7, (.putfield 519), 10, 35), (10, (.aload_n 0), 11, 0), (11, (.iconst 0), 12, 0), (12, (.invokevirtual 146), 15, 38), (15, (.istore_n 1), 16, 0), (16, (.iconst 0), 17, 0), (17, (.istore_n 2), 18, 0), (18, (.iload_n 2), 19, 0), (19, (.sipush 1200), 22, 0), (22, (.if_icmp .ge 60), 25, 0), (25, (.iload_n 1), 26, 0), (26, (.aload_n 0), 27, 0), (27, (.getfield 513), 30, 15), (30, (.if_icmp .ge 60), 33, 0), (33, (.aload_n 0), 34, 0), (34, (.aload_n 0), 35, 0), (35, (.iload_n 1), 36, 0), (36, (.invokevirtual 147), 39, 42), (39, (.invokevirtual 146), 42, 38), (42, (.istore_n 1), 43, 0), (43, (.aload_n 0), 44, 0), (44, (.getfield 514), 47, 19), (47, (.iload_n 2), 48, 0), (48, .iaload, 49, 0), (49, (.iconst 1), 50, 0), (50, (.if_icmp .ne 54), 53, 0), (53, .return_, 54, 0), (54, (.iinc 2 1), 57, 0), (57, (.goto 18), 60, 0), (60, (.aload_n 0), 61, 0), (61, (.iconst 0), 62, 0), (62, (.aload_n 0), 63, 0), (63, (.getfield 513), 66, 15), (66, (.iconst 0), 67, 0), (67, (.lconst 0), 68, 0), (68, (.invokevirtual 152), 71, 45), (71, .return_, 72, 0)]
def ar_146 : List (Nat × Jvm.ClassFile.Instr × Nat × Nat) := [(0, (.iload_n 1), 1, 0), (1, (.istore_n 2), 2, 0), (2, (.iload_n 2), 3, 0), (3, (.aload_n 0), 4, 0), (4, (.getfield 513), 7, 15), (7, (.if_icmp .ge 38), 10, 0), (10, (.aload_n 0), 11, 0), (11, (.getfield 512), 14, 9), (14, (.iload_n 2), 15, 0), (15, .iaload, 16, 0), (16, (.bipush 32), 18, 0), (18, (.if_icmp .eq 32), 21, 0), (21, (.aload_n 0), 22, 0), (22, (.getfield 512), 25, 9), (25, (.iload_n 2), 26, 0), (26, .iaload, 27, 0), (27, (.bipush 10), 29, 0), (29, (.if_icmp .ne 38), 32, 0), (32, (.iinc 2 1), 35, 0), (35, (.goto 2), 38, 0), (38, (.iload_n 2), 39, 0), (39, .ireturn, 40, 0)]
def ar_147 : List (Nat × Jvm.ClassFile.Instr × Nat × Nat) := [(0, (.aload_n 0), 1, 0), (1, (.getfield 512), 4, 9), (4, (.iload_n 1), 5, 0), (5, .iaload, 6, 0), (6, (.istore_n 2), 7, 0), (7, (.iload_n 2), 8, 0), (8, (.invokestatic 153), 11, 49), (11, (.ifCond .eq 20), 14, 0), (14, (.aload_n 0), 15, 0), (15, (.iload_n 1), 16, 0), (16, (.invokevirtual 148), 19, 53), (19, .ireturn, 20, 0), (20, (.iload_n 2), 21, 0), (21, (.invokestatic 154), 24, 56), (24, (.ifCond .eq 33), 27, 0), (27, (.aload_n 0), 28, 0), (28, (.iload_n 1), 29, 0), (29, (.invokevirtual 151), 32, 59), (32, .ireturn, 33, 0), (33, (.aload_n 0), 34, 0), (34, (.ldc 1), 36, 62), (36, (.iload_n 2), 37, 0), (37, .i2c, 38, 0), (38, (.invokevirtual 175), 41, 64), (41, (.ifCond .lt 48), 44, 0), (44, (.iload_n 2), 45, 0), (45, (.goto 49), 48, 0), (48, (.iconst 1), 49, 0), (49, (.iload_n 1), 50, 0), (50, (.iconst 0), 51, 0), (51, (.lconst 0), 52, 0), (52, (.invokevirtual 152), 55, 45), (55, (.iload_n 1), 56, 0), (56, (.iconst 1), 57, 0), (57, .iadd, 58, 0), (58, .ireturn, 59, 0)]
def ar_148 : List (Nat × Jvm.ClassFile.Instr × Nat × Nat) := [(0, (.iload_n 1), 1, 0), (1, (.istore_n 2), 2, 0), (2, (.lconst 0), 3, 0), (3, (.lstore_n 3), 4, 0), (4, (.iconst 1), 5, 0), (5, (.istore 5), 7, 0), (7, (.iload_n 2), 8, 0), (8, (.aload_n 0), 9, 0), (9, (.getfield 513), 12, 15), (12, (.if_icmp .ge 73), 15, 0), (15, (.aload_n 0), 16, 0), (16, (.getfield 512), 19, 9), (19, (.iload_n 2), 20, 0), (20, .iaload, 21, 0), (21, (.invokestatic 153), 24, 49), (24, (.ifCond .eq 73), 27, 0), (27, (.iload 5), 29, 0), (29, (.ifCond .eq 47), 32, 0), (32, (.aload_n 0), 33, 0), (33, (.getfield 512), 36, 9), (36, (.iload_n 2), 37, 0), (37, .iaload, 38, 0), (38, (.bipush 97), 40, 0), (40, (.if_icmp .lt 47), 43, 0), (43, (.iconst 1), 44, 0), (44, (.goto 48), 47, 0), (47, (.iconst 0), 48, 0), (48, (.istore 5), 50, 0), (50, (.lload_n 3), 51, 0), (51, (.jsr_w 32), 54, 69), (54, .lmul, 55, 0), (55, (.aload_n 0), 56, 0), (56, (.getfield 512), 59, 9), (59, (.iload_n 2), 60, 0), (60, .iaload, 61, 0), (61, (.bipush 31), 63, 0), (63, .iand, 64, 0), (64, .i2l, 65, 0), (65, .ladd, 66, 0), (66, (.lstore_n 3), 67, 0), (67, (.iinc 2 1), 70, 0), (70, (.goto 7), 73, 0), (73, (.aload_n 0), 74, 0), (74, (.aload_n 0), 75, 0), (75, (.iload_n 1), 76, 0), (76, (.iload_n 2), 77, 0), (77, (.iload_n 1), 78, 0), (78, .isub, 79, 0), (79, (.iload 5), 81, 0), (81, (.invokevirtual 149), 84, 71), (84, (.iload_n 1), 85, 0), (85, (.aload_n 0), 86, 0), (86, (.getfield 512), 89, 9), (89, (.iload_n 1), 90, 0), (90, .iaload, 91, 0), (91, (.bipush 65), 93, 0), (93, .isub, 94, 0), (94, (.lload_n 3), 95, 0), (95, (.invokevirtual 152), 98, 45), (98, (.iload_n 2), 99, 0), (99, .ireturn, 100, 0)]
def ar_149 : List (Nat × Jvm.ClassFile.Instr × Nat × Nat) := [(0, (.iload_n 2), 1, 0), (1, (.iconst 1), 2, 0), (2, (.if_icmp .ne 15), 5, 0), (5, (.iload_n 3), 6, 0), (6, (.ifCond .eq 13), 9, 0), (9, (.iconst 4), 10, 0), (10, (.goto 14), 13, 0), (13, (.iconst 2), 14, 0), (14, .ireturn, 15, 0), (15, (.iload_n 3), 16, 0), (16, (.ifCond .eq 25), 19, 0), (19, (.iload_n 2), 20, 0), (20, (.bipush 8), 22, 0), (22, (.if_icmp .le 27), 25, 0), (25, (.iconst 1), 26, 0), (26, .ireturn, 27, 0), (27, (.aload_n 0), 28, 0), (28, (.ldc 3), 30, 75), (30, (.iload_n 1), 31, 0), (31, (.iload_n 2), 32, 0), (32, (.invokevirtual 150), 35, 77), (35, (.ifCond .eq 41), 38, 0), (38, (.bipush 6), 40, 0), (40, .ireturn, 41, 0), (41, (.aload_n 0), 42, 0), (42, (.ldc 5), 44, 81), (44, (.iload_n 1), 45, 0), (45, (.iload_n 2), 46, 0), (46, (.invokevirtual 150), 49, 77), (49, (.ifCond .eq 55), 52, 0), (52, (.bipush 7), 54, 0), (54, .ireturn, 55, 0), (55, (.aload_n 0), 56, 0), (56, (.ldc 7), 58, 83), (58, (.iload_n 1), 59, 0), (59, (.iload_n 2), 60, 0), (60, (.invokevirtual 150), 63, 77), (63, (.ifCond .eq 69), 66, 0), (66, (.bipush 8), 68, 0), (68, .ireturn, 69, 0), (69, (.aload_n 0), 70, 0), (70, (.ldc 9), 72, 85), (72, (.iload_n 1), 73, 0), (73, (.iload_n 2), 74, 0), (74, (.invokevirtual 150), 77, 77), (77, (.ifCond .eq 85), 80, 0), (80, (.bipush 9), 82, 0), (82, (.goto 86), 85, 0), (85, (.iconst 3), 86, 0), (86, .ireturn, 87, 0)]
def ar_150 : List (Nat × Jvm.ClassFile.Instr × Nat × Nat) := [(0, (.aload_n 1), 1, 0), (1, (.invokevirtual 173), 4, 87), (4, (.iload_n 3), 5, 0), (5, (.if_icmp .eq 10), 8, 0), (8, (.iconst 0), 9, 0), (9, .ireturn, 10, 0), (10, (.iconst 0), 11, 0), (11, (.istore 4), 13, 0), (13, (.iload 4), 15, 0), (15, (.iload_n 3), 16, 0), (16, (.if_icmp .ge 45), 19, 0), (19, (.aload_n 0), 20, 0), (20, (.getfield 512), 23, 9), (23, (.iload_n 2), 24, 0), (24, (.iload 4), 26, 0), (26, .iadd, 27, 0), (27, .iaload, 28, 0), (28, (.aload_n 1), 29, 0), (29, (.iload 4), 31, 0), (31, (.invokevirtual 174), 34, 90), (34, (.if_icmp .eq 39), 37, 0), (37, (.iconst 0), 38, 0), (38, .ireturn, 39, 0), (39, (.iinc 4 1), 42, 0), (42, (.goto 13), 45, 0), (45, (.iconst 1), 46, 0), (46, .ireturn, 47, 0)]
def ar_151 : List (Nat × Jvm.ClassFile.Instr × Nat × Nat) := [(0, (.iload_n 1), 1, 0), (1, (.istore_n 2), 2, 0), (2, (.iconst 0), 3, 0), (3, (.istore_n 3), 4, 0), (4, (.iload_n 2), 5, 0), (5, (.aload_n 0), 6, 0), (6, (.getfield 513), 9, 15), (9, (.if_icmp .ge 45), 12, 0), (12, (.aload_n 0), 13, 0), (13, (.getfield 512), 16, 9), (16, (.iload_n 2), 17, 0), (17, .iaload, 18, 0), (18, (.invokestatic 154), 21, 56), (21, (.ifCond .eq 45), 24, 0), (24, (.iload_n 3), 25, 0), (25, (.bipush 10), 27, 0), (27, .imul, 28, 0), (28, (.aload_n 0), 29, 0), (29, (.getfield 512), 32, 9), (32, (.iload_n 2), 33, 0), (33, .iaload, 34, 0), (34, .iadd, 35, 0), (35, (.bipush 48), 37, 0), (37, .isub, 38, 0), (38, (.istore_n 3), 39, 0), (39, (.iinc 2 1), 42, 0), (42, (.goto 4), 45, 0), (45, (.iload_n 2), 46, 0), (46, (.iload_n 1), 47, 0), (47, .isub, 48, 0), (48, (.istore 4), 50, 0), (50, (.iload 4), 52, 0), (52, (.iconst 1), 53, 0), (53, (.if_icmp .eq 73), 56, 0), (56, (.iload 4), 58, 0), (58, (.iconst 3), 59, 0), (59, (.if_icmp .gt 77), 62, 0), (62, (.aload_n 0), 63, 0), (63, (.getfield 512), 66, 9), (66, (.iload_n 1), 67, 0), (67, .iaload, 68, 0), (68, (.bipush 48), 70, 0), (70, (.if_icmp .eq 77), 73, 0), (73, (.iconst 1), 74, 0), (74, (.goto 78), 77, 0), (77, (.iconst 0), 78, 0), (78, (.istore 5), 80, 0), (80, (.aload_n 0), 81, 0), (81, (.iload 5), 83, 0), (83, (.ifCond .eq 90), 86, 0), (86, (.iconst 5), 87, 0), (87, (.goto 91), 90, 0), (90, (.iconst 1), 91, 0), (91, (.iload_n 1), 92, 0), (92, (.iload_n 3), 93, 0), (93, (.lconst 0), 94, 0), (94, (.invokevirtual 152), 97, 45), (97, (.iload_n 2), 98, 0), (98, .ireturn, 99, 0)]
def ar_152 : List (Nat × Jvm.ClassFile.Instr × Nat × Nat) := [(0, (.aload_n 0), 1, 0), (1, (.getfield 518), 4, 32), (4, (.aload_n 0), 5, 0), (5, (.getfield 514), 8, 19), (8, .arraylength, 9, 0), (9, (.if_icmp .ge 63), 12, 0), (12, (.aload_n 0), 13, 0), (13, (.getfield 514), 16, 19), (16, (.aload_n 0), 17, 0), (17, (.getfield 518), 20, 32), (20, (.iload_n 1), 21, 0), (21, .iastore, 22, 0), (22, (.aload_n 0), 23, 0), (23, (.getfield 515), 26, 22), (26, (.aload_n 0), 27, 0), (27, (.getfield 518), 30, 32), (30, (.iload_n 2), 31, 0), (31, .iastore, 32, 0), (32, (.aload_n 0), 33, 0), (33, (.getfield 516), 36, 25), (36, (.aload_n 0), 37, 0), (37, (.getfield 518), 40, 32), (40, (.iload_n 3), 41, 0), (41, .iastore, 42, 0), (42, (.aload_n 0), 43, 0), (43, (.getfield 517), 46, 28), (46, (.aload_n 0), 47, 0), (47, (.getfield 518), 50, 32), (50, (.lload 4), 52, 0), (52, .lastore, 53, 0), (53, (.aload_n 0), 54, 0), (54, .dup, 55, 0), (55, (.getfield 518), 58, 32), (58, (.iconst 1), 59, 0), (59, .iadd, 60, 0), (60, (.putfield 518), 63, 32), (63, .return_, 64, 0)]
def ar_153 : List (Nat × Jvm.ClassFile.Instr × Nat × Nat) := [(0, (.iload_n 0), 1, 0), (1, (.bipush 97), 3, 0), (3, (.if_icmp .lt 12), 6, 0), (6, (.iload_n 0), 7, 0), (7, (.bipush 122), 9, 0), (9, (.if_icmp .le 24), 12, 0), (12, (.iload_n 0), 13, 0), (13, (.bipush 65), 15, 0), (15, (.if_icmp .lt 28), 18, 0), (18, (.iload_n 0), 19, 0), (19, (.bipush 90), 21, 0), (21, (.if_icmp .gt 28), 24, 0), (24, (.iconst 1), 25, 0), (25, (.goto 29), 28, 0), (28, (.iconst 0), 29, 0), (29, .ireturn, 30, 0)]
def ar_154 : List (Nat × Jvm.ClassFile.Instr × Nat × Nat) := [(0, (.iload_n 0), 1, 0), (1, (.bipush 48), 3, 0), (3, (.if_icmp .lt 16), 6, 0), (6, (.iload_n 0), 7, 0), (7, (.bipush 57), 9, 0), (9, (.if_icmp .gt 16), 12, 0), (12, (.iconst 1), 13, 0), (13, (.goto 17), 16, 0), (16, (.iconst 0), 17, 0), (17, .ireturn, 18, 0)]
def ar_155 : List (Nat × Jvm.ClassFile.Instr × Nat × Nat) := [(0, (.aload_n 0), 1, 0), (1, (.invokespecial 0), 4, 3), (4, (.aload_n 0), 5, 0), (5, (.iconst 0), 6, 0), (6, (.putfield 576), 9, 9), (9, (.aload_n 0), 10, 0), (10, (.bipush 60), 12, 0), (12, (.newarray .int), 14, 0), (14, (.putfield 577), 17, 15), (17, .return_, 18, 0)]
def ar_156 : List (Nat × Jvm.ClassFile.Instr × Nat × Nat) := [(0, (.aload_n 0), 1, 0), (1, (.iconst 0), 2, 0), (2, (.putfield 576), 5, 9), (5, .return_, 6, 0)]
def ar_157 : List (Nat × Jvm.ClassFile.Instr × Nat × Nat) := [(0, (.iconst 0), 1, 0), (1, (.istore 4), 3, 0), (3, (.iload 4), 5, 0), (5, (.aload_n 1), 6, 0), (6, (.getfield 323), 9, 19), (9, (.if_icmp .ge 87), 12, 0), (12, (.aload_n 0), 13, 0), (13, (.aload_n 1), 14, 0), (14, (.aload_n 2), 15, 0), (15, (.aload_n 1), 16, 0), (16, (.getfield 325), 19, 24), (19, (.iload 4), 21, 0), (21, .iaload, 22, 0), (22, (.aload_n 2), 23, 0), (23, (.getfield 449), 26, 27), (26, (.iconst 1), 27, 0), (27, (.invokevirtual 158), 30, 31), (30, (.istore 5), 32, 0), (32, (.iload 5), 34, 0), (34, (.bipush (-6)), 36, 0), (36, (.if_icmp .ne 42), 39, 0), (39, (.bipush (-6)), 41, 0), (41, .ireturn, 42, 0), (42, (.aload_n 1), 43, 0), (43, (.iload 4), 45, 0), (45, (.invokevirtual 110), 48, 35), (48, (.ifCond .ne 61), 51, 0), (51, (.iload_n 3), 52, 0), (52, (.iload 4), 54, 0), (54, .ishr, 55, 0), (55, (.iconst 1), 56, 0), (56, .iand, 57, 0), (57, (.iconst 1), 58, 0), (58, (.if_icmp .ne 65), 61, 0), (61, (.iconst 1), 62, 0), (62, (.goto 66), 65, 0), (65, (.iconst 0), 66, 0), (66, (.istore 6), 68, 0), (68, (.iload 5), 70, 0), (70, (.ifCond .ne 81), 73, 0), (73, (.iload 6), 75, 0), (75, (.ifCond .eq 81), 78, 0), (78, (.iload 4), 80, 0), (80, .ireturn, 81, 0), (81, (.iinc 4 1), 84, 0), (84, (.goto 3), 87, 0), (87, (.bipush (-5)), 89, 0), (89, .ireturn, 90, 0)]
def ar_158 : List (Nat × Jvm.ClassFile.Instr × Nat × Nat) := [(0, (.iload_n 3), 1, 0), (1, (.istore 6), 3, 0), (3, (.iload 4), 5, 0), (5, (.istore 7), 7, 0), (7, (.iconst 0), 8, 0), (8, (.istore 8), 10, 0), (10, (.iconst 0), 11, 0), (11, (.istore 9), 13, 0), (13, (.iload 9), 15, 0), (15, (.iconst 4), 16, 0), (16, (.if_icmp .ge 80), 19, 0), (19, (.iload 6), 21, 0), (21, (.iconst (-1)), 22, 0), (22, (.if_icmp .eq 80), 25, 0), (25, (.iload 7), 27, 0), (27, (.iconst (-1)), 28, 0), (28, (.if_icmp .eq 80), 31, 0), (31, (.iload 8), 33, 0), (33, (.ifCond .ne 80), 36, 0), (36, (.aload_n 0), 37, 0), (37, (.aload_n 1), 38, 0), (38, (.aload_n 2), 39, 0), (39, (.iload 6), 41, 0), (41, (.iload 7), 43, 0), (43, (.iload 5), 45, 0), (45, (.iload 9), 47, 0), (47, .iadd, 48, 0), (48, (.invokevirtual 159), 51, 39), (51, (.istore 8), 53, 0), (53, (.aload_n 1), 54, 0), (54, (.getfield 321), 57, 42), (57, (.getfield 458), 60, 46), (60, (.iload 6), 62, 0), (62, .iaload, 63, 0), (63, (.istore 6), 65, 0), (65, (.aload_n 2), 66, 0), (66, (.getfield 458), 69, 46), (69, (.iload 7), 71, 0), (71, .iaload, 72, 0), (72, (.istore 7), 74, 0), (74, (.iinc 9 1), 77, 0), (77, (.goto 13), 80, 0), (80, (.iload 8), 82, 0), (82, .ireturn, 83, 0)]
def ar_159 : List (Nat × Jvm.ClassFile.Instr × Nat × Nat) := [(0, (.aload_n 1), 1, 0), (1, (.getfield 321), 4, 42), (4, (.astore 6), 6, 0), (6, (.aload 6), 8, 0), (8, (.getfield 450), 11, 49), (11, (.iload_n 3), 12, 0), (12, .iaload, 13, 0), (13, (.istore 7), 15, 0), (15, (.aload 6), 17, 0), (17, (.getfield 457), 20, 52), (20, (.iload_n 3), 21, 0), (21, .iaload, 22, 0), (22, (.istore 8), 24, 0), (24, (.iload 7), 26, 0), (26, (.ifCond .eq 35), 29, 0), (29, (.iload 7), 31, 0), (31, (.iconst 1), 32, 0), (32, (.if_icmp .ne 37), 35, 0), (35, (.iconst 0), 36, 0), (36, .ireturn, 37, 0), (37, (.iload 7), 39, 0), (39, (.iconst 3), 40, 0), (40, (.if_icmp .ne 66), 43, 0), (43, (.iload 8), 45, 0), (45, (.iconst (-1)), 46, 0), (46, (.if_icmp .ne 53), 49, 0), (49, (.iconst 0), 50, 0), (50, (.goto 65), 53, 0), (53, (.aload_n 0), 54, 0), (54, (.aload_n 1), 55, 0), (55, (.aload_n 2), 56, 0), (56, (.iload 8), 58, 0), (58, (.iload 4), 60, 0), (60, (.iload 5), 62, 0), (62, (.invokevirtual 159), 65, 39), (65, .ireturn, 66, 0), (66, (.aload_n 1), 67, 0), (67, (.aload 6), 69, 0), (69, (.iload_n 3), 70, 0), (70, (.invokevirtual 115), 73, 55), (73, (.ifCond .eq 129), 76, 0), (76, (.aload_n 1), 77, 0), (77, (.aload_n 2), 78, 0), (78, (.iload 4), 80, 0), (80, (.invokevirtual 115), 83, 55), (83, (.ifCond .eq 96), 86, 0), (86, (.aload_n 2), 87, 0), (87, (.getfield 457), 90, 52), (90, (.iload 4), 92, 0), (92, .iaload, 93, 0), (93, (.goto 98), 96, 0), (96, (.iload 4), 98, 0), (98, (.istore 9), 100, 0), (100, (.iload 8), 102, 0), (102, (.iconst (-1)), 103, 0), (103, (.if_icmp .eq 112), 106, 0), (106, (.iload 9), 108, 0), (108, (.iconst (-1)), 109, 0), (109, (.if_icmp .ne 116), 112, 0), (112, (.iconst 0), 113, 0), (113, (.goto 128), 116, 0), (116, (.aload_n 0), 117, 0), (117, (.aload_n 1), 118, 0), (118, (.aload_n 2), 119, 0), (119, (.iload 8), 121, 0), (121, (.iload 9), 123, 0), (123, (.iload 5), 125, 0), (125, (.invokevirtual 159), 128, 39), (128, .ireturn, 129, 0), (129, (.aload_n 0), 130, 0), (130, (.aload_n 1), 131, 0), (131, (.aload_n 2), 132, 0), (132, (.iload 4), 134, 0), (134, (.iload 5), 136, 0), (136, (.invokevirtual 160), 139, 59), (139, (.istore 9), 141, 0), (141, (.aload_n 2), 142, 0), (142, (.getfield 450), 145, 49), (145, (.iload 9), 147, 0), (147, .iaload, 148, 0), (148, (.bipush 7), 150, 0), (150, (.if_icmp .ne 156), 153, 0), (153, (.bipush (-6)), 155, 0), (155, .ireturn, 156, 0), (156, (.iload 7), 158, 0), (158, (.iconst 2), 159, 0), (159, (.if_icmp .ne 185), 162, 0), (162, (.iload 8), 164, 0), (164, (.iconst (-1)), 165, 0), (165, (.if_icmp .ne 172), 168, 0), (168, (.iconst 0), 169, 0), (169, (.goto 184), 172, 0), (172, (.aload_n 0), 173, 0), (173, (.aload_n 1), 174, 0), (174, (.aload_n 2), 175, 0), (175, (.iload 8), 177, 0), (177, (.iload 4), 179, 0), (179, (.iload 5), 181, 0), (181, (.invokevirtual 159), 184, 39), (184, .ireturn, 185, 0), (185, (.iload 7), 187, 0), (187, (.iconst 4), 188, 0), (188, (.if_icmp .ne 215), 191, 0), (191, (.aload 6), 193, 0), (193, (.getfield 455), 196, 63), (196, (.iload_n 3), 197, 0), (197, .iaload, 198, 0), (198, (.aload_n 2), 199, 0), (199, (.getfield 455), 202, 63), (202, (.iload 9), 204, 0), (204, .iaload, 205, 0), (205, (.if_icmp .ne 212), 208, 0), (208, (.iconst 0), 209, 0), (209, (.goto 214), 212, 0), (212, (.bipush (-5)), 214, 0), (214, .ireturn, 215, 0), (215, (.aload 6), 217, 0), (217, (.getfield 456), 220, 66), (220, (.iload_n 3), 221, 0), (221, .iaload, 222, 0), (222, (.aload_n 2), 223, 0), (223, (.getfield 456), 226, 66), (226, (.iload 9), 228, 0), (228, .iaload, 229, 0), (229, (.if_icmp .eq 235), 232, 0), (232, (.bipush (-5)), 234, 0), (234, .ireturn, 235, 0), (235, (.aload_n 0), 236, 0), (236, (.aload_n 1), 237, 0), (237, (.aload_n 2), 238, 0), (238, (.iload 8), 240, 0), (240, (.aload_n 2), 241, 0), (241, (.getfield 457), 244, 52), (244, (.iload 9), 246, 0), (246, .iaload, 247, 0), (247, (.iconst 4), 248, 0), (248, (.iload 5), 250, 0), (250, .imul, 251, 0), (251, (.iconst 1), 252, 0), (252, .iadd, 253, 0), (253, (.invokevirtual 158), 256, 31), (256, .ireturn, 257, 0)]
def ar_160 : List (Nat × Jvm.ClassFile.Instr × Nat × Nat) := [(0, (.iload_n 3), 1, 0), (1, (.istore 5), 3, 0), (3, (.iconst 0), 4, 0), (4, (.istore 6), 6, 0), (6, (.iload 6), 8, 0), (8, (.bipush 6), 10, 0), (10, (.if_icmp .ge 49), 13, 0), (13, (.aload_n 1), 14, 0), (14, (.aload_n 2), 15, 0), (15, (.iload 5), 17, 0), (17, (.invokevirtual 115), 20, 55), (20, (.ifCond .eq 49), 23, 0), (23, (.aload_n 2), 24, 0), (24, (.getfield 457), 27, 52), (27, (.iload 5), 29, 0), (29, .iaload, 30, 0), (30, (.iconst (-1)), 31, 0), (31, (.if_icmp .eq 49), 34, 0), (34, (.aload_n 2), 35, 0), (35, (.getfield 457), 38, 52), (38, (.iload 5), 40, 0), (40, .iaload, 41, 0), (41, (.istore 5), 43, 0), (43, (.iinc 6 1), 46, 0), (46, (.goto 6), 49, 0), (49, (.aload_n 0), 50, 0), (50, (.iload 4), 52, 0), (52, (.invokevirtual 161), 55, 69), (55, (.iload 5), 57, 0), (57, .ireturn, 58, 0)]
def ar_161 : List (Nat × Jvm.ClassFile.Instr × Nat × Nat) := [(0, (.iconst 0), 1, 0), (1, (.istore_n 2), 2, 0), (2, (.iload_n 2), 3, 0), (3, (.aload_n 0), 4, 0), (4, (.getfield 576), 7, 9), (7, (.if_icmp .ge 27), 10, 0), (10, (.aload_n 0), 11, 0), (11, (.getfield 577), 14, 15), (14, (.iload_n 2), 15, 0), (15, .iaload, 16, 0), (16, (.iload_n 1), 17, 0), (17, (.if_icmp .ne 21), 20, 0), (20, .return_, 21, 0), (21, (.iinc 2 1), 24, 0), (24, (.goto 2), 27, 0), (27, (.aload_n 0), 28, 0), (28, (.getfield 576), 31, 9), (31, (.bipush 60), 33, 0), (33, (.if_icmp .ge 56), 36, 0), (36, (.aload_n 0), 37, 0), (37, (.getfield 577), 40, 15), (40, (.aload_n 0), 41, 0), (41, (.getfield 576), 44, 9), (44, (.iload_n 1), 45, 0), (45, .iastore, 46, 0), (46, (.aload_n 0), 47, 0), (47, .dup, 48, 0), (48, (.getfield 576), 51, 9), (51, (.iconst 1), 52, 0), (52, .iadd, 53, 0), (53, (.putfield 576), 56, 9), (56, .return_, 57, 0)]
def ar_162 : List (Nat × Jvm.ClassFile.Instr × Nat × Nat) := [(0, (.aload_n 0), 1, 0), (1, (.invokespecial 0), 4, 3), (4, (.aload_n 0), 5, 0), (5, (.iconst 0), 6, 0), (6, (.putfield 640), 9, 9), (9, (.aload_n 0), 10, 0), (10, (.iconst 0), 11, 0), (11, (.putfield 641), 14, 15), (14, (.aload_n 0), 15, 0), (15, (.bipush 6), 17, 0), (17, (.newarray .boolean), 19, 0), (19, (.putfield 642), 22, 18), (22, (.aload_n 0), 23, 0), (23, (.bipush 6), 25, 0), (25, (.newarray .int), 27, 0), (27, (.putfield 643), 30, 22), (30, (.aload_n 0), 31, 0), (31, (.bipush 6), 33, 0), (33, (.newarray .int), 35, 0), (35, (.putfield 644), 38, 26), (38, (.aload_n 0), 39, 0), (39, (.bipush 36), 41, 0), (41, (.newarray .int), 43, 0), (43, (.putfield 645), 46, 29), (46, (.aload_n 0), 47, 0), (47, (.bipush 36), 49, 0), (49, (.newarray .int), 51, 0), (51, (.putfield 646), 54, 32), (54, (.aload_n 0), 55, 0), (55, (.bipush 36), 57, 0), (57, (.newarray .long), 59, 0), (59, (.putfield 647), 62, 35), (62, (.aload_n 0), 63, 0), (63, (.bipush 108), 65, 0), (65, (.newarray .int), 67, 0), (67, (.putfield 648), 70, 39), (70, (.aload_n 0), 71, 0), (71, (.bipush 6), 73, 0), (73, (.newarray .int), 75, 0), (75, (.putfield 649), 78, 42), (78, (.aload_n 0), 79, 0), (79, (.bipush 6), 81, 0), (81, (.newarray .int), 83, 0), (83, (.putfield 650), 86, 45), (86, (.aload_n 0), 87, 0), (87, (.bipush 36), 89, 0), (89, (.newarray .int), 91, 0), (91, (.putfield 651), 94, 48), (94, (.aload_n 0), 95, 0), (95, (.bipush 108), 97, 0), (97, (.newarray .int), 99, 0), (99, (.putfield 652), 102, 51), (102, (.aload_n 0), 103, 0), (103, (.bipush 108), 105, 0), (105, (.newarray .int), 107, 0), (107, (.putfield 653), 110, 54), (110, (.aload_n 0), 111, 0), (111, (.bipush 26), 113, 0), (113, (.newarray .int), 115, 0), (115, (.putfield 654), 118, 57), (118, .return_, 119, 0)]
def ar_163 : List (Nat × Jvm.ClassFile.Instr × Nat × Nat) := [(0, (.aload_n 0), 1, 0), (1, (.iconst 0), 2, 0), (2, (.putfield 640), 5, 9), (5, (.aload_n 0), 6, 0), (6, (.iconst 0), 7, 0), (7, (.putfield 641), 10, 15), (10, .return_, 11, 0)]
def ar_164 : List (Nat × Jvm.ClassFile.Instr × Nat × Nat) := [(0, (.aload_n 0), 1, 0), (1, (.getfield 640), 4, 9), (4, (.bipush 6), 6, 0), (6, (.if_icmp .ge 72), 9, 0), (9, (.aload_n 0), 10, 0), (10, (.getfield 649), 13, 42), (13, (.aload_n 0), 14, 0), (14, (.getfield 640), 17, 9), (17, (.iload_n 1), 18, 0), (18, .iastore, 19, 0), (19, (.aload_n 0), 20, 0), (20, (.getfield 650), 23, 45), (23, (.aload_n 0), 24, 0), (24, (.getfield 640), 27, 9), (27, (.iload_n 2), 28, 0), (28, .iastore, 29, 0), (29, (.aload_n 0), 30, 0), (30, (.getfield 642), 33, 18), (33, (.aload_n 0), 34, 0), (34, (.getfield 640), 37, 9), (37, (.iload_n 3), 38, 0), (38, .bastore, 39, 0), (39, (.aload_n 0), 40, 0), (40, (.getfield 643), 43, 22), (43, (.aload_n 0), 44, 0), (44, (.getfield 640), 47, 9), (47, (.aload_n 0), 48, 0), (48, (.getfield 641), 51, 15), (51, .iastore, 52, 0), (52, (.aload_n 0), 53, 0), (53, (.getfield 644), 56, 26), (56, (.aload_n 0), 57, 0), (57, (.getfield 640), 60, 9), (60, (.iconst 0), 61, 0), (61, .iastore, 62, 0), (62, (.aload_n 0), 63, 0), (63, .dup, 64, 0), (64, (.getfield 640), 67, 9), (67, (.iconst 1), 68, 0), (68, .iadd, 69, 0), (69, (.putfield 640), 72, 9), (72, .return_, 73, 0)]
def ar_165 : List (Nat × Jvm.ClassFile.Instr × Nat × Nat) := [(0, (.aload_n 0), 1, 0), (1, (.getfield 640), 4, 9), (4, (.ifCond .le 86), 7, 0), (7, (.aload_n 0), 8, 0), (8, (.getfield 641), 11, 15), (11, (.bipush 36), 13, 0), (13, (.if_icmp .ge 86), 16, 0), (16, (.aload_n 0), 17, 0), (17, (.getfield 647), 20, 35), (20, (.aload_n 0), 21, 0), (21, (.getfield 641), 24, 15), (24, (.lload_n 1), 25, 0), (25, .lastore, 26, 0), (26, (.aload_n 0), 27, 0), (27, (.getfield 651), 30, 48), (30, (.aload_n 0), 31, 0), (31, (.getfield 641), 34, 15), (34, (.iload_n 3), 35, 0), (35, .iastore, 36, 0), (36, (.aload_n 0), 37, 0), (37, (.getfield 645), 40, 29), (40, (.aload_n 0), 41, 0), (41, (.getfield 641), 44, 15), (44, (.aload_n 0), 45, 0), (45, (.getfield 640), 48, 9), (48, (.iconst 1), 49, 0), (49, .isub, 50, 0), (50, .iastore, 51, 0), (51, (.aload_n 0), 52, 0), (52, (.getfield 646), 55, 32), (55, (.aload_n 0), 56, 0), (56, (.getfield 641), 59, 15), (59, (.iconst 0), 60, 0), (60, .iastore, 61, 0), (61, (.aload_n 0), 62, 0), (62, (.getfield 644), 65, 26), (65, (.aload_n 0), 66, 0), (66, (.getfield 640), 69, 9), (69, (.iconst 1), 70, 0), (70, .isub, 71, 0), (71, .dup2, 72, 0), (72, .iaload, 73, 0), (73, (.iconst 1), 74, 0), (74, .iadd, 75, 0), (75, .iastore, 76, 0), (76, (.aload_n 0), 77, 0), (77, .dup, 78, 0), (78, (.getfield 641), 81, 15), (81, (.iconst 1), 82, 0), (82, .iadd, 83, 0), (83, (.putfield 641), 86, 15), (86, .return_, 87, 0)]
def ar_166 : List (Nat × Jvm.ClassFile.Instr × Nat × Nat) := [(0, (.aload_n 0), 1, 0), (1, (.getfield 641), 4, 15), (4, (.iconst 1), 5, 0), (5, .isub, 6, 0), (6, (.istore_n 3), 7, 0), (7, (.iload_n 3), 8, 0), (8, (.ifCond .lt 59), 11, 0), (11, (.aload_n 0), 12, 0), (12, (.getfield 646), 15, 32), (15, (.iload_n 3), 16, 0), (16, .iaload, 17, 0), (17, (.iconst 3), 18, 0), (18, (.if_icmp .ge 59), 21, 0), (21, (.iload_n 3), 22, 0), (22, (.iconst 3), 23, 0), (23, .imul, 24, 0), (24, (.aload_n 0), 25, 0), (25, (.getfield 646), 28, 32), (28, (.iload_n 3), 29, 0), (29, .iaload, 30, 0), (30, .iadd, 31, 0), (31, (.istore 4), 33, 0), (33, (.aload_n 0), 34, 0), (34, (.getfield 652), 37, 51), (37, (.iload 4), 39, 0), (39, (.iload_n 1), 40, 0), (40, .iastore, 41, 0), (41, (.aload_n 0), 42, 0), (42, (.getfield 653), 45, 54), (45, (.iload 4), 47, 0), (47, (.iload_n 2), 48, 0), (48, .iastore, 49, 0), (49, (.aload_n 0), 50, 0), (50, (.getfield 646), 53, 32), (53, (.iload_n 3), 54, 0), (54, .dup2, 55, 0), (55, .iaload, 56, 0), (56, (.iconst 1), 57, 0), (57, .iadd, 58, 0), (58, .iastore, 59, 0), (59, .return_, 60, 0)]
def ar_167 : List (Nat × Jvm.ClassFile.Instr × Nat × Nat) := [(0, (.iload_n 1), 1, 0), (1, (.ifCond .lt 19), 4, 0), (4, (.iload_n 1), 5, 0), (5, (.bipush 26), 7, 0), (7, (.if_icmp .ge 19), 10, 0), (10, (.aload_n 0), 11, 0), (11, (.getfield 654), 14, 57), (14, (.iload_n 1), 15, 0), (15, .iaload, 16, 0), (16, (.goto 20), 19, 0), (19, (.iconst (-1)), 20, 0), (20, .ireturn, 21, 0)]
def ar_168 : List (Nat × Jvm.ClassFile.Instr × Nat × Nat) := [(0, (.iconst 0), 1, 0), (1, (.istore_n 3), 2, 0), (2, (.iload_n 3), 3, 0), (3, (.aload_n 0), 4, 0), (4, (.getfield 641), 7, 15), (7, (.if_icmp .ge 29), 10, 0), (10, (.aload_n 0), 11, 0), (11, (.getfield 647), 14, 35), (14, (.iload_n 3), 15, 0), (15, .laload, 16, 0), (16, (.lload_n 1), 17, 0), (17, .lcmp, 18, 0), (18, (.ifCond .ne 23), 21, 0), (21, (.iload_n 3), 22, 0), (22, .ireturn, 23, 0), (23, (.iinc 3 1), 26, 0), (26, (.goto 2), 29, 0), (29, (.iconst (-1)), 30, 0), (30, .ireturn, 31, 0)]
def ar_169 : List (Nat × Jvm.ClassFile.Instr × Nat × Nat) := [(0, (.aload_n 0), 1, 0), (1, (.invokevirtual 170), 4, 60), (4, (.iconst 0), 5, 0), (5, (.istore_n 1), 6, 0), (6, (.iload_n 1), 7, 0), (7, (.aload_n 0), 8, 0), (8, (.getfield 640), 11, 9), (11, (.if_icmp .ge 112), 14, 0), (14, (.aload_n 0), 15, 0), (15, (.aload_n 0), 16, 0), (16, (.getfield 649), 19, 42), (19, (.iload_n 1), 20, 0), (20, .iaload, 21, 0), (21, (.invokevirtual 167), 24, 63), (24, (.iload_n 1), 25, 0), (25, (.if_icmp .eq 35), 28, 0), (28, (.aload_n 0), 29, 0), (29, (.getfield 650), 32, 45), (32, (.iload_n 1), 33, 0), (33, .iaload, 34, 0), (34, .ireturn, 35, 0), (35, (.aload_n 0), 36, 0), (36, (.getfield 643), 39, 22), (39, (.iload_n 1), 40, 0), (40, .iaload, 41, 0), (41, (.aload_n 0), 42, 0), (42, (.getfield 644), 45, 26), (45, (.iload_n 1), 46, 0), (46, .iaload, 47, 0), (47, .iadd, 48, 0), (48, (.istore_n 2), 49, 0), (49, (.aload_n 0), 50, 0), (50, (.getfield 643), 53, 22), (53, (.iload_n 1), 54, 0), (54, .iaload, 55, 0), (55, (.istore_n 3), 56, 0), (56, (.iload_n 3), 57, 0), (57, (.iload_n 2), 58, 0), (58, (.if_icmp .ge 106), 61, 0), (61, (.aload_n 0), 62, 0), (62, (.aload_n 0), 63, 0), (63, (.getfield 647), 66, 35), (66, (.iload_n 3), 67, 0), (67, .laload, 68, 0), (68, (.invokevirtual 168), 71, 67), (71, (.iload_n 3), 72, 0), (72, (.if_icmp .eq 84), 75, 0), (75, (.aload_n 0), 76, 0), (76, (.getfield 651), 79, 48), (79, (.iload_n 3), 80, 0), (80, .iaload, 81, 0), (81, (.goto 89), 84, 0), (84, (.aload_n 0), 85, 0), (85, (.iload_n 3), 86, 0), (86, (.invokevirtual 171), 89, 71), (89, (.istore 4), 91, 0), (91, (.iload 4), 93, 0), (93, (.iconst (-1)), 94, 0), (94, (.if_icmp .eq 100), 97, 0), (97, (.iload 4), 99, 0), (99, .ireturn, 100, 0), (100, (.iinc 3 1), 103, 0), (103, (.goto 56), 106, 0), (106, (.iinc 1 1), 109, 0), (109, (.goto 6), 112, 0), (112, (.iconst (-1)), 113, 0), (113, .ireturn, 114, 0)]
def ar_170 : List (Nat × Jvm.ClassFile.Instr × Nat × Nat) := [(0, (.iconst 0), 1, 0), (1, (.istore_n 1), 2, 0), (2, (.iload_n 1), 3, 0), (3, (.bipush 26), 5, 0), (5, (.if_icmp .ge 21), 8, 0), (8, (.aload_n 0), 9, 0), (9, (.getfield 654), 12, 57), (12, (.iload_n 1), 13, 0), (13, (.iconst (-1)), 14, 0), (14, .iastore, 15, 0), (15, (.iinc 1 1), 18, 0), (18, (.goto 2), 21, 0), (21, (.aload_n 0), 22, 0), (22, (.getfield 654), 25, 57), (25, (.bipush 8), 27, 0), (27, (.bipush 6), 29, 0), (29, .iastore, 30, 0), (30, (.iconst 0), 31, 0), (31, (.istore_n 1), 32, 0), (32, (.iload_n 1), 33, 0), (33, (.aload_n 0), 34, 0), (34, (.getfield 640), 37, 9), (37, (.if_icmp .ge 80), 40, 0), (40, (.aload_n 0), 41, 0), (41, (.getfield 649), 44, 42), (44, (.iload_n 1), 45, 0), (45, .iaload, 46, 0), (46, (.istore_n 2), 47, 0), (47, (.iload_n 2), 48, 0), (48, (.ifCond .lt 74), 51, 0), (51, (.iload_n 2), 52, 0), (52, (.bipush 26), 54, 0), (54, (.if_icmp .ge 74), 57, 0), (57, (.aload_n 0), 58, 0), (58, (.getfield 654), 61, 57), (61, (.iload_n 2), 62, 0), (62, .iaload, 63, 0), (63, (.iconst (-1)), 64, 0), (64, (.if_icmp .ne 74), 67, 0), (67, (.aload_n 0), 68, 0), (68, (.getfield 654), 71, 57), (71, (.iload_n 2), 72, 0), (72, (.iload_n 1), 73, 0), (73, .iastore, 74, 0), (74, (.iinc 1 1), 77, 0), (77, (.goto 32), 80, 0), (80, .return_, 81, 0)]
def ar_171 : List (Nat × Jvm.ClassFile.Instr × Nat × Nat) := [(0, (.iload_n 1), 1, 0), (1, (.iconst 3), 2, 0), (2, .imul, 3, 0), (3, (.istore_n 2), 4, 0), (4, (.iload_n 2), 5, 0), (5, (.istore_n 3), 6, 0), (6, (.iload_n 3), 7, 0), (7, (.iload_n 2), 8, 0), (8, (.aload_n 0), 9, 0), (9, (.getfield 646), 12, 32), (12, (.iload_n 1), 13, 0), (13, .iaload, 14, 0), (14, .iadd, 15, 0), (15, (.if_icmp .ge 57), 18, 0), (18, (.aload_n 0), 19, 0), (19, (.getfield 648), 22, 39), (22, (.iload_n 3), 23, 0), (23, (.aload_n 0), 24, 0), (24, (.aload_n 0), 25, 0), (25, (.getfield 652), 28, 51), (28, (.iload_n 3), 29, 0), (29, .iaload, 30, 0), (30, (.invokevirtual 167), 33, 63), (33, .iastore, 34, 0), (34, (.aload_n 0), 35, 0), (35, (.getfield 648), 38, 39), (38, (.iload_n 3), 39, 0), (39, .iaload, 40, 0), (40, (.iconst (-1)), 41, 0), (41, (.if_icmp .ne 51), 44, 0), (44, (.aload_n 0), 45, 0), (45, (.getfield 653), 48, 54), (48, (.iload_n 3), 49, 0), (49, .iaload, 50, 0), (50, .ireturn, 51, 0), (51, (.iinc 3 1), 54, 0), (54, (.goto 6), 57, 0), (57, (.iconst (-1)), 58, 0), (58, .ireturn, 59, 0)]
def ar_172 : List (Nat × Jvm.ClassFile.Instr × Nat × Nat) := [(0, (.new 0), 3, 7), (3, .dup, 4, 0), (4, (.invokespecial 4), 7, 9), (7, (.astore_n 1), 8, 0), (8, (.new 1), 11, 10), (11, .dup, 12, 0), (12, (.invokespecial 16), 15, 12), (15, (.astore_n 2), 16, 0), (16, (.iconst 0), 17, 0), (17, (.istore_n 3), 18, 0), (18, (.iload_n 3), 19, 0), (19, (.aload_n 0), 20, 0), (20, .arraylength, 21, 0), (21, (.bipush 6), 23, 0), (23, .isub, 24, 0), (24, (.if_icmp .gt 351), 27, 0), (27, (.aload_n 0), 28, 0), (28, (.iload_n 3), 29, 0), (29, .iaload, 30, 0), (30, (.bipush 15), 32, 0), (32, .iand, 33, 0), (33, (.tableswitch 345 0 10 #[92, 155, 178, 191, 204, 227, 250, 263, 286, 299, 322]), 92, 59), (92, (.aload_n 1), 93, 0), (93, (.aload_n 0), 94, 0), (94, (.iload_n 3), 95, 0), (95, (.iconst 1), 96, 0), (96, .iadd, 97, 0), (97, .iaload, 98, 0), (98, (.aload_n 0), 99, 0), (99, (.iload_n 3), 100, 0), (100, (.iconst 2), 101, 0), (101, .iadd, 102, 0), (102, .iaload, 103, 0), (103, (.aload_n 0), 104, 0), (104, (.iload_n 3), 105, 0), (105, (.iconst 3), 106, 0), (106, .iadd, 107, 0), (107, .iaload, 108, 0), (108, (.aload_n 0), 109, 0), (109, (.iload_n 3), 110, 0), (110, (.iconst 4), 111, 0), (111, .iadd, 112, 0), (112, .iaload, 113, 0), (113, (.aload_n 0), 114, 0), (114, (.iload_n 3), 115, 0), (115, (.iconst 5), 116, 0), (116, .iadd, 117, 0), (117, .iaload, 118, 0), (118, (.invokevirtual 5), 121, 13), (121, (.aload_n 2), 122, 0), (122, (.aload_n 0), 123, 0), (123, (.iload_n 3), 124, 0), (124, (.iconst 1), 125, 0), (125, .iadd, 126, 0), (126, .iaload, 127, 0), (127, (.aload_n 0), 128, 0), (128, (.iload_n 3), 129, 0), (129, (.iconst 2), 130, 0), (130, .iadd, 131, 0), (131, .iaload, 132, 0), (132, (.aload_n 0), 133, 0), (133, (.iload_n 3), 134, 0), (134, (.iconst 3), 135, 0), (135, .iadd, 136, 0), (136, .iaload, 137, 0), (137, (.aload_n 0), 138, 0), (138, (.iload_n 3), 139, 0), (139, (.iconst 4), 140, 0), (140, .iadd, 141, 0), (141, .iaload, 142, 0), (142, (.aload_n 0), 143, 0), (143, (.iload_n 3), 144, 0), (144, (.iconst 5), 145, 0), (145, .iadd, 146, 0), (146, .iaload, 147, 0), (147, (.invokevirtual 49), 150, 17), (150, (.if_icmp .eq 345), 153, 0), (153, (.iconst 0), 154, 0), (154, .ireturn, 155, 0), (155, (.aload_n 1), 156, 0), (156, (.aload_n 0), 157, 0), (157, (.iload_n 3), 158, 0), (158, (.iconst 1), 159, 0), (159, .iadd, 160, 0), (160, .iaload, 161, 0), (161, (.invokevirtual 6), 164, 18), (164, (.aload_n 2), 165, 0), (165, (.aload_n 0), 166, 0), (166, (.iload_n 3), 167, 0), (167, (.iconst 1), 168, 0), (168, .iadd, 169, 0), (169, .iaload, 170, 0), (170, (.invokevirtual 50), 173, 22), (173, (.if_icmp .eq 345), 176, 0), (176, (.iconst 0), 177, 0), (177, .ireturn, 178, 0), (178, (.aload_n 1), 179, 0), (179, (.invokevirtual 7), 182, 23), (182, (.aload_n 2), 183, 0), (183, (.invokevirtual 51), 186, 27), (186, (.if_icmp .eq 345), 189, 0), (189, (.iconst 0), 190, 0), (190, .ireturn, 191, 0), (191, (.aload_n 1), 192, 0), (192, (.invokevirtual 8), 195, 28), (195, (.aload_n 2), 196, 0), (196, (.invokevirtual 52), 199, 31), (199, (.if_icmp .eq 345), 202, 0), (202, (.iconst 0), 203, 0), (203, .ireturn, 204, 0), (204, (.aload_n 1), 205, 0), (205, (.aload_n 0), 206, 0), (206, (.iload_n 3), 207, 0), (207, (.iconst 1), 208, 0), (208, .iadd, 209, 0), (209, .iaload, 210, 0), (210, (.invokevirtual 9), 213, 32), (213, (.aload_n 2), 214, 0), (214, (.aload_n 0), 215, 0), (215, (.iload_n 3), 216, 0), (216, (.iconst 1), 217, 0), (217, .iadd, 218, 0), (218, .iaload, 219, 0), (219, (.invokevirtual 53), 222, 35), (222, (.if_icmp .eq 345), 225, 0), (225, (.iconst 0), 226, 0), (226, .ireturn, 227, 0), (227, (.aload_n 1), 228, 0), (228, (.aload_n 0), 229, 0), (229, (.iload_n 3), 230, 0), (230, (.iconst 1), 231, 0), (231, .iadd, 232, 0), (232, .iaload, 233, 0), (233, (.invokevirtual 10), 236, 36), (236, (.aload_n 2), 237, 0), (237, (.aload_n 0), 238, 0), (238, (.iload_n 3), 239, 0), (239, (.iconst 1), 240, 0), (240, .iadd, 241, 0), (241, .iaload, 242, 0), (242, (.invokevirtual 56), 245, 39), (245, (.if_icmp .eq 345), 248, 0), (248, (.iconst 0), 249, 0), (249, .ireturn, 250, 0), (250, (.aload_n 1), 251, 0), (251, (.invokevirtual 11), 254, 40), (254, (.aload_n 2), 255, 0), (255, (.invokevirtual 58), 258, 43), (258, (.if_icmp .eq 345), 261, 0), (261, (.iconst 0), 262, 0), (262, .ireturn, 263, 0), (263, (.aload_n 1), 264, 0), (264, (.aload_n 0), 265, 0), (265, (.iload_n 3), 266, 0), (266, (.iconst 1), 267, 0), (267, .iadd, 268, 0), (268, .iaload, 269, 0), (269, (.invokevirtual 12), 272, 44), (272, (.aload_n 2), 273, 0), (273, (.aload_n 0), 274, 0), (274, (.iload_n 3), 275, 0), (275, (.iconst 1), 276, 0), (276, .iadd, 277, 0), (277, .iaload, 278, 0), (278, (.invokevirtual 59), 281, 47), (281, (.if_icmp .eq 345), 284, 0), (284, (.iconst 0), 285, 0), (285, .ireturn, 286, 0), (286, (.aload_n 1), 287, 0), (287, (.invokevirtual 13), 290, 48), (290, (.aload_n 2), 291, 0), (291, (.invokevirtual 75), 294, 51), (294, (.if_icmp .eq 345), 297, 0), (297, (.iconst 0), 298, 0), (298, .ireturn, 299, 0), (299, (.aload_n 1), 300, 0), (300, (.aload_n 0), 301, 0), (301, (.iload_n 3), 302, 0), (302, (.iconst 1), 303, 0), (303, .iadd, 304, 0), (304, .iaload, 305, 0), (305, (.invokevirtual 14), 308, 52), (308, (.aload_n 2), 309, 0), (309, (.aload_n 0), 310, 0), (310, (.iload_n 3), 311, 0), (311, (.iconst 1), 312, 0), (312, .iadd, 313, 0), (313, .iaload, 314, 0), (314, (.invokevirtual 76), 317, 55), (317, (.if_icmp .eq 345), 320, 0), (320, (.iconst 0), 321, 0), (321, .ireturn, 322, 0), (322, (.aload_n 1), 323, 0), (323, (.aload_n 0), 324, 0), (324, (.iload_n 3), 325, 0), (325, (.iconst 1), 326, 0), (326, .iadd, 327, 0), (327, .iaload, 328, 0), (328, (.invokevirtual 15), 331, 56), (331, (.aload_n 2), 332, 0), (332, (.aload_n 0), 333, 0), (333, (.iload_n 3), 334, 0), (334, (.iconst 1), 335, 0), (335, .iadd, 336, 0), (336, .iaload, 337, 0), (337, (.invokevirtual 77), 340, 59), (340, (.if_icmp .eq 345), 343, 0), (343, (.iconst 0), 344, 0), (344, .ireturn, 345, 0), (345, (.iinc 3 6), 348, 0), (348, (.goto 18), 351, 0), (351, (.iconst 1), 352, 0), (352, .ireturn, 353, 0)]
def ar_173 : List (Nat × Jvm.ClassFile.Instr × Nat × Nat) := [(0, (.aload_n 0), 1, 0), (1, (.getfield 704), 4, 9), (4, .arraylength, 5, 0), (5, (.aload_n 0), 6, 0), (6, (.invokevirtual 177), 9, 335), (9, .ishr, 10, 0), (10, .ireturn, 11, 0)]
def ar_174 : List (Nat × Jvm.ClassFile.Instr × Nat × Nat) := [(0, (.aload_n 0), 1, 0), (1, (.invokevirtual 178), 4, 492), (4, (.ifCond .eq 16), 7, 0), (7, (.aload_n 0), 8, 0), (8, (.getfield 704), 11, 9), (11, (.iload_n 1), 12, 0), (12, (.invokestatic 179), 15, 495), (15, .ireturn, 16, 0), (16, (.aload_n 0), 17, 0), (17, (.getfield 704), 20, 9), (20, (.iload_n 1), 21, 0), (24, .ireturn, 25, 0)]
def ar_175 : List (Nat × Jvm.ClassFile.Instr × Nat × Nat) := [(0, (.aload_n 0), 1, 0), (1, (.iload_n 1), 2, 0), (2, (.iconst 0), 3, 0), (3, (.invokevirtual 176), 6, 633), (6, .ireturn, 7, 0)]
def ar_176 : List (Nat × Jvm.ClassFile.Instr × Nat × Nat) := [(0, (.aload_n 0), 1, 0), (1, (.invokevirtual 178), 4, 492), (4, (.ifCond .eq 23), 7, 0), (7, (.aload_n 0), 8, 0), (8, (.getfield 704), 11, 9), (11, (.iload_n 1), 12, 0), (12, (.iload_n 2), 13, 0), (13, (.aload_n 0), 14, 0), (14, (.invokevirtual 173), 17, 505), (17, (.invokestatic 181), 20, 637), (20, (.goto 36), 23, 0), (23, (.aload_n 0), 24, 0), (24, (.getfield 704), 27, 9), (27, (.iload_n 1), 28, 0), (28, (.iload_n 2), 29, 0), (29, (.aload_n 0), 30, 0), (30, (.invokevirtual 173), 33, 505), (36, .ireturn, 37, 0)]
def ar_177 : List (Nat × Jvm.ClassFile.Instr × Nat × Nat) := [(0, (.getstatic 1), 3, 38), (3, (.ifCond .eq 13), 6, 0), (6, (.aload_n 0), 7, 0), (7, (.getfield 705), 10, 15), (10, (.goto 14), 13, 0), (13, (.iconst 1), 14, 0), (14, .ireturn, 15, 0)]
def ar_178 : List (Nat × Jvm.ClassFile.Instr × Nat × Nat) := [(0, (.getstatic 1), 3, 38), (3, (.ifCond .eq 17), 6, 0), (6, (.aload_n 0), 7, 0), (7, (.getfield 705), 10, 15), (10, (.ifCond .ne 17), 13, 0), (13, (.iconst 1), 14, 0), (14, (.goto 18), 17, 0), (17, (.iconst 0), 18, 0), (18, .ireturn, 19, 0)]
def ar_179 : List (Nat × Jvm.ClassFile.Instr × Nat × Nat) := [(0, (.iload_n 1), 1, 0), (1, (.aload_n 0), 2, 0), (2, .arraylength, 3, 0), (3, (.invokestatic 1), 6, 9), (6, (.aload_n 0), 7, 0), (7, (.iload_n 1), 8, 0), (8, .baload, 9, 0), (9, (.sipush 255), 12, 0), (12, .iand, 13, 0), (13, .i2c, 14, 0), (14, .ireturn, 15, 0)]
def ar_180 : List (Nat × Jvm.ClassFile.Instr × Nat × Nat) := [(0, (.iload_n 0), 1, 0), (1, (.ifCond .lt 15), 4, 0), (4, (.iload_n 0), 5, 0), (5, (.sipush 255), 8, 0), (8, (.if_icmp .gt 15), 11, 0), (11, (.iconst 1), 12, 0), (12, (.goto 16), 15, 0), (15, (.iconst 0), 16, 0), (16, .ireturn, 17, 0)]
def ar_181 : List (Nat × Jvm.ClassFile.Instr × Nat × Nat) := [(0, (.iload_n 1), 1, 0), (1, (.invokestatic 180), 4, 88), (4, (.ifCond .ne 9), 7, 0), (7, (.iconst (-1)), 8, 0), (8, .ireturn, 9, 0), (9, (.iload_n 2), 10, 0), (10, (.iconst 0), 11, 0), (11, (.invokestatic 2), 14, 92), (14, (.istore_n 2), 15, 0), (15, (.iload_n 3), 16, 0), (16, (.aload_n 0), 17, 0), (17, .arraylength, 18, 0), (18, (.invokestatic 3), 21, 38), (21, (.istore_n 3), 22, 0), (22, (.iload_n 2), 23, 0), (23, (.iload_n 3), 24, 0), (24, (.if_icmp .lt 29), 27, 0), (27, (.iconst (-1)), 28, 0), (28, .ireturn, 29, 0), (29, (.aload_n 0), 30, 0), (30, (.iload_n 1), 31, 0), (31, (.iload_n 2), 32, 0), (32, (.iload_n 3), 33, 0), (33, (.invokestatic 182), 36, 95), (36, .ireturn, 37, 0)]
def ar_182 : List (Nat × Jvm.ClassFile.Instr × Nat × Nat) := [(0, (.iload_n 1), 1, 0), (1, .i2b, 2, 0), (2, (.istore 4), 4, 0), (4, (.iload_n 2), 5, 0), (5, (.istore 5), 7, 0), (7, (.iload 5), 9, 0), (9, (.iload_n 3), 10, 0), (10, (.if_icmp .ge 31), 13, 0), (13, (.aload_n 0), 14, 0), (14, (.iload 5), 16, 0), (16, .baload, 17, 0), (17, (.iload 4), 19, 0), (19, (.if_icmp .ne 25), 22, 0), (22, (.iload 5), 24, 0), (24, .ireturn, 25, 0), (25, (.iinc 5 1), 28, 0), (28, (.goto 7), 31, 0), (31, (.iconst (-1)), 32, 0), (32, .ireturn, 33, 0)]
def ar_183 : List (Nat × Jvm.ClassFile.Instr × Nat × Nat) := [(0, (.iload_n 0), 1, 0), (1, (.iconst (-1)), 2, 0), (2, .ixor, 3, 0), (3, (.iload_n 0), 4, 0), (4, (.iconst 1), 5, 0), (5, .isub, 6, 0), (6, .iand, 7, 0), (7, (.istore_n 0), 8, 0), (8, (.iload_n 0), 9, 0), (9, (.ifCond .gt 17), 12, 0), (12, (.iload_n 0), 13, 0), (13, (.bipush 32), 15, 0), (15, .iand, 16, 0), (16, .ireturn, 17, 0), (17, (.iconst 1), 18, 0), (18, (.istore_n 1), 19, 0), (19, (.iload_n 0), 20, 0), (20, (.goto_w 65536), 23, 264), (23, (.if_icmp .le 34), 26, 0), (26, (.iinc 1 16), 29, 0), (29, (.iload_n 0), 30, 0), (30, (.bipush 16), 32, 0), (32, .iushr, 33, 0), (33, (.istore_n 0), 34, 0), (34, (.iload_n 0), 35, 0), (35, (.sipush 256), 38, 0), (38, (.if_icmp .le 49), 41, 0), (41, (.iinc 1 8), 44, 0), (44, (.iload_n 0), 45, 0), (45, (.bipush 8), 47, 0), (47, .iushr, 48, 0), (48, (.istore_n 0), 49, 0), (49, (.iload_n 0), 50, 0), (50, (.bipush 16), 52, 0), (52, (.if_icmp .le 62), 55, 0), (55, (.iinc 1 4), 58, 0), (58, (.iload_n 0), 59, 0), (59, (.iconst 4), 60, 0), (60, .iushr, 61, 0), (61, (.istore_n 0), 62, 0), (62, (.iload_n 0), 63, 0), (63, (.iconst 4), 64, 0), (64, (.if_icmp .le 74), 67, 0), (67, (.iinc 1 2), 70, 0), (70, (.iload_n 0), 71, 0), (71, (.iconst 2), 72, 0), (72, .iushr, 73, 0), (73, (.istore_n 0), 74, 0), (74, (.iload_n 1), 75, 0), (75, (.iload_n 0), 76, 0), (76, (.iconst 1), 77, 0), (77, .iushr, 78, 0), (78, .iadd, 79, 0), (79, .ireturn, 80, 0)]
def am_rows (m : Nat) : List (Nat × Jvm.ClassFile.Instr × Nat × Nat) := (cond (Nat.ble m 91) (cond (Nat.ble m 45) (cond (Nat.ble m 22) (cond (Nat.ble m 10) (cond (Nat.ble m 4) (cond (Nat.ble m 1) (cond (Nat.ble m 0) (cond (Nat.beq m 0) ar_0 []) (cond (Nat.beq m 1) ar_1 [])) (cond (Nat.ble m 2) (cond (Nat.beq m 2) ar_2 []) (cond (Nat.ble m 3) (cond (Nat.beq m 3) ar_3 []) (cond (Nat.beq m 4) ar_4 [])))) (cond (Nat.ble m 7) (cond (Nat.ble m 5) (cond (Nat.beq m 5) ar_5 []) (cond (Nat.ble m 6) (cond (Nat.beq m 6) ar_6 []) (cond (Nat.beq m 7) ar_7 []))) (cond (Nat.ble m 8) (cond (Nat.beq m 8) ar_8 []) (cond (Nat.ble m 9) (cond (Nat.beq m 9) ar_9 []) (cond (Nat.beq m 10) ar_10 []))))) (cond (Nat.ble m 16) (cond (Nat.ble m 13) (cond (Nat.ble m 11) (cond (Nat.beq m 11) ar_11 []) (cond (Nat.ble m 12) (cond (Nat.beq m 12) ar_12 []) (cond (Nat.beq m 13) ar_13 []))) (cond (Nat.ble m 14) (cond (Nat.beq m 14) ar_14 []) (cond (Nat.ble m 15) (cond (Nat.beq m 15) ar_15 []) (cond (Nat.beq m 16) ar_16 [])))) (cond (Nat.ble m 19) (cond (Nat.ble m 17) (cond (Nat.beq m 17) ar_17 []) (cond (Nat.ble m 18) (cond (Nat.beq m 18) ar_18 []) (cond (Nat.beq m 19) ar_19 []))) (cond (Nat.ble m 20) (cond (Nat.beq m 20) ar_20 []) (cond (Nat.ble m 21) (cond (Nat.beq m 21) ar_21 []) (cond (Nat.beq m 22) ar_22 [])))))) (cond (Nat.ble m 33) (cond (Nat.ble m 27) (cond (Nat.ble m 24) (cond (Nat.ble m 23) (cond (Nat.beq m 23) ar_23 []) (cond (Nat.beq m 24) ar_24 [])) (cond (Nat.ble m 25) (cond (Nat.beq m 25) ar_25 []) (cond (Nat.ble m 26) (cond (Nat.beq m 26) ar_26 []) (cond (Nat.beq m 27) ar_27 [])))) (cond (Nat.ble m 30) (cond (Nat.ble m 28) (cond (Nat.beq m 28) ar_28 []) (cond (Nat.ble m 29) (cond (Nat.beq m 29) ar_29 []) (cond (Nat.beq m 30) ar_30 []))) (cond (Nat.ble m 31) (cond (Nat.beq m 31) ar_31 []) (cond (Nat.ble m 32) (cond (Nat.beq m 32) ar_32 []) (cond (Nat.beq m 33) ar_33 []))))) (cond (Nat.ble m 39) (cond (Nat.ble m 36) (cond (Nat.ble m 34) (cond (Nat.beq m 34) ar_34 []) (cond (Nat.ble m 35) (cond (Nat.beq m 35) ar_35 []) (cond (Nat.beq m 36) ar_36 []))) (cond (Nat.ble m 37) (cond (Nat.beq m 37) ar_37 []) (cond (Nat.ble m 38) (cond (Nat.beq m 38) ar_38 []) (cond (Nat.beq m 39) ar_39 [])))) (cond (Nat.ble m 42) (cond (Nat.ble m 40) (cond (Nat.beq m 40) ar_40 []) (cond (Nat.ble m 41) (cond (Nat.beq m 41) ar_41 []) (cond (Nat.beq m 42) ar_42 []))) (cond (Nat.ble m 43) (cond (Nat.beq m 43) ar_43 []) (cond (Nat.ble m 44) (cond (Nat.beq m 44) ar_44 []) (cond (Nat.beq m 45) ar_45 []))))))) (cond (Nat.ble m 68) (cond (Nat.ble m 56) (cond (Nat.ble m 50) (cond (Nat.ble m 47) (cond (Nat.ble m 46) (cond (Nat.beq m 46) ar_46 []) (cond (Nat.beq m 47) ar_47 [])) (cond (Nat.ble m 48) (cond (Nat.beq m 48) ar_48 []) (cond (Nat.ble m 49) (cond (Nat.beq m 49) ar_49 []) (cond (Nat.beq m 50) ar_50 [])))) (cond (Nat.ble m 53) (cond (Nat.ble m 51) (cond (Nat.beq m 51) ar_51 []) (cond (Nat.ble m 52) (cond (Nat.beq m 52) ar_52 []) (cond (Nat.beq m 53) ar_53 []))) (cond (Nat.ble m 54) (cond (Nat.beq m 54) ar_54 []) (cond (Nat.ble m 55) (cond (Nat.beq m 55) ar_55 []) (cond (Nat.beq m 56) ar_56 []))))) (cond (Nat.ble m 62) (cond (Nat.ble m 59) (cond (Nat.ble m 57) (cond (Nat.beq m 57) ar_57 []) (cond (Nat.ble m 58) (cond (Nat.beq m 58) ar_58 []) (cond (Nat.beq m 59) ar_59 []))) (cond (Nat.ble m 60) (cond (Nat.beq m 60) ar_60 []) (cond (Nat.ble m 61) (cond (Nat.beq m 61) ar_61 []) (cond (Nat.beq m 62) ar_62 [])))) (cond (Nat.ble m 65) (cond (Nat.ble m 63) (cond (Nat.beq m 63) ar_63 []) (cond (Nat.ble m 64) (cond (Nat.beq m 64) ar_64 []) (cond (Nat.beq m 65) ar_65 []))) (cond (Nat.ble m 66) (cond (Nat.beq m 66) ar_66 []) (cond (Nat.ble m 67) (cond (Nat.beq m 67) ar_67 []) (cond (Nat.beq m 68) ar_68 [])))))) (cond (Nat.ble m 79) (cond (Nat.ble m 73) (cond (Nat.ble m 70) (cond (Nat.ble m 69) (cond (Nat.beq m 69) ar_69 []) (cond (Nat.beq m 70) ar_70 [])) (cond (Nat.ble m 71) (cond (Nat.beq m 71) ar_71 []) (cond (Nat.ble m 72) (cond (Nat.beq m 72) ar_72 []) (cond (Nat.beq m 73) ar_73 [])))) (cond (Nat.ble m 76) (cond (Nat.ble m 74) (cond (Nat.beq m 74) ar_74 []) (cond (Nat.ble m 75) (cond (Nat.beq m 75) ar_75 []) (cond (Nat.beq m 76) ar_76 []))) (cond (Nat.ble m 77) (cond (Nat.beq m 77) ar_77 []) (cond (Nat.ble m 78) (cond (Nat.beq m 78) ar_78 []) (cond (Nat.beq m 79) ar_79 []))))) (cond (Nat.ble m 85) (cond (Nat.ble m 82) (cond (Nat.ble m 80) (cond (Nat.beq m 80) ar_80 []) (cond (Nat.ble m 81) (cond (Nat.beq m 81) ar_81 []) (cond (Nat.beq m 82) ar_82 []))) (cond (Nat.ble m 83) (cond (Nat.beq m 83) ar_83 []) (cond (Nat.ble m 84) (cond (Nat.beq m 84) ar_84 []) (cond (Nat.beq m 85) ar_85 [])))) (cond (Nat.ble m 88) (cond (Nat.ble m 86) (cond (Nat.beq m 86) ar_86 []) (cond (Nat.ble m 87) (cond (Nat.beq m 87) ar_87 []) (cond (Nat.beq m 88) ar_88 []))) (cond (Nat.ble m 89) (cond (Nat.beq m 89) ar_89 []) (cond (Nat.ble m 90) (cond (Nat.beq m 90) ar_90 []) (cond (Nat.beq m 91) ar_91 [])))))))) (cond (Nat.ble m 137) (cond (Nat.ble m 114) (cond (Nat.ble m 102) (cond (Nat.ble m 96) (cond (Nat.ble m 93) (cond (Nat.ble m 92) (cond (Nat.beq m 92) ar_92 []) (cond (Nat.beq m 93) ar_93 [])) (cond (Nat.ble m 94) (cond (Nat.beq m 94) ar_94 []) (cond (Nat.ble m 95) (cond (Nat.beq m 95) ar_95 []) (cond (Nat.beq m 96) ar_96 [])))) (cond (Nat.ble m 99) (cond (Nat.ble m 97) (cond (Nat.beq m 97) ar_97 []) (cond (Nat.ble m 98) (cond (Nat.beq m 98) ar_98 []) (cond (Nat.beq m 99) ar_99 []))) (cond (Nat.ble m 100) (cond (Nat.beq m 100) ar_100 []) (cond (Nat.ble m 101) (cond (Nat.beq m 101) ar_101 []) (cond (Nat.beq m 102) ar_102 []))))) (cond (Nat.ble m 108) (cond (Nat.ble m 105) (cond (Nat.ble m 103) (cond (Nat.beq m 103) ar_103 []) (cond (Nat.ble m 104) (cond (Nat.beq m 104) ar_104 []) (cond (Nat.beq m 105) ar_105 []))) (cond (Nat.ble m 106) (cond (Nat.beq m 106) ar_106 []) (cond (Nat.ble m 107) (cond (Nat.beq m 107) ar_107 []) (cond (Nat.beq m 108) ar_108 [])))) (cond (Nat.ble m 111) (cond (Nat.ble m 109) (cond (Nat.beq m 109) ar_109 []) (cond (Nat.ble m 110) (cond (Nat.beq m 110) ar_110 []) (cond (Nat.beq m 111) ar_111 []))) (cond (Nat.ble m 112) (cond (Nat.beq m 112) ar_112 []) (cond (Nat.ble m 113) (cond (Nat.beq m 113) ar_113 []) (cond (Nat.beq m 114) ar_114 [])))))) (cond (Nat.ble m 125) (cond (Nat.ble m 119) (cond (Nat.ble m 116) (cond (Nat.ble m 115) (cond (Nat.beq m 115) ar_115 []) (cond (Nat.beq m 116) ar_116 [])) (cond (Nat.ble m 117) (cond (Nat.beq m 117) ar_117 []) (cond (Nat.ble m 118) (cond (Nat.beq m 118) ar_118 []) (cond (Nat.beq m 119) ar_119 [])))) (cond (Nat.ble m 122) (cond (Nat.ble m 120) (cond (Nat.beq m 120) ar_120 []) (cond (Nat.ble m 121) (cond (Nat.beq m 121) ar_121 []) (cond (Nat.beq m 122) ar_122 []))) (cond (Nat.ble m 123) (cond (Nat.beq m 123) ar_123 []) (cond (Nat.ble m 124) (cond (Nat.beq m 124) ar_124 []) (cond (Nat.beq m 125) ar_125 []))))) (cond (Nat.ble m 131) (cond (Nat.ble m 128) (cond (Nat.ble m 126) (cond (Nat.beq m 126) ar_126 []) (cond (Nat.ble m 127) (cond (Nat.beq m 127) ar_127 []) (cond (Nat.beq m 128) ar_128 []))) (cond (Nat.ble m 129) (cond (Nat.beq m 129) ar_129 []) (cond (Nat.ble m 130) (cond (Nat.beq m 130) ar_130 []) (cond (Nat.beq m 131) ar_131 [])))) (cond (Nat.ble m 134) (cond (Nat.ble m 132) (cond (Nat.beq m 132) ar_132 []) (cond (Nat.ble m 133) (cond (Nat.beq m 133) ar_133 []) (cond (Nat.beq m 134) ar_134 []))) (cond (Nat.ble m 135) (cond (Nat.beq m 135) ar_135 []) (cond (Nat.ble m 136) (cond (Nat.beq m 136) ar_136 []) (cond (Nat.beq m 137) ar_137 []))))))) (cond (Nat.ble m 160) (cond (Nat.ble m 148) (cond (Nat.ble m 142) (cond (Nat.ble m 139) (cond (Nat.ble m 138) (cond (Nat.beq m 138) ar_138 []) (cond (Nat.beq m 139) ar_139 [])) (cond (Nat.ble m 140) (cond (Nat.beq m 140) ar_140 []) (cond (Nat.ble m 141) (cond (Nat.beq m 141) ar_141 []) (cond (Nat.beq m 142) ar_142 [])))) (cond (Nat.ble m 145) (cond (Nat.ble m 143) (cond (Nat.beq m 143) ar_143 []) (cond (Nat.ble m 144) (cond (Nat.beq m 144) ar_144 []) (cond (Nat.beq m 145) ar_145 []))) (cond (Nat.ble m 146) (cond (Nat.beq m 146) ar_146 []) (cond (Nat.ble m 147) (cond (Nat.beq m 147) ar_147 []) (cond (Nat.beq m 148) ar_148 []))))) (cond (Nat.ble m 154) (cond (Nat.ble m 151) (cond (Nat.ble m 149) (cond (Nat.beq m 149) ar_149 []) (cond (Nat.ble m 150) (cond (Nat.beq m 150) ar_150 []) (cond (Nat.beq m 151) ar_151 []))) (cond (Nat.ble m 152) (cond (Nat.beq m 152) ar_152 []) (cond (Nat.ble m 153) (cond (Nat.beq m 153) ar_153 []) (cond (Nat.beq m 154) ar_154 [])))) (cond (Nat.ble m 157) (cond (Nat.ble m 155) (cond (Nat.beq m 155) ar_155 []) (cond (Nat.ble m 156) (cond (Nat.beq m 156) ar_156 []) (cond (Nat.beq m 157) ar_157 []))) (cond (Nat.ble m 158) (cond (Nat.beq m 158) ar_158 []) (cond (Nat.ble m 159) (cond (Nat.beq m 159) ar_159 []) (cond (Nat.beq m 160) ar_160 [])))))) (cond (Nat.ble m 171) (cond (Nat.ble m 165) (cond (Nat.ble m 162) (cond (Nat.ble m 161) (cond (Nat.beq m 161) ar_161 []) (cond (Nat.beq m 162) ar_162 [])) (cond (Nat.ble m 163) (cond (Nat.beq m 163) ar_163 []) (cond (Nat.ble m 164) (cond (Nat.beq m 164) ar_164 []) (cond (Nat.beq m 165) ar_165 [])))) (cond (Nat.ble m 168) (cond (Nat.ble m 166) (cond (Nat.beq m 166) ar_166 []) (cond (Nat.ble m 167) (cond (Nat.beq m 167) ar_167 []) (cond (Nat.beq m 168) ar_168 []))) (cond (Nat.ble m 169) (cond (Nat.beq m 169) ar_169 []) (cond (Nat.ble m 170) (cond (Nat.beq m 170) ar_170 []) (cond (Nat.beq m 171) ar_171 []))))) (cond (Nat.ble m 177) (cond (Nat.ble m 174) (cond (Nat.ble m 172) (cond (Nat.beq m 172) ar_172 []) (cond (Nat.ble m 173) (cond (Nat.beq m 173) ar_173 []) (cond (Nat.beq m 174) ar_174 []))) (cond (Nat.ble m 175) (cond (Nat.beq m 175) ar_175 []) (cond (Nat.ble m 176) (cond (Nat.beq m 176) ar_176 []) (cond (Nat.beq m 177) ar_177 [])))) (cond (Nat.ble m 180) (cond (Nat.ble m 178) (cond (Nat.beq m 178) ar_178 []) (cond (Nat.ble m 179) (cond (Nat.beq m 179) ar_179 []) (cond (Nat.beq m 180) ar_180 []))) (cond (Nat.ble m 181) (cond (Nat.beq m 181) ar_181 []) (cond (Nat.ble m 182) (cond (Nat.beq m 182) ar_182 []) (cond (Nat.beq m 183) ar_183 [])))))))))
def am_lk {α : Type} (pc : Nat) : List (Nat × α) → Option α
  | [] => none
  | (q, v) :: r => cond (Nat.beq pc q) (some v) (am_lk pc r)
def am_code (m pc : Nat) : Option (Jvm.ClassFile.Instr × Nat × Nat) := am_lk pc (am_rows m)
end
section
def am_nsts : List (String × Nat × MethodName × String) := [("PatternTrees", 11, ⟨"PatternTrees$Form", "<init>", "()V"⟩, "PatternTrees"), ("PatternTrees", 18, ⟨"PatternTrees$Terms", "<init>", "()V"⟩, "PatternTrees"), ("PatternTrees", 25, ⟨"PatternTrees$Trial", "<init>", "()V"⟩, "PatternTrees"), ("PatternTrees", 32, ⟨"PatternTrees$Search", "<init>", "()V"⟩, "PatternTrees"), ("PatternTrees", 39, ⟨"PatternTrees$Rules", "<init>", "()V"⟩, "PatternTrees"), ("PatternTrees$Form", 11, ⟨"PatternTrees$Tokens", "<init>", "()V"⟩, "PatternTrees"), ("PatternTrees$Rules", 11, ⟨"PatternTrees$Types", "<init>", "()V"⟩, "PatternTrees"), ("PatternTrees$Rules", 20, ⟨"PatternTrees$Terms", "<init>", "()V"⟩, "PatternTrees"), ("PatternTrees$Search", 11, ⟨"PatternTrees$Line", "<init>", "()V"⟩, "PatternTrees"), ("PatternTrees$Search", 20, ⟨"PatternTrees$Asks", "<init>", "()V"⟩, "PatternTrees")]
theorem am_fty_const {ci k : Nat} (h : k < am_cN ci) : am_fty ci k ≠ 2 := by
  unfold am_cN at h
  cases e : Nat.beq ci 11 with
  | false => rw [e] at h; exact absurd h (Nat.not_lt_zero k)
  | true =>
    have e1 := Nat.eq_of_beq_eq_true e
    subst e1
    rw [e] at h
    have h2 : k < 2 := h
    match k, h2 with
    | 0, _ => decide
    | 1, _ => decide
    | k + 2, h2 => omega
end
section
/-! THE SMALL MACHINE: a pure machine over the claim's own methods; its weakest precondition is a least fixed point, so that a walk is a pure proof.
A state: how many cells there are, the kind of each (an object of kind ci, or an array of type t and length n), ints, longs, references by cell and place. -/
abbrev am_K : Type := Nat ⊕ (Nat × Nat)
/-- a value: an int .inl x, a reference .inr (.inl a), a long .inr (.inr (some x)); nothing is .inr (.inr none). Ints and longs are whole numbers in their range -/
abbrev am_V : Type := Int ⊕ (Nat ⊕ Option Int)
abbrev am_S : Type := Nat × (Nat → am_K) × (Nat → Nat → Int) × (Nat → Nat → Int) × (Nat → Nat → Option Nat)
abbrev am_Q : Type := Option am_V → am_S → Prop
/-- a place in a run: method, pc, locals, stack, cells and slots made so far in this frame, state -/
abbrev am_C : Type := Nat × Nat × List am_V × List am_V × (Nat × Nat) × am_S
def am_u {α : Type} (f : Nat → Nat → α) (a k : Nat) (v : α) : Nat → Nat → α := fun b j => if b = a then (if j = k then v else f b j) else f b j
def am_z {α : Type} (f : Nat → Nat → α) (a : Nat) (v : α) : Nat → Nat → α := fun b j => if b = a then v else f b j
def am_uK (K : Nat → am_K) (a : Nat) (v : am_K) : Nat → am_K := fun b => if b = a then v else K b
/-- locals: a place that holds nothing (or a long's second half) is .inr (.inr none) -/
def am_cat (v : am_V) : Nat := match v with
  | .inr (.inr (some _)) => 2
  | _ => 1
def am_clr (ls : List am_V) (i : Nat) : List am_V := match i with
  | 0 => ls
  | j + 1 => match ls[j]? with
    | some (.inr (.inr (some _))) => ls.set j (.inr (.inr none))
    | _ => ls
def am_st1 (ls : List am_V) (i : Nat) (v : am_V) : List am_V := (am_clr ls i).set i v
def am_st2 (ls : List am_V) (i : Nat) (v : am_V) : List am_V := ((am_clr ls i).set i v).set (i + 1) (.inr (.inr none))
def am_fl : List am_V → List am_V
  | [] => []
  | .inr (.inr (some x)) :: vs => .inr (.inr (some x)) :: .inr (.inr none) :: am_fl vs
  | v :: vs => v :: am_fl vs
def am_pad : List am_V → Nat → List am_V
  | [], n => List.replicate n (.inr (.inr none))
  | v :: vs, n => v :: am_pad vs (n - 1)
def am_entry (r : Nat) (as : List am_V) (σ : am_S) : am_C := (r, 0, am_pad (am_fl as) (am_ml r), [], (0, 0), σ)
-- results: a computed number is named
def am_ar (e : Int) (f : Int → Prop) : Prop := ∀ z q : Int, z = e + 4294967296 * q → -2147483648 ≤ z → z ≤ 2147483647 → f z
def am_al (e : Int) (f : Int → Prop) : Prop := ∀ z q : Int, z = e + 18446744073709551616 * q → -9223372036854775808 ≤ z → z ≤ 9223372036854775807 → f z
def am_nm (e : Int) (f : Int → Prop) : Prop := ∀ z : Int, z = e → -2147483648 ≤ z → z ≤ 2147483647 → f z
def am_nl (e : Int) (f : Int → Prop) : Prop := ∀ z : Int, z = e → -9223372036854775808 ≤ z → z ≤ 9223372036854775807 → f z
def am_and (x y : Int) : Int := (Int32.ofInt x &&& Int32.ofInt y).toInt
def am_or (x y : Int) : Int := (Int32.ofInt x ||| Int32.ofInt y).toInt
def am_xor (x y : Int) : Int := (Int32.ofInt x ^^^ Int32.ofInt y).toInt
def am_div (x y : Int) : Int := (Int32.ofInt x / Int32.ofInt y).toInt
def am_rem (x y : Int) : Int := (Int32.ofInt x - Int32.ofInt x / Int32.ofInt y * Int32.ofInt y).toInt
def am_shl (x y : Int) : Int := (Int32.ofInt x <<< (Int32.ofInt y &&& 31)).toInt
def am_shr (x y : Int) : Int := (Int32.ofInt x >>> (Int32.ofInt y &&& 31)).toInt
def am_ush (x y : Int) : Int := ((Int32.ofInt x).toUInt32 >>> ((Int32.ofInt y).toUInt32 &&& Int32.toUInt32 31)).toInt32.toInt
def am_i2c (x : Int) : Int := (((Int32.ofInt x).toUInt32 % 65536).toInt32).toInt
def am_i2b (x : Int) : Int := ((Int32.ofInt x).toInt8.toInt32).toInt
def am_l2i (x : Int) : Int := ((Int64.ofInt x).toInt32).toInt
def am_land (x y : Int) : Int := (Int64.ofInt x &&& Int64.ofInt y).toInt
def am_lor (x y : Int) : Int := (Int64.ofInt x ||| Int64.ofInt y).toInt
def am_lxor (x y : Int) : Int := (Int64.ofInt x ^^^ Int64.ofInt y).toInt
def am_lshl (x y : Int) : Int := (Int64.ofInt x <<< ((Int32.ofInt y).toInt64 &&& 63)).toInt
def am_lshr (x y : Int) : Int := (Int64.ofInt x >>> ((Int32.ofInt y).toInt64 &&& 63)).toInt
def am_lush (x y : Int) : Int := ((Int64.ofInt x).toUInt64 >>> ((Int32.ofInt y).toInt64.toUInt64 &&& Int64.toUInt64 63)).toInt64.toInt
def am_lc (x y : Int) : Int := if y < x then 1 else if x = y then 0 else -1
-- what lies on the stack, in a local
def am_i1 (st : List am_V) (f : Int → List am_V → Prop) : Prop := match st with
  | .inl x :: r => f x r
  | _ => False
def am_i2 (st : List am_V) (f : Int → Int → List am_V → Prop) : Prop := match st with
  | .inl y :: .inl x :: r => f x y r
  | _ => False
def am_l1 (st : List am_V) (f : Int → List am_V → Prop) : Prop := match st with
  | .inr (.inr (some x)) :: r => f x r
  | _ => False
def am_l2 (st : List am_V) (f : Int → Int → List am_V → Prop) : Prop := match st with
  | .inr (.inr (some y)) :: .inr (.inr (some x)) :: r => f x y r
  | _ => False
def am_li (st : List am_V) (f : Int → Int → List am_V → Prop) : Prop := match st with
  | .inl y :: .inr (.inr (some x)) :: r => f x y r
  | _ => False
def am_r1 (st : List am_V) (f : Nat → List am_V → Prop) : Prop := match st with
  | .inr (.inl a) :: r => f a r
  | _ => False
def am_ai (st : List am_V) (f : Nat → Int → List am_V → Prop) : Prop := match st with
  | .inl i :: .inr (.inl a) :: r => f a i r
  | _ => False
def am_aii (st : List am_V) (f : Nat → Int → Int → List am_V → Prop) : Prop := match st with
  | .inl x :: .inl i :: .inr (.inl a) :: r => f a i x r
  | _ => False
def am_ail (st : List am_V) (f : Nat → Int → Int → List am_V → Prop) : Prop := match st with
  | .inr (.inr (some x)) :: .inl i :: .inr (.inl a) :: r => f a i x r
  | _ => False
def am_ir (st : List am_V) (f : Nat → Int → List am_V → Prop) : Prop := match st with
  | .inl x :: .inr (.inl a) :: r => f a x r
  | _ => False
def am_lr (st : List am_V) (f : Nat → Int → List am_V → Prop) : Prop := match st with
  | .inr (.inr (some x)) :: .inr (.inl a) :: r => f a x r
  | _ => False
def am_rr (st : List am_V) (f : Nat → Nat → List am_V → Prop) : Prop := match st with
  | .inr (.inl b) :: .inr (.inl a) :: r => f a b r
  | _ => False
def am_v1 (st : List am_V) (f : am_V → List am_V → Prop) : Prop := match st with
  | v :: r => cond (Nat.beq (am_cat v) 1) (f v r) False
  | _ => False
def am_v2 (st : List am_V) (f : am_V → am_V → List am_V → Prop) : Prop := match st with
  | v :: w :: r => cond (Nat.beq (am_cat v) 1 && Nat.beq (am_cat w) 1) (f v w r) False
  | _ => False
def am_gi (ls : List am_V) (i : Nat) (f : Int → Prop) : Prop := match ls[i]? with
  | some (.inl x) => f x
  | _ => False
def am_gl (ls : List am_V) (i : Nat) (f : Int → Prop) : Prop := match ls[i]? with
  | some (.inr (.inr (some x))) => f x
  | _ => False
def am_ga (ls : List am_V) (i : Nat) (f : Nat → Prop) : Prop := match ls[i]? with
  | some (.inr (.inl a)) => f a
  | _ => False
def am_xi (st : List am_V) (f : Int → Prop) : Prop := match st with
  | [.inl x] => f x
  | _ => False
def am_xl (st : List am_V) (f : Int → Prop) : Prop := match st with
  | [.inr (.inr (some x))] => f x
  | _ => False
def am_xr (st : List am_V) (f : Nat → Prop) : Prop := match st with
  | [.inr (.inl x)] => f x
  | _ => False
def am_xn (st : List am_V) (P : Prop) : Prop := match st with
  | [] => P
  | _ => False
def am_br (c : Jvm.ClassFile.Cond) (x y : Int) (A B : Prop) : Prop := match c with
  | .eq => (x = y → A) ∧ (x ≠ y → B)
  | .ne => (x ≠ y → A) ∧ (x = y → B)
  | .lt => (x < y → A) ∧ (y ≤ x → B)
  | .ge => (y ≤ x → A) ∧ (x < y → B)
  | .gt => (y < x → A) ∧ (x ≤ y → B)
  | .le => (x ≤ y → A) ∧ (y < x → B)
def am_sw (x : Int) (k : Nat → Prop) (d : Nat) : List (Int × Nat) → Prop
  | [] => k d
  | (v, t) :: ts => (x = v → k t) ∧ (x ≠ v → am_sw x k d ts)
def am_tsl : Int → List Int → List (Int × Nat)
  | _, [] => []
  | v, t :: ts => (v, t.toNat) :: am_tsl (v + 1) ts
def am_lsl : List (Int × Int) → List (Int × Nat)
  | [] => []
  | (v, t) :: ts => (v, t.toNat) :: am_lsl ts
/-- behind a call: the answer, by the kind that the method has -/
def am_rt (rc : Nat) (k : List am_V → am_S → Prop) (rest : List am_V) : am_Q := fun v σ => match rc with
  | 0 => v = none ∧ k rest σ
  | 2 => ∃ x : Int, v = some (.inr (.inr (some x))) ∧ k (.inr (.inr (some x)) :: rest) σ
  | 3 => ∃ a : Nat, v = some (.inr (.inl a)) ∧ k (.inr (.inl a) :: rest) σ
  | _ => ∃ x : Int, v = some (.inl x) ∧ k (.inl x :: rest) σ
def am_words (st : List am_V) : Nat := (st.map am_cat).sum
/-- a call can be made: so many operands lie there, little lies below them, the frame's own room holds what the callee may make -/
def am_fit (r m : Nat) (st : List am_V) (ct : Nat × Nat) : Bool :=
  Nat.ble (am_np r) st.length && (Nat.ble (am_fl (st.take (am_np r)).reverse).length (am_ml r) && (Nat.ble (am_words (st.drop (am_np r))) 8 && (Nat.ble (ct.1 + (am_bud r).1) (am_bud m).1 && Nat.ble (ct.2 + (am_bud r).2) (am_bud m).2)))
def am_inv (cl : Nat → List am_V → am_S → am_Q → Prop) (k : List am_V → (Nat × Nat) → am_S → Prop) (r m : Nat) (st : List am_V) (ct : Nat × Nat) (σ : am_S) : Prop :=
  cond (am_fit r m st ct) (cl r (st.take (am_np r)).reverse σ (am_rt (am_rc r) (fun st' σ' => k st' (ct.1 + (am_bud r).1, ct.2 + (am_bud r).2) σ') (st.drop (am_np r)))) False
def am_get (t : Nat) (I : Nat → Nat → Int) (L : Nat → Nat → Int) (R : Nat → Nat → Option Nat) (a j : Nat) (k : am_V → Prop) : Prop := match t with
  | 2 => am_nl (L a j) fun z => k (.inr (.inr (some z)))
  | 3 => ∃ b : Nat, R a j = some b ∧ k (.inr (.inl b))
  | _ => am_nm (I a j) fun z => k (.inl z)
def am_put (t : Nat) (st : List am_V) (kd : Nat → Prop) (ki : Nat → Int → List am_V → Prop) (kl : Nat → Int → List am_V → Prop) (kr : Nat → Nat → List am_V → Prop) : Prop := match t with
  | 0 => am_ir st fun a x r => kd a ∧ ki a x r
  | 1 => am_ir st fun a x r => kd a ∧ (x = 0 ∨ x = 1) ∧ ki a x r
  | 2 => am_lr st fun a x r => kd a ∧ kl a x r
  | 3 => am_rr st fun a b r => kd a ∧ kr a b r
  | _ => False
def am_tc : Jvm.ClassFile.ArrayType → Nat := fun x => match x with
  | .int => 0
  | .boolean => 1
  | .long => 2
  | .byte => 4
  | .char => 5
  | .short => 6
  | .float => 7
  | .double => 8
def am_ret (rc : Nat) (x : Int) (P : Prop) : Prop := match rc with
  | 1 => P
  | 4 => (x = 0 ∨ x = 1) ∧ P
  | 5 => (0 ≤ x ∧ x ≤ 65535) ∧ P
  | 6 => (-128 ≤ x ∧ x ≤ 127) ∧ P
  | _ => False
/-- one instruction -/
def am_ins (d : Nat) (k : am_C → Prop) (cl : Nat → List am_V → am_S → am_Q → Prop) (Q : am_Q) (i : Jvm.ClassFile.Instr) (m nx : Nat) (ls st : List am_V) (ct : Nat × Nat) (n : Nat) (K : Nat → am_K) (I : Nat → Nat → Int) (L : Nat → Nat → Int) (R : Nat → Nat → Option Nat) : Prop :=
  match i with
  | .iconst v => k (m, nx, ls, .inl v :: st, ct, n, K, I, L, R)
  | .bipush v => k (m, nx, ls, .inl v :: st, ct, n, K, I, L, R)
  | .sipush v => k (m, nx, ls, .inl v :: st, ct, n, K, I, L, R)
  | .jsr v => k (m, nx, ls, .inl v :: st, ct, n, K, I, L, R)
  | .lconst v => k (m, nx, ls, .inr (.inr (some ((v : Nat) : Int))) :: st, ct, n, K, I, L, R)
  | .goto_w v => k (m, nx, ls, .inl v :: st, ct, n, K, I, L, R)
  | .jsr_w v => k (m, nx, ls, .inr (.inr (some v)) :: st, ct, n, K, I, L, R)
  | .ldc a => k (m, nx, ls, .inr (.inl a) :: st, ct, n, K, I, L, R)
  | .getstatic v => k (m, nx, ls, .inl (v : Int) :: st, ct, n, K, I, L, R)
  | .iload j => am_gi ls j fun x => k (m, nx, ls, .inl x :: st, ct, n, K, I, L, R)
  | .iload_n j => am_gi ls (j : Nat) fun x => k (m, nx, ls, .inl x :: st, ct, n, K, I, L, R)
  | .lload j => am_gl ls j fun x => k (m, nx, ls, .inr (.inr (some x)) :: st, ct, n, K, I, L, R)
  | .lload_n j => am_gl ls (j : Nat) fun x => k (m, nx, ls, .inr (.inr (some x)) :: st, ct, n, K, I, L, R)
  | .aload j => am_ga ls j fun x => k (m, nx, ls, .inr (.inl x) :: st, ct, n, K, I, L, R)
  | .aload_n j => am_ga ls (j : Nat) fun x => k (m, nx, ls, .inr (.inl x) :: st, ct, n, K, I, L, R)
  | .istore j => am_i1 st fun x r => k (m, nx, am_st1 ls j (.inl x), r, ct, n, K, I, L, R)
  | .istore_n j => am_i1 st fun x r => k (m, nx, am_st1 ls (j : Nat) (.inl x), r, ct, n, K, I, L, R)
  | .lstore j => am_l1 st fun x r => k (m, nx, am_st2 ls j (.inr (.inr (some x))), r, ct, n, K, I, L, R)
  | .lstore_n j => am_l1 st fun x r => k (m, nx, am_st2 ls (j : Nat) (.inr (.inr (some x))), r, ct, n, K, I, L, R)
  | .astore j => am_r1 st fun x r => k (m, nx, am_st1 ls j (.inr (.inl x)), r, ct, n, K, I, L, R)
  | .astore_n j => am_r1 st fun x r => k (m, nx, am_st1 ls (j : Nat) (.inr (.inl x)), r, ct, n, K, I, L, R)
  | .iinc j v => am_gi ls j fun x => am_ar (x + v) fun z => k (m, nx, am_st1 ls j (.inl z), st, ct, n, K, I, L, R)
  | .iadd => am_i2 st fun x y r => am_ar (x + y) fun z => k (m, nx, ls, .inl z :: r, ct, n, K, I, L, R)
  | .isub => am_i2 st fun x y r => am_ar (x - y) fun z => k (m, nx, ls, .inl z :: r, ct, n, K, I, L, R)
  | .imul => am_i2 st fun x y r => am_ar (x * y) fun z => k (m, nx, ls, .inl z :: r, ct, n, K, I, L, R)
  | .iand => am_i2 st fun x y r => am_nm (am_and x y) fun z => k (m, nx, ls, .inl z :: r, ct, n, K, I, L, R)
  | .ior => am_i2 st fun x y r => am_nm (am_or x y) fun z => k (m, nx, ls, .inl z :: r, ct, n, K, I, L, R)
  | .ixor => am_i2 st fun x y r => am_nm (am_xor x y) fun z => k (m, nx, ls, .inl z :: r, ct, n, K, I, L, R)
  | .ishl => am_i2 st fun x y r => am_nm (am_shl x y) fun z => k (m, nx, ls, .inl z :: r, ct, n, K, I, L, R)
  | .ishr => am_i2 st fun x y r => am_nm (am_shr x y) fun z => k (m, nx, ls, .inl z :: r, ct, n, K, I, L, R)
  | .iushr => am_i2 st fun x y r => am_nm (am_ush x y) fun z => k (m, nx, ls, .inl z :: r, ct, n, K, I, L, R)
  | .idiv => am_i2 st fun x y r => y ≠ 0 ∧ am_nm (am_div x y) fun z => k (m, nx, ls, .inl z :: r, ct, n, K, I, L, R)
  | .irem => am_i2 st fun x y r => y ≠ 0 ∧ am_nm (am_rem x y) fun z => k (m, nx, ls, .inl z :: r, ct, n, K, I, L, R)
  | .ineg => am_i1 st fun x r => am_ar (-x) fun z => k (m, nx, ls, .inl z :: r, ct, n, K, I, L, R)
  | .i2l => am_i1 st fun x r => k (m, nx, ls, .inr (.inr (some x)) :: r, ct, n, K, I, L, R)
  | .i2c => am_i1 st fun x r => am_nm (am_i2c x) fun z => k (m, nx, ls, .inl z :: r, ct, n, K, I, L, R)
  | .i2b => am_i1 st fun x r => am_nm (am_i2b x) fun z => k (m, nx, ls, .inl z :: r, ct, n, K, I, L, R)
  | .l2i => am_l1 st fun x r => am_nm (am_l2i x) fun z => k (m, nx, ls, .inl z :: r, ct, n, K, I, L, R)
  | .ladd => am_l2 st fun x y r => am_al (x + y) fun z => k (m, nx, ls, .inr (.inr (some z)) :: r, ct, n, K, I, L, R)
  | .lsub => am_l2 st fun x y r => am_al (x - y) fun z => k (m, nx, ls, .inr (.inr (some z)) :: r, ct, n, K, I, L, R)
  | .lmul => am_l2 st fun x y r => am_al (x * y) fun z => k (m, nx, ls, .inr (.inr (some z)) :: r, ct, n, K, I, L, R)
  | .land => am_l2 st fun x y r => am_nl (am_land x y) fun z => k (m, nx, ls, .inr (.inr (some z)) :: r, ct, n, K, I, L, R)
  | .lor => am_l2 st fun x y r => am_nl (am_lor x y) fun z => k (m, nx, ls, .inr (.inr (some z)) :: r, ct, n, K, I, L, R)
  | .lxor => am_l2 st fun x y r => am_nl (am_lxor x y) fun z => k (m, nx, ls, .inr (.inr (some z)) :: r, ct, n, K, I, L, R)
  | .lcmp => am_l2 st fun x y r => am_nm (am_lc x y) fun z => k (m, nx, ls, .inl z :: r, ct, n, K, I, L, R)
  | .lshl => am_li st fun x y r => am_nl (am_lshl x y) fun z => k (m, nx, ls, .inr (.inr (some z)) :: r, ct, n, K, I, L, R)
  | .lshr => am_li st fun x y r => am_nl (am_lshr x y) fun z => k (m, nx, ls, .inr (.inr (some z)) :: r, ct, n, K, I, L, R)
  | .lushr => am_li st fun x y r => am_nl (am_lush x y) fun z => k (m, nx, ls, .inr (.inr (some z)) :: r, ct, n, K, I, L, R)
  | .dup => am_v1 st fun v r => k (m, nx, ls, v :: v :: r, ct, n, K, I, L, R)
  | .pop => am_v1 st fun _ r => k (m, nx, ls, r, ct, n, K, I, L, R)
  | .dup_x1 => am_v2 st fun v w r => k (m, nx, ls, v :: w :: v :: r, ct, n, K, I, L, R)
  | .dup2 => am_v2 st fun v w r => k (m, nx, ls, v :: w :: v :: w :: r, ct, n, K, I, L, R)
  | .ifCond c t => am_i1 st fun x r => am_br c x 0 (k (m, t.toNat, ls, r, ct, n, K, I, L, R)) (k (m, nx, ls, r, ct, n, K, I, L, R))
  | .if_icmp c t => am_i2 st fun x y r => am_br c x y (k (m, t.toNat, ls, r, ct, n, K, I, L, R)) (k (m, nx, ls, r, ct, n, K, I, L, R))
  | .goto t => k (m, t.toNat, ls, st, ct, n, K, I, L, R)
  | .tableswitch t lo _ os => am_i1 st fun x r => am_sw x (fun t => k (m, t, ls, r, ct, n, K, I, L, R)) t.toNat (am_tsl lo os.toList)
  | .lookupswitch t ps => am_i1 st fun x r => am_sw x (fun t => k (m, t, ls, r, ct, n, K, I, L, R)) t.toNat (am_lsl ps.toList)
  | .getfield q => am_r1 st fun a r => K a = .inl (q / 64) ∧ am_get (am_fty (q / 64) (q % 64)) I L R a (q % 64) fun v => k (m, nx, ls, v :: r, ct, n, K, I, L, R)
  | .putfield q => am_put (am_fty (q / 64) (q % 64)) st (fun a => am_nc ≤ a ∧ K a = .inl (q / 64)) (fun a x r => k (m, nx, ls, r, ct, n, K, am_u I a (q % 64) x, L, R)) (fun a x r => k (m, nx, ls, r, ct, n, K, I, am_u L a (q % 64) x, R)) (fun a b r => k (m, nx, ls, r, ct, n, K, I, L, am_u R a (q % 64) (some b)))
  | .iaload => am_ai st fun a j r => ∃ len : Nat, K a = .inr (0, len) ∧ (0 ≤ j ∧ j < (len : Int)) ∧ am_nm (I a j.toNat) fun z => k (m, nx, ls, .inl z :: r, ct, n, K, I, L, R)
  | .baload => am_ai st fun a j r => ∃ len : Nat, (am_nc ≤ a ∧ K a = .inr (1, len) ∨ K a = .inr (4, len)) ∧ (0 ≤ j ∧ j < (len : Int)) ∧ am_nm (I a j.toNat) fun z => k (m, nx, ls, .inl z :: r, ct, n, K, I, L, R)
  | .laload => am_ai st fun a j r => ∃ len : Nat, am_nc ≤ a ∧ K a = .inr (2, len) ∧ (0 ≤ j ∧ j < (len : Int)) ∧ am_nl (L a j.toNat) fun z => k (m, nx, ls, .inr (.inr (some z)) :: r, ct, n, K, I, L, R)
  | .iastore => am_aii st fun a j x r => ∃ len : Nat, am_nc ≤ a ∧ K a = .inr (0, len) ∧ (0 ≤ j ∧ j < (len : Int)) ∧ k (m, nx, ls, r, ct, n, K, am_u I a j.toNat x, L, R)
  | .bastore => am_aii st fun a j x r => ∃ len : Nat, am_nc ≤ a ∧ (K a = .inr (1, len) ∧ (x = 0 ∨ x = 1) ∨ K a = .inr (4, len) ∧ (-128 ≤ x ∧ x ≤ 127)) ∧ (0 ≤ j ∧ j < (len : Int)) ∧ k (m, nx, ls, r, ct, n, K, am_u I a j.toNat x, L, R)
  | .lastore => am_ail st fun a j x r => ∃ len : Nat, am_nc ≤ a ∧ K a = .inr (2, len) ∧ (0 ≤ j ∧ j < (len : Int)) ∧ k (m, nx, ls, r, ct, n, K, I, am_u L a j.toNat x, R)
  | .arraylength => am_r1 st fun a r => ∃ t len : Nat, K a = .inr (t, len) ∧ (a < am_nc ∧ t < 9 ∧ t ≠ 2 ∨ am_nc ≤ a ∧ (t < 3 ∨ t = 4)) ∧ (len : Int) ≤ 2147483647 ∧ k (m, nx, ls, .inl (len : Int) :: r, ct, n, K, I, L, R)
  | .new c => cond (Nat.ble (ct.1 + 1) (am_bud m).1 && Nat.ble (ct.2 + am_N c) (am_bud m).2) (k (m, nx, ls, .inr (.inl n) :: st, (ct.1 + 1, ct.2 + am_N c), n + 1, am_uK K n (.inl c), am_z I n 0, am_z L n 0, am_z R n none)) False
  | .newarray t => am_i1 st fun x r => 0 ≤ x ∧ ((Nat.ble (am_tc t) 2 || Nat.beq (am_tc t) 4) && (Nat.ble (ct.1 + 1) (am_bud m).1 && (Nat.ble (ct.2 + x.toNat) (am_bud m).2 && Nat.ble x.toNat 60000000))) = true ∧ k (m, nx, ls, .inr (.inl n) :: r, (ct.1 + 1, ct.2 + x.toNat), n + 1, am_uK K n (.inr (am_tc t, x.toNat)), am_z I n 0, am_z L n 0, am_z R n none)
  | .invokestatic r => match r with
    | 1 => am_i2 st fun x y r => (0 ≤ x ∧ x < y) ∧ cond (Nat.ble 2 d && Nat.ble (am_words r) 8) (k (m, nx, ls, r, ct, n, K, I, L, R)) False
    | 2 => am_i2 st fun x y r => cond (Nat.ble 1 d && Nat.ble (am_words r) 8) (am_nm (if x < y then y else x) fun z => k (m, nx, ls, .inl z :: r, ct, n, K, I, L, R)) False
    | 3 => am_i2 st fun x y r => cond (Nat.ble 1 d && Nat.ble (am_words r) 8) (am_nm (if y < x then y else x) fun z => k (m, nx, ls, .inl z :: r, ct, n, K, I, L, R)) False
    | _ => am_inv cl (fun st' ct' σ' => k (m, nx, ls, st', ct', σ')) r m st ct (n, K, I, L, R)
  | .invokespecial r => match r with
    | 0 => am_r1 st fun _ r => cond (Nat.ble 1 d && Nat.ble (am_words r) 8) (k (m, nx, ls, r, ct, n, K, I, L, R)) False
    | _ => am_r1 (st.drop (am_np r - 1)) fun _ _ => am_inv cl (fun st' ct' σ' => k (m, nx, ls, st', ct', σ')) r m st ct (n, K, I, L, R)
  | .invokevirtual r => am_r1 (st.drop (am_np r - 1)) fun a _ => K a = .inl (am_rcv r) ∧ am_inv cl (fun st' ct' σ' => k (m, nx, ls, st', ct', σ')) r m st ct (n, K, I, L, R)
  | .ireturn => am_xi st fun x => am_ret (am_rc m) x (Q (some (.inl x)) (n, K, I, L, R))
  | .lreturn => am_xl st fun x => cond (Nat.beq (am_rc m) 2) (Q (some (.inr (.inr (some x)))) (n, K, I, L, R)) False
  | .areturn => am_xr st fun x => cond (Nat.beq (am_rc m) 3) (Q (some (.inr (.inl x))) (n, K, I, L, R)) False
  | .return_ => am_xn st (cond (Nat.beq (am_rc m) 0) (Q none (n, K, I, L, R)) False)
  | _ => False
def am_step (d : Nat) (k : am_C → Prop) (cl : Nat → List am_V → am_S → am_Q → Prop) (Q : am_Q) (c : am_C) : Prop := match c with
  | (m, pc, ls, st, ct, n, K, I, L, R) => match am_code m pc with
    | none => False
    | some (i, nx, _) => am_ins d k cl Q i m nx ls st ct n K I L R
def am_cl (X : Nat → am_C → am_Q → Prop) (d : Nat) (r : Nat) (as : List am_V) (σ : am_S) (Q : am_Q) : Prop := match d with
  | 0 => False
  | e + 1 => X e (am_entry r as σ) Q
def am_pre (X : Nat → am_C → am_Q → Prop) : Prop := ∀ (d : Nat) (c : am_C) (Q : am_Q), am_step d (fun c' => X d c' Q) (am_cl X d) Q c → X d c Q
/-- THE WEAKEST PRECONDITION: with d frames left, from c the run ends, and Q holds of its answer and state -/
def am_WP (d : Nat) (c : am_C) (Q : am_Q) : Prop := ∀ X : Nat → am_C → am_Q → Prop, am_pre X → X d c Q
end
section
theorem am_ar_mono {e : Int} {f g : Int → Prop} (h : ∀ z, f z → g z) : am_ar e f → am_ar e g := fun w z q a b c => h z (w z q a b c)
theorem am_al_mono {e : Int} {f g : Int → Prop} (h : ∀ z, f z → g z) : am_al e f → am_al e g := fun w z q a b c => h z (w z q a b c)
theorem am_nm_mono {e : Int} {f g : Int → Prop} (h : ∀ z, f z → g z) : am_nm e f → am_nm e g := fun w z a b c => h z (w z a b c)
theorem am_nl_mono {e : Int} {f g : Int → Prop} (h : ∀ z, f z → g z) : am_nl e f → am_nl e g := fun w z a b c => h z (w z a b c)
theorem am_i1_mono {st : List am_V} {f g : Int → List am_V → Prop} (h : ∀ x r, f x r → g x r) : am_i1 st f → am_i1 st g := by
  unfold am_i1; split
  · exact h _ _
  · exact id
theorem am_i2_mono {st : List am_V} {f g : Int → Int → List am_V → Prop} (h : ∀ x y r, f x y r → g x y r) : am_i2 st f → am_i2 st g := by
  unfold am_i2; split
  · exact h _ _ _
  · exact id
theorem am_l1_mono {st : List am_V} {f g : Int → List am_V → Prop} (h : ∀ x r, f x r → g x r) : am_l1 st f → am_l1 st g := by
  unfold am_l1; split
  · exact h _ _
  · exact id
theorem am_l2_mono {st : List am_V} {f g : Int → Int → List am_V → Prop} (h : ∀ x y r, f x y r → g x y r) : am_l2 st f → am_l2 st g := by
  unfold am_l2; split
  · exact h _ _ _
  · exact id
theorem am_li_mono {st : List am_V} {f g : Int → Int → List am_V → Prop} (h : ∀ x y r, f x y r → g x y r) : am_li st f → am_li st g := by
  unfold am_li; split
  · exact h _ _ _
  · exact id
theorem am_r1_mono {st : List am_V} {f g : Nat → List am_V → Prop} (h : ∀ x r, f x r → g x r) : am_r1 st f → am_r1 st g := by
  unfold am_r1; split
  · exact h _ _
  · exact id
theorem am_ai_mono {st : List am_V} {f g : Nat → Int → List am_V → Prop} (h : ∀ x y r, f x y r → g x y r) : am_ai st f → am_ai st g := by
  unfold am_ai; split
  · exact h _ _ _
  · exact id
theorem am_aii_mono {st : List am_V} {f g : Nat → Int → Int → List am_V → Prop} (h : ∀ a x y r, f a x y r → g a x y r) : am_aii st f → am_aii st g := by
  unfold am_aii; split
  · exact h _ _ _ _
  · exact id
theorem am_ail_mono {st : List am_V} {f g : Nat → Int → Int → List am_V → Prop} (h : ∀ a x y r, f a x y r → g a x y r) : am_ail st f → am_ail st g := by
  unfold am_ail; split
  · exact h _ _ _ _
  · exact id
theorem am_ir_mono {st : List am_V} {f g : Nat → Int → List am_V → Prop} (h : ∀ x y r, f x y r → g x y r) : am_ir st f → am_ir st g := by
  unfold am_ir; split
  · exact h _ _ _
  · exact id
theorem am_lr_mono {st : List am_V} {f g : Nat → Int → List am_V → Prop} (h : ∀ x y r, f x y r → g x y r) : am_lr st f → am_lr st g := by
  unfold am_lr; split
  · exact h _ _ _
  · exact id
theorem am_rr_mono {st : List am_V} {f g : Nat → Nat → List am_V → Prop} (h : ∀ x y r, f x y r → g x y r) : am_rr st f → am_rr st g := by
  unfold am_rr; split
  · exact h _ _ _
  · exact id
theorem am_cond_mono {b : Bool} {A B : Prop} (h : A → B) : cond b A False → cond b B False := by
  cases b
  · exact id
  · exact h
theorem am_v1_mono {st : List am_V} {f g : am_V → List am_V → Prop} (h : ∀ x r, f x r → g x r) : am_v1 st f → am_v1 st g := by
  unfold am_v1; split
  · exact am_cond_mono (h _ _)
  · exact id
theorem am_v2_mono {st : List am_V} {f g : am_V → am_V → List am_V → Prop} (h : ∀ x y r, f x y r → g x y r) : am_v2 st f → am_v2 st g := by
  unfold am_v2; split
  · exact am_cond_mono (h _ _ _)
  · exact id
theorem am_gi_mono {ls : List am_V} {i : Nat} {f g : Int → Prop} (h : ∀ x, f x → g x) : am_gi ls i f → am_gi ls i g := by
  unfold am_gi; split
  · exact h _
  · exact id
theorem am_gl_mono {ls : List am_V} {i : Nat} {f g : Int → Prop} (h : ∀ x, f x → g x) : am_gl ls i f → am_gl ls i g := by
  unfold am_gl; split
  · exact h _
  · exact id
theorem am_ga_mono {ls : List am_V} {i : Nat} {f g : Nat → Prop} (h : ∀ x, f x → g x) : am_ga ls i f → am_ga ls i g := by
  unfold am_ga; split
  · exact h _
  · exact id
theorem am_xi_mono {st : List am_V} {f g : Int → Prop} (h : ∀ x, f x → g x) : am_xi st f → am_xi st g := by
  unfold am_xi; split
  · exact h _
  · exact id
theorem am_xl_mono {st : List am_V} {f g : Int → Prop} (h : ∀ x, f x → g x) : am_xl st f → am_xl st g := by
  unfold am_xl; split
  · exact h _
  · exact id
theorem am_xr_mono {st : List am_V} {f g : Nat → Prop} (h : ∀ x, f x → g x) : am_xr st f → am_xr st g := by
  unfold am_xr; split
  · exact h _
  · exact id
theorem am_xn_mono {st : List am_V} {A B : Prop} (h : A → B) : am_xn st A → am_xn st B := by
  unfold am_xn; split
  · exact h
  · exact id
theorem am_br_mono {c : Jvm.ClassFile.Cond} {x y : Int} {A B A' B' : Prop} (ha : A → A') (hb : B → B') : am_br c x y A B → am_br c x y A' B' := by
  cases c <;> exact fun h => ⟨fun q => ha (h.1 q), fun q => hb (h.2 q)⟩
theorem am_sw_mono {x : Int} {k k' : Nat → Prop} (h : ∀ t, k t → k' t) {d : Nat} : ∀ l : List (Int × Nat), am_sw x k d l → am_sw x k' d l := by
  intro l
  induction l with
  | nil => exact h d
  | cons q l ih =>
    obtain ⟨v, t⟩ := q
    exact fun z => ⟨fun e => h t (z.1 e), fun e => ih (z.2 e)⟩
theorem am_rt_mono {rc : Nat} {k k' : List am_V → am_S → Prop} (h : ∀ st σ, k st σ → k' st σ) {rest : List am_V} : ∀ v σ, am_rt rc k rest v σ → am_rt rc k' rest v σ := by
  intro v σ
  unfold am_rt
  split
  · exact fun z => ⟨z.1, h _ _ z.2⟩
  · exact fun ⟨x, z1, z2⟩ => ⟨x, z1, h _ _ z2⟩
  · exact fun ⟨x, z1, z2⟩ => ⟨x, z1, h _ _ z2⟩
  · exact fun ⟨x, z1, z2⟩ => ⟨x, z1, h _ _ z2⟩
theorem am_inv_mono {cl cl' : Nat → List am_V → am_S → am_Q → Prop} {k k' : List am_V → (Nat × Nat) → am_S → Prop} (hcl : ∀ r as σ (Q1 Q2 : am_Q), (∀ v σ, Q1 v σ → Q2 v σ) → cl r as σ Q1 → cl' r as σ Q2) (hk : ∀ st ct σ, k st ct σ → k' st ct σ) {r m : Nat} {st : List am_V} {ct : Nat × Nat} {σ : am_S} : am_inv cl k r m st ct σ → am_inv cl' k' r m st ct σ := by
  unfold am_inv
  exact am_cond_mono (hcl _ _ _ _ _ (am_rt_mono (fun st σ => hk st _ σ)))
theorem am_get_mono {t : Nat} {I : Nat → Nat → Int} {L : Nat → Nat → Int} {R : Nat → Nat → Option Nat} {a j : Nat} {k k' : am_V → Prop} (h : ∀ v, k v → k' v) : am_get t I L R a j k → am_get t I L R a j k' := by
  unfold am_get; split
  · exact am_nl_mono (fun _ => h _)
  · exact fun ⟨b, z1, z2⟩ => ⟨b, z1, h _ z2⟩
  · exact am_nm_mono (fun _ => h _)
theorem am_put_mono {t : Nat} {st : List am_V} {kd : Nat → Prop} {ki ki' : Nat → Int → List am_V → Prop} {kl kl' : Nat → Int → List am_V → Prop} {kr kr' : Nat → Nat → List am_V → Prop} (hi : ∀ a x r, ki a x r → ki' a x r) (hl : ∀ a x r, kl a x r → kl' a x r) (hr : ∀ a x r, kr a x r → kr' a x r) : am_put t st kd ki kl kr → am_put t st kd ki' kl' kr' := by
  unfold am_put; split
  · exact am_ir_mono (fun _ _ _ z => ⟨z.1, hi _ _ _ z.2⟩)
  · exact am_ir_mono (fun _ _ _ z => ⟨z.1, z.2.1, hi _ _ _ z.2.2⟩)
  · exact am_lr_mono (fun _ _ _ z => ⟨z.1, hl _ _ _ z.2⟩)
  · exact am_rr_mono (fun _ _ _ z => ⟨z.1, hr _ _ _ z.2⟩)
  · exact id
theorem am_ret_mono {rc : Nat} {x : Int} {A B : Prop} (h : A → B) : am_ret rc x A → am_ret rc x B := by
  unfold am_ret; split
  · exact h
  · exact fun z => ⟨z.1, h z.2⟩
  · exact fun z => ⟨z.1, h z.2⟩
  · exact fun z => ⟨z.1, h z.2⟩
  · exact id
set_option maxHeartbeats 4000000 in
theorem am_ins_mono {d d' : Nat} {k k' : am_C → Prop} {cl cl' : Nat → List am_V → am_S → am_Q → Prop} {Q Q' : am_Q} (hd : d ≤ d') (hk : ∀ c, k c → k' c) (hcl : ∀ r as σ (Q1 Q2 : am_Q), (∀ v σ, Q1 v σ → Q2 v σ) → cl r as σ Q1 → cl' r as σ Q2) (hQ : ∀ v σ, Q v σ → Q' v σ)
    (i : Jvm.ClassFile.Instr) (m nx : Nat) (ls st : List am_V) (ct : Nat × Nat) (n : Nat) (K : Nat → am_K) (I : Nat → Nat → Int) (L : Nat → Nat → Int) (R : Nat → Nat → Option Nat) (h : am_ins d k cl Q i m nx ls st ct n K I L R) : am_ins d' k' cl' Q' i m nx ls st ct n K I L R := by
  cases i with
  | iconst v => exact hk _ h
  | bipush v => exact hk _ h
  | sipush v => exact hk _ h
  | lconst v => exact hk _ h
  | jsr v => exact hk _ h
  | jsr_w v => exact hk _ h
  | goto_w v => exact hk _ h
  | ldc v => exact hk _ h
  | getstatic v => exact hk _ h
  | goto v => exact hk _ h
  | iload v => exact am_gi_mono (fun _ z => hk _ z) h
  | iload_n v => exact am_gi_mono (fun _ z => hk _ z) h
  | lload v => exact am_gl_mono (fun _ z => hk _ z) h
  | lload_n v => exact am_gl_mono (fun _ z => hk _ z) h
  | aload v => exact am_ga_mono (fun _ z => hk _ z) h
  | aload_n v => exact am_ga_mono (fun _ z => hk _ z) h
  | istore v => exact am_i1_mono (fun _ _ z => hk _ z) h
  | istore_n v => exact am_i1_mono (fun _ _ z => hk _ z) h
  | lstore v => exact am_l1_mono (fun _ _ z => hk _ z) h
  | lstore_n v => exact am_l1_mono (fun _ _ z => hk _ z) h
  | astore v => exact am_r1_mono (fun _ _ z => hk _ z) h
  | astore_n v => exact am_r1_mono (fun _ _ z => hk _ z) h
  | iinc v w => exact am_gi_mono (fun _ => am_ar_mono (fun _ => hk _)) h
  | iadd => exact am_i2_mono (fun _ _ _ => am_ar_mono (fun _ => hk _)) h
  | isub => exact am_i2_mono (fun _ _ _ => am_ar_mono (fun _ => hk _)) h
  | imul => exact am_i2_mono (fun _ _ _ => am_ar_mono (fun _ => hk _)) h
  | iand => exact am_i2_mono (fun _ _ _ => am_nm_mono (fun _ => hk _)) h
  | ior => exact am_i2_mono (fun _ _ _ => am_nm_mono (fun _ => hk _)) h
  | ixor => exact am_i2_mono (fun _ _ _ => am_nm_mono (fun _ => hk _)) h
  | idiv => exact am_i2_mono (fun _ _ _ z => ⟨z.1, am_nm_mono (fun _ => hk _) z.2⟩) h
  | irem => exact am_i2_mono (fun _ _ _ z => ⟨z.1, am_nm_mono (fun _ => hk _) z.2⟩) h
  | ishl => exact am_i2_mono (fun _ _ _ => am_nm_mono (fun _ => hk _)) h
  | ishr => exact am_i2_mono (fun _ _ _ => am_nm_mono (fun _ => hk _)) h
  | iushr => exact am_i2_mono (fun _ _ _ => am_nm_mono (fun _ => hk _)) h
  | ineg => exact am_i1_mono (fun _ _ => am_ar_mono (fun _ => hk _)) h
  | i2l => exact am_i1_mono (fun _ _ z => hk _ z) h
  | i2c => exact am_i1_mono (fun _ _ => am_nm_mono (fun _ => hk _)) h
  | i2b => exact am_i1_mono (fun _ _ => am_nm_mono (fun _ => hk _)) h
  | l2i => exact am_l1_mono (fun _ _ => am_nm_mono (fun _ => hk _)) h
  | ladd => exact am_l2_mono (fun _ _ _ => am_al_mono (fun _ => hk _)) h
  | lsub => exact am_l2_mono (fun _ _ _ => am_al_mono (fun _ => hk _)) h
  | lmul => exact am_l2_mono (fun _ _ _ => am_al_mono (fun _ => hk _)) h
  | land => exact am_l2_mono (fun _ _ _ => am_nl_mono (fun _ => hk _)) h
  | lor => exact am_l2_mono (fun _ _ _ => am_nl_mono (fun _ => hk _)) h
  | lxor => exact am_l2_mono (fun _ _ _ => am_nl_mono (fun _ => hk _)) h
  | lcmp => exact am_l2_mono (fun _ _ _ => am_nm_mono (fun _ => hk _)) h
  | lshl => exact am_li_mono (fun _ _ _ => am_nl_mono (fun _ => hk _)) h
  | lshr => exact am_li_mono (fun _ _ _ => am_nl_mono (fun _ => hk _)) h
  | lushr => exact am_li_mono (fun _ _ _ => am_nl_mono (fun _ => hk _)) h
  | dup => exact am_v1_mono (fun _ _ z => hk _ z) h
  | pop => exact am_v1_mono (fun _ _ z => hk _ z) h
  | dup_x1 => exact am_v2_mono (fun _ _ _ z => hk _ z) h
  | dup2 => exact am_v2_mono (fun _ _ _ z => hk _ z) h
  | ifCond c t => exact am_i1_mono (fun _ _ z => am_br_mono (hk _) (hk _) z) h
  | if_icmp c t => exact am_i2_mono (fun _ _ _ z => am_br_mono (hk _) (hk _) z) h
  | tableswitch a b c e => exact am_i1_mono (fun _ _ z => am_sw_mono (fun _ => hk _) _ z) h
  | lookupswitch a b => exact am_i1_mono (fun _ _ z => am_sw_mono (fun _ => hk _) _ z) h
  | getfield q => exact am_r1_mono (fun _ _ z => ⟨z.1, am_get_mono (fun _ => hk _) z.2⟩) h
  | putfield q => exact am_put_mono (fun _ _ _ => hk _) (fun _ _ _ => hk _) (fun _ _ _ => hk _) h
  | iaload => exact am_ai_mono (fun _ _ _ ⟨len, z1, z2, z3⟩ => ⟨len, z1, z2, am_nm_mono (fun _ => hk _) z3⟩) h
  | baload => exact am_ai_mono (fun _ _ _ ⟨len, z1, z2, z3⟩ => ⟨len, z1, z2, am_nm_mono (fun _ => hk _) z3⟩) h
  | laload => exact am_ai_mono (fun _ _ _ ⟨len, z0, z1, z2, z3⟩ => ⟨len, z0, z1, z2, am_nl_mono (fun _ => hk _) z3⟩) h
  | iastore => exact am_aii_mono (fun _ _ _ _ ⟨len, z0, z1, z2, z3⟩ => ⟨len, z0, z1, z2, hk _ z3⟩) h
  | bastore => exact am_aii_mono (fun _ _ _ _ ⟨len, z0, z1, z2, z3⟩ => ⟨len, z0, z1, z2, hk _ z3⟩) h
  | lastore => exact am_ail_mono (fun _ _ _ _ ⟨len, z0, z1, z2, z3⟩ => ⟨len, z0, z1, z2, hk _ z3⟩) h
  | arraylength => exact am_r1_mono (fun _ _ ⟨t, len, z1, z2, z4, z3⟩ => ⟨t, len, z1, z2, z4, hk _ z3⟩) h
  | new c => exact am_cond_mono (hk _) h
  | newarray t => exact am_i1_mono (fun _ _ z => ⟨z.1, z.2.1, hk _ z.2.2⟩) h
  | invokestatic r =>
    match r, h with
    | 0, h =>
      have h1 : am_inv cl (fun st' ct' σ' => k (m, nx, ls, st', ct', σ')) 0 m st ct (n, K, I, L, R) := h
      exact am_inv_mono (k' := fun st' ct' σ' => k' (m, nx, ls, st', ct', σ')) hcl (fun _ _ _ => hk _) h1
    | 1, h =>
      refine am_i2_mono (fun x y r z => ⟨z.1, ?_⟩) h
      have z2 := z.2
      cases hb : (Nat.ble 2 d && Nat.ble (am_words r) 8) with
      | false => rw [hb] at z2; exact z2.elim
      | true =>
        rw [hb] at z2
        have hb' : (Nat.ble 2 d' && Nat.ble (am_words r) 8) = true := by
          rw [Bool.and_eq_true] at hb ⊢
          exact ⟨Nat.ble_eq.mpr (Nat.le_trans (Nat.ble_eq.mp hb.1) hd), hb.2⟩
        rw [hb']
        exact hk _ z2
    | 2, h =>
      refine am_i2_mono (fun x y r z => ?_) h
      cases hb : (Nat.ble 1 d && Nat.ble (am_words r) 8) with
      | false => rw [hb] at z; exact z.elim
      | true =>
        rw [hb] at z
        have hb' : (Nat.ble 1 d' && Nat.ble (am_words r) 8) = true := by
          rw [Bool.and_eq_true] at hb ⊢
          exact ⟨Nat.ble_eq.mpr (Nat.le_trans (Nat.ble_eq.mp hb.1) hd), hb.2⟩
        rw [hb']
        exact am_nm_mono (fun _ => hk _) z
    | 3, h =>
      refine am_i2_mono (fun x y r z => ?_) h
      cases hb : (Nat.ble 1 d && Nat.ble (am_words r) 8) with
      | false => rw [hb] at z; exact z.elim
      | true =>
        rw [hb] at z
        have hb' : (Nat.ble 1 d' && Nat.ble (am_words r) 8) = true := by
          rw [Bool.and_eq_true] at hb ⊢
          exact ⟨Nat.ble_eq.mpr (Nat.le_trans (Nat.ble_eq.mp hb.1) hd), hb.2⟩
        rw [hb']
        exact am_nm_mono (fun _ => hk _) z
    | r + 4, h =>
      have h1 : am_inv cl (fun st' ct' σ' => k (m, nx, ls, st', ct', σ')) (r + 4) m st ct (n, K, I, L, R) := h
      exact am_inv_mono (k' := fun st' ct' σ' => k' (m, nx, ls, st', ct', σ')) hcl (fun _ _ _ => hk _) h1
  | invokespecial r =>
    cases r with
    | zero =>
      refine am_r1_mono (fun a r z => ?_) h
      cases hb : (Nat.ble 1 d && Nat.ble (am_words r) 8) with
      | false => rw [hb] at z; exact z.elim
      | true =>
        rw [hb] at z
        have hb' : (Nat.ble 1 d' && Nat.ble (am_words r) 8) = true := by
          rw [Bool.and_eq_true] at hb ⊢
          exact ⟨Nat.ble_eq.mpr (Nat.le_trans (Nat.ble_eq.mp hb.1) hd), hb.2⟩
        rw [hb']
        exact hk _ z
    | succ r => exact am_r1_mono (fun _ _ z => am_inv_mono hcl (fun _ _ _ => hk _) z) h
  | invokevirtual r => exact am_r1_mono (fun _ _ z => ⟨z.1, am_inv_mono hcl (fun _ _ _ => hk _) z.2⟩) h
  | ireturn => exact am_xi_mono (fun _ z => am_ret_mono (hQ _ _) z) h
  | lreturn => exact am_xl_mono (fun _ z => am_cond_mono (hQ _ _) z) h
  | areturn => exact am_xr_mono (fun _ z => am_cond_mono (hQ _ _) z) h
  | return_ => exact am_xn_mono (fun z => am_cond_mono (hQ _ _) z) h
  | _ => exact h.elim
theorem am_step_mono {d d' : Nat} {k k' : am_C → Prop} {cl cl' : Nat → List am_V → am_S → am_Q → Prop} {Q Q' : am_Q} (hd : d ≤ d') (hk : ∀ c, k c → k' c) (hcl : ∀ r as σ (Q1 Q2 : am_Q), (∀ v σ, Q1 v σ → Q2 v σ) → cl r as σ Q1 → cl' r as σ Q2) (hQ : ∀ v σ, Q v σ → Q' v σ) (c : am_C) (h : am_step d k cl Q c) : am_step d' k' cl' Q' c := by
  obtain ⟨m, pc, ls, st, ct, n, K, I, L, R⟩ := c
  unfold am_step at h ⊢
  dsimp only at h ⊢
  cases hc : am_code m pc with
  | none => rw [hc] at h; exact h.elim
  | some q =>
    obtain ⟨i, nx, ix⟩ := q
    rw [hc] at h
    exact am_ins_mono hd hk hcl hQ _ _ _ _ _ _ _ _ _ _ _ h
theorem am_WP.mono {d : Nat} {c : am_C} {Q Q' : am_Q} (hQ : ∀ v σ, Q v σ → Q' v σ) (h : am_WP d c Q) : am_WP d c Q' := by
  intro X hX
  refine h (fun d c Q => ∀ Q2 : am_Q, (∀ v σ, Q v σ → Q2 v σ) → X d c Q2) ?_ Q' hQ
  intro d c Q hs Q2 h2
  refine hX d c Q2 (am_step_mono (Nat.le_refl _) (fun c' z => z Q2 h2) ?_ h2 c hs)
  intro r as σ Q1 Q3 h13 z
  cases d with
  | zero => exact z.elim
  | succ e => exact z Q3 h13
theorem am_cl_mono {d : Nat} {r : Nat} {as : List am_V} {σ : am_S} {Q1 Q2 : am_Q} (h : ∀ v σ, Q1 v σ → Q2 v σ) (z : am_cl am_WP d r as σ Q1) : am_cl am_WP d r as σ Q2 := by
  cases d with
  | zero => exact z.elim
  | succ e => exact am_WP.mono h z
theorem am_WP.step {d : Nat} {c : am_C} {Q : am_Q} (h : am_step d (fun c' => am_WP d c' Q) (am_cl am_WP d) Q c) : am_WP d c Q := by
  intro X hX
  refine hX d c Q (am_step_mono (Nat.le_refl _) (fun c' z => z X hX) ?_ (fun _ _ z => z) c h)
  intro r as σ Q1 Q2 h12 z
  cases d with
  | zero => exact z.elim
  | succ e => exact am_WP.mono h12 z X hX
/-- a stretch of instructions up to the next cut -/
def am_in (x : Nat) : List Nat → Bool
  | [] => false
  | y :: r => cond (Nat.beq x y) true (am_in x r)
def am_blk (cs : List Nat) (d : Nat) (k : am_C → Prop) (cl : Nat → List am_V → am_S → am_Q → Prop) (Q : am_Q) : Nat → am_C → Prop
  | 0, c => k c
  | s + 1, c => cond (am_in c.2.1 cs) (k c) (am_step d (am_blk cs d k cl Q s) cl Q c)
theorem am_blk_WP {cs : List Nat} {d : Nat} {Q : am_Q} : ∀ (s : Nat) (c : am_C), am_blk cs d (fun c' => am_WP d c' Q) (am_cl am_WP d) Q s c → am_WP d c Q := by
  intro s
  induction s with
  | zero => exact fun c h => h
  | succ s ih =>
    intro c h
    unfold am_blk at h
    cases hc : am_in c.2.1 cs with
    | true => rw [hc] at h; exact h
    | false =>
      rw [hc] at h
      exact am_WP.step (am_step_mono (d := d) (cl := am_cl am_WP d) (cl' := am_cl am_WP d) (Nat.le_refl _) ih (fun _ _ _ _ _ h12 z => am_cl_mono h12 z) (fun _ _ z => z) c h)
theorem am_WP.blk (cs : List Nat) (s : Nat) {d : Nat} {c : am_C} {Q : am_Q} (h : am_step d (am_blk cs d (fun c' => am_WP d c' Q) (am_cl am_WP d) Q s) (am_cl am_WP d) Q c) : am_WP d c Q :=
  am_WP.step (am_step_mono (d := d) (cl := am_cl am_WP d) (cl' := am_cl am_WP d) (Nat.le_refl _) (am_blk_WP s) (fun _ _ _ _ _ h12 z => am_cl_mono h12 z) (fun _ _ z => z) c h)
/-- more frames do no harm -/
theorem am_WP.deep {d : Nat} {c : am_C} {Q : am_Q} (h : am_WP d c Q) : ∀ e, d ≤ e → am_WP e c Q := by
  refine h (fun d c Q => ∀ e, d ≤ e → am_WP e c Q) ?_
  intro d c Q hs e he
  refine am_WP.step (am_step_mono he (fun c' z => z e he) ?_ (fun _ _ z => z) c hs)
  intro r as σ Q1 Q2 h12 z
  cases d with
  | zero => exact z.elim
  | succ d =>
    cases e with
    | zero => omega
    | succ e => exact am_WP.mono h12 (z e (by omega))
end
section
/-! HOW THE SMALL MACHINE'S STATE LIES IN THE HEAP. Cells below am_nc are constants (text literals, the script): they lie anywhere below B0 and are never written; cell am_nc + j lies at B0 + j. -/
def am_rho (ad : Nat → Nat) (B0 : Nat) (a : Nat) : Nat := if a < am_nc then ad a else B0 + (a - am_nc)
def am_cv (ρ : Nat → Nat) : am_V → Value
  | .inl x => .int (Int32.ofInt x)
  | .inr (.inl a) => .ref (ρ a)
  | .inr (.inr (some x)) => .long (Int64.ofInt x)
  | .inr (.inr none) => .retAddr 0
theorem am_cv_cat (ρ : Nat → Nat) (v : am_V) : (am_cv ρ v).category = am_cat v := by
  match v with
  | .inl x => rfl
  | .inr (.inl a) => rfl
  | .inr (.inr (some x)) => rfl
  | .inr (.inr none) => rfl
def am_rg (v : am_V) : Prop := match v with
  | .inl x => -2147483648 ≤ x ∧ x ≤ 2147483647
  | .inr (.inr (some x)) => -9223372036854775808 ≤ x ∧ x ≤ 9223372036854775807
  | _ => True
def am_rgs (l : List am_V) : Prop := ∀ v ∈ l, am_rg v
def am_Rg (I L : Nat → Nat → Int) : Prop := (∀ a j, -2147483648 ≤ I a j ∧ I a j ≤ 2147483647) ∧ ∀ a j, -9223372036854775808 ≤ L a j ∧ L a j ≤ 9223372036854775807
theorem am_rgs_nil : am_rgs [] := fun _ h => absurd h List.not_mem_nil
theorem am_rgs_cons {v : am_V} {l : List am_V} (h1 : am_rg v) (h2 : am_rgs l) : am_rgs (v :: l) := by
  intro w hw
  rcases List.mem_cons.mp hw with rfl | h
  · exact h1
  · exact h2 w h
theorem am_rgs_hd {v : am_V} {l : List am_V} (h : am_rgs (v :: l)) : am_rg v := h v List.mem_cons_self
theorem am_rgs_tl {v : am_V} {l : List am_V} (h : am_rgs (v :: l)) : am_rgs l := fun w hw => h w (List.mem_cons_of_mem _ hw)
theorem am_rgs_sub {l l' : List am_V} (h : am_rgs l) (hs : ∀ v ∈ l', v ∈ l) : am_rgs l' := fun v hv => h v (hs v hv)
theorem am_rgs_set {l : List am_V} {i : Nat} {v : am_V} (h : am_rgs l) (hv : am_rg v) : am_rgs (l.set i v) := by
  intro w hw
  rcases List.mem_or_eq_of_mem_set hw with h1 | h1
  · exact h w h1
  · rw [h1]; exact hv
theorem am_rgs_clr {l : List am_V} {i : Nat} (h : am_rgs l) : am_rgs (am_clr l i) := by
  unfold am_clr
  split
  · exact h
  · split
    · exact am_rgs_set h trivial
    · exact h
theorem am_rgs_st1 {l : List am_V} {i : Nat} {v : am_V} (h : am_rgs l) (hv : am_rg v) : am_rgs (am_st1 l i v) := am_rgs_set (am_rgs_clr h) hv
theorem am_rgs_st2 {l : List am_V} {i : Nat} {v : am_V} (h : am_rgs l) (hv : am_rg v) : am_rgs (am_st2 l i v) := am_rgs_set (am_rgs_set (am_rgs_clr h) hv) trivial
theorem am_fl_mem : ∀ (vs : List am_V) (w : am_V), w ∈ am_fl vs → w ∈ vs ∨ w = .inr (.inr none) := by
  intro vs
  induction vs with
  | nil => intro w h; exact absurd h List.not_mem_nil
  | cons v vs ih =>
    intro w h
    have one : w ∈ v :: am_fl vs → w ∈ v :: vs ∨ w = .inr (.inr none) := by
      intro h
      rcases List.mem_cons.mp h with rfl | h
      · exact Or.inl List.mem_cons_self
      · rcases ih w h with h | h
        · exact Or.inl (List.mem_cons_of_mem _ h)
        · exact Or.inr h
    match v, h, one with
    | .inl x, h, one => exact one h
    | .inr (.inl a), h, one => exact one h
    | .inr (.inr none), h, one => exact one h
    | .inr (.inr (some x)), h, one =>
      have h' : w ∈ (.inr (.inr (some x)) : am_V) :: .inr (.inr none) :: am_fl vs := h
      rcases List.mem_cons.mp h' with rfl | h1
      · exact Or.inl List.mem_cons_self
      · rcases List.mem_cons.mp h1 with h2 | h2
        · exact Or.inr h2
        · rcases ih w h2 with h | h
          · exact Or.inl (List.mem_cons_of_mem _ h)
          · exact Or.inr h
theorem am_pad_mem : ∀ (vs : List am_V) (n : Nat) (w : am_V), w ∈ am_pad vs n → w ∈ vs ∨ w = .inr (.inr none) := by
  intro vs
  induction vs with
  | nil => intro n w h; exact Or.inr (List.eq_of_mem_replicate h)
  | cons v vs ih =>
    intro n w h
    rw [am_pad] at h
    rcases List.mem_cons.mp h with rfl | h
    · exact Or.inl List.mem_cons_self
    · rcases ih _ w h with h | h
      · exact Or.inl (List.mem_cons_of_mem _ h)
      · exact Or.inr h
theorem am_rgs_entry {as : List am_V} {n : Nat} (h : am_rgs as) : am_rgs (am_pad (am_fl as) n) := by
  intro w hw
  rcases am_pad_mem _ _ _ hw with h1 | h1
  · rcases am_fl_mem _ _ h1 with h2 | h2
    · exact h w h2
    · rw [h2]; trivial
  · rw [h1]; trivial
def am_fv (ρ : Nat → Nat) (t : Nat) (I : Nat → Nat → Int) (L : Nat → Nat → Int) (R : Nat → Nat → Option Nat) (a j : Nat) : Value := match t with
  | 2 => .long (Int64.ofInt (L a j))
  | 3 => va_rf ((R a j).map ρ)
  | _ => .int (Int32.ofInt (I a j))
abbrev am_G : Type := (Nat → ClassId) × (Nat → Nat → Nat) × (Nat → ClassId) × (Nat → Nat) × Nat
def am_r (G : am_G) : Nat → Nat := am_rho G.2.2.2.1 G.2.2.2.2
def am_A (G : am_G) : Nat → Prop := fun q => G.2.2.2.2 ≤ q
def am_cell (G : am_G) (K : Nat → am_K) (I : Nat → Nat → Int) (L : Nat → Nat → Int) (R : Nat → Nat → Option Nat) (a : Nat) (H : Heap) : Prop := match K a with
  | .inl ci => ∃ q : vw_C, am_cls[ci]? = some q ∧ t_OB (am_r G a) (G.1 ci) q.2.2 (G.2.1 ci) H (fun k => am_fv (am_r G) (am_fty ci k) I L R a k)
  | .inr (t, len) => H[am_r G a]? = some (arrV (G.2.2.1 t) len (fun j => am_fv (am_r G) t I L R a j))
/-- the constants' part of a state -/
abbrev am_Z : Type := (Nat → am_K) × (Nat → Nat → Int) × (Nat → Nat → Option Nat)
def am_Hp (G : am_G) (Zc : am_Z) (σ : am_S) (H : Heap) : Prop := match σ with
  | (n, K, I, L, R) => am_nc ≤ n ∧ H.size = G.2.2.2.2 + (n - am_nc) ∧ (∀ a, n ≤ a → K a = .inr (99, 0)) ∧ (∀ a, am_nc ≤ a → a < n → am_cell G K I L R a H) ∧ (∀ a, a < am_nc → K a = Zc.1 a ∧ I a = Zc.2.1 a ∧ R a = Zc.2.2 a) ∧ am_Rg I L
abbrev am_tys (G : am_G) : List (ClassId × FieldType) := [(G.2.2.1 0, .int), (G.2.2.1 1, .boolean), (G.2.2.1 2, .long), (G.2.2.1 4, .byte)]
def am_ty (t : Nat) : FieldType := match t with
  | 0 => .int
  | 1 => .boolean
  | 2 => .long
  | 4 => .byte
  | 5 => .char
  | 6 => .short
  | _ => .int
/-- the constants, in the heap of a state -/
def am_Cst (G : am_G) (Zc : am_Z) (s : State) : Prop :=
  (∀ a, a < am_nc → match Zc.1 a with
    | .inl ci => am_cls[ci]? = none ∧ va_O (am_cn ci) (am_r G a) (am_A G) s s.heap ∧ ∀ k, k < am_cN ci → va_OF (am_cT ci k).1 (am_cT ci k).2.1 (am_cT ci k).2.2.1 (am_fv (am_r G) (am_fty ci k) Zc.2.1 (fun _ _ => 0) Zc.2.2 a k) (am_r G a) (am_A G) s s.heap
    | .inr (t, len) => t < 9 → va_T (am_ty t) (am_r G a) len (fun j => am_fv (am_r G) t Zc.2.1 (fun _ _ => 0) Zc.2.2 a j) (am_A G) s s.heap) ∧
  (∀ q ∈ am_strs, vk_R q.1 q.2.1 q.2.2.1 (am_r G q.2.2.2) s) ∧
  (∀ q ∈ am_stats, va_Z q.1 q.2.1 q.2.2.1 (.int (Int32.ofNat q.2.2.2)) (am_A G) s s.heap) ∧
  va_Zq "jdk/internal/util/Preconditions" "SIOOBE_FORMATTER" "Ljava/util/function/BiFunction;" (am_A G) s s.heap ∧
  ∀ q ∈ am_nsts, va_Nw (.methodLinkNest q.1 q.2.1 q.2.2.1 q.2.2.2) s
theorem am_r_inj {G : am_G} {a b : Nat} (ha : am_nc ≤ a) (hb : am_nc ≤ b) (h : am_r G a = am_r G b) : a = b := by
  unfold am_r am_rho at h
  rw [if_neg (by omega), if_neg (by omega)] at h
  omega
theorem am_r_A {G : am_G} {a : Nat} (ha : am_nc ≤ a) : am_A G (am_r G a) := by
  unfold am_A am_r am_rho
  rw [if_neg (by omega)]
  omega
theorem am_fv_other {ρ : Nat → Nat} {t : Nat} {I I' : Nat → Nat → Int} {L L' : Nat → Nat → Int} {R R' : Nat → Nat → Option Nat} {a j : Nat} (hI : I' a = I a) (hL : L' a = L a) (hR : R' a = R a) : am_fv ρ t I' L' R' a j = am_fv ρ t I L R a j := by
  unfold am_fv
  rw [hI, hL, hR]
theorem am_cell_other {G : am_G} {K K' : Nat → am_K} {I I' : Nat → Nat → Int} {L L' : Nat → Nat → Int} {R R' : Nat → Nat → Option Nat} {a : Nat} {H H1 : Heap} (hK : K' a = K a) (hI : I' a = I a) (hL : L' a = L a) (hR : R' a = R a) (hH : H1[am_r G a]? = H[am_r G a]?) (h : am_cell G K I L R a H) : am_cell G K' I' L' R' a H1 := by
  unfold am_cell at h ⊢
  rw [hK]
  split
  · rename_i ci e
    rw [e] at h
    obtain ⟨q, h1, h2⟩ := h
    exact ⟨q, h1, (h2.kept hH).to (fun k _ => (am_fv_other hI hL hR).symm)⟩
  · rename_i t len e
    rw [e] at h
    dsimp only at h
    rw [hH, h]
    congr 2
    funext j
    exact (am_fv_other hI hL hR).symm
theorem am_u_row {α : Type} {f : Nat → Nat → α} {a k b : Nat} {v : α} (h : b ≠ a) : am_u f a k v b = f b := by
  funext j
  simp [am_u, h]
theorem am_z_row {α : Type} {f : Nat → Nat → α} {a b : Nat} {v : α} (h : b ≠ a) : am_z f a v b = f b := by
  funext j
  simp [am_z, h]
theorem am_uK_ne {K : Nat → am_K} {a b : Nat} {v : am_K} (h : b ≠ a) : am_uK K a v b = K b := by simp [am_uK, h]
theorem am_Rg_z {I L : Nat → Nat → Int} {n : Nat} (h : am_Rg I L) : am_Rg (am_z I n 0) (am_z L n 0) := by
  refine ⟨fun a j => ?_, fun a j => ?_⟩
  · unfold am_z
    split
    · exact ⟨by decide, by decide⟩
    · exact h.1 a j
  · unfold am_z
    split
    · exact ⟨by decide, by decide⟩
    · exact h.2 a j
theorem am_Rg_uI {I L : Nat → Nat → Int} {a k : Nat} {x : Int} (h : am_Rg I L) (hx : -2147483648 ≤ x ∧ x ≤ 2147483647) : am_Rg (am_u I a k x) L := by
  refine ⟨fun b j => ?_, h.2⟩
  unfold am_u
  split
  · split
    · exact hx
    · exact h.1 b j
  · exact h.1 b j
theorem am_Rg_uL {I L : Nat → Nat → Int} {a k : Nat} {x : Int} (h : am_Rg I L) (hx : -9223372036854775808 ≤ x ∧ x ≤ 9223372036854775807) : am_Rg I (am_u L a k x) := by
  refine ⟨h.1, fun b j => ?_⟩
  unfold am_u
  split
  · split
    · exact hx
    · exact h.2 b j
  · exact h.2 b j
/-- a write into one cell -/
theorem am_Hp.write {G : am_G} {Zc : am_Z} {n : Nat} {K : Nat → am_K} {I I' : Nat → Nat → Int} {L L' : Nat → Nat → Int} {R R' : Nat → Nat → Option Nat} {H H1 : Heap} {a : Nat} (h : am_Hp G Zc (n, K, I, L, R) H) (ha : am_nc ≤ a) (hI : ∀ b, b ≠ a → I' b = I b) (hL : ∀ b, b ≠ a → L' b = L b) (hR : ∀ b, b ≠ a → R' b = R b) (z : H1.size = H.size) (oq : ∀ q, q ≠ am_r G a → H1[q]? = H[q]?) (hc : am_cell G K I' L' R' a H1) (hrg : am_Rg I' L') : am_Hp G Zc (n, K, I', L', R') H1 := by
  obtain ⟨h1, h2, h3, h4, h5, h6⟩ := h
  refine ⟨h1, z.trans h2, h3, fun b hb hbn => ?_, fun b hb => ?_, hrg⟩
  · by_cases e : b = a
    · subst e; exact hc
    · exact am_cell_other rfl (hI b e) (hL b e) (hR b e) (oq _ (fun q => e (am_r_inj hb ha q))) (h4 b hb hbn)
  · have e : b ≠ a := by omega
    obtain ⟨g1, g2, g3⟩ := h5 b hb
    exact ⟨g1, (hI b e).trans g2, (hR b e).trans g3⟩
theorem am_Hp.lt {G : am_G} {Zc : am_Z} {n : Nat} {K : Nat → am_K} {I : Nat → Nat → Int} {L : Nat → Nat → Int} {R : Nat → Nat → Option Nat} {H : Heap} (h : am_Hp G Zc (n, K, I, L, R) H) {a : Nat} (hk : K a ≠ .inr (99, 0)) : a < n := by
  rcases Nat.lt_or_ge a n with q | q
  · exact q
  · exact absurd (h.2.2.1 a q) hk
/-- a new cell -/
theorem am_Hp.grow {G : am_G} {Zc : am_Z} {n : Nat} {K : Nat → am_K} {I : Nat → Nat → Int} {L : Nat → Nat → Int} {R : Nat → Nat → Option Nat} {H H1 : Heap} {v : am_K} (h : am_Hp G Zc (n, K, I, L, R) H) (z : H1.size = H.size + 1) (oq : ∀ q, q < H.size → H1[q]? = H[q]?) (hc : am_cell G (am_uK K n v) (am_z I n 0) (am_z L n 0) (am_z R n none) n H1) : am_Hp G Zc (n + 1, am_uK K n v, am_z I n 0, am_z L n 0, am_z R n none) H1 := by
  obtain ⟨h1, h2, h3, h4, h5, h6⟩ := h
  refine ⟨by omega, by rw [z, h2]; omega, fun a ha => ?_, fun a ha han => ?_, fun a ha => ?_, am_Rg_z h6⟩
  · rw [am_uK_ne (by omega)]
    exact h3 a (by omega)
  · by_cases e : a = n
    · subst e; exact hc
    · refine am_cell_other (am_uK_ne e) (am_z_row e) (am_z_row e) (am_z_row e) (oq _ ?_) (h4 a ha (by omega))
      unfold am_r am_rho
      rw [if_neg (by omega), h2]
      omega
  · rw [am_uK_ne (by omega), am_z_row (by omega), am_z_row (by omega)]
    exact h5 a ha
theorem am_Hp.top {G : am_G} {Zc : am_Z} {n : Nat} {K : Nat → am_K} {I : Nat → Nat → Int} {L : Nat → Nat → Int} {R : Nat → Nat → Option Nat} {H : Heap} (h : am_Hp G Zc (n, K, I, L, R) H) : H.size = am_r G n := by
  unfold am_r am_rho
  rw [if_neg (by have := h.1; omega)]
  exact h.2.1
/-- the locals -/
def am_prs (ρ : Nat → Nat) : Nat → List am_V → List (Nat × Value)
  | _, [] => []
  | i, .inr (.inr none) :: vs => am_prs ρ (i + 1) vs
  | i, v :: vs => (i, am_cv ρ v) :: am_prs ρ (i + 1) vs
def am_un : am_V → Bool
  | .inr (.inr none) => true
  | _ => false
theorem am_prs_cons (ρ : Nat → Nat) (i : Nat) (v : am_V) (vs : List am_V) : am_prs ρ i (v :: vs) = if am_un v = true then am_prs ρ (i + 1) vs else (i, am_cv ρ v) :: am_prs ρ (i + 1) vs := by
  match v with
  | .inl x => rfl
  | .inr (.inl a) => rfl
  | .inr (.inr (some x)) => rfl
  | .inr (.inr none) => rfl
theorem am_prs_mem {ρ : Nat → Nat} : ∀ (vs : List am_V) (i : Nat) (q : Nat × Value), q ∈ am_prs ρ i vs ↔ ∃ (j : Nat) (v : am_V), vs[j]? = some v ∧ am_un v = false ∧ q = (i + j, am_cv ρ v) := by
  intro vs
  induction vs with
  | nil => intro i q; simp [am_prs]
  | cons v vs ih =>
    intro i q
    rw [am_prs_cons]
    constructor
    · intro h
      split at h
      · obtain ⟨j, w, h1, h2, h3⟩ := (ih _ _).mp h
        exact ⟨j + 1, w, by simpa using h1, h2, by rw [h3]; congr 1; omega⟩
      · rename_i hv
        rcases List.mem_cons.mp h with h | h
        · exact ⟨0, v, rfl, by simpa using hv, by rw [h]; rfl⟩
        · obtain ⟨j, w, h1, h2, h3⟩ := (ih _ _).mp h
          exact ⟨j + 1, w, by simpa using h1, h2, by rw [h3]; congr 1; omega⟩
    · rintro ⟨j, w, h1, h2, h3⟩
      cases j with
      | zero =>
        simp at h1
        subst h1
        rw [if_neg (by rw [h2]; decide), h3]
        exact List.mem_cons_self
      | succ j =>
        have h4 : q ∈ am_prs ρ (i + 1) vs := (ih _ _).mpr ⟨j, w, by simpa using h1, h2, by rw [h3]; congr 1; omega⟩
        split
        · exact h4
        · exact List.mem_cons_of_mem _ h4
abbrev am_lh (ρ : Nat → Nat) (lsA : Array Slot) (n : Nat) (ls : List am_V) : Prop := lv_has lsA n (am_prs ρ 0 ls)
theorem am_lh_at {ρ : Nat → Nat} {lsA : Array Slot} {n : Nat} {ls : List am_V} (h : am_lh ρ lsA n ls) {i : Nat} {v : am_V} (hv : ls[i]? = some v) (hu : am_un v = false) : lsA[i]? = some (.val (am_cv ρ v)) := by
  have h1 := h.2.2 (i, am_cv ρ v) ((am_prs_mem ls 0 _).mpr ⟨i, v, hv, hu, by simp⟩)
  exact h1
theorem am_clr_get {ls : List am_V} {i j : Nat} {v : am_V} (hj : (am_clr ls i)[j]? = some v) (hu : am_un v = false) : ls[j]? = some v ∧ ¬ (j + 1 = i ∧ am_cat v = 2) := by
  unfold am_clr at hj
  split at hj
  · exact ⟨hj, by omega⟩
  · rename_i i
    split at hj
    · rename_i x e
      by_cases hji : j = i
      · subst hji
        rw [List.getElem?_set_self (List.getElem?_eq_some_iff.mp e).1] at hj
        cases hj
        exact absurd hu (by decide)
      · rw [List.getElem?_set_ne (Ne.symm hji)] at hj
        exact ⟨hj, fun q => hji (by omega)⟩
    · rename_i e1
      refine ⟨hj, fun q => ?_⟩
      have hji : j = i := by omega
      subst hji
      match v, hj, q with
      | .inl x, _, q => exact absurd (show 1 = 2 from q.2) (by decide)
      | .inr (.inl a), _, q => exact absurd (show 1 = 2 from q.2) (by decide)
      | .inr (.inr none), _, q => exact absurd q.2 (by decide)
      | .inr (.inr (some x)), hj, _ => exact e1 x hj
theorem am_lh_st1 {ρ : Nat → Nat} {lsA : Array Slot} {n : Nat} {ls : List am_V} {i : Nat} {v : am_V} (h : lv_has lsA n ((i, am_cv ρ v) :: (am_prs ρ 0 ls).filter (fun q => !(q.1 == i) && !(q.1 + 1 == i && q.2.category == 2)))) : am_lh ρ lsA n (am_st1 ls i v) := by
  refine ⟨h.1, h.2.1, fun q hq => h.2.2 q ?_⟩
  obtain ⟨j, w, h1, h2, h3⟩ := (am_prs_mem _ _ _).mp hq
  rw [Nat.zero_add] at h3
  subst h3
  unfold am_st1 at h1
  by_cases e : j = i
  · subst e
    rw [List.getElem?_set] at h1
    simp at h1
    obtain ⟨-, rfl⟩ := h1
    exact List.mem_cons_self
  · rw [List.getElem?_set_ne (Ne.symm e)] at h1
    obtain ⟨g1, g2⟩ := am_clr_get h1 h2
    refine List.mem_cons_of_mem _ (List.mem_filter.mpr ⟨(am_prs_mem _ _ _).mpr ⟨j, w, g1, h2, by simp⟩, ?_⟩)
    rw [← am_cv_cat ρ w] at g2
    simp only [Bool.and_eq_true, Bool.not_eq_true', beq_eq_false_iff_ne, Bool.and_eq_false_iff, beq_iff_eq]
    refine ⟨e, ?_⟩
    by_cases e2 : j + 1 = i
    · exact Or.inr (fun q => g2 ⟨e2, q⟩)
    · exact Or.inl e2
theorem am_lh_st2 {ρ : Nat → Nat} {lsA : Array Slot} {n : Nat} {ls : List am_V} {i : Nat} {v : am_V} (h : lv_has lsA n ((i, am_cv ρ v) :: (am_prs ρ 0 ls).filter (fun q => !(q.1 == i) && (!(q.1 == i + 1) && !(q.1 + 1 == i && q.2.category == 2))))) : am_lh ρ lsA n (am_st2 ls i v) := by
  refine ⟨h.1, h.2.1, fun q hq => h.2.2 q ?_⟩
  obtain ⟨j, w, h1, h2, h3⟩ := (am_prs_mem _ _ _).mp hq
  rw [Nat.zero_add] at h3
  subst h3
  unfold am_st2 at h1
  by_cases e1 : j = i + 1
  · subst e1
    rw [List.getElem?_set] at h1
    simp at h1
    obtain ⟨-, rfl⟩ := h1
    exact absurd h2 (by decide)
  · rw [List.getElem?_set_ne (Ne.symm e1)] at h1
    by_cases e : j = i
    · subst e
      rw [List.getElem?_set] at h1
      simp at h1
      obtain ⟨-, rfl⟩ := h1
      exact List.mem_cons_self
    · rw [List.getElem?_set_ne (Ne.symm e)] at h1
      obtain ⟨g1, g2⟩ := am_clr_get h1 h2
      refine List.mem_cons_of_mem _ (List.mem_filter.mpr ⟨(am_prs_mem _ _ _).mpr ⟨j, w, g1, h2, by simp⟩, ?_⟩)
      rw [← am_cv_cat ρ w] at g2
      simp only [Bool.and_eq_true, Bool.not_eq_true', beq_eq_false_iff_ne, Bool.and_eq_false_iff, beq_iff_eq]
      refine ⟨e, e1, ?_⟩
      by_cases e2 : j + 1 = i
      · exact Or.inr (fun q => g2 ⟨e2, q⟩)
      · exact Or.inl e2
theorem am_pad_get : ∀ (vs : List am_V) (n j : Nat) (v : am_V), (am_pad vs n)[j]? = some v → am_un v = false → vs[j]? = some v := by
  intro vs
  induction vs with
  | nil =>
    intro n j v h hu
    rw [am_pad, List.getElem?_replicate] at h
    split at h
    · cases h; exact absurd hu (by decide)
    · cases h
  | cons w vs ih =>
    intro n j v h hu
    cases j with
    | zero => simpa [am_pad] using h
    | succ j =>
      rw [am_pad, List.getElem?_cons_succ] at h
      rw [List.getElem?_cons_succ]
      exact ih _ _ _ h hu
theorem am_fl_args {ρ : Nat → Nat} : ∀ (vs : List am_V) (i j : Nat) (v : am_V), (am_fl vs)[j]? = some v → am_un v = false → (i + j, am_cv ρ v) ∈ lv_args i (vs.map (am_cv ρ)) := by
  intro vs
  induction vs with
  | nil => intro i j v h; simp [am_fl] at h
  | cons w vs ih =>
    intro i j v h hu
    have two : ∀ (h' : (w :: .inr (.inr none) :: am_fl vs)[j]? = some v) (hc : am_cat w = 2), (i + j, am_cv ρ v) ∈ lv_args i ((w :: vs).map (am_cv ρ)) := by
      intro h' hc
      rw [List.map_cons, lv_args, am_cv_cat, if_pos hc]
      match j, h' with
      | 0, h' =>
        simp at h'
        subst h'
        exact List.mem_cons_self
      | 1, h' =>
        simp at h'
        subst h'
        exact absurd hu (by decide)
      | j + 2, h' =>
        have h2 := ih (i + 2) j v (by simpa using h') hu
        rw [show i + (j + 2) = i + 2 + j by omega]
        exact List.mem_cons_of_mem _ h2
    have one : ∀ (h' : (w :: am_fl vs)[j]? = some v) (hc : am_cat w ≠ 2), (i + j, am_cv ρ v) ∈ lv_args i ((w :: vs).map (am_cv ρ)) := by
      intro h' hc
      rw [List.map_cons, lv_args, am_cv_cat, if_neg hc]
      match j, h' with
      | 0, h' =>
        simp at h'
        subst h'
        exact List.mem_cons_self
      | j + 1, h' =>
        have h2 := ih (i + 1) j v (by simpa using h') hu
        rw [show i + (j + 1) = i + 1 + j by omega]
        exact List.mem_cons_of_mem _ h2
    match w, h, one, two with
    | .inl x, h, one, _ => exact one h (fun q => absurd (show 1 = 2 from q) (by decide))
    | .inr (.inl a), h, one, _ => exact one h (fun q => absurd (show 1 = 2 from q) (by decide))
    | .inr (.inr none), h, one, _ => exact one h (by decide)
    | .inr (.inr (some x)), h, _, two => exact two h rfl
theorem am_lh_entry {ρ : Nat → Nat} {lsA : Array Slot} {n : Nat} {as : List am_V} (h : lv_has lsA n (lv_args 0 (as.map (am_cv ρ)))) : am_lh ρ lsA n (am_pad (am_fl as) n) := by
  refine ⟨h.1, h.2.1, fun q hq => ?_⟩
  obtain ⟨j, v, h1, h2, rfl⟩ := (am_prs_mem _ _ _).mp hq
  exact h.2.2 _ (am_fl_args as 0 j v (am_pad_get _ _ _ _ h1 h2) h2)
end
section
theorem am_rgI (y : Int32) : -2147483648 ≤ y.toInt ∧ y.toInt ≤ 2147483647 := by
  have h1 := Int32.le_toInt y
  have h2 := Int32.toInt_lt y
  omega
theorem am_rgL (y : Int64) : -9223372036854775808 ≤ y.toInt ∧ y.toInt ≤ 9223372036854775807 := by
  have h1 := Int64.le_toInt y
  have h2 := Int64.toInt_lt y
  omega
theorem am_to {x : Int} (h : -2147483648 ≤ x ∧ x ≤ 2147483647) : (Int32.ofInt x).toInt = x := Int32.toInt_ofInt_of_le (by omega) (by omega)
theorem am_toL {x : Int} (h : -9223372036854775808 ≤ x ∧ x ≤ 9223372036854775807) : (Int64.ofInt x).toInt = x := Int64.toInt_ofInt_of_le (by omega) (by omega)
theorem am_wr (e : Int) : ∃ q : Int, (Int32.ofInt e).toInt = e + 4294967296 * q := by
  have h : (Int32.ofInt e).toInt = e.bmod 4294967296 := Int32.toInt_ofInt
  rw [h, Int.bmod_def]
  split
  · exact ⟨-(e / 4294967296), by omega⟩
  · exact ⟨-(e / 4294967296) - 1, by omega⟩
theorem am_wrL (e : Int) : ∃ q : Int, (Int64.ofInt e).toInt = e + 18446744073709551616 * q := by
  have h : (Int64.ofInt e).toInt = e.bmod 18446744073709551616 := Int64.toInt_ofInt
  rw [h, Int.bmod_def]
  split
  · exact ⟨-(e / 18446744073709551616), by omega⟩
  · exact ⟨-(e / 18446744073709551616) - 1, by omega⟩
theorem am_ar_e {e : Int} {f : Int → Prop} (h : am_ar e f) : ∃ z : Int, Int32.ofInt e = Int32.ofInt z ∧ (-2147483648 ≤ z ∧ z ≤ 2147483647) ∧ f z := by
  obtain ⟨q, hq⟩ := am_wr e
  have hr := am_rgI (Int32.ofInt e)
  exact ⟨(Int32.ofInt e).toInt, (Int32.ofInt_toInt _).symm, hr, h _ q hq hr.1 hr.2⟩
theorem am_al_e {e : Int} {f : Int → Prop} (h : am_al e f) : ∃ z : Int, Int64.ofInt e = Int64.ofInt z ∧ (-9223372036854775808 ≤ z ∧ z ≤ 9223372036854775807) ∧ f z := by
  obtain ⟨q, hq⟩ := am_wrL e
  have hr := am_rgL (Int64.ofInt e)
  exact ⟨(Int64.ofInt e).toInt, (Int64.ofInt_toInt _).symm, hr, h _ q hq hr.1 hr.2⟩
theorem am_nm_e {y : Int32} {f : Int → Prop} (h : am_nm y.toInt f) : ∃ z : Int, y = Int32.ofInt z ∧ (-2147483648 ≤ z ∧ z ≤ 2147483647) ∧ f z := by
  have hr := am_rgI y
  exact ⟨y.toInt, (Int32.ofInt_toInt y).symm, hr, h _ rfl hr.1 hr.2⟩
theorem am_nl_e {y : Int64} {f : Int → Prop} (h : am_nl y.toInt f) : ∃ z : Int, y = Int64.ofInt z ∧ (-9223372036854775808 ≤ z ∧ z ≤ 9223372036854775807) ∧ f z := by
  have hr := am_rgL y
  exact ⟨y.toInt, (Int64.ofInt_toInt y).symm, hr, h _ rfl hr.1 hr.2⟩
theorem am_e_add {x y : Int} {f : Int → Prop} (h : am_ar (x + y) f) : ∃ z : Int, Int32.ofInt x + Int32.ofInt y = Int32.ofInt z ∧ (-2147483648 ≤ z ∧ z ≤ 2147483647) ∧ f z := by
  rw [← Int32.ofInt_add]; exact am_ar_e h
theorem am_e_sub {x y : Int} {f : Int → Prop} (h : am_ar (x - y) f) : ∃ z : Int, Int32.ofInt x - Int32.ofInt y = Int32.ofInt z ∧ (-2147483648 ≤ z ∧ z ≤ 2147483647) ∧ f z := by
  rw [← Int32.ofInt_sub]; exact am_ar_e h
theorem am_e_mul {x y : Int} {f : Int → Prop} (h : am_ar (x * y) f) : ∃ z : Int, Int32.ofInt x * Int32.ofInt y = Int32.ofInt z ∧ (-2147483648 ≤ z ∧ z ≤ 2147483647) ∧ f z := by
  rw [← Int32.ofInt_mul]; exact am_ar_e h
theorem am_e_neg {x : Int} {f : Int → Prop} (h : am_ar (-x) f) : ∃ z : Int, -Int32.ofInt x = Int32.ofInt z ∧ (-2147483648 ≤ z ∧ z ≤ 2147483647) ∧ f z := by
  rw [← Int32.ofInt_neg]; exact am_ar_e h
theorem am_e_ladd {x y : Int} {f : Int → Prop} (h : am_al (x + y) f) : ∃ z : Int, Int64.ofInt x + Int64.ofInt y = Int64.ofInt z ∧ (-9223372036854775808 ≤ z ∧ z ≤ 9223372036854775807) ∧ f z := by
  rw [← Int64.ofInt_add]; exact am_al_e h
theorem am_e_lsub {x y : Int} {f : Int → Prop} (h : am_al (x - y) f) : ∃ z : Int, Int64.ofInt x - Int64.ofInt y = Int64.ofInt z ∧ (-9223372036854775808 ≤ z ∧ z ≤ 9223372036854775807) ∧ f z := by
  rw [← Int64.ofInt_sub]; exact am_al_e h
theorem am_e_lmul {x y : Int} {f : Int → Prop} (h : am_al (x * y) f) : ∃ z : Int, Int64.ofInt x * Int64.ofInt y = Int64.ofInt z ∧ (-9223372036854775808 ≤ z ∧ z ≤ 9223372036854775807) ∧ f z := by
  rw [← Int64.ofInt_mul]; exact am_al_e h
theorem am_eqI {x y : Int} (hx : -2147483648 ≤ x ∧ x ≤ 2147483647) (hy : -2147483648 ≤ y ∧ y ≤ 2147483647) : Int32.ofInt x = Int32.ofInt y ↔ x = y := by
  rw [← Int32.toInt_inj, am_to hx, am_to hy]
theorem am_ltI {x y : Int} (hx : -2147483648 ≤ x ∧ x ≤ 2147483647) (hy : -2147483648 ≤ y ∧ y ≤ 2147483647) : Int32.ofInt x < Int32.ofInt y ↔ x < y := by
  rw [Int32.lt_iff_toInt_lt, am_to hx, am_to hy]
theorem am_leI {x y : Int} (hx : -2147483648 ≤ x ∧ x ≤ 2147483647) (hy : -2147483648 ≤ y ∧ y ≤ 2147483647) : Int32.ofInt x ≤ Int32.ofInt y ↔ x ≤ y := by
  rw [Int32.le_iff_toInt_le, am_to hx, am_to hy]
theorem am_zI : (0 : Int32) = Int32.ofInt 0 := by decide
theorem am_ixI {j : Int} {len : Nat} (h : 0 ≤ j ∧ j < (len : Int)) (hr : -2147483648 ≤ j ∧ j ≤ 2147483647) : (Int32.ofInt j).toNatClampNeg = j.toNat ∧ vp_in (Int32.ofInt j) len := by
  have h1 : (Int32.ofInt j).toNatClampNeg = j.toNat := by
    rw [Int32.toNatClampNeg, am_to hr]
  refine ⟨h1, fun q => ?_⟩
  rcases q with q | q
  · rw [am_zI, am_ltI hr ⟨by decide, by decide⟩] at q
    omega
  · rw [h1] at q
    omega
theorem am_b8 {v : Int} (h : -128 ≤ v ∧ v ≤ 127) : (Int8.ofInt v).toInt32 = Int32.ofInt v := by
  rw [← Int32.toInt_inj, Int8.toInt_toInt32, Int8.toInt_ofInt_of_le (by omega) (by omega), am_to (by omega)]
theorem am_b16 {v : Int} (h : -32768 ≤ v ∧ v ≤ 32767) : (Int16.ofInt v).toInt32 = Int32.ofInt v := by
  rw [← Int32.toInt_inj, Int16.toInt_toInt32, Int16.toInt_ofInt_of_le (by omega) (by omega), am_to (by omega)]
theorem am_i2l {x : Int} (h : -2147483648 ≤ x ∧ x ≤ 2147483647) : (Int32.ofInt x).toInt64 = Int64.ofInt x := by
  rw [← Int64.toInt_inj, Int32.toInt_toInt64, am_to h, am_toL (by omega)]
theorem am_lcI {x y : Int} (hx : -9223372036854775808 ≤ x ∧ x ≤ 9223372036854775807) (hy : -9223372036854775808 ≤ y ∧ y ≤ 9223372036854775807) : lg_cmp (Int64.ofInt x) (Int64.ofInt y) = Int32.ofInt (am_lc x y) := by
  unfold lg_cmp am_lc
  have h1 : Int64.ofInt x > Int64.ofInt y ↔ y < x := by
    show Int64.ofInt y < Int64.ofInt x ↔ y < x
    rw [Int64.lt_iff_toInt_lt, am_toL hx, am_toL hy]
  have h2 : Int64.ofInt x = Int64.ofInt y ↔ x = y := by
    rw [← Int64.toInt_inj, am_toL hx, am_toL hy]
  by_cases g1 : y < x
  · rw [if_pos g1, if_pos (h1.mpr g1)]; decide
  · rw [if_neg g1, if_neg (fun q => g1 (h1.mp q))]
    by_cases g2 : x = y
    · rw [if_pos g2, if_pos (h2.mpr g2)]; decide
    · rw [if_neg g2, if_neg (fun q => g2 (h2.mp q))]; decide
theorem am_bool {x : Int} (h : x = 0 ∨ x = 1) : narrow .boolean (.int (Int32.ofInt x)) = .int (Int32.ofInt x) := by
  rcases h with rfl | rfl <;> decide +kernel
theorem am_char {x : Int} (h : 0 ≤ x ∧ x ≤ 65535) : narrow .char (.int (Int32.ofInt x)) = .int (Int32.ofInt x) := by
  have e : ((Int32.ofInt x).toUInt32 % 65536).toInt32 = Int32.ofInt x := by
    obtain ⟨n, rfl⟩ := Int.eq_ofNat_of_zero_le h.1
    apply Int32.toBitVec_inj.mp
    apply BitVec.eq_of_toNat_eq
    have h2 : n < 65536 := by omega
    simp [Int32.toBitVec_ofInt, UInt32.toBitVec_mod]
    omega
  rw [← e]
  exact pk_nc _
theorem am_byte {x : Int} (h : -128 ≤ x ∧ x ≤ 127) : narrow .byte (.int (Int32.ofInt x)) = .int (Int32.ofInt x) := by
  show Value.int (Int32.ofInt x).toInt8.toInt32 = .int (Int32.ofInt x)
  have e : (Int32.ofInt x).toInt8.toInt32 = Int32.ofInt x := by
    rw [← Int32.toInt_inj, Int8.toInt_toInt32, Int32.toInt_toInt8, am_to (by omega)]
    have h1 : x.bmod (2 ^ 8) = x.bmod 256 := rfl
    rw [h1, Int.bmod_def]
    split <;> omega
  rw [e]
end
section
/-! WHAT THE TABLES MUST SAY OF EVERY ROW (am_okI), AND WHAT A RUN OF THE SMALL MACHINE SAYS OF THE LARGE ONE (am_Sem). -/
def am_gw (w : Cond) : Prop := w ∈ lw_tbl.filter goodWord
theorem am_gw_of {w : Cond} (j : Nat) (h : lw_tbl[j]? = some w) (hg : goodWord w = true) : am_gw w := List.mem_filter.mpr ⟨List.mem_of_getElem? h, hg⟩
def am_ws (r : Nat) : List Cond := Cond.code (am_y r) (am_by r) (am_ml r) (am_rT r) :: lw_tbl.filter goodWord
def am_rcT (rc : Nat) (t : Option FieldType) : Prop := match rc with
  | 0 => t = none
  | 1 => t = some .int
  | 2 => t = some .long
  | 3 => ∃ u : FieldType, t = some u ∧ ((∃ n, u = .object n) ∨ ∃ v, u = .array v)
  | 4 => t = some .boolean
  | 5 => t = some .char
  | 6 => t = some .byte
  | _ => False
/-- a method that can be called -/
def am_okC (r : Nat) : Prop := am_gw (Cond.code (am_y r) (am_by r) (am_ml r) (am_rT r)) ∧ am_gw (Cond.initialized (am_y r).cls) ∧ ((am_y r).cls ≠ "java/lang/invoke/MethodHandle" ∧ (am_y r).cls ≠ "java/lang/invoke/VarHandle") ∧ plainName (am_y r).cls = true ∧ am_ml r ≤ 41 ∧ am_rcT (am_rc r) (am_rT r)
def am_okL0 (own host : String) (ix r : Nat) : Prop := am_gw (Cond.methodLink own ix (am_y r)) ∨ (own, ix, am_y r, host) ∈ am_nsts
abbrev am_okL (m ix r : Nat) : Prop := am_okL0 (am_y m).cls (am_host m) ix r
def am_okF0 (own host : String) (ix ci k : Nat) : Prop := match am_cls[ci]? with
  | some (_, T, N) => k < N ∧ (am_gw (Cond.fieldLink own ix (T k).1 (T k).2.1 (T k).2.2.1) ∨ am_gw (Cond.fieldLinkNest own ix (T k).1 (T k).2.1 (T k).2.2.1 host))
  | none => k < am_cN ci ∧ am_gw (Cond.fieldLink own ix (am_cT ci k).1 (am_cT ci k).2.1 (am_cT ci k).2.2.1)
abbrev am_okF (m ix ci k : Nat) : Prop := am_okF0 (am_y m).cls (am_host m) ix ci k
def am_okP0 (own host nm : String) (ix ci k : Nat) : Prop := match am_cls[ci]? with
  | some (_, T, N) => k < N ∧ ((T k).2.2.2 = false ∧ (am_gw (Cond.fieldLink own ix (T k).1 (T k).2.1 (T k).2.2.1) ∨ am_gw (Cond.fieldLinkNest own ix (T k).1 (T k).2.1 (T k).2.2.1 host)) ∨ (T k).2.2.2 = true ∧ nm = "<init>" ∧ (T k).1 = own ∧ am_gw (Cond.fieldLink own ix (T k).1 (T k).2.1 (T k).2.2.1))
  | none => False
abbrev am_okP (m ix ci k : Nat) : Prop := am_okP0 (am_y m).cls (am_host m) (am_y m).name ix ci k
def am_len (i : Jvm.ClassFile.Instr) : Nat := match i with
  | .bipush _ | .iload _ | .lload _ | .aload _ | .istore _ | .lstore _ | .astore _ | .newarray _ => 2
  | .sipush _ | .iinc _ _ => 3
  | _ => 1
/-- the instruction as it stands in the code, and its length -/
def am_dec (pc : Nat) (i : Jvm.ClassFile.Instr) (ix : Nat) : Jvm.ClassFile.Instr × Nat := match i with
  | .jsr _ => (.ldc ix, 2)
  | .jsr_w _ => (.ldc2_w ix, 3)
  | .goto_w _ => (.ldc_w ix, 3)
  | .ldc _ => (.ldc ix, 2)
  | .getstatic _ => (.getstatic ix, 3)
  | .ifCond c t => (.ifCond c (t - (pc : Int)), 3)
  | .if_icmp c t => (.if_icmp c (t - (pc : Int)), 3)
  | .goto t => (.goto (t - (pc : Int)), 3)
  | .tableswitch t lo hi os => (.tableswitch (t - (pc : Int)) lo hi (os.map fun o => o - (pc : Int)), ix)
  | .lookupswitch t ps => (.lookupswitch (t - (pc : Int)) (ps.map fun q => (q.1, q.2 - (pc : Int))), ix)
  | .getfield _ => (.getfield ix, 3)
  | .putfield _ => (.putfield ix, 3)
  | .new _ => (.new ix, 3)
  | .invokestatic _ => (.invokestatic ix, 3)
  | .invokespecial _ => (.invokespecial ix, 3)
  | .invokevirtual _ => (.invokevirtual ix, 3)
  | i => (i, am_len i)
def am_okD (m pc : Nat) (i : Jvm.ClassFile.Instr) (nx ix : Nat) : Prop := decode (am_by m) pc = .ok (am_dec pc i ix) ∧ nx = pc + (am_dec pc i ix).2
/-- what an instruction wants of the tables -/
def am_okW (m pc : Nat) (i : Jvm.ClassFile.Instr) (ix : Nat) : Prop := match i with
  | .iconst v => -2147483648 ≤ v ∧ v ≤ 2147483647
  | .bipush v => -128 ≤ v ∧ v ≤ 127
  | .sipush v => -32768 ≤ v ∧ v ≤ 32767
  | .istore j | .astore j | .iinc j _ => j < am_ml m
  | .istore_n j | .astore_n j => (j : Nat) < am_ml m
  | .lstore j => j + 1 < am_ml m
  | .lstore_n j => (j : Nat) + 1 < am_ml m
  | .newarray t => am_gw (Cond.arrayClass (newarray.typeOf t))
  | .jsr v | .goto_w v => (-2147483648 ≤ v ∧ v ≤ 2147483647) ∧ am_gw (Cond.constant (am_y m).cls ix (Int32.ofInt v))
  | .jsr_w v => (-9223372036854775808 ≤ v ∧ v ≤ 9223372036854775807) ∧ am_gw (Cond.constantLong (am_y m).cls ix (Int64.ofInt v))
  | .ldc a => ∃ tx : String, ((am_y m).cls, ix, tx, a) ∈ am_strs
  | .getstatic v => (v : Int) ≤ 2147483647 ∧ ∃ C f e : String, (C, f, e, v) ∈ am_stats ∧ am_gw (Cond.fieldLink (am_y m).cls ix C f e)
  | .ifCond _ t | .if_icmp _ t | .goto t => 0 ≤ t
  | .tableswitch t lo hi os => 0 ≤ t ∧ (∀ o ∈ os.toList, 0 ≤ o) ∧ hi = lo + (os.toList.length : Int) - 1 ∧ -2147483648 ≤ lo ∧ hi ≤ 2147483647
  | .lookupswitch t ps => 0 ≤ t ∧ (∀ q ∈ ps.toList, 0 ≤ q.2 ∧ -2147483648 ≤ q.1 ∧ q.1 ≤ 2147483647) ∧ (((ps.map fun q => (q.1, q.2 - (pc : Int))).toList.zip ((ps.map fun q => (q.1, q.2 - (pc : Int))).toList.drop 1)).all (fun (a, next) => a.1 < next.1) = true)
  | .getfield q => am_okF m ix (q / 64) (q % 64)
  | .putfield q => am_okP m ix (q / 64) (q % 64)
  | .new c => ∃ q : vw_C, am_cls[c]? = some q ∧ am_N c = q.2.2 ∧ am_gw (Cond.classLink (am_y m).cls ix q.1) ∧ am_gw (Cond.instantiable q.1 q.2.2) ∧ am_gw (Cond.initialized q.1)
  | .invokestatic r => match r with
    | 1 => am_okL m ix 1
    | 2 => am_gw (Cond.methodLink (am_y m).cls ix Lib.Math.max.name) ∧ am_gw (Cond.static Lib.Math.max.name) ∧ am_gw (Cond.initialized "java/lang/Math") ∧ am_gw (Cond.code Lib.Math.max.name Lib.Math.max.code 2 (some .int))
    | 3 => am_gw (Cond.methodLink (am_y m).cls ix Lib.Math.min.name) ∧ am_gw (Cond.static Lib.Math.min.name) ∧ am_gw (Cond.initialized "java/lang/Math") ∧ am_gw (Cond.code Lib.Math.min.name Lib.Math.min.code 2 (some .int))
    | _ => am_okC r ∧ am_okL m ix r ∧ am_gw (Cond.static (am_y r)) ∧ (parseMethodDescriptor (am_y r).desc).map (fun d => d.parameters.length) = some (am_np r)
  | .invokespecial r => match r with
    | 0 => am_gw (Cond.methodLink (am_y m).cls ix objectInit) ∧ am_gw (Cond.instanceMethod objectInit) ∧ am_gw (Cond.code objectInit ⟨#[0xb1]⟩ 1 none)
    | _ => am_okC r ∧ am_okL m ix r ∧ (am_y r).name = "<init>" ∧ am_rT r = none ∧ am_gw (Cond.instanceMethod (am_y r)) ∧ (parseMethodDescriptor (am_y r).desc).map (fun d => d.parameters.length + 1) = some (am_np r)
  | .invokevirtual r => am_okC r ∧ am_okL m ix r ∧ am_gw (Cond.instanceMethod (am_y r)) ∧ (parseMethodDescriptor (am_y r).desc).map (fun d => d.parameters.length + 1) = some (am_np r) ∧ am_gw (Cond.selects (am_y r).cls (am_y r) (am_y r)) ∧ (match am_cls[am_rcv r]? with
      | some q => q.1 = (am_y r).cls
      | none => am_cn (am_rcv r) = (am_y r).cls)
  | _ => True
def am_okI (m pc : Nat) (i : Jvm.ClassFile.Instr) (nx ix : Nat) : Prop := am_okD m pc i nx ix ∧ am_okW m pc i ix
/-- what the tables must say of a kind of object -/
def am_okK (ci : Nat) (q : vw_C) : Prop := (∀ w ∈ u_ws q.1 q.2.1 q.2.2, am_gw w) ∧ (∀ k, k < q.2.2 → parseFieldDescriptor (q.2.1 k).2.2.1 = some (am_ft ci k)) ∧ (∀ a, a < q.2.2 → ∀ b, b < q.2.2 → a ≠ b → (q.2.1 a).2.1 ≠ (q.2.1 b).2.1) ∧ ∀ k, k < q.2.2 → am_rcT (match am_fty ci k with | 0 => 1 | 1 => 4 | t => t) (some (am_ft ci k)) ∧ am_fty ci k ≤ 3
section AMS
variable (G : am_G) (Zc : am_Z) (l : Launch)
def am_Ctx (d m : Nat) (p : Program) (R : Room) (s : State) (mid : MethodId) (args : Array Value) (meth : Method) (c : Code) : Prop :=
  p.tables.exec = Jvm.exec ∧ c.code = am_by m ∧ c.maxLocals = am_ml m ∧ s.vm.findClass (am_y m).cls = some mid.cls ∧ meth.name = (am_y m).name ∧ (∀ w ∈ lw_tbl.filter goodWord, w.before args s = true) ∧ va_K (G.1, G.2.1) am_cls (am_tys G) s ∧ am_Cst G Zc s ∧ G.2.2.2.2 ≤ s.heap.size ∧ d ≤ R.frames ∧ 60 * d ≤ R.locals ∧ (am_bud m).1 ≤ R.cells ∧ (am_bud m).2 ≤ R.slots
def am_isR (m pc : Nat) (v : Option am_V) : Prop := match v with
  | none => decode (am_by m) pc = .ok (.return_, 1) ∧ am_rc m = 0
  | some (.inl x) => decode (am_by m) pc = .ok (.ireturn, 1) ∧ am_ret (am_rc m) x True
  | some (.inr (.inr (some _))) => decode (am_by m) pc = .ok (.lreturn, 1) ∧ am_rc m = 2
  | some (.inr (.inl _)) => decode (am_by m) pc = .ok (.areturn, 1) ∧ am_rc m = 3
  | _ => False
def am_Sem (d : Nat) (cf : am_C) (Q : am_Q) : Prop := match cf with
  | (m, pc, ls, st, ct, σ) => ∀ (p : Program) (e : Env) (R : Room) (s : State) (mid : MethodId) (args : Array Value) (below : List Frame) (meth : Method) (c : Code) (H : Heap) (locs : List Loc) (lsA : Array Slot) (Z : State → Prop),
    am_Ctx G Zc d m p R s mid args meth c → am_Hp G Zc σ H → va_S (am_A G) s.heap H locs → am_lh (am_r G) lsA (am_ml m) ls → am_rgs ls → am_rgs st → ct.1 ≤ (am_bud m).1 ∧ ct.2 ≤ (am_bud m).2 →
    (∀ (v : Option am_V) (σ' : am_S) (H' : Heap) (locs' : List Loc) (ct' : Nat × Nat) (pc' : Nat) (lsA' : Array Slot), Q v σ' → am_rgs v.toList → am_Hp G Zc σ' H' → va_S (am_A G) s.heap H' locs' → ct'.1 ≤ (am_bud m).1 ∧ ct'.2 ≤ (am_bud m).2 → am_isR m pc' v → W p l e R s mid args below meth c H' locs' ct'.1 ct'.2 Z (F0 mid pc' lsA' (v.map (am_cv (am_r G))).toList)) →
    W p l e R s mid args below meth c H locs ct.1 ct.2 Z (F0 mid pc lsA (st.map (am_cv (am_r G))))
/-- what String.checkIndex, method 1, does where it throws nothing -/
def am_Chk : Prop := ∀ (d m pc ix : Nat) (p : Program) (e : Env) (R : Room) (s : State) (mid : MethodId) (args : Array Value) (below : List Frame) (meth : Method) (c : Code) (H : Heap) (locs : List Loc) (lsA : Array Slot) (Z : State → Prop) (x y : Int) (rest : List Value) (cells slots : Nat),
    am_Ctx G Zc d m p R s mid args meth c → va_S (am_A G) s.heap H locs → lsA.size = am_ml m → 2 ≤ d → (rest.map fun v => v.category).sum ≤ 8 → 0 ≤ x ∧ x < y → (-2147483648 ≤ x ∧ x ≤ 2147483647) → (-2147483648 ≤ y ∧ y ≤ 2147483647) → cells ≤ R.cells → slots ≤ R.slots → am_okL m ix 1 → decode (am_by m) pc = .ok (.invokestatic ix, 3) →
    W p l e R s mid args below meth c H locs cells slots Z (F0 mid (pc + 3) lsA rest) → W p l e R s mid args below meth c H locs cells slots Z (F0 mid pc lsA (.int (Int32.ofInt y) :: .int (Int32.ofInt x) :: rest))
def am_PU (σ : am_S) : State → Prop := fun U => am_Hp G Zc σ U.heap ∧ va_K (G.1, G.2.1) am_cls (am_tys G) U ∧ am_Cst G Zc U ∧ G.2.2.2.2 ≤ U.heap.size
def am_Qc (Q : am_Q) : Array Value → State → Outcome → State → Prop := fun _ st oc t => (∃ (v : Option am_V) (σ : am_S), oc = .returned (v.map (am_cv (am_r G))) ∧ Q v σ ∧ am_rgs v.toList ∧ am_Hp G Zc σ t.heap) ∧ va_F (am_A G) st t
abbrev am_rm (d r : Nat) : Room := { frames := d, cells := (am_bud r).1, slots := (am_bud r).2, locals := 60 * d }
end AMS
end
section
section AMM
variable {G : am_G} {Zc : am_Z} {l : Launch}
theorem am_rT_of {rc : Nat} {t : Option FieldType} (h : am_rcT rc t) : (rc = 0 → t = none) ∧ (rc = 2 → t = some .long) ∧ (rc = 3 → ∃ u : FieldType, t = some u ∧ ((∃ n, u = .object n) ∨ ∃ v, u = .array v)) := by
  refine ⟨fun e => ?_, fun e => ?_, fun e => ?_⟩ <;> subst e <;> exact h
/-- a method's contract out of its run in the small machine -/
theorem am_met {d r : Nat} {as : List am_V} {σ : am_S} {Q : am_Q} (h : am_Sem G Zc l d (am_entry r as σ) Q) (hC : am_okC r) (hn : (lg_sl (as.map (am_cv (am_r G)))).length ≤ am_ml r) (hra : am_rgs as) :
    Met l (am_y r) (am_ws r) (am_rm d r) (va_Pc (as.map (am_cv (am_r G))) (am_PU G Zc σ)) (am_Qc G Zc Q) (am_bud r).1 (am_bud r).2 (am_A G) := by
  obtain ⟨-, -, -, hpl, -, hrc⟩ := hC
  refine Met.ofW (cc := am_by r) (maxL := am_ml r) (ret := am_rT r) hpl rfl ?_
  intro p e s m args below meth c s₁ B hml hv
  obtain ⟨rfl, hH, hK, hCs, hB⟩ := hv
  have hx := B.exec
  have hb := B.bytes
  have hr := B.returns
  have hts := atoms_spec (ws := am_ws r) B.pre
  have hown : s.vm.findClass (am_y r).cls = some m.cls := findClass_of_methodNamed B.named
  have hlocks := B.notSynchronized
  have hnm : meth.name = (am_y r).name := (name_of_methodNamed B.named B.method).1
  have hl := lv_entry (as.map (am_cv (am_r G))) (n := am_ml r) hn
  rw [lg_entry_eq]
  refine h p e _ s m _ below meth c s.heap [] _ _ ⟨hx, hb, hml, hown, hnm, fun w hw => hts w (List.mem_cons_of_mem _ hw), hK, hCs, hB, Nat.le_refl _, Nat.le_refl _, Nat.le_refl _, Nat.le_refl _⟩ hH va_S.rf (am_lh_entry hl) (am_rgs_entry hra) am_rgs_nil ⟨Nat.zero_le _, Nat.zero_le _⟩ ?_
  intro v σ' H' locs' ct' pc' lsA' hQ hrv hH' hS' hct hR
  refine W.widen hct.1 hct.2 ?_
  have fin : ∀ t : State, t.heap = H' → am_Qc G Zc Q (as.map (am_cv (am_r G))).toArray s (.returned (v.map (am_cv (am_r G)))) t := fun t ht => ⟨⟨v, σ', rfl, hQ, hrv, by rw [ht]; exact hH'⟩, hS'.F ht⟩
  match v, hR, fin with
  | none, hR, fin => exact W.vret hx hb (hr.trans ((am_rT_of hrc).1 hR.2)) (fun t ht _ => fin t ht) hS'.2.2 hR.1
  | some (.inl x), hR, fin =>
    obtain ⟨hd, hR⟩ := hR
    unfold am_ret at hR
    split at hR
    · rename_i e
      rw [e] at hrc
      exact W.iret hx hb (hr.trans hrc) (fun t ht _ => fin t ht) hS'.2.2 hd
    · rename_i e
      rw [e] at hrc
      exact W.zret hx hb (hr.trans hrc) (am_bool hR.1) (fun t ht _ => fin t ht) hS'.2.2 hd
    · rename_i e
      rw [e] at hrc
      exact W.zret hx hb (hr.trans hrc) (am_char hR.1) (fun t ht _ => fin t ht) hS'.2.2 hd
    · rename_i e
      rw [e] at hrc
      exact W.zret hx hb (hr.trans hrc) (am_byte hR.1) (fun t ht _ => fin t ht) hS'.2.2 hd
    · exact hR.elim
  | some (.inr (.inr (some x))), hR, fin => exact W.lret hx hb (hr.trans ((am_rT_of hrc).2.1 hR.2)) (fun t ht _ => fin t ht) hS'.2.2 hR.1
  | some (.inr (.inl x)), hR, fin =>
    obtain ⟨u, h1, h2⟩ := (am_rT_of hrc).2.2 hR.2
    exact W.aret hx hb (hr.trans h1) h2 (Or.inr ⟨_, rfl⟩) (fun t ht _ => fin t ht) hS'.2.2 hR.1
  | some (.inr (.inr none)), hR, _ => exact hR.elim
theorem am_Cst.warm {s U : State} (hW : s.WarmedH U.vm) (hk : ∀ a : Nat, a < s.heap.size → ¬ am_A G a → U.heap[a]? = s.heap[a]?) (h : am_Cst G Zc s) : am_Cst G Zc U := by
  obtain ⟨h1, h2, h3, h5, h6⟩ := h
  refine ⟨fun a ha => ?_, fun q hq => (h2 q hq).warm hW, fun q hq => ((h3 q hq).moved hW.alike).kept hk, (h5.moved hW.alike).kept hk, fun q hq => (h6 q hq).warmM hW⟩
  have h4 := h1 a ha
  split
  · rename_i ci e
    rw [e] at h4
    exact ⟨h4.1, (h4.2.1.moved hW.alike).kept hk, fun k hk' => ((h4.2.2 k hk').moved hW.alike).kept hk⟩
  · rename_i t len e
    rw [e] at h4
    exact fun ht => ((h4 ht).moved hW.alike).kept hk
theorem am_fl_len (ρ : Nat → Nat) : ∀ vs : List am_V, (lg_sl (vs.map (am_cv ρ))).length = (am_fl vs).length := by
  intro vs
  induction vs with
  | nil => rfl
  | cons v vs ih =>
    have e : lg_sl ((v :: vs).map (am_cv ρ)) = (if (am_cv ρ v).category = 2 then [.val (am_cv ρ v), .second] else [.val (am_cv ρ v)]) ++ lg_sl (vs.map (am_cv ρ)) := by
      simp [lg_sl]
    rw [e, List.length_append, ih, am_cv_cat]
    match v with
    | .inl x => simp [am_cat, am_fl]; omega
    | .inr (.inl a) => simp [am_cat, am_fl]; omega
    | .inr (.inr (some x)) => simp [am_cat, am_fl]; omega
    | .inr (.inr none) => simp [am_cat, am_fl]; omega
theorem am_PU_blind {as : List Value} {σ : am_S} : FrameBlind (va_Pc as (am_PU G Zc σ)) := by
  intro a U g mk q
  obtain ⟨q0, q1, q2, q3, q4⟩ := q
  exact ⟨q0, q1, va_K.moved (u := U) (U := U.calling g mk a) (Vm.Alike.refl U.vm) q2, am_Cst.warm (s := U) (U := U.calling g mk a) (State.WarmedH.refl U) (fun _ _ _ => rfl) q3, q4⟩
variable {p : Program} {e : Env} {R : Room} {s : State} {m : MethodId} {args : Array Value} {below : List Frame} {meth : Method} {c : Code} {H H0 : Heap} {locs : List Loc} {cells slots : Nat} {Z : State → Prop} {pc : Nat} {ls : Array Slot} {rest st0 : List Value} {a : Array Value} {mc ms : Nat}
/-- behind a call -/
theorem am_callW {Q : am_Q} (hr : va_Run p l e R s m args below meth c H locs cells slots mc ms (F0 m pc ls st0) rest (am_Qc G Zc Q a) (am_A G)) (hS : va_S (am_A G) H0 H locs)
    (kk : ∀ (v : Option am_V) (σ : am_S) (H1 : Heap) (locs1 : List Loc), Q v σ → am_rgs v.toList → am_Hp G Zc σ H1 → va_S (am_A G) H0 H1 locs1 → W p l e R s m args below meth c H1 locs1 (cells + mc) (slots + ms) Z (F0 m (pc + 3) ls ((v.map (am_cv (am_r G))).toList ++ rest))) : W p l e R s m args below meth c H locs cells slots Z (F0 m pc ls st0) := by
  intro T hT X
  obtain ⟨v, st₀, t, T', L, h0, X', hL, e1, e2, ⟨⟨v', u, hv, hp, hrv, hb⟩, hz, hk⟩, st⟩ := hr T hT X
  cases hv
  rw [h0] at hz hk
  obtain ⟨t2, a1, b1⟩ := kk v' u T'.heap (locs ++ L) hp hrv (by rw [e1]; exact hb)
    ⟨Nat.le_trans hS.1 (by rw [e1]; exact hz), fun q h1 h2 => by rw [e1, hk q (Nat.lt_of_lt_of_le h1 hS.1) h2]; exact hS.2.1 q h1 h2, fun q hq => by
      rcases List.mem_append.mp hq with h | h
      · exact hS.2.2 q h
      · exact hL q h⟩ T' rfl X'
  exact ⟨t2, st t2 a1, b1⟩
end AMM
end
section
section AME
theorem am_i1_e {st : List am_V} {f : Int → List am_V → Prop} (h : am_i1 st f) : ∃ x r, st = .inl x :: r ∧ f x r := by
  unfold am_i1 at h; split at h
  · exact ⟨_, _, rfl, h⟩
  · exact h.elim
theorem am_i2_e {st : List am_V} {f : Int → Int → List am_V → Prop} (h : am_i2 st f) : ∃ x y r, st = .inl y :: .inl x :: r ∧ f x y r := by
  unfold am_i2 at h; split at h
  · exact ⟨_, _, _, rfl, h⟩
  · exact h.elim
theorem am_l1_e {st : List am_V} {f : Int → List am_V → Prop} (h : am_l1 st f) : ∃ x r, st = .inr (.inr (some x)) :: r ∧ f x r := by
  unfold am_l1 at h; split at h
  · exact ⟨_, _, rfl, h⟩
  · exact h.elim
theorem am_l2_e {st : List am_V} {f : Int → Int → List am_V → Prop} (h : am_l2 st f) : ∃ x y r, st = .inr (.inr (some y)) :: .inr (.inr (some x)) :: r ∧ f x y r := by
  unfold am_l2 at h; split at h
  · exact ⟨_, _, _, rfl, h⟩
  · exact h.elim
theorem am_li_e {st : List am_V} {f : Int → Int → List am_V → Prop} (h : am_li st f) : ∃ x y r, st = .inl y :: .inr (.inr (some x)) :: r ∧ f x y r := by
  unfold am_li at h; split at h
  · exact ⟨_, _, _, rfl, h⟩
  · exact h.elim
theorem am_r1_e {st : List am_V} {f : Nat → List am_V → Prop} (h : am_r1 st f) : ∃ x r, st = .inr (.inl x) :: r ∧ f x r := by
  unfold am_r1 at h; split at h
  · exact ⟨_, _, rfl, h⟩
  · exact h.elim
theorem am_ai_e {st : List am_V} {f : Nat → Int → List am_V → Prop} (h : am_ai st f) : ∃ a j r, st = .inl j :: .inr (.inl a) :: r ∧ f a j r := by
  unfold am_ai at h; split at h
  · exact ⟨_, _, _, rfl, h⟩
  · exact h.elim
theorem am_aii_e {st : List am_V} {f : Nat → Int → Int → List am_V → Prop} (h : am_aii st f) : ∃ a j x r, st = .inl x :: .inl j :: .inr (.inl a) :: r ∧ f a j x r := by
  unfold am_aii at h; split at h
  · exact ⟨_, _, _, _, rfl, h⟩
  · exact h.elim
theorem am_ail_e {st : List am_V} {f : Nat → Int → Int → List am_V → Prop} (h : am_ail st f) : ∃ a j x r, st = .inr (.inr (some x)) :: .inl j :: .inr (.inl a) :: r ∧ f a j x r := by
  unfold am_ail at h; split at h
  · exact ⟨_, _, _, _, rfl, h⟩
  · exact h.elim
theorem am_ir_e {st : List am_V} {f : Nat → Int → List am_V → Prop} (h : am_ir st f) : ∃ a x r, st = .inl x :: .inr (.inl a) :: r ∧ f a x r := by
  unfold am_ir at h; split at h
  · exact ⟨_, _, _, rfl, h⟩
  · exact h.elim
theorem am_lr_e {st : List am_V} {f : Nat → Int → List am_V → Prop} (h : am_lr st f) : ∃ a x r, st = .inr (.inr (some x)) :: .inr (.inl a) :: r ∧ f a x r := by
  unfold am_lr at h; split at h
  · exact ⟨_, _, _, rfl, h⟩
  · exact h.elim
theorem am_rr_e {st : List am_V} {f : Nat → Nat → List am_V → Prop} (h : am_rr st f) : ∃ a b r, st = .inr (.inl b) :: .inr (.inl a) :: r ∧ f a b r := by
  unfold am_rr at h; split at h
  · exact ⟨_, _, _, rfl, h⟩
  · exact h.elim
theorem am_cond_e {b : Bool} {A : Prop} (h : cond b A False) : b = true ∧ A := by
  cases b
  · exact h.elim
  · exact ⟨rfl, h⟩
theorem am_v1_e {st : List am_V} {f : am_V → List am_V → Prop} (h : am_v1 st f) : ∃ v r, st = v :: r ∧ am_cat v = 1 ∧ f v r := by
  unfold am_v1 at h; split at h
  · obtain ⟨h1, h2⟩ := am_cond_e h
    exact ⟨_, _, rfl, Nat.eq_of_beq_eq_true h1, h2⟩
  · exact h.elim
theorem am_v2_e {st : List am_V} {f : am_V → am_V → List am_V → Prop} (h : am_v2 st f) : ∃ v w r, st = v :: w :: r ∧ am_cat v = 1 ∧ am_cat w = 1 ∧ f v w r := by
  unfold am_v2 at h; split at h
  · obtain ⟨h1, h2⟩ := am_cond_e h
    rw [Bool.and_eq_true] at h1
    exact ⟨_, _, _, rfl, Nat.eq_of_beq_eq_true h1.1, Nat.eq_of_beq_eq_true h1.2, h2⟩
  · exact h.elim
theorem am_gi_e {ls : List am_V} {i : Nat} {f : Int → Prop} (h : am_gi ls i f) : ∃ x, ls[i]? = some (.inl x) ∧ f x := by
  unfold am_gi at h; split at h
  · rename_i x e; exact ⟨x, e, h⟩
  · exact h.elim
theorem am_gl_e {ls : List am_V} {i : Nat} {f : Int → Prop} (h : am_gl ls i f) : ∃ x, ls[i]? = some (.inr (.inr (some x))) ∧ f x := by
  unfold am_gl at h; split at h
  · rename_i x e; exact ⟨x, e, h⟩
  · exact h.elim
theorem am_ga_e {ls : List am_V} {i : Nat} {f : Nat → Prop} (h : am_ga ls i f) : ∃ x, ls[i]? = some (.inr (.inl x)) ∧ f x := by
  unfold am_ga at h; split at h
  · rename_i x e; exact ⟨x, e, h⟩
  · exact h.elim
theorem am_xi_e {st : List am_V} {f : Int → Prop} (h : am_xi st f) : ∃ x, st = [.inl x] ∧ f x := by
  unfold am_xi at h; split at h
  · exact ⟨_, rfl, h⟩
  · exact h.elim
theorem am_xl_e {st : List am_V} {f : Int → Prop} (h : am_xl st f) : ∃ x, st = [.inr (.inr (some x))] ∧ f x := by
  unfold am_xl at h; split at h
  · exact ⟨_, rfl, h⟩
  · exact h.elim
theorem am_xr_e {st : List am_V} {f : Nat → Prop} (h : am_xr st f) : ∃ x, st = [.inr (.inl x)] ∧ f x := by
  unfold am_xr at h; split at h
  · exact ⟨_, rfl, h⟩
  · exact h.elim
theorem am_xn_e {st : List am_V} {A : Prop} (h : am_xn st A) : st = [] ∧ A := by
  unfold am_xn at h; split at h
  · exact ⟨rfl, h⟩
  · exact h.elim
theorem am_ret_e {rc : Nat} {x : Int} {A : Prop} (h : am_ret rc x A) : am_ret rc x True ∧ A := by
  unfold am_ret at h ⊢
  split at h <;> first | exact ⟨trivial, h⟩ | exact ⟨⟨h.1, trivial⟩, h.2⟩ | exact h.elim
end AME
end
section
section AMC
variable {G : am_G} {Zc : am_Z} {l : Launch}
variable {p : Program} {e : Env} {R : Room} {s : State} {mid : MethodId} {args : Array Value} {below : List Frame} {meth : Method} {c : Code} {H : Heap} {locs : List Loc} {lsA : Array Slot} {Z : State → Prop}
theorem am_rt_e {rc : Nat} {k : List am_V → am_S → Prop} {rest : List am_V} {v : Option am_V} {σ : am_S} (ρ : Nat → Nat) (h : am_rt rc k rest v σ) : ∃ st', k st' σ ∧ st' = v.toList ++ rest ∧ st'.map (am_cv ρ) = (v.map (am_cv ρ)).toList ++ rest.map (am_cv ρ) := by
  unfold am_rt at h
  split at h
  · obtain ⟨rfl, h⟩ := h; exact ⟨_, h, rfl, rfl⟩
  · obtain ⟨x, rfl, h⟩ := h; exact ⟨_, h, rfl, rfl⟩
  · obtain ⟨x, rfl, h⟩ := h; exact ⟨_, h, rfl, rfl⟩
  · obtain ⟨x, rfl, h⟩ := h; exact ⟨_, h, rfl, rfl⟩
theorem am_words_cv (ρ : Nat → Nat) (st : List am_V) : ((st.map (am_cv ρ)).map fun v => v.category).sum = am_words st := by
  unfold am_words
  rw [List.map_map]
  congr 1
  apply List.map_congr_left
  intro v _
  exact am_cv_cat ρ v
theorem am_good {w : Cond} (h : am_gw w) : (w.onTables && w.keeps) = true ∨ ∃ ty, w = .arrayClass ty := good_of_word (List.mem_filter.mp h).2
theorem am_goodIn {r : Nat} (hC : am_okC r) : GoodIn (lw_tbl.filter goodWord) (am_ws r) := by
  intro w hw
  rcases List.mem_cons.mp hw with rfl | h
  · exact ⟨hC.1, am_good hC.1⟩
  · exact ⟨h, am_good h⟩
theorem am_fit_e {r m : Nat} {st : List am_V} {ct : Nat × Nat} (h : am_fit r m st ct = true) : am_np r ≤ st.length ∧ (am_fl (st.take (am_np r)).reverse).length ≤ am_ml r ∧ am_words (st.drop (am_np r)) ≤ 8 ∧ ct.1 + (am_bud r).1 ≤ (am_bud m).1 ∧ ct.2 + (am_bud r).2 ≤ (am_bud m).2 := by
  unfold am_fit at h
  simp only [Bool.and_eq_true, Nat.ble_eq] at h
  exact h
theorem am_pre_call {d m : Nat} {as : List Value} {σ : am_S} (hC : am_Ctx G Zc d m p R s mid args meth c) (hH : am_Hp G Zc σ H) (hS : va_S (am_A G) s.heap H locs) : ∀ U : State, U.heap = H → s.WarmedH U.vm → va_Pc as (am_PU G Zc σ) as.toArray U := by
  obtain ⟨-, -, -, -, -, -, hK, hCs, hB, -⟩ := hC
  intro U hU hW
  exact ⟨rfl, by rw [hU]; exact hH, va_K.moved hW.alike hK, am_Cst.warm hW (fun a h1 h2 => by rw [hU]; exact hS.2.1 a h1 h2) hCs, by rw [hU]; exact Nat.le_trans hB hS.1⟩
theorem am_stack_split (ρ : Nat → Nat) (st : List am_V) (n : Nat) : st.map (am_cv ρ) = ((st.take n).reverse.map (am_cv ρ)).reverse ++ (st.drop n).map (am_cv ρ) := by
  rw [← List.map_reverse, List.reverse_reverse, ← List.map_append, List.take_append_drop]
theorem am_recv_split {st rr : List am_V} {n a : Nat} (hn : 0 < n) (hl : n ≤ st.length) (h : st.drop (n - 1) = .inr (.inl a) :: rr) : (st.take n).reverse = .inr (.inl a) :: (st.take (n - 1)).reverse ∧ st.drop n = rr ∧ (st.take (n - 1)).length = n - 1 := by
  have h1 : st.take n = st.take (n - 1) ++ [.inr (.inl a)] := by
    have e : st.take n = st.take (n - 1) ++ (st.drop (n - 1)).take 1 := by
      conv => lhs; rw [show n = (n - 1) + 1 by omega, List.take_add]
    rw [e, h]; rfl
  refine ⟨by rw [h1]; simp, ?_, by rw [List.length_take]; omega⟩
  have e : st.drop n = (st.drop (n - 1)).drop 1 := by
    rw [List.drop_drop]; congr 1; omega
  rw [e, h]; rfl
/-- invokestatic -/
theorem am_invS {d m pc ix r : Nat} {st ls : List am_V} {ct : Nat × Nat} {σ : am_S} {Q : am_Q}
    (h : am_inv (am_cl (am_Sem G Zc l) d) (fun st' ct' σ' => am_Sem G Zc l d (m, pc + 3, ls, st', ct', σ') Q) r m st ct σ)
    (hdg : decode (am_by m) pc = .ok (.invokestatic ix, 3)) (hC : am_okC r) (hL : am_okL m ix r) (hst : am_gw (Cond.static (am_y r))) (hpar : (parseMethodDescriptor (am_y r).desc).map (fun d => d.parameters.length) = some (am_np r))
    (hX : am_Ctx G Zc d m p R s mid args meth c) (hH : am_Hp G Zc σ H) (hS : va_S (am_A G) s.heap H locs) (hl : am_lh (am_r G) lsA (am_ml m) ls) (hgl : am_rgs ls) (hgs : am_rgs st)
    (hret : ∀ (v : Option am_V) (σ' : am_S) (H' : Heap) (locs' : List Loc) (ct' : Nat × Nat) (pc' : Nat) (lsA' : Array Slot), Q v σ' → am_rgs v.toList → am_Hp G Zc σ' H' → va_S (am_A G) s.heap H' locs' → ct'.1 ≤ (am_bud m).1 ∧ ct'.2 ≤ (am_bud m).2 → am_isR m pc' v → W p l e R s mid args below meth c H' locs' ct'.1 ct'.2 Z (F0 mid pc' lsA' (v.map (am_cv (am_r G))).toList)) :
    W p l e R s mid args below meth c H locs ct.1 ct.2 Z (F0 mid pc lsA (st.map (am_cv (am_r G)))) := by
  obtain ⟨hf, hcl⟩ := am_cond_e h
  obtain ⟨f1, f2, f3, f4, f5⟩ := am_fit_e hf
  have hX' := hX
  obtain ⟨hx, hb, hml, hown, hnm, hts, hK, hCs, hB, hfr, hlo, hbc, hbs⟩ := hX
  cases d with
  | zero => exact hcl.elim
  | succ d =>
    have hM := am_met hcl hC (by rw [am_fl_len]; exact f2) (am_rgs_sub hgs (fun v hv => List.mem_of_mem_take (List.mem_reverse.mp hv)))
    have hroom : (am_rm d r).frames + 1 ≤ R.frames ∧ 8 + (am_ml r + 11) + (am_rm d r).locals ≤ R.locals := by
      have h41 := hC.2.2.2.2.1
      exact ⟨hfr, by show 8 + (am_ml r + 11) + 60 * d ≤ R.locals; omega⟩
    have hlen : ((st.take (am_np r)).reverse.map (am_cv (am_r G))).length = am_np r := by
      rw [List.length_map, List.length_reverse, List.length_take]; omega
    have fin : ∀ (v : Option am_V) (σ' : am_S) (H1 : Heap) (locs1 : List Loc), am_rt (am_rc r) (fun st' σ' => am_Sem G Zc l (d + 1) (m, pc + 3, ls, st', (ct.1 + (am_bud r).1, ct.2 + (am_bud r).2), σ') Q) (st.drop (am_np r)) v σ' → am_rgs v.toList → am_Hp G Zc σ' H1 → va_S (am_A G) s.heap H1 locs1 → W p l e R s mid args below meth c H1 locs1 (ct.1 + (am_bud r).1) (ct.2 + (am_bud r).2) Z (F0 mid (pc + 3) lsA ((v.map (am_cv (am_r G))).toList ++ (st.drop (am_np r)).map (am_cv (am_r G)))) := by
      intro v σ' H1 locs1 hq hrv hH1 hS1
      obtain ⟨st', hk, hs', hst'⟩ := am_rt_e (am_r G) hq
      rw [← hst']
      refine hk p e R s mid args below meth c H1 locs1 lsA Z hX' hH1 hS1 hl hgl ?_ ⟨f4, f5⟩ hret
      rw [hs']
      intro w hw
      rcases List.mem_append.mp hw with h1 | h1
      · exact hrv w h1
      · exact hgs w (List.mem_of_mem_drop h1)
    rcases hL with hL | hL
    · exact am_callW (va_runS ⟨hx, hb, hml, hown, hts⟩ hM ⟨callB_of (am_np r) hts (am_goodIn hC) rfl rfl rfl (hts _ hC.2.1) (hts _ hL) ⟨hC.2.2.1.1, hC.2.2.1.2, hpar⟩ hroom, hts _ hst⟩ ⟨am_PU_blind, am_pre_call hX' hH hS⟩ rfl hlen hl.1 (am_stack_split _ _ _) (lv_room (by rw [am_words_cv]; exact f3)) hdg ⟨by omega, by omega⟩) hS fin
    · exact am_callW (va_runSN ⟨hx, hb, hml, hown, hts⟩ hM ⟨va_cnB (am_np r) hts (am_goodIn hC) rfl rfl rfl (hCs.2.2.2.2 _ hL) (hts _ hC.2.1) ⟨hC.2.2.1.1, hC.2.2.1.2, hpar⟩ hroom, hts _ hst, trivial⟩ ⟨am_PU_blind, am_pre_call hX' hH hS⟩ rfl hlen hl.1 (am_stack_split _ _ _) (lv_room (by rw [am_words_cv]; exact f3)) hdg ⟨by omega, by omega⟩) hS fin
/-- invokespecial of a constructor -/
theorem am_invI {d m pc ix r : Nat} {st ls : List am_V} {ct : Nat × Nat} {σ : am_S} {Q : am_Q}
    (h : am_inv (am_cl (am_Sem G Zc l) d) (fun st' ct' σ' => am_Sem G Zc l d (m, pc + 3, ls, st', ct', σ') Q) r m st ct σ)
    (hdg : decode (am_by m) pc = .ok (.invokespecial ix, 3)) (hC : am_okC r) (hL : am_okL m ix r) (hnm1 : (am_y r).name = "<init>") (hrT : am_rT r = none) (hin : am_gw (Cond.instanceMethod (am_y r))) (hpar : (parseMethodDescriptor (am_y r).desc).map (fun d => d.parameters.length + 1) = some (am_np r))
    {b : Nat} {rr : List am_V} (hb0 : st.drop (am_np r - 1) = .inr (.inl b) :: rr)
    (hX : am_Ctx G Zc d m p R s mid args meth c) (hH : am_Hp G Zc σ H) (hS : va_S (am_A G) s.heap H locs) (hl : am_lh (am_r G) lsA (am_ml m) ls) (hgl : am_rgs ls) (hgs : am_rgs st)
    (hret : ∀ (v : Option am_V) (σ' : am_S) (H' : Heap) (locs' : List Loc) (ct' : Nat × Nat) (pc' : Nat) (lsA' : Array Slot), Q v σ' → am_rgs v.toList → am_Hp G Zc σ' H' → va_S (am_A G) s.heap H' locs' → ct'.1 ≤ (am_bud m).1 ∧ ct'.2 ≤ (am_bud m).2 → am_isR m pc' v → W p l e R s mid args below meth c H' locs' ct'.1 ct'.2 Z (F0 mid pc' lsA' (v.map (am_cv (am_r G))).toList)) :
    W p l e R s mid args below meth c H locs ct.1 ct.2 Z (F0 mid pc lsA (st.map (am_cv (am_r G)))) := by
  obtain ⟨hf, hcl⟩ := am_cond_e h
  obtain ⟨f1, f2, f3, f4, f5⟩ := am_fit_e hf
  have hX' := hX
  obtain ⟨hx, hb, hml, hown, hnm, hts, hK, hCs, hB, hfr, hlo, hbc, hbs⟩ := hX
  obtain ⟨sig, hsig, hsn⟩ := Option.map_eq_some_iff.mp hpar
  have hnp : 0 < am_np r := by omega
  have hpar' : (parseMethodDescriptor (am_y r).desc).map (fun d => d.parameters.length) = some (am_np r - 1) := by
    rw [hsig]; show some sig.parameters.length = _; congr 1; omega
  obtain ⟨s1, s2, s3⟩ := am_recv_split hnp f1 hb0
  cases d with
  | zero => exact hcl.elim
  | succ d =>
    have hM := am_met hcl hC (by rw [am_fl_len]; exact f2) (am_rgs_sub hgs (fun v hv => List.mem_of_mem_take (List.mem_reverse.mp hv)))
    rw [s1] at hM
    have hM : Met l (am_y r) (am_ws r) (am_rm d r) (va_Pc (Value.ref (am_r G b) :: (st.take (am_np r - 1)).reverse.map (am_cv (am_r G))) (am_PU G Zc _)) (am_Qc G Zc _) (am_bud r).1 (am_bud r).2 (am_A G) := hM
    have hroom : (am_rm d r).frames + 1 ≤ R.frames ∧ 8 + (am_ml r + 11) + (am_rm d r).locals ≤ R.locals := by
      have h41 := hC.2.2.2.2.1
      exact ⟨hfr, by show 8 + (am_ml r + 11) + 60 * d ≤ R.locals; omega⟩
    have hlen : ((st.take (am_np r - 1)).reverse.map (am_cv (am_r G))).length = am_np r - 1 := by
      rw [List.length_map, List.length_reverse, s3]
    have hstk : st.map (am_cv (am_r G)) = ((st.take (am_np r - 1)).reverse.map (am_cv (am_r G))).reverse ++ .ref (am_r G b) :: (st.drop (am_np r)).map (am_cv (am_r G)) := by
      rw [am_stack_split _ _ (am_np r - 1), hb0, s2]; rfl
    have fin : ∀ (v : Option am_V) (σ' : am_S) (H1 : Heap) (locs1 : List Loc), am_rt (am_rc r) (fun st' σ' => am_Sem G Zc l (d + 1) (m, pc + 3, ls, st', (ct.1 + (am_bud r).1, ct.2 + (am_bud r).2), σ') Q) (st.drop (am_np r)) v σ' → am_rgs v.toList → am_Hp G Zc σ' H1 → va_S (am_A G) s.heap H1 locs1 → W p l e R s mid args below meth c H1 locs1 (ct.1 + (am_bud r).1) (ct.2 + (am_bud r).2) Z (F0 mid (pc + 3) lsA ((v.map (am_cv (am_r G))).toList ++ (st.drop (am_np r)).map (am_cv (am_r G)))) := by
      intro v σ' H1 locs1 hq hrv hH1 hS1
      obtain ⟨st', hk, hs', hst'⟩ := am_rt_e (am_r G) hq
      rw [← hst']
      refine hk p e R s mid args below meth c H1 locs1 lsA Z hX' hH1 hS1 hl hgl ?_ ⟨f4, f5⟩ hret
      rw [hs']
      intro w hw
      rcases List.mem_append.mp hw with h1 | h1
      · exact hrv w h1
      · exact hgs w (List.mem_of_mem_drop h1)
    rcases hL with hL | hL
    · exact am_callW (va_runI (b := am_r G b) (As := (st.take (am_np r - 1)).reverse.map (am_cv (am_r G))) ⟨hx, hb, hml, hown, hts⟩ hM ⟨by rw [← hrT]; exact callB_of (am_np r - 1) hts (am_goodIn hC) rfl rfl rfl (hts _ hC.2.1) (hts _ hL) ⟨hC.2.2.1.1, hC.2.2.1.2, hpar'⟩ hroom, hnm1, hts _ hin⟩ ⟨am_PU_blind, am_pre_call (as := Value.ref (am_r G b) :: _) hX' hH hS⟩ rfl hlen hl.1 hstk (lv_room (by rw [am_words_cv]; exact f3)) hdg ⟨by omega, by omega⟩) hS fin
    · exact am_callW (va_runIN (b := am_r G b) (As := (st.take (am_np r - 1)).reverse.map (am_cv (am_r G))) ⟨hx, hb, hml, hown, hts⟩ hM ⟨by rw [← hrT]; exact va_cnB (am_np r - 1) hts (am_goodIn hC) rfl rfl rfl (hCs.2.2.2.2 _ hL) (hts _ hC.2.1) ⟨hC.2.2.1.1, hC.2.2.1.2, hpar'⟩ hroom, hnm1, hts _ hin⟩ ⟨am_PU_blind, am_pre_call (as := Value.ref (am_r G b) :: _) hX' hH hS⟩ rfl hlen hl.1 hstk (lv_room (by rw [am_words_cv]; exact f3)) hdg ⟨by omega, by omega⟩) hS fin
/-- the receiver of a call -/
theorem am_recv {d m r : Nat} {n : Nat} {K : Nat → am_K} {I : Nat → Nat → Int} {L : Nat → Nat → Int} {Rf : Nat → Nat → Option Nat} {b : Nat} (hX : am_Ctx G Zc d m p R s mid args meth c) (hH : am_Hp G Zc (n, K, I, L, Rf) H) (hS : va_S (am_A G) s.heap H locs) (hk : K b = .inl (am_rcv r)) (hn : match am_cls[am_rcv r]? with
      | some q => q.1 = (am_y r).cls
      | none => am_cn (am_rcv r) = (am_y r).cls) : ∃ cellB : Cell, H[am_r G b]? = some cellB ∧ cellB.vm.isStatics = false ∧ s.vm.findClass (am_y r).cls = some cellB.cls := by
  obtain ⟨-, -, -, -, -, -, hK, hCs, -⟩ := hX
  have hlt : b < n := hH.lt (by rw [hk]; exact fun q => by cases q)
  by_cases hb : b < am_nc
  · have hz := (hH.2.2.2.2.1 b hb).1
    have h1 := hCs.1 b hb
    rw [← hz, hk] at h1
    dsimp only at h1
    rw [h1.1] at hn
    dsimp only at hn
    obtain ⟨cell, g1, g2, g3, g4⟩ := h1.2.1
    exact ⟨cell, by rw [hS.2.1 _ (Array.getElem?_eq_some_iff.mp g1).1 g4]; exact g1, g2, by rw [← hn]; exact g3⟩
  · have h1 := hH.2.2.2.1 b (by omega) hlt
    unfold am_cell at h1
    rw [hk] at h1
    obtain ⟨q, q1, cell, q2, q3, q4, -⟩ := h1
    rw [q1] at hn
    dsimp only at hn
    exact ⟨cell, q2, by rw [q4]; rfl, by rw [q3, ← hn]; exact (hK.1 _ q q1).2.1⟩
/-- invokevirtual -/
theorem am_invV {d m pc ix r : Nat} {st ls : List am_V} {ct : Nat × Nat} {n : Nat} {K : Nat → am_K} {I : Nat → Nat → Int} {L : Nat → Nat → Int} {Rf : Nat → Nat → Option Nat} {Q : am_Q}
    (h : am_inv (am_cl (am_Sem G Zc l) d) (fun st' ct' σ' => am_Sem G Zc l d (m, pc + 3, ls, st', ct', σ') Q) r m st ct (n, K, I, L, Rf))
    (hdg : decode (am_by m) pc = .ok (.invokevirtual ix, 3)) (hC : am_okC r) (hL : am_okL m ix r) (hin : am_gw (Cond.instanceMethod (am_y r))) (hpar : (parseMethodDescriptor (am_y r).desc).map (fun d => d.parameters.length + 1) = some (am_np r)) (hse : am_gw (Cond.selects (am_y r).cls (am_y r) (am_y r))) (hcn : match am_cls[am_rcv r]? with
      | some q => q.1 = (am_y r).cls
      | none => am_cn (am_rcv r) = (am_y r).cls)
    {b : Nat} {rr : List am_V} (hb0 : st.drop (am_np r - 1) = .inr (.inl b) :: rr) (hkb : K b = .inl (am_rcv r))
    (hX : am_Ctx G Zc d m p R s mid args meth c) (hH : am_Hp G Zc (n, K, I, L, Rf) H) (hS : va_S (am_A G) s.heap H locs) (hl : am_lh (am_r G) lsA (am_ml m) ls) (hgl : am_rgs ls) (hgs : am_rgs st)
    (hret : ∀ (v : Option am_V) (σ' : am_S) (H' : Heap) (locs' : List Loc) (ct' : Nat × Nat) (pc' : Nat) (lsA' : Array Slot), Q v σ' → am_rgs v.toList → am_Hp G Zc σ' H' → va_S (am_A G) s.heap H' locs' → ct'.1 ≤ (am_bud m).1 ∧ ct'.2 ≤ (am_bud m).2 → am_isR m pc' v → W p l e R s mid args below meth c H' locs' ct'.1 ct'.2 Z (F0 mid pc' lsA' (v.map (am_cv (am_r G))).toList)) :
    W p l e R s mid args below meth c H locs ct.1 ct.2 Z (F0 mid pc lsA (st.map (am_cv (am_r G)))) := by
  obtain ⟨hf, hcl⟩ := am_cond_e h
  obtain ⟨f1, f2, f3, f4, f5⟩ := am_fit_e hf
  have hX' := hX
  have hrv := am_recv (r := r) hX hH hS hkb hcn
  obtain ⟨hx, hb, hml, hown, hnm, hts, hK, hCs, hB, hfr, hlo, hbc, hbs⟩ := hX
  obtain ⟨sig, hsig, hsn⟩ := Option.map_eq_some_iff.mp hpar
  have hnp : 0 < am_np r := by omega
  have hpar' : (parseMethodDescriptor (am_y r).desc).map (fun d => d.parameters.length) = some (am_np r - 1) := by
    rw [hsig]; show some sig.parameters.length = _; congr 1; omega
  obtain ⟨s1, s2, s3⟩ := am_recv_split hnp f1 hb0
  cases d with
  | zero => exact hcl.elim
  | succ d =>
    have hM := am_met hcl hC (by rw [am_fl_len]; exact f2) (am_rgs_sub hgs (fun v hv => List.mem_of_mem_take (List.mem_reverse.mp hv)))
    rw [s1] at hM
    have hM : Met l (am_y r) (am_ws r) (am_rm d r) (va_Pc (Value.ref (am_r G b) :: (st.take (am_np r - 1)).reverse.map (am_cv (am_r G))) (am_PU G Zc _)) (am_Qc G Zc _) (am_bud r).1 (am_bud r).2 (am_A G) := hM
    have hroom : (am_rm d r).frames + 1 ≤ R.frames ∧ 8 + (am_ml r + 11) + (am_rm d r).locals ≤ R.locals := by
      have h41 := hC.2.2.2.2.1
      exact ⟨hfr, by show 8 + (am_ml r + 11) + 60 * d ≤ R.locals; omega⟩
    have hlen : ((st.take (am_np r - 1)).reverse.map (am_cv (am_r G))).length = am_np r - 1 := by
      rw [List.length_map, List.length_reverse, s3]
    have hstk : st.map (am_cv (am_r G)) = ((st.take (am_np r - 1)).reverse.map (am_cv (am_r G))).reverse ++ .ref (am_r G b) :: (st.drop (am_np r)).map (am_cv (am_r G)) := by
      rw [am_stack_split _ _ (am_np r - 1), hb0, s2]; rfl
    have fin : ∀ (v : Option am_V) (σ' : am_S) (H1 : Heap) (locs1 : List Loc), am_rt (am_rc r) (fun st' σ' => am_Sem G Zc l (d + 1) (m, pc + 3, ls, st', (ct.1 + (am_bud r).1, ct.2 + (am_bud r).2), σ') Q) (st.drop (am_np r)) v σ' → am_rgs v.toList → am_Hp G Zc σ' H1 → va_S (am_A G) s.heap H1 locs1 → W p l e R s mid args below meth c H1 locs1 (ct.1 + (am_bud r).1) (ct.2 + (am_bud r).2) Z (F0 mid (pc + 3) lsA ((v.map (am_cv (am_r G))).toList ++ (st.drop (am_np r)).map (am_cv (am_r G)))) := by
      intro v σ' H1 locs1 hq hrv hH1 hS1
      obtain ⟨st', hk, hs', hst'⟩ := am_rt_e (am_r G) hq
      rw [← hst']
      refine hk p e R s mid args below meth c H1 locs1 lsA Z hX' hH1 hS1 hl hgl ?_ ⟨f4, f5⟩ hret
      rw [hs']
      intro w hw
      rcases List.mem_append.mp hw with h1 | h1
      · exact hrv w h1
      · exact hgs w (List.mem_of_mem_drop h1)
    rcases hL with hL | hL
    · exact am_callW (va_runV (C := (am_y r).cls) (b := am_r G b) (As := (st.take (am_np r - 1)).reverse.map (am_cv (am_r G))) ⟨hx, hb, hml, hown, hts⟩ hM ⟨callB_of (am_np r - 1) hts (am_goodIn hC) rfl rfl rfl (hts _ hC.2.1) (hts _ hL) ⟨hC.2.2.1.1, hC.2.2.1.2, hpar'⟩ hroom, hts _ hin, hts _ hse⟩ ⟨am_PU_blind, hrv, am_pre_call (as := Value.ref (am_r G b) :: _) hX' hH hS⟩ rfl hlen hl.1 hstk (lv_room (by rw [am_words_cv]; exact f3)) hdg ⟨by omega, by omega⟩) hS fin
    · exact am_callW (va_runVN (C := (am_y r).cls) (b := am_r G b) (As := (st.take (am_np r - 1)).reverse.map (am_cv (am_r G))) ⟨hx, hb, hml, hown, hts⟩ hM ⟨va_cnB (am_np r - 1) hts (am_goodIn hC) rfl rfl rfl (hCs.2.2.2.2 _ hL) (hts _ hC.2.1) ⟨hC.2.2.1.1, hC.2.2.1.2, hpar'⟩ hroom, hts _ hin, hts _ hse⟩ ⟨am_PU_blind, hrv, am_pre_call (as := Value.ref (am_r G b) :: _) hX' hH hS⟩ rfl hlen hl.1 hstk (lv_room (by rw [am_words_cv]; exact f3)) hdg ⟨by omega, by omega⟩) hS fin
end AMC
end
section
section AMH
variable {G : am_G} {Zc : am_Z} {l : Launch}
variable {p : Program} {e : Env} {R : Room} {s : State} {mid : MethodId} {args : Array Value} {below : List Frame} {meth : Method} {c : Code} {H : Heap} {locs : List Loc} {lsA : Array Slot} {Z : State → Prop}
variable {n : Nat} {K : Nat → am_K} {I : Nat → Nat → Int} {L : Nat → Nat → Int} {Rf : Nat → Nat → Option Nat}
def am_fs (ρ : Nat → Nat) (N ci : Nat) (I : Nat → Nat → Int) (L : Nat → Nat → Int) (R : Nat → Nat → Option Nat) (a : Nat) : List Value := (List.range N).map fun k => am_fv ρ (am_fty ci k) I L R a k
theorem am_fs_get {ρ : Nat → Nat} {N ci : Nat} {I : Nat → Nat → Int} {L : Nat → Nat → Int} {R : Nat → Nat → Option Nat} {a k : Nat} (hk : k < N) : (am_fs ρ N ci I L R a)[k]? = some (am_fv ρ (am_fty ci k) I L R a k) := by
  unfold am_fs
  rw [List.getElem?_map, List.getElem?_range hk]; rfl
theorem am_fs_V {ρ : Nat → Nat} {N ci : Nat} {I : Nat → Nat → Int} {L : Nat → Nat → Int} {R : Nat → Nat → Option Nat} {a k : Nat} (hk : k < N) : vp_V (am_fs ρ N ci I L R a) k = am_fv ρ (am_fty ci k) I L R a k := by
  unfold vp_V
  rw [List.getD_eq_getElem?_getD, am_fs_get hk]; rfl
theorem am_P1 {ci a : Nat} (hH : am_Hp G Zc (n, K, I, L, Rf) H) (ha : am_nc ≤ a) (hk : K a = .inl ci) : ∃ q : vw_C, am_cls[ci]? = some q ∧ va_P (G.1, G.2.1) am_cls [(am_r G a, .inr (ci, am_fs (am_r G) q.2.2 ci I L Rf a))] H := by
  have hlt : a < n := hH.lt (by rw [hk]; exact fun q => by cases q)
  have h1 := hH.2.2.2.1 a ha hlt
  unfold am_cell at h1
  rw [hk] at h1
  obtain ⟨q, q1, q2⟩ := h1
  refine ⟨q, q1, fun k x hx => ?_⟩
  have hz : k < 1 := (List.getElem?_eq_some_iff.mp hx).1
  rw [show k = 0 by omega] at hx
  cases hx
  exact ⟨q, q1, q2.to (fun k hk => (am_fs_V hk).symm)⟩
theorem am_getV {t a j : Nat} {k : am_V → Prop} {ρ : Nat → Nat} (hg : am_Rg I L) (h : am_get t I L Rf a j k) : ∃ v, k v ∧ am_rg v ∧ am_cv ρ v = am_fv ρ t I L Rf a j := by
  unfold am_get at h
  unfold am_fv
  split at h
  · have hr := hg.2 a j
    exact ⟨_, h _ rfl hr.1 hr.2, hr, rfl⟩
  · obtain ⟨b, h1, h2⟩ := h
    exact ⟨_, h2, trivial, by rw [h1]; rfl⟩
  · rename_i h2 h3
    have hr := hg.1 a j
    refine ⟨_, h _ rfl hr.1 hr.2, hr, ?_⟩
    split
    · exact (h2 rfl).elim
    · exact (h3 rfl).elim
    · rfl
/-- getfield -/
theorem am_W_get {m pc ix ci k a d : Nat} {rest : List Value} {v : Value} (hX : am_Ctx G Zc d m p R s mid args meth c) (hH : am_Hp G Zc (n, K, I, L, Rf) H) (hS : va_S (am_A G) s.heap H locs) (hk : K a = .inl ci) (hF : am_okF m ix ci k) (hOK : ∀ (ci : Nat) (q : vw_C), am_cls[ci]? = some q → am_okK ci q) (hv : v = am_fv (am_r G) (am_fty ci k) I L Rf a k) (hdg : decode (am_by m) pc = .ok (.getfield ix, 3)) {cells slots : Nat}
    (kk : W p l e R s mid args below meth c H locs cells slots Z (F0 mid (pc + 3) lsA (v :: rest))) : W p l e R s mid args below meth c H locs cells slots Z (F0 mid pc lsA (.ref (am_r G a) :: rest)) := by
  obtain ⟨hx, hb, hml, hown, hnm, hts, hK, hCs, hB, -⟩ := hX
  by_cases ha : a < am_nc
  · obtain ⟨z1, z2, z3⟩ := hH.2.2.2.2.1 a ha
    have h1 := hCs.1 a ha
    rw [← z1, hk] at h1
    dsimp only at h1
    unfold am_okF am_okF0 at hF
    rw [h1.1] at hF
    have h2 := h1.2.2 k hF.1
    have e : am_fv (am_r G) (am_fty ci k) Zc.2.1 (fun _ _ => 0) Zc.2.2 a k = am_fv (am_r G) (am_fty ci k) I L Rf a k ∨ am_fty ci k = 2 := by
      unfold am_fv
      split
      · rename_i e; exact Or.inr e
      · exact Or.inl (by rw [z3])
      · exact Or.inl (by rw [z2])
    rcases e with e | e
    · rw [e, ← hv] at h2
      exact vk_getf hx hb h2 hS hown (hts _ hF.2) (fun _ h9 => h9) hdg kk
    · exact absurd e (am_fty_const hF.1)
  · obtain ⟨q, q1, q2⟩ := am_P1 hH (by omega) hk
    unfold am_okF am_okF0 at hF
    rw [q1] at hF
    obtain ⟨C, T, N⟩ := q
    obtain ⟨k1, k2⟩ := hF
    have ok := hOK ci _ q1
    rcases k2 with k2 | k2
    · exact va_get (D := (G.1, G.2.1)) (ci := ci) (v := v) (C := C) (T := T) (N := N) hx hb hts ok.1 hown hK q2 0 rfl q1 k k1 (hts _ k2) (fun _ h9 => h9) (by rw [am_fs_get k1, hv]) hdg kk
    · exact va_getN (D := (G.1, G.2.1)) (ci := ci) (v := v) (C := C) (T := T) (N := N) hx hb hts ok.1 hown hK q2 0 rfl q1 k k1 (hts _ k2) (fun _ h9 => h9) (by rw [am_fs_get k1, hv]) hdg kk
/-- putfield: what the heap is behind it -/
theorem am_W_put0 {m pc ix ci k a d : Nat} {rest : List Value} {v : Value} (hX : am_Ctx G Zc d m p R s mid args meth c) (hH : am_Hp G Zc (n, K, I, L, Rf) H) (hS : va_S (am_A G) s.heap H locs) (ha : am_nc ≤ a) (hk : K a = .inl ci) (hF : am_okP m ix ci k) (hOK : ∀ (ci : Nat) (q : vw_C), am_cls[ci]? = some q → am_okK ci q) (hn : narrow (am_ft ci k) v = v) (hfit : fits (am_ft ci k) v = true) (hdg : decode (am_by m) pc = .ok (.putfield ix, 3)) {cells slots : Nat}
    (kk : ∀ (H1 : Heap) (locs1 : List Loc) (q : vw_C), am_cls[ci]? = some q → t_OB (am_r G a) (G.1 ci) q.2.2 (G.2.1 ci) H1 (updV (vp_V (am_fs (am_r G) q.2.2 ci I L Rf a)) k v) → H1.size = H.size → (∀ x : Nat, x ≠ am_r G a → H1[x]? = H[x]?) → va_S (am_A G) s.heap H1 locs1 → W p l e R s mid args below meth c H1 locs1 cells slots Z (F0 mid (pc + 3) lsA rest)) : W p l e R s mid args below meth c H locs cells slots Z (F0 mid pc lsA (v :: .ref (am_r G a) :: rest)) := by
  obtain ⟨hx, hb, hml, hown, hnm, hts, hK, hCs, hB, -⟩ := hX
  obtain ⟨⟨C, T, N⟩, q1, hP⟩ := am_P1 hH ha hk
  unfold am_okP am_okP0 at hF
  rw [q1] at hF
  obtain ⟨k1, k2⟩ := hF
  obtain ⟨hin, hty, hnd, -⟩ := hOK ci _ q1
  have hap := va_apart (own := (am_y m).cls) hts hin (am_ft ci) hty hnd hK q1
  obtain ⟨r, h1, cell, c1, c2, c3, c4⟩ := hP 0 _ rfl
  have hr : r = (C, T, N) := Option.some.inj (h1.symm.trans q1)
  subst hr
  obtain ⟨hSl, hfc, kC, hkC, hkind⟩ := hK.1 ci _ q1
  obtain ⟨cf, kf, fi, f, hi, hsl⟩ := hSl k k1
  have hlay := hts _ (hin _ (u_in_lay k1))
  unfold u_lay at hlay
  have hst := (u_facts hfc hkC (u_lays hts hin k1) hi).1
  have fin : ∀ (H' : Heap) (sl : Nat), sl = G.2.1 ci k → H'[am_r G a]? = some (cell.setSlot sl v) → H'.size = H.size → (∀ x : Nat, x ≠ am_r G a → H'[x]? = H[x]?) → W p l e R s mid args below meth c H' (locs ++ [⟨am_r G a, sl⟩]) cells slots Z (F0 mid (pc + 3) lsA rest) := by
    intro H' sl esl e1 e2 e3
    subst esl
    exact kk H' _ _ q1 ⟨_, e1, c2, c3, t_set c4 hap k1 v⟩ e2 e3 (hS.put e2 e3 (am_r_A ha))
  rcases k2 with ⟨hfin, k2⟩ | ⟨hfin, hini, hdecl, k2⟩
  · rw [if_neg (by rw [hfin]; decide)] at hlay
    have h6 := u_store hfc hkC hkind hlay hi (hty k k1) hn hfit
    rcases k2 with k2 | k2
    · exact W.putK hx hb (f := f) ⟨hown, hts _ k2, ⟨_, _, _, hi⟩, hst⟩ (by rw [c2]; exact h6) c1 c3 (by rw [hsl]; exact k2_hasslot (c4 k k1)) rfl rfl hdg fun H' e1 e2 e3 => fin H' _ hsl e1 e2 e3
    · exact va_WputK hx hb (f := f) hown (hts _ k2) hi hst (by rw [c2]; exact h6) c1 c3 (by rw [hsl]; exact k2_hasslot (c4 k k1)) rfl rfl hdg fun H' e1 e2 e3 => fin H' _ hsl e1 e2 e3
  · rw [if_pos hfin] at hlay
    have hcf : mid.cls = cf := by
      obtain ⟨_, _, c', _, _, _, -, -, hf', -, -, -, hown2, -⟩ := Cond.laysFinal_spec hlay
      have e1 : c' = cf := by have := hi.symm.trans hf'; simp at this; exact this.1.symm
      rw [hdecl] at hown2
      rw [← e1]; exact Option.some.inj (hown.symm.trans hown2)
    have h6 := u_fits hfc hkC hkind (Or.inr hlay) hi (hty k k1) hn hfit
    exact W.putFinK hx hb hown (hts _ k2) hi hst hcf (hnm.trans hini) (by rw [c2]; exact h6) c1 c3 (by rw [hsl]; exact k2_hasslot (c4 k k1)) rfl rfl hdg fun H' e1 e2 e3 => fin H' _ hsl e1 e2 e3
theorem am_cell_put {ci k a : Nat} {v : Value} {H1 : Heap} {I' : Nat → Nat → Int} {L' : Nat → Nat → Int} {R' : Nat → Nat → Option Nat} {q : vw_C} (hk : K a = .inl ci) (hq : am_cls[ci]? = some q) (h : t_OB (am_r G a) (G.1 ci) q.2.2 (G.2.1 ci) H1 (updV (vp_V (am_fs (am_r G) q.2.2 ci I L Rf a)) k v)) (hv : ∀ j, j < q.2.2 → am_fv (am_r G) (am_fty ci j) I' L' R' a j = if j = k then v else am_fv (am_r G) (am_fty ci j) I L Rf a j) : am_cell G K I' L' R' a H1 := by
  unfold am_cell
  rw [hk]
  refine ⟨q, hq, h.to (fun j hj => ?_)⟩
  rw [hv j hj]
  unfold updV
  split
  · rfl
  · exact am_fs_V hj
theorem am_fv_uI {ρ : Nat → Nat} {t : Nat} {a j k : Nat} {x : Int} (ht : j = k → t ≠ 2 ∧ t ≠ 3) : am_fv ρ t (am_u I a k x) L Rf a j = if j = k then .int (Int32.ofInt x) else am_fv ρ t I L Rf a j := by
  unfold am_fv
  by_cases h : j = k
  · subst h
    rw [if_pos rfl]
    split
    · exact absurd rfl (ht rfl).1
    · exact absurd rfl (ht rfl).2
    · simp [am_u]
  · rw [if_neg h]
    split
    · rfl
    · rfl
    · simp [am_u, h]
theorem am_fv_uL {ρ : Nat → Nat} {t : Nat} {a j k : Nat} {x : Int} (ht : j = k → t = 2) : am_fv ρ t I (am_u L a k x) Rf a j = if j = k then .long (Int64.ofInt x) else am_fv ρ t I L Rf a j := by
  by_cases h : j = k
  · rw [if_pos h, ht h]
    subst h
    simp [am_fv, am_u]
  · rw [if_neg h]
    unfold am_fv
    split
    · simp [am_u, h]
    · rfl
    · rfl
theorem am_fv_uR {ρ : Nat → Nat} {t : Nat} {a j k b : Nat} (ht : j = k → t = 3) : am_fv ρ t I L (am_u Rf a k (some b)) a j = if j = k then .ref (ρ b) else am_fv ρ t I L Rf a j := by
  by_cases h : j = k
  · rw [if_pos h, ht h]
    subst h
    simp [am_fv, am_u, va_rf]
  · rw [if_neg h]
    unfold am_fv
    split
    · rfl
    · simp [am_u, h]
    · rfl
theorem am_ft_int {ci k : Nat} {q : vw_C} (h : am_okK ci q) (hk : k < q.2.2) (e : am_fty ci k = 0) : am_ft ci k = .int := by
  have := (h.2.2.2 k hk).1
  rw [e] at this
  exact Option.some.inj this
theorem am_ft_bool {ci k : Nat} {q : vw_C} (h : am_okK ci q) (hk : k < q.2.2) (e : am_fty ci k = 1) : am_ft ci k = .boolean := by
  have := (h.2.2.2 k hk).1
  rw [e] at this
  exact Option.some.inj this
theorem am_ft_long {ci k : Nat} {q : vw_C} (h : am_okK ci q) (hk : k < q.2.2) (e : am_fty ci k = 2) : am_ft ci k = .long := by
  have := (h.2.2.2 k hk).1
  rw [e] at this
  exact Option.some.inj this
theorem am_ft_ref {ci k : Nat} {q : vw_C} (h : am_okK ci q) (hk : k < q.2.2) (e : am_fty ci k = 3) : (∃ n, am_ft ci k = .object n) ∨ ∃ v, am_ft ci k = .array v := by
  have := (h.2.2.2 k hk).1
  rw [e] at this
  obtain ⟨u, h1, h2⟩ := this
  cases h1
  exact h2
theorem am_okP_lt {m ix ci k : Nat} {q : vw_C} (h : am_okP m ix ci k) (hq : am_cls[ci]? = some q) : k < q.2.2 := by
  unfold am_okP am_okP0 at h
  rw [hq] at h
  exact h.1
/-- putfield of an int, a boolean -/
theorem am_W_puti {m pc ix ci k a d : Nat} {rest : List Value} {x : Int} (hrx : -2147483648 ≤ x ∧ x ≤ 2147483647) (hX : am_Ctx G Zc d m p R s mid args meth c) (hH : am_Hp G Zc (n, K, I, L, Rf) H) (hS : va_S (am_A G) s.heap H locs) (ha : am_nc ≤ a) (hk : K a = .inl ci) (hF : am_okP m ix ci k) (hOK : ∀ (ci : Nat) (q : vw_C), am_cls[ci]? = some q → am_okK ci q) (ht : am_fty ci k = 0 ∨ am_fty ci k = 1 ∧ (x = 0 ∨ x = 1)) (hdg : decode (am_by m) pc = .ok (.putfield ix, 3)) {cells slots : Nat}
    (kk : ∀ (H1 : Heap) (locs1 : List Loc), am_Hp G Zc (n, K, am_u I a k x, L, Rf) H1 → va_S (am_A G) s.heap H1 locs1 → W p l e R s mid args below meth c H1 locs1 cells slots Z (F0 mid (pc + 3) lsA rest)) : W p l e R s mid args below meth c H locs cells slots Z (F0 mid pc lsA (.int (Int32.ofInt x) :: .ref (am_r G a) :: rest)) := by
  obtain ⟨q0, hq0, -⟩ := am_P1 hH ha hk
  have hk0 := am_okP_lt hF hq0
  refine am_W_put0 hX hH hS ha hk hF hOK ?_ ?_ hdg (fun H1 locs1 q hq hob z oq hS1 => kk H1 locs1 ?_ hS1)
  · rcases ht with h | ⟨h, hx⟩
    · rw [am_ft_int (hOK ci q0 hq0) hk0 h]; rfl
    · rw [am_ft_bool (hOK ci q0 hq0) hk0 h]; exact am_bool hx
  · rcases ht with h | ⟨h, hx⟩
    · rw [am_ft_int (hOK ci q0 hq0) hk0 h]; rfl
    · rw [am_ft_bool (hOK ci q0 hq0) hk0 h]; rcases hx with rfl | rfl <;> decide +kernel
  · refine hH.write ha (fun b hb => am_u_row hb) (fun _ _ => rfl) (fun _ _ => rfl) z oq (am_cell_put hk hq hob (fun j _ => am_fv_uI (fun e => ?_))) (am_Rg_uI hH.2.2.2.2.2 hrx)
    subst e
    rcases ht with h | ⟨h, -⟩ <;> rw [h] <;> exact ⟨by decide, by decide⟩
/-- putfield of a long -/
theorem am_W_putl {m pc ix ci k a d : Nat} {rest : List Value} {x : Int} (hrx : -9223372036854775808 ≤ x ∧ x ≤ 9223372036854775807) (hX : am_Ctx G Zc d m p R s mid args meth c) (hH : am_Hp G Zc (n, K, I, L, Rf) H) (hS : va_S (am_A G) s.heap H locs) (ha : am_nc ≤ a) (hk : K a = .inl ci) (hF : am_okP m ix ci k) (hOK : ∀ (ci : Nat) (q : vw_C), am_cls[ci]? = some q → am_okK ci q) (ht : am_fty ci k = 2) (hdg : decode (am_by m) pc = .ok (.putfield ix, 3)) {cells slots : Nat}
    (kk : ∀ (H1 : Heap) (locs1 : List Loc), am_Hp G Zc (n, K, I, am_u L a k x, Rf) H1 → va_S (am_A G) s.heap H1 locs1 → W p l e R s mid args below meth c H1 locs1 cells slots Z (F0 mid (pc + 3) lsA rest)) : W p l e R s mid args below meth c H locs cells slots Z (F0 mid pc lsA (.long (Int64.ofInt x) :: .ref (am_r G a) :: rest)) := by
  obtain ⟨q0, hq0, -⟩ := am_P1 hH ha hk
  have hk0 := am_okP_lt hF hq0
  refine am_W_put0 hX hH hS ha hk hF hOK ?_ ?_ hdg (fun H1 locs1 q hq hob z oq hS1 => kk H1 locs1 ?_ hS1)
  · rw [am_ft_long (hOK ci q0 hq0) hk0 ht]; rfl
  · rw [am_ft_long (hOK ci q0 hq0) hk0 ht]; rfl
  · refine hH.write ha (fun _ _ => rfl) (fun b hb => am_u_row hb) (fun _ _ => rfl) z oq (am_cell_put hk hq hob (fun j _ => am_fv_uL (fun e => ?_))) (am_Rg_uL hH.2.2.2.2.2 hrx)
    subst e
    exact ht
/-- putfield of a reference -/
theorem am_W_putr {m pc ix ci k a d b : Nat} {rest : List Value} (hX : am_Ctx G Zc d m p R s mid args meth c) (hH : am_Hp G Zc (n, K, I, L, Rf) H) (hS : va_S (am_A G) s.heap H locs) (ha : am_nc ≤ a) (hk : K a = .inl ci) (hF : am_okP m ix ci k) (hOK : ∀ (ci : Nat) (q : vw_C), am_cls[ci]? = some q → am_okK ci q) (ht : am_fty ci k = 3) (hdg : decode (am_by m) pc = .ok (.putfield ix, 3)) {cells slots : Nat}
    (kk : ∀ (H1 : Heap) (locs1 : List Loc), am_Hp G Zc (n, K, I, L, am_u Rf a k (some b)) H1 → va_S (am_A G) s.heap H1 locs1 → W p l e R s mid args below meth c H1 locs1 cells slots Z (F0 mid (pc + 3) lsA rest)) : W p l e R s mid args below meth c H locs cells slots Z (F0 mid pc lsA (.ref (am_r G b) :: .ref (am_r G a) :: rest)) := by
  obtain ⟨q0, hq0, -⟩ := am_P1 hH ha hk
  have hk0 := am_okP_lt hF hq0
  refine am_W_put0 hX hH hS ha hk hF hOK ?_ ?_ hdg (fun H1 locs1 q hq hob z oq hS1 => kk H1 locs1 ?_ hS1)
  · rcases am_ft_ref (hOK ci q0 hq0) hk0 ht with ⟨u, h⟩ | ⟨u, h⟩ <;> rw [h] <;> rfl
  · rcases am_ft_ref (hOK ci q0 hq0) hk0 ht with ⟨u, h⟩ | ⟨u, h⟩ <;> rw [h] <;> rfl
  · refine hH.write ha (fun _ _ => rfl) (fun _ _ => rfl) (fun b hb => am_u_row hb) z oq (am_cell_put hk hq hob (fun j _ => am_fv_uR (fun e => ?_))) hH.2.2.2.2.2
    subst e
    exact ht
/-- arrays: the cell -/
theorem am_arr {t len a : Nat} (hH : am_Hp G Zc (n, K, I, L, Rf) H) (ha : am_nc ≤ a) (hk : K a = .inr (t, len)) (ht : t < 9) : H[am_r G a]? = some (arrV (G.2.2.1 t) len (fun j => am_fv (am_r G) t I L Rf a j)) := by
  have hlt : a < n := hH.lt (by rw [hk]; intro q; cases q; omega)
  have h1 := hH.2.2.2.1 a ha hlt
  unfold am_cell at h1
  rw [hk] at h1
  exact h1
theorem am_arrC {t len a d m : Nat} (hX : am_Ctx G Zc d m p R s mid args meth c) (hH : am_Hp G Zc (n, K, I, L, Rf) H) (ha : a < am_nc) (hk : K a = .inr (t, len)) (ht : t < 9) (ht2 : t ≠ 2) : va_T (am_ty t) (am_r G a) len (fun j => am_fv (am_r G) t I L Rf a j) (am_A G) s s.heap := by
  obtain ⟨-, -, -, -, -, -, -, hCs, -⟩ := hX
  obtain ⟨z1, z2, z3⟩ := hH.2.2.2.2.1 a ha
  have h1 := hCs.1 a ha
  rw [← z1, hk] at h1
  have h2 := h1 ht
  have e : (fun j => am_fv (am_r G) t Zc.2.1 (fun _ _ => 0) Zc.2.2 a j) = fun j => am_fv (am_r G) t I L Rf a j := by
    funext j
    unfold am_fv
    split
    · exact absurd rfl ht2
    · rw [z3]
    · rw [z2]
  rw [e] at h2
  exact h2
theorem am_in_rd {cA : ClassId} {len : Nat} {f : Nat → Value} {j : Int32} (hin : vp_in j len) : ¬ (j < 0 ∨ (arrV cA len f).slots.size ≤ j.toNatClampNeg) ∧ (arrV cA len f).slots[j.toNatClampNeg]? = some (f j.toNatClampNeg) := by
  have hlt : j.toNatClampNeg < len := Nat.not_le.mp fun q => hin (Or.inr q)
  exact ⟨by rw [arrV_size]; exact hin, arrV_read _ _ hlt⟩
theorem am_W_iald {m pc a d len : Nat} {j : Int} {rest : List Value} (hX : am_Ctx G Zc d m p R s mid args meth c) (hH : am_Hp G Zc (n, K, I, L, Rf) H) (hS : va_S (am_A G) s.heap H locs) (hk : K a = .inr (0, len)) (hj : 0 ≤ j ∧ j < (len : Int)) (hrj : -2147483648 ≤ j ∧ j ≤ 2147483647) (hdg : decode (am_by m) pc = .ok (.iaload, 1)) {cells slots : Nat}
    (kk : W p l e R s mid args below meth c H locs cells slots Z (F0 mid (pc + 1) lsA (.int (Int32.ofInt (I a j.toNat)) :: rest))) : W p l e R s mid args below meth c H locs cells slots Z (F0 mid pc lsA (.int (Int32.ofInt j) :: .ref (am_r G a) :: rest)) := by
  obtain ⟨hix, hin⟩ := am_ixI hj hrj
  rw [← hix] at kk
  by_cases ha : a < am_nc
  · have hT := am_arrC hX hH ha hk (by decide) (by decide)
    obtain ⟨hx, hb, -⟩ := hX
    exact va_ti hx hb hT hS hin rfl hdg kk
  · have hc := am_arr hH (by omega) hk (by decide)
    obtain ⟨hx, hb, -, -, -, -, hK, -⟩ := hX
    exact W.iald (v := .int (Int32.ofInt (I a (Int32.ofInt j).toNatClampNeg))) hx hb hc ((hK.2 0 _ rfl).1 _ _) (fun q => by cases q) (am_in_rd hin).1 (am_in_rd hin).2 rfl rfl hdg kk
theorem am_W_lald {m pc a d len : Nat} {j : Int} {rest : List Value} (hX : am_Ctx G Zc d m p R s mid args meth c) (hH : am_Hp G Zc (n, K, I, L, Rf) H) (ha : am_nc ≤ a) (hk : K a = .inr (2, len)) (hj : 0 ≤ j ∧ j < (len : Int)) (hrj : -2147483648 ≤ j ∧ j ≤ 2147483647) (hdg : decode (am_by m) pc = .ok (.laload, 1)) {cells slots : Nat}
    (kk : W p l e R s mid args below meth c H locs cells slots Z (F0 mid (pc + 1) lsA (.long (Int64.ofInt (L a j.toNat)) :: rest))) : W p l e R s mid args below meth c H locs cells slots Z (F0 mid pc lsA (.int (Int32.ofInt j) :: .ref (am_r G a) :: rest)) := by
  obtain ⟨hix, hin⟩ := am_ixI hj hrj
  rw [← hix] at kk
  have hc := am_arr hH ha hk (by decide)
  obtain ⟨hx, hb, -, -, -, -, hK, -⟩ := hX
  exact W.lald (v := .long (Int64.ofInt (L a (Int32.ofInt j).toNatClampNeg))) hx hb hc ((hK.2 2 _ rfl).1 _ _) (fun q => by cases q) (am_in_rd hin).1 (am_in_rd hin).2 rfl rfl hdg kk
theorem am_W_bald {m pc a d len : Nat} {j : Int} {rest : List Value} (hX : am_Ctx G Zc d m p R s mid args meth c) (hH : am_Hp G Zc (n, K, I, L, Rf) H) (hS : va_S (am_A G) s.heap H locs) (hk : am_nc ≤ a ∧ K a = .inr (1, len) ∨ K a = .inr (4, len)) (hj : 0 ≤ j ∧ j < (len : Int)) (hrj : -2147483648 ≤ j ∧ j ≤ 2147483647) (hdg : decode (am_by m) pc = .ok (.baload, 1)) {cells slots : Nat}
    (kk : W p l e R s mid args below meth c H locs cells slots Z (F0 mid (pc + 1) lsA (.int (Int32.ofInt (I a j.toNat)) :: rest))) : W p l e R s mid args below meth c H locs cells slots Z (F0 mid pc lsA (.int (Int32.ofInt j) :: .ref (am_r G a) :: rest)) := by
  obtain ⟨hix, hin⟩ := am_ixI hj hrj
  rw [← hix] at kk
  rcases hk with ⟨ha, hk⟩ | hk
  · have hc := am_arr hH ha hk (by decide)
    obtain ⟨hx, hb, -, -, -, -, hK, -⟩ := hX
    exact W.zald (v := .int (Int32.ofInt (I a (Int32.ofInt j).toNatClampNeg))) hx hb hc ((hK.2 1 _ rfl).1 _ _) (fun q => by cases q) (am_in_rd hin).1 (am_in_rd hin).2 rfl rfl hdg kk
  · by_cases ha : a < am_nc
    · have hT := am_arrC hX hH ha hk (by decide) (by decide)
      obtain ⟨hx, hb, -⟩ := hX
      exact va_tb hx hb hT hS hin rfl hdg kk
    · have hc := am_arr hH (by omega) hk (by decide)
      obtain ⟨hx, hb, -, -, -, -, hK, -⟩ := hX
      exact W.bald (v := .int (Int32.ofInt (I a (Int32.ofInt j).toNatClampNeg))) hx hb hc ((hK.2 3 _ rfl).1 _ _) (fun q => by cases q) (am_in_rd hin).1 (am_in_rd hin).2 rfl rfl hdg kk
theorem am_W_alen {m pc a d len t : Nat} {rest : List Value} (hX : am_Ctx G Zc d m p R s mid args meth c) (hH : am_Hp G Zc (n, K, I, L, Rf) H) (hS : va_S (am_A G) s.heap H locs) (hk : K a = .inr (t, len)) (ht : a < am_nc ∧ t < 9 ∧ t ≠ 2 ∨ am_nc ≤ a ∧ (t < 3 ∨ t = 4)) (hdg : decode (am_by m) pc = .ok (.arraylength, 1)) {cells slots : Nat}
    (kk : W p l e R s mid args below meth c H locs cells slots Z (F0 mid (pc + 1) lsA (.int (Int32.ofInt (len : Int)) :: rest))) : W p l e R s mid args below meth c H locs cells slots Z (F0 mid pc lsA (.ref (am_r G a) :: rest)) := by
  rw [Int32.ofInt_eq_ofNat] at kk
  rcases ht with ⟨ha, h9, h2⟩ | ⟨ha, h3⟩
  · have hT := am_arrC hX hH ha hk h9 h2
    obtain ⟨hx, hb, -⟩ := hX
    exact va_tlen hx hb hT hS rfl hdg kk
  · have hc := am_arr hH ha hk (by omega)
    obtain ⟨hx, hb, -, -, -, -, hK, -⟩ := hX
    match t, h3, hc with
    | 4, _, hc => exact W.alen (n := Int32.ofNat len) hx hb hc ((hK.2 3 _ rfl).1 _ _) (by rw [arrV_size]) rfl rfl hdg kk
    | 3, h3, _ => exact absurd h3 (by decide)
    | t + 5, h3, _ => exact absurd h3 (by omega)
    | 0, _, hc => exact W.alen (n := Int32.ofNat len) hx hb hc ((hK.2 0 _ rfl).1 _ _) (by rw [arrV_size]) rfl rfl hdg kk
    | 1, _, hc => exact W.alen (n := Int32.ofNat len) hx hb hc ((hK.2 1 _ rfl).1 _ _) (by rw [arrV_size]) rfl rfl hdg kk
    | 2, _, hc => exact W.alen (n := Int32.ofNat len) hx hb hc ((hK.2 2 _ rfl).1 _ _) (by rw [arrV_size]) rfl rfl hdg kk
theorem am_cell_ast {t len a i : Nat} {x : Value} {H1 : Heap} {I' : Nat → Nat → Int} {L' : Nat → Nat → Int} (hk : K a = .inr (t, len)) (h : H1[am_r G a]? = some ((arrV (G.2.2.1 t) len (fun j => am_fv (am_r G) t I L Rf a j)).setSlot i x)) (hv : ∀ j, am_fv (am_r G) t I' L' Rf a j = if j = i then x else am_fv (am_r G) t I L Rf a j) : am_cell G K I' L' Rf a H1 := by
  unfold am_cell
  rw [hk]
  dsimp only
  rw [h, arrV_store]
  congr 2
  funext j
  rw [hv j]
  rfl
theorem am_W_iast {m pc a d len : Nat} {j x : Int} {rest : List Value} (hX : am_Ctx G Zc d m p R s mid args meth c) (hH : am_Hp G Zc (n, K, I, L, Rf) H) (hS : va_S (am_A G) s.heap H locs) (ha : am_nc ≤ a) (hk : K a = .inr (0, len)) (hj : 0 ≤ j ∧ j < (len : Int)) (hrj : -2147483648 ≤ j ∧ j ≤ 2147483647) (hrx : -2147483648 ≤ x ∧ x ≤ 2147483647) (hdg : decode (am_by m) pc = .ok (.iastore, 1)) {cells slots : Nat}
    (kk : ∀ (H1 : Heap) (locs1 : List Loc), am_Hp G Zc (n, K, am_u I a j.toNat x, L, Rf) H1 → va_S (am_A G) s.heap H1 locs1 → W p l e R s mid args below meth c H1 locs1 cells slots Z (F0 mid (pc + 1) lsA rest)) : W p l e R s mid args below meth c H locs cells slots Z (F0 mid pc lsA (.int (Int32.ofInt x) :: .int (Int32.ofInt j) :: .ref (am_r G a) :: rest)) := by
  obtain ⟨hix, hin⟩ := am_ixI hj hrj
  rw [← hix] at kk
  have hc := am_arr hH ha hk (by decide)
  obtain ⟨hx, hb, -, -, -, -, hK, -⟩ := hX
  refine W.iast hx hb hc ((hK.2 0 _ rfl).1 _ _) (fun q => by cases q) (am_in_rd hin).1 rfl rfl hdg fun H1 e1 z oq => kk H1 _ ?_ (hS.put z oq (am_r_A ha))
  exact hH.write ha (fun b hb => am_u_row hb) (fun _ _ => rfl) (fun _ _ => rfl) z oq (am_cell_ast hk e1 (fun j => am_fv_uI (fun _ => ⟨by decide, by decide⟩))) (am_Rg_uI hH.2.2.2.2.2 hrx)
theorem am_W_bast {m pc a d len : Nat} {j x : Int} {rest : List Value} (hX : am_Ctx G Zc d m p R s mid args meth c) (hH : am_Hp G Zc (n, K, I, L, Rf) H) (hS : va_S (am_A G) s.heap H locs) (ha : am_nc ≤ a) (hk : K a = .inr (1, len) ∧ (x = 0 ∨ x = 1) ∨ K a = .inr (4, len) ∧ (-128 ≤ x ∧ x ≤ 127)) (hj : 0 ≤ j ∧ j < (len : Int)) (hrj : -2147483648 ≤ j ∧ j ≤ 2147483647) (hdg : decode (am_by m) pc = .ok (.bastore, 1)) {cells slots : Nat}
    (kk : ∀ (H1 : Heap) (locs1 : List Loc), am_Hp G Zc (n, K, am_u I a j.toNat x, L, Rf) H1 → va_S (am_A G) s.heap H1 locs1 → W p l e R s mid args below meth c H1 locs1 cells slots Z (F0 mid (pc + 1) lsA rest)) : W p l e R s mid args below meth c H locs cells slots Z (F0 mid pc lsA (.int (Int32.ofInt x) :: .int (Int32.ofInt j) :: .ref (am_r G a) :: rest)) := by
  obtain ⟨hix, hin⟩ := am_ixI hj hrj
  rw [← hix] at kk
  rcases hk with ⟨hk, hx01⟩ | ⟨hk, hx01⟩
  · have hc := am_arr hH ha hk (by decide)
    obtain ⟨hx, hb, -, -, -, -, hK, -⟩ := hX
    refine W.zast hx hb hc ((hK.2 1 _ rfl).1 _ _) (fun q => by cases q) (am_in_rd hin).1 rfl rfl hdg fun H1 e1 z oq => kk H1 _ ?_ (hS.put z oq (am_r_A ha))
    rw [am_bool hx01] at e1
    exact hH.write ha (fun b hb => am_u_row hb) (fun _ _ => rfl) (fun _ _ => rfl) z oq (am_cell_ast hk e1 (fun j => am_fv_uI (fun _ => ⟨by decide, by decide⟩))) (am_Rg_uI hH.2.2.2.2.2 (by omega))
  · have hc := am_arr hH ha hk (by decide)
    obtain ⟨hx, hb, -, -, -, -, hK, -⟩ := hX
    refine W.bast hx hb hc ((hK.2 3 _ rfl).1 _ _) (fun q => by cases q) (am_in_rd hin).1 rfl rfl hdg fun H1 e1 z oq => kk H1 _ ?_ (hS.put z oq (am_r_A ha))
    rw [am_byte hx01] at e1
    exact hH.write ha (fun b hb => am_u_row hb) (fun _ _ => rfl) (fun _ _ => rfl) z oq (am_cell_ast hk e1 (fun j => am_fv_uI (fun _ => ⟨by decide, by decide⟩))) (am_Rg_uI hH.2.2.2.2.2 (by omega))
theorem am_W_last {m pc a d len : Nat} {j x : Int} {rest : List Value} (hX : am_Ctx G Zc d m p R s mid args meth c) (hH : am_Hp G Zc (n, K, I, L, Rf) H) (hS : va_S (am_A G) s.heap H locs) (ha : am_nc ≤ a) (hk : K a = .inr (2, len)) (hj : 0 ≤ j ∧ j < (len : Int)) (hrj : -2147483648 ≤ j ∧ j ≤ 2147483647) (hrx : -9223372036854775808 ≤ x ∧ x ≤ 9223372036854775807) (hdg : decode (am_by m) pc = .ok (.lastore, 1)) {cells slots : Nat}
    (kk : ∀ (H1 : Heap) (locs1 : List Loc), am_Hp G Zc (n, K, I, am_u L a j.toNat x, Rf) H1 → va_S (am_A G) s.heap H1 locs1 → W p l e R s mid args below meth c H1 locs1 cells slots Z (F0 mid (pc + 1) lsA rest)) : W p l e R s mid args below meth c H locs cells slots Z (F0 mid pc lsA (.long (Int64.ofInt x) :: .int (Int32.ofInt j) :: .ref (am_r G a) :: rest)) := by
  obtain ⟨hix, hin⟩ := am_ixI hj hrj
  rw [← hix] at kk
  have hc := am_arr hH ha hk (by decide)
  obtain ⟨hx, hb, -, -, -, -, hK, -⟩ := hX
  refine W.last hx hb hc ((hK.2 2 _ rfl).1 _ _) (fun q => by cases q) (am_in_rd hin).1 rfl rfl hdg fun H1 e1 z oq => kk H1 _ ?_ (hS.put z oq (am_r_A ha))
  exact hH.write ha (fun _ _ => rfl) (fun b hb => am_u_row hb) (fun _ _ => rfl) z oq (am_cell_ast hk e1 (fun j => am_fv_uL (fun _ => rfl))) (am_Rg_uL hH.2.2.2.2.2 hrx)
/-- new -/
theorem am_W_new {m pc ix ci d : Nat} {rest : List Value} {q : vw_C} (hX : am_Ctx G Zc d m p R s mid args meth c) (hH : am_Hp G Zc (n, K, I, L, Rf) H) (hS : va_S (am_A G) s.heap H locs) (hq : am_cls[ci]? = some q) (hOK : am_okK ci q) (h1 : am_gw (Cond.classLink (am_y m).cls ix q.1)) (h2 : am_gw (Cond.instantiable q.1 q.2.2)) (h3 : am_gw (Cond.initialized q.1)) (hdg : decode (am_by m) pc = .ok (.new ix, 3)) {cells slots : Nat} (hc : cells + 1 ≤ R.cells) (hs : slots + q.2.2 ≤ R.slots)
    (kk : ∀ (H1 : Heap), am_Hp G Zc (n + 1, am_uK K n (.inl ci), am_z I n 0, am_z L n 0, am_z Rf n none) H1 → va_S (am_A G) s.heap H1 locs → W p l e R s mid args below meth c H1 locs (cells + 1) (slots + q.2.2) Z (F0 mid (pc + 3) lsA (.ref (am_r G n) :: rest))) : W p l e R s mid args below meth c H locs cells slots Z (F0 mid pc lsA rest) := by
  obtain ⟨hx, hb, hml, hown, hnm, hts, hK, hCs, hB, -⟩ := hX
  have hKn := hK.1 ci _ hq
  refine W.newcK hx hb hown (hts _ h1) (hts _ h2) (hts _ h3) rfl hdg hc hs hKn.2.1 hH.top fun H1 kC hkC e1 z1 o1 => kk H1 ?_ ⟨Nat.le_trans hS.1 (by rw [z1, hH.top]; omega), fun x g1 g2 => (o1 x (Nat.lt_of_lt_of_le g1 (by rw [← hH.top]; exact hS.1))).trans (hS.2.1 x g1 g2), hS.2.2⟩
  refine hH.grow (by rw [z1, hH.top]) (by rw [hH.top]; exact o1) ?_
  unfold am_cell
  rw [show am_uK K n (.inl ci) n = .inl ci by simp [am_uK]]
  refine ⟨q, hq, (u_born (am_ft ci) hts hOK.1 hKn hkC e1 hOK.2.1).to (fun k hk => ?_)⟩
  obtain ⟨g1, g2⟩ := hOK.2.2.2 k hk
  have four : am_fty ci k = 0 ∨ am_fty ci k = 1 ∨ am_fty ci k = 2 ∨ am_fty ci k = 3 := by omega
  rcases four with h | h | h | h
  · rw [am_ft_int hOK hk h, h]; simp [am_fv, am_z, defaultValue] <;> decide
  · rw [am_ft_bool hOK hk h, h]; simp [am_fv, am_z, defaultValue] <;> decide
  · rw [am_ft_long hOK hk h, h]; simp [am_fv, am_z, defaultValue] <;> decide
  · rcases am_ft_ref hOK hk h with ⟨u, hu⟩ | ⟨u, hu⟩ <;> rw [hu, h] <;> simp [am_fv, am_z, defaultValue, va_rf]
/-- newarray -/
theorem am_W_newa {m pc d : Nat} {t : Jvm.ClassFile.ArrayType} {x : Int} {rest : List Value} (hrx : -2147483648 ≤ x ∧ x ≤ 2147483647) (hX : am_Ctx G Zc d m p R s mid args meth c) (hH : am_Hp G Zc (n, K, I, L, Rf) H) (hS : va_S (am_A G) s.heap H locs) (ht : am_tc t ≤ 2 ∨ am_tc t = 4) (hw : am_gw (Cond.arrayClass (newarray.typeOf t))) (hdg : decode (am_by m) pc = .ok (.newarray t, 2)) {cells slots : Nat} (hx0 : 0 ≤ x) (h6 : x.toNat ≤ 60000000) (hc : cells + 1 ≤ R.cells) (hs : slots + x.toNat ≤ R.slots)
    (kk : ∀ (H1 : Heap), am_Hp G Zc (n + 1, am_uK K n (.inr (am_tc t, x.toNat)), am_z I n 0, am_z L n 0, am_z Rf n none) H1 → va_S (am_A G) s.heap H1 locs → W p l e R s mid args below meth c H1 locs (cells + 1) (slots + x.toNat) Z (F0 mid (pc + 2) lsA (.ref (am_r G n) :: rest))) : W p l e R s mid args below meth c H locs cells slots Z (F0 mid pc lsA (.int (Int32.ofInt x) :: rest)) := by
  obtain ⟨hx, hb, hml, hown, hnm, hts, hK, hCs, hB, -⟩ := hX
  have core : ∀ (t0 t1 : Nat) (ty : FieldType) (z : Value), newarray.typeOf t = ty → am_tc t = t0 → (am_tys G)[t1]? = some (G.2.2.1 t0, ty) → defaultValue ty = z → componentBytes ty ≤ 8 → (∀ (cA : ClassId), va_RA s cA ty → s.vm.findClass ("[" ++ ty.toString) = some cA) → (∀ j, am_fv (am_r G) t0 (am_z I n 0) (am_z L n 0) (am_z Rf n none) n j = z) → W p l e R s mid args below meth c H locs cells slots Z (F0 mid pc lsA (.int (Int32.ofInt x) :: rest)) := by
    intro t0 t1 ty z e1 e2 e3 e4 e5 e6 e7
    subst e1
    have hxn : (Int32.ofInt x).toNatClampNeg = x.toNat := by rw [Int32.toNatClampNeg, am_to hrx]
    have hx1 : ¬ Int32.ofInt x < 0 := by
      rw [am_zI, am_ltI hrx ⟨by decide, by decide⟩]
      omega
    refine va_newaK (N := x.toNat) hx hb (hts _ hw) rfl hdg rfl hx1 hxn (Nat.le_trans (Nat.mul_le_mul h6 e5) (by decide)) hc hs hH.top fun H1 cA g1 z1 o1 hAr hNm => kk H1 ?_ ⟨Nat.le_trans hS.1 (by rw [z1, hH.top]; omega), fun x g1 g2 => (o1 x (Nat.lt_of_lt_of_le g1 (by rw [← hH.top]; exact hS.1))).trans (hS.2.1 x g1 g2), hS.2.2⟩
    refine hH.grow (by rw [z1, hH.top]) (by rw [hH.top]; exact o1) ?_
    unfold am_cell
    rw [show am_uK K n (.inr (am_tc t, x.toNat)) n = .inr (am_tc t, x.toNat) by simp [am_uK]]
    dsimp only
    rw [g1, e2]
    have hcA : cA = G.2.2.1 t0 := Option.some.inj (hNm.symm.trans (e6 _ (hK.2 t1 _ e3).2))
    rw [hcA, e4]
    congr 2
    funext j
    exact (e7 j).symm
  cases t with
  | int => exact core 0 0 .int (.int 0) rfl rfl rfl rfl (by decide) (fun _ h => h) (fun j => by simp [am_fv, am_z] <;> decide)
  | boolean => exact core 1 1 .boolean (.int 0) rfl rfl rfl rfl (by decide) (fun _ h => h) (fun j => by simp [am_fv, am_z] <;> decide)
  | long => exact core 2 2 .long (.long 0) rfl rfl rfl rfl (by decide) (fun _ h => h) (fun j => by simp [am_fv, am_z] <;> decide)
  | byte => exact core 4 3 .byte (.int 0) rfl rfl rfl rfl (by decide) (fun _ h => h) (fun j => by simp [am_fv, am_z] <;> decide)
  | char => exact absurd ht (by decide)
  | short => exact absurd ht (by decide)
  | float => exact absurd ht (by decide)
  | double => exact absurd ht (by decide)
end AMH
end
section
section AMN
variable {G : am_G} {Zc : am_Z} {l : Launch}
theorem am_tsl_at {x : Int} {k : Nat → Prop} {d : Nat} : ∀ (os : List Int) (lo : Int), am_sw x k d (am_tsl lo os) → (x < lo ∨ lo + (os.length : Int) ≤ x → k d) ∧ (∀ i : Nat, x = lo + (i : Int) → ∀ t, os[i]? = some t → k t.toNat) := by
  intro os
  induction os with
  | nil =>
    intro lo h
    exact ⟨fun _ => h, fun i _ t ht => by simp at ht⟩
  | cons o os ih =>
    intro lo h
    simp only [List.length_cons]
    obtain ⟨a1, a2⟩ := h
    refine ⟨fun hq => ?_, fun i hi t ht => ?_⟩
    · have hne : x ≠ lo := by omega
      exact (ih (lo + 1) (a2 hne)).1 (by omega)
    · cases i with
      | zero =>
        simp at ht
        subst ht
        exact a1 (by omega)
      | succ i =>
        have hne : x ≠ lo := by omega
        exact (ih (lo + 1) (a2 hne)).2 i (by omega) t (by simpa using ht)
theorem am_lsl_at {x : Int} {k : Nat → Prop} {d dd : Int} {pc : Nat} (hd : dd = d - (pc : Int)) : ∀ (ps : List (Int × Int)), (∀ q ∈ ps, 0 ≤ q.2 ∧ -2147483648 ≤ q.1 ∧ q.1 ≤ 2147483647) → am_sw x k d.toNat (am_lsl ps) → ∃ t : Int, Op.lookupswitch.offset (ps.map fun q => (q.1, q.2 - (pc : Int))) dd x = t - (pc : Int) ∧ k t.toNat ∧ (t = d ∨ 0 ≤ t) := by
  intro ps
  induction ps with
  | nil =>
    intro _ h
    exact ⟨d, by rw [hd]; rfl, h, Or.inl rfl⟩
  | cons q ps ih =>
    intro hq h
    obtain ⟨v, t⟩ := q
    obtain ⟨h1, h2⟩ := h
    obtain ⟨b1, b2, b3⟩ := hq _ List.mem_cons_self
    by_cases hx : x = v
    · refine ⟨t, ?_, h1 hx, Or.inr b1⟩
      simp [Op.lookupswitch.offset, hx]
    · obtain ⟨t', g1, g2, g3⟩ := ih (fun q hm => hq q (List.mem_cons_of_mem _ hm)) (h2 hx)
      refine ⟨t', ?_, g2, g3⟩
      rw [← g1]
      simp [Op.lookupswitch.offset, hx, Ne.symm hx]
set_option maxHeartbeats 8000000 in
/-- THE SMALL MACHINE SPEAKS TRULY OF THE LARGE ONE -/
theorem am_sound (hchk : am_Chk G Zc l) (hok : ∀ m pc i nx ix, am_code m pc = some (i, nx, ix) → am_okI m pc i nx ix) (hOK : ∀ (ci : Nat) (q : vw_C), am_cls[ci]? = some q → am_okK ci q) : am_pre (am_Sem G Zc l) := by
  intro d cf Q h
  obtain ⟨m, pc, ls, st, ct, n, K, I, L, Rf⟩ := cf
  intro p e R s mid args below meth c H locs lsA Z hX hH hS hl hgl hgs hct hret
  unfold am_step at h
  dsimp only at h
  split at h
  · exact h.elim
  rename_i i nx ix hcode
  have ok := hok m pc i nx ix hcode
  clear hcode
  have hX' := hX
  obtain ⟨hx, hb, hml, hown, hnm, hts, hK, hCs, hB, hfr, hlo, hbc, hbs⟩ := hX
  cases i with
  | iconst v => obtain ⟨⟨hd, hnx⟩, hw⟩ := ok; subst hnx; exact lv_iconst hx hb hd rfl (h p e R s mid args below meth c H locs lsA Z hX' hH hS hl hgl (am_rgs_cons hw hgs) hct hret)
  | bipush v => obtain ⟨⟨hd, hnx⟩, hw⟩ := ok; subst hnx; exact lv_bipush hx hb hd (am_b8 hw) (h p e R s mid args below meth c H locs lsA Z hX' hH hS hl hgl (am_rgs_cons (v := .inl v) (show -2147483648 ≤ v ∧ v ≤ 2147483647 by have h1 : -128 ≤ v ∧ v ≤ 127 := hw; omega) hgs) hct hret)
  | sipush v => obtain ⟨⟨hd, hnx⟩, hw⟩ := ok; subst hnx; exact lv_sipush hx hb hd (am_b16 hw) (h p e R s mid args below meth c H locs lsA Z hX' hH hS hl hgl (am_rgs_cons (v := .inl v) (show -2147483648 ≤ v ∧ v ≤ 2147483647 by have h1 : -32768 ≤ v ∧ v ≤ 32767 := hw; omega) hgs) hct hret)
  | lconst v => obtain ⟨⟨hd, hnx⟩, hw⟩ := ok; subst hnx; exact lv_lconst hx hb hd Int64.ofInt_eq_ofNat.symm (h p e R s mid args below meth c H locs lsA Z hX' hH hS hl hgl (am_rgs_cons (v := .inr (.inr (some ((v : Nat) : Int)))) (show -9223372036854775808 ≤ ((v : Nat) : Int) ∧ ((v : Nat) : Int) ≤ 9223372036854775807 by have h1 : (v : Nat) < 2 := v.isLt; omega) hgs) hct hret)
  | jsr v => obtain ⟨⟨hd, hnx⟩, hw⟩ := ok; subst hnx; exact lv_ldc hx hb hown (hts _ hw.2) hd (h p e R s mid args below meth c H locs lsA Z hX' hH hS hl hgl (am_rgs_cons hw.1 hgs) hct hret)
  | jsr_w v => obtain ⟨⟨hd, hnx⟩, hw⟩ := ok; subst hnx; exact lv_ldc2 hx hb hown (hts _ hw.2) hd (h p e R s mid args below meth c H locs lsA Z hX' hH hS hl hgl (am_rgs_cons hw.1 hgs) hct hret)
  | goto_w v => obtain ⟨⟨hd, hnx⟩, hw⟩ := ok; subst hnx; exact lv_ldcw hx hb hown (hts _ hw.2) hd (h p e R s mid args below meth c H locs lsA Z hX' hH hS hl hgl (am_rgs_cons hw.1 hgs) hct hret)
  | ldc a => obtain ⟨⟨hd, hnx⟩, hw⟩ := ok; subst hnx; obtain ⟨tx, hw⟩ := hw; exact va_ldcS hx hb hown (hCs.2.1 _ hw) hd (h p e R s mid args below meth c H locs lsA Z hX' hH hS hl hgl (am_rgs_cons (v := .inr (.inl a)) trivial hgs) hct hret)
  | getstatic v => obtain ⟨⟨hd, hnx⟩, hw⟩ := ok; subst hnx; obtain ⟨hv, C, f, g, hw, hw2⟩ := hw; exact va_gets hx hb (hCs.2.2.1 _ hw) hS hown (hts _ hw2) (fun _ h9 => h9) hd (h p e R s mid args below meth c H locs lsA Z hX' hH hS hl hgl (am_rgs_cons (v := .inl (v : Int)) (show -2147483648 ≤ (v : Int) ∧ (v : Int) ≤ 2147483647 by omega) hgs) hct hret)
  | iload j => obtain ⟨⟨hd, hnx⟩, hw⟩ := ok; subst hnx; obtain ⟨x, hv, h⟩ := am_gi_e h; exact lv_iload hx hb hd (am_lh_at hl hv rfl) (h p e R s mid args below meth c H locs lsA Z hX' hH hS hl hgl (am_rgs_cons (hgl _ (List.mem_of_getElem? hv)) hgs) hct hret)
  | iload_n j => obtain ⟨⟨hd, hnx⟩, hw⟩ := ok; subst hnx; obtain ⟨x, hv, h⟩ := am_gi_e h; exact lv_iload_n hx hb hd rfl (am_lh_at hl hv rfl) (h p e R s mid args below meth c H locs lsA Z hX' hH hS hl hgl (am_rgs_cons (hgl _ (List.mem_of_getElem? hv)) hgs) hct hret)
  | lload j => obtain ⟨⟨hd, hnx⟩, hw⟩ := ok; subst hnx; obtain ⟨x, hv, h⟩ := am_gl_e h; exact lv_lload hx hb hd (am_lh_at hl hv rfl) (h p e R s mid args below meth c H locs lsA Z hX' hH hS hl hgl (am_rgs_cons (hgl _ (List.mem_of_getElem? hv)) hgs) hct hret)
  | lload_n j => obtain ⟨⟨hd, hnx⟩, hw⟩ := ok; subst hnx; obtain ⟨x, hv, h⟩ := am_gl_e h; exact lv_lload_n hx hb hd rfl (am_lh_at hl hv rfl) (h p e R s mid args below meth c H locs lsA Z hX' hH hS hl hgl (am_rgs_cons (hgl _ (List.mem_of_getElem? hv)) hgs) hct hret)
  | aload j => obtain ⟨⟨hd, hnx⟩, hw⟩ := ok; subst hnx; obtain ⟨x, hv, h⟩ := am_ga_e h; exact lv_aload hx hb hd (am_lh_at hl hv rfl) (h p e R s mid args below meth c H locs lsA Z hX' hH hS hl hgl (am_rgs_cons (hgl _ (List.mem_of_getElem? hv)) hgs) hct hret)
  | aload_n j => obtain ⟨⟨hd, hnx⟩, hw⟩ := ok; subst hnx; obtain ⟨x, hv, h⟩ := am_ga_e h; exact lv_aload_n hx hb hd rfl (am_lh_at hl hv rfl) (h p e R s mid args below meth c H locs lsA Z hX' hH hS hl hgl (am_rgs_cons (hgl _ (List.mem_of_getElem? hv)) hgs) hct hret)
  | istore j => obtain ⟨⟨hd, hnx⟩, hw⟩ := ok; subst hnx; obtain ⟨x, r, rfl, h⟩ := am_i1_e h; exact lv_istore hx hb hd hl hw rfl (fun lsA' hl' => h p e R s mid args below meth c H locs lsA' Z hX' hH hS (am_lh_st1 (v := .inl x) hl') (am_rgs_st1 hgl (am_rgs_hd hgs)) (am_rgs_tl hgs) hct hret)
  | istore_n j => obtain ⟨⟨hd, hnx⟩, hw⟩ := ok; subst hnx; obtain ⟨x, r, rfl, h⟩ := am_i1_e h; exact lv_istore_n hx hb hd rfl hl hw rfl (fun lsA' hl' => h p e R s mid args below meth c H locs lsA' Z hX' hH hS (am_lh_st1 (v := .inl x) hl') (am_rgs_st1 hgl (am_rgs_hd hgs)) (am_rgs_tl hgs) hct hret)
  | lstore j => obtain ⟨⟨hd, hnx⟩, hw⟩ := ok; subst hnx; obtain ⟨x, r, rfl, h⟩ := am_l1_e h; exact lv_lstore hx hb hd hl hw rfl (fun lsA' hl' => h p e R s mid args below meth c H locs lsA' Z hX' hH hS (am_lh_st2 (v := .inr (.inr (some x))) hl') (am_rgs_st2 hgl (am_rgs_hd hgs)) (am_rgs_tl hgs) hct hret)
  | lstore_n j => obtain ⟨⟨hd, hnx⟩, hw⟩ := ok; subst hnx; obtain ⟨x, r, rfl, h⟩ := am_l1_e h; exact lv_lstore_n hx hb hd rfl hl hw rfl (fun lsA' hl' => h p e R s mid args below meth c H locs lsA' Z hX' hH hS (am_lh_st2 (v := .inr (.inr (some x))) hl') (am_rgs_st2 hgl (am_rgs_hd hgs)) (am_rgs_tl hgs) hct hret)
  | astore j => obtain ⟨⟨hd, hnx⟩, hw⟩ := ok; subst hnx; obtain ⟨x, r, rfl, h⟩ := am_r1_e h; exact lv_astore hx hb hd hl hw rfl (fun lsA' hl' => h p e R s mid args below meth c H locs lsA' Z hX' hH hS (am_lh_st1 (v := .inr (.inl x)) hl') (am_rgs_st1 hgl (am_rgs_hd hgs)) (am_rgs_tl hgs) hct hret)
  | astore_n j => obtain ⟨⟨hd, hnx⟩, hw⟩ := ok; subst hnx; obtain ⟨x, r, rfl, h⟩ := am_r1_e h; exact lv_astore_n hx hb hd rfl hl hw rfl (fun lsA' hl' => h p e R s mid args below meth c H locs lsA' Z hX' hH hS (am_lh_st1 (v := .inr (.inl x)) hl') (am_rgs_st1 hgl (am_rgs_hd hgs)) (am_rgs_tl hgs) hct hret)
  | iinc j v =>
    obtain ⟨⟨hd, hnx⟩, hw⟩ := ok
    subst hnx
    obtain ⟨x, hv, h⟩ := am_gi_e h
    obtain ⟨z, hz, hr, h⟩ := am_e_add h
    obtain ⟨k0, hk0⟩ := List.getElem?_of_mem ((am_prs_mem (ρ := am_r G) ls 0 (j, .int (Int32.ofInt x))).mpr ⟨j, .inl x, hv, rfl, by simp [am_cv]⟩)
    exact lv_iinc hx hb hd hl hk0 hz hw rfl (fun lsA' hl' => h p e R s mid args below meth c H locs lsA' Z hX' hH hS (am_lh_st1 (v := .inl z) hl') (am_rgs_st1 hgl hr) hgs hct hret)
  | iadd => obtain ⟨⟨hd, hnx⟩, hw⟩ := ok; subst hnx; obtain ⟨x, y, r, rfl, h⟩ := am_i2_e h; obtain ⟨z, hz, hr, h⟩ := am_e_add h; refine lv_iadd hx hb hd ?_; rw [hz]; exact h p e R s mid args below meth c H locs lsA Z hX' hH hS hl hgl (am_rgs_cons (v := .inl z) hr (am_rgs_tl (am_rgs_tl hgs))) hct hret
  | isub => obtain ⟨⟨hd, hnx⟩, hw⟩ := ok; subst hnx; obtain ⟨x, y, r, rfl, h⟩ := am_i2_e h; obtain ⟨z, hz, hr, h⟩ := am_e_sub h; refine lv_isub hx hb hd ?_; rw [hz]; exact h p e R s mid args below meth c H locs lsA Z hX' hH hS hl hgl (am_rgs_cons (v := .inl z) hr (am_rgs_tl (am_rgs_tl hgs))) hct hret
  | imul => obtain ⟨⟨hd, hnx⟩, hw⟩ := ok; subst hnx; obtain ⟨x, y, r, rfl, h⟩ := am_i2_e h; obtain ⟨z, hz, hr, h⟩ := am_e_mul h; refine lv_imul hx hb hd ?_; rw [hz]; exact h p e R s mid args below meth c H locs lsA Z hX' hH hS hl hgl (am_rgs_cons (v := .inl z) hr (am_rgs_tl (am_rgs_tl hgs))) hct hret
  | iand => obtain ⟨⟨hd, hnx⟩, hw⟩ := ok; subst hnx; obtain ⟨x, y, r, rfl, h⟩ := am_i2_e h; obtain ⟨z, hz, hr, h⟩ := am_nm_e (y := Int32.ofInt x &&& Int32.ofInt y) h; refine lv_iand hx hb hd ?_; rw [hz]; exact h p e R s mid args below meth c H locs lsA Z hX' hH hS hl hgl (am_rgs_cons (v := .inl z) hr (am_rgs_tl (am_rgs_tl hgs))) hct hret
  | ior => obtain ⟨⟨hd, hnx⟩, hw⟩ := ok; subst hnx; obtain ⟨x, y, r, rfl, h⟩ := am_i2_e h; obtain ⟨z, hz, hr, h⟩ := am_nm_e (y := Int32.ofInt x ||| Int32.ofInt y) h; refine lv_ior hx hb hd ?_; rw [hz]; exact h p e R s mid args below meth c H locs lsA Z hX' hH hS hl hgl (am_rgs_cons (v := .inl z) hr (am_rgs_tl (am_rgs_tl hgs))) hct hret
  | ixor => obtain ⟨⟨hd, hnx⟩, hw⟩ := ok; subst hnx; obtain ⟨x, y, r, rfl, h⟩ := am_i2_e h; obtain ⟨z, hz, hr, h⟩ := am_nm_e (y := Int32.ofInt x ^^^ Int32.ofInt y) h; refine lv_ixor hx hb hd ?_; rw [hz]; exact h p e R s mid args below meth c H locs lsA Z hX' hH hS hl hgl (am_rgs_cons (v := .inl z) hr (am_rgs_tl (am_rgs_tl hgs))) hct hret
  | ishl => obtain ⟨⟨hd, hnx⟩, hw⟩ := ok; subst hnx; obtain ⟨x, y, r, rfl, h⟩ := am_i2_e h; obtain ⟨z, hz, hr, h⟩ := am_nm_e (y := Int32.ofInt x <<< (Int32.ofInt y &&& 31)) h; refine lv_ishl hx hb hd ?_; rw [hz]; exact h p e R s mid args below meth c H locs lsA Z hX' hH hS hl hgl (am_rgs_cons (v := .inl z) hr (am_rgs_tl (am_rgs_tl hgs))) hct hret
  | ishr => obtain ⟨⟨hd, hnx⟩, hw⟩ := ok; subst hnx; obtain ⟨x, y, r, rfl, h⟩ := am_i2_e h; obtain ⟨z, hz, hr, h⟩ := am_nm_e (y := Int32.ofInt x >>> (Int32.ofInt y &&& 31)) h; refine lv_ishr hx hb hd ?_; rw [hz]; exact h p e R s mid args below meth c H locs lsA Z hX' hH hS hl hgl (am_rgs_cons (v := .inl z) hr (am_rgs_tl (am_rgs_tl hgs))) hct hret
  | iushr => obtain ⟨⟨hd, hnx⟩, hw⟩ := ok; subst hnx; obtain ⟨x, y, r, rfl, h⟩ := am_i2_e h; obtain ⟨z, hz, hr, h⟩ := am_nm_e (y := ((Int32.ofInt x).toUInt32 >>> ((Int32.ofInt y).toUInt32 &&& Int32.toUInt32 31)).toInt32) h; exact lv_iushr hx hb hd hz (h p e R s mid args below meth c H locs lsA Z hX' hH hS hl hgl (am_rgs_cons (v := .inl z) hr (am_rgs_tl (am_rgs_tl hgs))) hct hret)
  | idiv =>
    obtain ⟨⟨hd, hnx⟩, hw⟩ := ok
    subst hnx
    obtain ⟨x, y, r, rfl, h0, h⟩ := am_i2_e h
    obtain ⟨z, hz, hr, h⟩ := am_nm_e (y := Int32.ofInt x / Int32.ofInt y) h
    have hry : -2147483648 ≤ y ∧ y ≤ 2147483647 := am_rgs_hd hgs
    refine lv_idiv hx hb hd (fun q => h0 ?_) ?_
    · rw [am_zI] at q
      exact (am_eqI hry ⟨by decide, by decide⟩).mp q
    · rw [hz]
      exact h p e R s mid args below meth c H locs lsA Z hX' hH hS hl hgl (am_rgs_cons (v := .inl z) hr (am_rgs_tl (am_rgs_tl hgs))) hct hret
  | irem =>
    obtain ⟨⟨hd, hnx⟩, hw⟩ := ok
    subst hnx
    obtain ⟨x, y, r, rfl, h0, h⟩ := am_i2_e h
    obtain ⟨z, hz, hr, h⟩ := am_nm_e (y := Int32.ofInt x - Int32.ofInt x / Int32.ofInt y * Int32.ofInt y) h
    have hry : -2147483648 ≤ y ∧ y ≤ 2147483647 := am_rgs_hd hgs
    refine lv_irem hx hb hd (fun q => h0 ?_) ?_
    · rw [am_zI] at q
      exact (am_eqI hry ⟨by decide, by decide⟩).mp q
    · rw [hz]
      exact h p e R s mid args below meth c H locs lsA Z hX' hH hS hl hgl (am_rgs_cons (v := .inl z) hr (am_rgs_tl (am_rgs_tl hgs))) hct hret
  | ineg => obtain ⟨⟨hd, hnx⟩, hw⟩ := ok; subst hnx; obtain ⟨x, r, rfl, h⟩ := am_i1_e h; obtain ⟨z, hz, hr, h⟩ := am_e_neg h; refine lv_ineg hx hb hd ?_; rw [hz]; exact h p e R s mid args below meth c H locs lsA Z hX' hH hS hl hgl (am_rgs_cons (v := .inl z) hr (am_rgs_tl hgs)) hct hret
  | i2l => obtain ⟨⟨hd, hnx⟩, hw⟩ := ok; subst hnx; obtain ⟨x, r, rfl, h⟩ := am_i1_e h; have hrx : -2147483648 ≤ x ∧ x ≤ 2147483647 := am_rgs_hd hgs; exact lv_i2l hx hb hd (am_i2l hrx) (h p e R s mid args below meth c H locs lsA Z hX' hH hS hl hgl (am_rgs_cons (v := .inr (.inr (some x))) (show -9223372036854775808 ≤ x ∧ x ≤ 9223372036854775807 by omega) (am_rgs_tl hgs)) hct hret)
  | i2c => obtain ⟨⟨hd, hnx⟩, hw⟩ := ok; subst hnx; obtain ⟨x, r, rfl, h⟩ := am_i1_e h; obtain ⟨z, hz, hr, h⟩ := am_nm_e (y := ((Int32.ofInt x).toUInt32 % 65536).toInt32) h; exact lv_i2c hx hb hd hz (h p e R s mid args below meth c H locs lsA Z hX' hH hS hl hgl (am_rgs_cons (v := .inl z) hr (am_rgs_tl hgs)) hct hret)
  | i2b => obtain ⟨⟨hd, hnx⟩, hw⟩ := ok; subst hnx; obtain ⟨x, r, rfl, h⟩ := am_i1_e h; obtain ⟨z, hz, hr, h⟩ := am_nm_e (y := (Int32.ofInt x).toInt8.toInt32) h; exact lv_i2b hx hb hd hz (h p e R s mid args below meth c H locs lsA Z hX' hH hS hl hgl (am_rgs_cons (v := .inl z) hr (am_rgs_tl hgs)) hct hret)
  | l2i => obtain ⟨⟨hd, hnx⟩, hw⟩ := ok; subst hnx; obtain ⟨x, r, rfl, h⟩ := am_l1_e h; obtain ⟨z, hz, hr, h⟩ := am_nm_e (y := (Int64.ofInt x).toInt32) h; exact lv_l2i hx hb hd hz (h p e R s mid args below meth c H locs lsA Z hX' hH hS hl hgl (am_rgs_cons (v := .inl z) hr (am_rgs_tl hgs)) hct hret)
  | ladd => obtain ⟨⟨hd, hnx⟩, hw⟩ := ok; subst hnx; obtain ⟨x, y, r, rfl, h⟩ := am_l2_e h; obtain ⟨z, hz, hr, h⟩ := am_e_ladd h; refine lv_ladd hx hb hd ?_; rw [hz]; exact h p e R s mid args below meth c H locs lsA Z hX' hH hS hl hgl (am_rgs_cons (v := .inr (.inr (some z))) hr (am_rgs_tl (am_rgs_tl hgs))) hct hret
  | lsub => obtain ⟨⟨hd, hnx⟩, hw⟩ := ok; subst hnx; obtain ⟨x, y, r, rfl, h⟩ := am_l2_e h; obtain ⟨z, hz, hr, h⟩ := am_e_lsub h; refine lv_lsub hx hb hd ?_; rw [hz]; exact h p e R s mid args below meth c H locs lsA Z hX' hH hS hl hgl (am_rgs_cons (v := .inr (.inr (some z))) hr (am_rgs_tl (am_rgs_tl hgs))) hct hret
  | lmul => obtain ⟨⟨hd, hnx⟩, hw⟩ := ok; subst hnx; obtain ⟨x, y, r, rfl, h⟩ := am_l2_e h; obtain ⟨z, hz, hr, h⟩ := am_e_lmul h; refine lv_lmul hx hb hd ?_; rw [hz]; exact h p e R s mid args below meth c H locs lsA Z hX' hH hS hl hgl (am_rgs_cons (v := .inr (.inr (some z))) hr (am_rgs_tl (am_rgs_tl hgs))) hct hret
  | land => obtain ⟨⟨hd, hnx⟩, hw⟩ := ok; subst hnx; obtain ⟨x, y, r, rfl, h⟩ := am_l2_e h; obtain ⟨z, hz, hr, h⟩ := am_nl_e (y := Int64.ofInt x &&& Int64.ofInt y) h; refine lv_land hx hb hd ?_; rw [hz]; exact h p e R s mid args below meth c H locs lsA Z hX' hH hS hl hgl (am_rgs_cons (v := .inr (.inr (some z))) hr (am_rgs_tl (am_rgs_tl hgs))) hct hret
  | lor => obtain ⟨⟨hd, hnx⟩, hw⟩ := ok; subst hnx; obtain ⟨x, y, r, rfl, h⟩ := am_l2_e h; obtain ⟨z, hz, hr, h⟩ := am_nl_e (y := Int64.ofInt x ||| Int64.ofInt y) h; refine lv_lor hx hb hd ?_; rw [hz]; exact h p e R s mid args below meth c H locs lsA Z hX' hH hS hl hgl (am_rgs_cons (v := .inr (.inr (some z))) hr (am_rgs_tl (am_rgs_tl hgs))) hct hret
  | lxor => obtain ⟨⟨hd, hnx⟩, hw⟩ := ok; subst hnx; obtain ⟨x, y, r, rfl, h⟩ := am_l2_e h; obtain ⟨z, hz, hr, h⟩ := am_nl_e (y := Int64.ofInt x ^^^ Int64.ofInt y) h; refine lv_lxor hx hb hd ?_; rw [hz]; exact h p e R s mid args below meth c H locs lsA Z hX' hH hS hl hgl (am_rgs_cons (v := .inr (.inr (some z))) hr (am_rgs_tl (am_rgs_tl hgs))) hct hret
  | lcmp =>
    obtain ⟨⟨hd, hnx⟩, hw⟩ := ok
    subst hnx
    obtain ⟨x, y, r, rfl, h⟩ := am_l2_e h
    have hry : -9223372036854775808 ≤ y ∧ y ≤ 9223372036854775807 := am_rgs_hd hgs
    have hrx : -9223372036854775808 ≤ x ∧ x ≤ 9223372036854775807 := am_rgs_hd (am_rgs_tl hgs)
    have hr : -2147483648 ≤ am_lc x y ∧ am_lc x y ≤ 2147483647 := by
      unfold am_lc
      split
      · decide
      · split <;> decide
    refine W.lcmp hx hb hd ?_
    rw [am_lcI hrx hry]
    exact h _ rfl hr.1 hr.2 p e R s mid args below meth c H locs lsA Z hX' hH hS hl hgl (am_rgs_cons (v := .inl (am_lc x y)) hr (am_rgs_tl (am_rgs_tl hgs))) hct hret
  | lshl => obtain ⟨⟨hd, hnx⟩, hw⟩ := ok; subst hnx; obtain ⟨x, y, r, rfl, h⟩ := am_li_e h; obtain ⟨z, hz, hr, h⟩ := am_nl_e (y := Int64.ofInt x <<< ((Int32.ofInt y).toInt64 &&& 63)) h; exact lv_lshl hx hb hd hz (h p e R s mid args below meth c H locs lsA Z hX' hH hS hl hgl (am_rgs_cons (v := .inr (.inr (some z))) hr (am_rgs_tl (am_rgs_tl hgs))) hct hret)
  | lshr => obtain ⟨⟨hd, hnx⟩, hw⟩ := ok; subst hnx; obtain ⟨x, y, r, rfl, h⟩ := am_li_e h; obtain ⟨z, hz, hr, h⟩ := am_nl_e (y := Int64.ofInt x >>> ((Int32.ofInt y).toInt64 &&& 63)) h; exact lv_lshr hx hb hd hz (h p e R s mid args below meth c H locs lsA Z hX' hH hS hl hgl (am_rgs_cons (v := .inr (.inr (some z))) hr (am_rgs_tl (am_rgs_tl hgs))) hct hret)
  | lushr => obtain ⟨⟨hd, hnx⟩, hw⟩ := ok; subst hnx; obtain ⟨x, y, r, rfl, h⟩ := am_li_e h; obtain ⟨z, hz, hr, h⟩ := am_nl_e (y := ((Int64.ofInt x).toUInt64 >>> ((Int32.ofInt y).toInt64.toUInt64 &&& Int64.toUInt64 63)).toInt64) h; exact lv_lushr hx hb hd hz (h p e R s mid args below meth c H locs lsA Z hX' hH hS hl hgl (am_rgs_cons (v := .inr (.inr (some z))) hr (am_rgs_tl (am_rgs_tl hgs))) hct hret)
  | dup => obtain ⟨⟨hd, hnx⟩, hw⟩ := ok; subst hnx; obtain ⟨v, r, rfl, hv, h⟩ := am_v1_e h; exact lv_dup hx hb hd (by rw [am_cv_cat]; exact hv) (h p e R s mid args below meth c H locs lsA Z hX' hH hS hl hgl (am_rgs_cons (am_rgs_hd hgs) hgs) hct hret)
  | pop => obtain ⟨⟨hd, hnx⟩, hw⟩ := ok; subst hnx; obtain ⟨v, r, rfl, hv, h⟩ := am_v1_e h; exact lv_pop hx hb hd (by rw [am_cv_cat]; exact hv) (h p e R s mid args below meth c H locs lsA Z hX' hH hS hl hgl (am_rgs_tl hgs) hct hret)
  | dup_x1 => obtain ⟨⟨hd, hnx⟩, hw⟩ := ok; subst hnx; obtain ⟨v, w, r, rfl, hv, hw2, h⟩ := am_v2_e h; exact lv_dup_x1 hx hb hd (by rw [am_cv_cat]; exact hv) (by rw [am_cv_cat]; exact hw2) (h p e R s mid args below meth c H locs lsA Z hX' hH hS hl hgl (am_rgs_cons (am_rgs_hd hgs) (am_rgs_cons (am_rgs_hd (am_rgs_tl hgs)) (am_rgs_cons (am_rgs_hd hgs) (am_rgs_tl (am_rgs_tl hgs))))) hct hret)
  | dup2 => obtain ⟨⟨hd, hnx⟩, hw⟩ := ok; subst hnx; obtain ⟨v, w, r, rfl, hv, hw2, h⟩ := am_v2_e h; exact lv_dup2_11 hx hb hd (by rw [am_cv_cat]; exact hv) (by rw [am_cv_cat]; exact hw2) (h p e R s mid args below meth c H locs lsA Z hX' hH hS hl hgl (am_rgs_cons (am_rgs_hd hgs) (am_rgs_cons (am_rgs_hd (am_rgs_tl hgs)) hgs)) hct hret)
  | ifCond cc t =>
    obtain ⟨⟨hd, hnx⟩, ht⟩ := ok
    subst hnx
    have ht : 0 ≤ t := ht
    obtain ⟨x, r, rfl, h⟩ := am_i1_e h
    have et : (pc : Int) + (t - (pc : Int)) = (t.toNat : Int) := by omega
    have hrx : -2147483648 ≤ x ∧ x ≤ 2147483647 := am_rgs_hd hgs
    have hry : -2147483648 ≤ (0 : Int) ∧ (0 : Int) ≤ 2147483647 := ⟨by decide, by decide⟩
    cases cc with
    | eq => exact lv_if_eq hx hb hd et (fun q => h.1 (by rw [am_zI] at q; exact (am_eqI hrx hry).mp q) p e R s mid args below meth c H locs lsA Z hX' hH hS hl hgl (am_rgs_tl hgs) hct hret) (fun q => h.2 (by rw [am_zI] at q; exact fun w => q ((am_eqI hrx hry).mpr w)) p e R s mid args below meth c H locs lsA Z hX' hH hS hl hgl (am_rgs_tl hgs) hct hret)
    | ne => exact lv_if_ne hx hb hd et (fun q => h.1 (by rw [am_zI] at q; exact fun w => q ((am_eqI hrx hry).mpr w)) p e R s mid args below meth c H locs lsA Z hX' hH hS hl hgl (am_rgs_tl hgs) hct hret) (fun q => h.2 (by rw [am_zI] at q; exact (am_eqI hrx hry).mp q) p e R s mid args below meth c H locs lsA Z hX' hH hS hl hgl (am_rgs_tl hgs) hct hret)
    | lt => exact lv_if_lt hx hb hd et (fun q => h.1 (by rw [am_zI] at q; exact (am_ltI hrx hry).mp q) p e R s mid args below meth c H locs lsA Z hX' hH hS hl hgl (am_rgs_tl hgs) hct hret) (fun q => h.2 (by rw [am_zI] at q; exact Int.not_lt.mp fun w => q ((am_ltI hrx hry).mpr w)) p e R s mid args below meth c H locs lsA Z hX' hH hS hl hgl (am_rgs_tl hgs) hct hret)
    | ge => exact lv_if_ge hx hb hd et (fun q => h.1 (by rw [am_zI] at q; exact (am_leI hry hrx).mp q) p e R s mid args below meth c H locs lsA Z hX' hH hS hl hgl (am_rgs_tl hgs) hct hret) (fun q => h.2 (by rw [am_zI] at q; exact Int.not_le.mp fun w => q ((am_leI hry hrx).mpr w)) p e R s mid args below meth c H locs lsA Z hX' hH hS hl hgl (am_rgs_tl hgs) hct hret)
    | gt => exact lv_if_gt hx hb hd et (fun q => h.1 (by rw [am_zI] at q; exact (am_ltI hry hrx).mp q) p e R s mid args below meth c H locs lsA Z hX' hH hS hl hgl (am_rgs_tl hgs) hct hret) (fun q => h.2 (by rw [am_zI] at q; exact Int.not_lt.mp fun w => q ((am_ltI hry hrx).mpr w)) p e R s mid args below meth c H locs lsA Z hX' hH hS hl hgl (am_rgs_tl hgs) hct hret)
    | le => exact lv_if_le hx hb hd et (fun q => h.1 (by rw [am_zI] at q; exact (am_leI hrx hry).mp q) p e R s mid args below meth c H locs lsA Z hX' hH hS hl hgl (am_rgs_tl hgs) hct hret) (fun q => h.2 (by rw [am_zI] at q; exact Int.not_le.mp fun w => q ((am_leI hrx hry).mpr w)) p e R s mid args below meth c H locs lsA Z hX' hH hS hl hgl (am_rgs_tl hgs) hct hret)
  | if_icmp cc t =>
    obtain ⟨⟨hd, hnx⟩, ht⟩ := ok
    subst hnx
    have ht : 0 ≤ t := ht
    obtain ⟨x, y, r, rfl, h⟩ := am_i2_e h
    have et : (pc : Int) + (t - (pc : Int)) = (t.toNat : Int) := by omega
    have hry : -2147483648 ≤ y ∧ y ≤ 2147483647 := am_rgs_hd hgs
    have hrx : -2147483648 ≤ x ∧ x ≤ 2147483647 := am_rgs_hd (am_rgs_tl hgs)
    cases cc with
    | eq => exact lv_icmp_eq hx hb hd et (fun q => h.1 (by exact (am_eqI hrx hry).mp q) p e R s mid args below meth c H locs lsA Z hX' hH hS hl hgl (am_rgs_tl (am_rgs_tl hgs)) hct hret) (fun q => h.2 (by exact fun w => q ((am_eqI hrx hry).mpr w)) p e R s mid args below meth c H locs lsA Z hX' hH hS hl hgl (am_rgs_tl (am_rgs_tl hgs)) hct hret)
    | ne => exact lv_icmp_ne hx hb hd et (fun q => h.1 (by exact fun w => q ((am_eqI hrx hry).mpr w)) p e R s mid args below meth c H locs lsA Z hX' hH hS hl hgl (am_rgs_tl (am_rgs_tl hgs)) hct hret) (fun q => h.2 (by exact (am_eqI hrx hry).mp q) p e R s mid args below meth c H locs lsA Z hX' hH hS hl hgl (am_rgs_tl (am_rgs_tl hgs)) hct hret)
    | lt => exact lv_icmp_lt hx hb hd et (fun q => h.1 (by exact (am_ltI hrx hry).mp q) p e R s mid args below meth c H locs lsA Z hX' hH hS hl hgl (am_rgs_tl (am_rgs_tl hgs)) hct hret) (fun q => h.2 (by exact Int.not_lt.mp fun w => q ((am_ltI hrx hry).mpr w)) p e R s mid args below meth c H locs lsA Z hX' hH hS hl hgl (am_rgs_tl (am_rgs_tl hgs)) hct hret)
    | ge => exact lv_icmp_ge hx hb hd et (fun q => h.1 (by exact (am_leI hry hrx).mp q) p e R s mid args below meth c H locs lsA Z hX' hH hS hl hgl (am_rgs_tl (am_rgs_tl hgs)) hct hret) (fun q => h.2 (by exact Int.not_le.mp fun w => q ((am_leI hry hrx).mpr w)) p e R s mid args below meth c H locs lsA Z hX' hH hS hl hgl (am_rgs_tl (am_rgs_tl hgs)) hct hret)
    | gt => exact lv_icmp_gt hx hb hd et (fun q => h.1 (by exact (am_ltI hry hrx).mp q) p e R s mid args below meth c H locs lsA Z hX' hH hS hl hgl (am_rgs_tl (am_rgs_tl hgs)) hct hret) (fun q => h.2 (by exact Int.not_lt.mp fun w => q ((am_ltI hry hrx).mpr w)) p e R s mid args below meth c H locs lsA Z hX' hH hS hl hgl (am_rgs_tl (am_rgs_tl hgs)) hct hret)
    | le => exact lv_icmp_le hx hb hd et (fun q => h.1 (by exact (am_leI hrx hry).mp q) p e R s mid args below meth c H locs lsA Z hX' hH hS hl hgl (am_rgs_tl (am_rgs_tl hgs)) hct hret) (fun q => h.2 (by exact Int.not_le.mp fun w => q ((am_leI hrx hry).mpr w)) p e R s mid args below meth c H locs lsA Z hX' hH hS hl hgl (am_rgs_tl (am_rgs_tl hgs)) hct hret)
  | goto t =>
    obtain ⟨⟨hd, -⟩, ht⟩ := ok
    have ht : 0 ≤ t := ht
    exact lv_goto hx hb hd (show (pc : Int) + (t - (pc : Int)) = (t.toNat : Int) by omega) (h p e R s mid args below meth c H locs lsA Z hX' hH hS hl hgl hgs hct hret)
  | tableswitch t lo hi os =>
    obtain ⟨⟨hd, -⟩, ht, hos, hhi, h1, h2⟩ := ok
    obtain ⟨x, r, rfl, h⟩ := am_i1_e h
    have hrx : -2147483648 ≤ x ∧ x ≤ 2147483647 := am_rgs_hd hgs
    have exx := am_to hrx
    obtain ⟨a1, a2⟩ := am_tsl_at os.toList lo h
    by_cases hout : x < lo ∨ hi < x
    · exact lv_tableOut hx hb hd (by rw [exx]; exact hout) (show (pc : Int) + (t - (pc : Int)) = (t.toNat : Int) by omega) (a1 (by omega) p e R s mid args below meth c H locs lsA Z hX' hH hS hl hgl (am_rgs_tl hgs) hct hret)
    · have hi' : (x - lo).toNat < os.toList.length := by omega
      obtain ⟨o, ho⟩ : ∃ o, os.toList[(x - lo).toNat]? = some o := ⟨_, List.getElem?_eq_getElem hi'⟩
      have ho0 : 0 ≤ o := hos o (List.mem_of_getElem? ho)
      refine lv_tableIn (off := o - (pc : Int)) (tgt := o.toNat) hx hb hd (by rw [exx]; omega) (by rw [exx]; omega) ?_ (by omega) (a2 (x - lo).toNat (by omega) o ho p e R s mid args below meth c H locs lsA Z hX' hH hS hl hgl (am_rgs_tl hgs) hct hret)
      rw [exx, Array.getElem?_map, ← Array.getElem?_toList, ho]; rfl
  | lookupswitch t ps =>
    obtain ⟨⟨hd, -⟩, ht, hps, hord⟩ := ok
    obtain ⟨x, r, rfl, h⟩ := am_i1_e h
    have hrx : -2147483648 ≤ x ∧ x ≤ 2147483647 := am_rgs_hd hgs
    obtain ⟨o, g1, g2, g3⟩ := am_lsl_at (pc := pc) rfl ps.toList hps h
    have ho0 : 0 ≤ o := by rcases g3 with q | q <;> omega
    exact lv_lookup (off := o - (pc : Int)) (tgt := o.toNat) hx hb hd hord (by rw [Array.toList_map, am_to hrx]; exact g1) (by omega) (g2 p e R s mid args below meth c H locs lsA Z hX' hH hS hl hgl (am_rgs_tl hgs) hct hret)
  | getfield q =>
    obtain ⟨⟨hd, hnx⟩, hF⟩ := ok
    subst hnx
    obtain ⟨a, r, rfl, hk, h⟩ := am_r1_e h
    obtain ⟨v, h, hrv, hv⟩ := am_getV (ρ := am_r G) hH.2.2.2.2.2 h
    exact am_W_get hX' hH hS hk hF hOK hv hd (h p e R s mid args below meth c H locs lsA Z hX' hH hS hl hgl (am_rgs_cons hrv (am_rgs_tl hgs)) hct hret)
  | putfield q =>
    obtain ⟨⟨hd, hnx⟩, hF⟩ := ok
    subst hnx
    have h : am_put _ _ _ _ _ _ := h
    unfold am_put at h
    split at h
    · rename_i e0
      obtain ⟨a, x, r, rfl, ⟨ha, hk⟩, h⟩ := am_ir_e h
      exact am_W_puti (am_rgs_hd hgs) hX' hH hS ha hk hF hOK (Or.inl e0) hd (fun H1 locs1 hH1 hS1 => h p e R s mid args below meth c H1 locs1 lsA Z hX' hH1 hS1 hl hgl (am_rgs_tl (am_rgs_tl hgs)) hct hret)
    · rename_i e0
      obtain ⟨a, x, r, rfl, ⟨ha, hk⟩, hx01, h⟩ := am_ir_e h
      exact am_W_puti (am_rgs_hd hgs) hX' hH hS ha hk hF hOK (Or.inr ⟨e0, hx01⟩) hd (fun H1 locs1 hH1 hS1 => h p e R s mid args below meth c H1 locs1 lsA Z hX' hH1 hS1 hl hgl (am_rgs_tl (am_rgs_tl hgs)) hct hret)
    · rename_i e0
      obtain ⟨a, x, r, rfl, ⟨ha, hk⟩, h⟩ := am_lr_e h
      exact am_W_putl (am_rgs_hd hgs) hX' hH hS ha hk hF hOK e0 hd (fun H1 locs1 hH1 hS1 => h p e R s mid args below meth c H1 locs1 lsA Z hX' hH1 hS1 hl hgl (am_rgs_tl (am_rgs_tl hgs)) hct hret)
    · rename_i e0
      obtain ⟨a, b, r, rfl, ⟨ha, hk⟩, h⟩ := am_rr_e h
      exact am_W_putr hX' hH hS ha hk hF hOK e0 hd (fun H1 locs1 hH1 hS1 => h p e R s mid args below meth c H1 locs1 lsA Z hX' hH1 hS1 hl hgl (am_rgs_tl (am_rgs_tl hgs)) hct hret)
    · exact h.elim
  | iaload =>
    obtain ⟨⟨hd, hnx⟩, hw⟩ := ok
    subst hnx
    obtain ⟨a, j, r, rfl, len, hk, hj, h⟩ := am_ai_e h
    have hr := hH.2.2.2.2.2.1 a j.toNat
    exact am_W_iald hX' hH hS hk hj (am_rgs_hd hgs) hd (h _ rfl hr.1 hr.2 p e R s mid args below meth c H locs lsA Z hX' hH hS hl hgl (am_rgs_cons (v := .inl (I a j.toNat)) hr (am_rgs_tl (am_rgs_tl hgs))) hct hret)
  | baload =>
    obtain ⟨⟨hd, hnx⟩, hw⟩ := ok
    subst hnx
    obtain ⟨a, j, r, rfl, len, hk, hj, h⟩ := am_ai_e h
    have hr := hH.2.2.2.2.2.1 a j.toNat
    exact am_W_bald hX' hH hS hk hj (am_rgs_hd hgs) hd (h _ rfl hr.1 hr.2 p e R s mid args below meth c H locs lsA Z hX' hH hS hl hgl (am_rgs_cons (v := .inl (I a j.toNat)) hr (am_rgs_tl (am_rgs_tl hgs))) hct hret)
  | laload =>
    obtain ⟨⟨hd, hnx⟩, hw⟩ := ok
    subst hnx
    obtain ⟨a, j, r, rfl, len, ha, hk, hj, h⟩ := am_ai_e h
    have hr := hH.2.2.2.2.2.2 a j.toNat
    exact am_W_lald hX' hH ha hk hj (am_rgs_hd hgs) hd (h _ rfl hr.1 hr.2 p e R s mid args below meth c H locs lsA Z hX' hH hS hl hgl (am_rgs_cons (v := .inr (.inr (some (L a j.toNat)))) hr (am_rgs_tl (am_rgs_tl hgs))) hct hret)
  | arraylength => obtain ⟨⟨hd, hnx⟩, hw⟩ := ok; subst hnx; obtain ⟨a, r, rfl, t, len, hk, ht, hle, h⟩ := am_r1_e h; exact am_W_alen hX' hH hS hk ht hd (h p e R s mid args below meth c H locs lsA Z hX' hH hS hl hgl (am_rgs_cons (v := .inl (len : Int)) (show -2147483648 ≤ (len : Int) ∧ (len : Int) ≤ 2147483647 by omega) (am_rgs_tl hgs)) hct hret)
  | iastore => obtain ⟨⟨hd, hnx⟩, hw⟩ := ok; subst hnx; obtain ⟨a, j, x, r, rfl, len, ha, hk, hj, h⟩ := am_aii_e h; exact am_W_iast hX' hH hS ha hk hj (am_rgs_hd (am_rgs_tl hgs)) (am_rgs_hd hgs) hd (fun H1 locs1 hH1 hS1 => h p e R s mid args below meth c H1 locs1 lsA Z hX' hH1 hS1 hl hgl (am_rgs_tl (am_rgs_tl (am_rgs_tl hgs))) hct hret)
  | bastore => obtain ⟨⟨hd, hnx⟩, hw⟩ := ok; subst hnx; obtain ⟨a, j, x, r, rfl, len, ha, hk, hj, h⟩ := am_aii_e h; exact am_W_bast hX' hH hS ha hk hj (am_rgs_hd (am_rgs_tl hgs)) hd (fun H1 locs1 hH1 hS1 => h p e R s mid args below meth c H1 locs1 lsA Z hX' hH1 hS1 hl hgl (am_rgs_tl (am_rgs_tl (am_rgs_tl hgs))) hct hret)
  | lastore => obtain ⟨⟨hd, hnx⟩, hw⟩ := ok; subst hnx; obtain ⟨a, j, x, r, rfl, len, ha, hk, hj, h⟩ := am_ail_e h; exact am_W_last hX' hH hS ha hk hj (am_rgs_hd (am_rgs_tl hgs)) (am_rgs_hd hgs) hd (fun H1 locs1 hH1 hS1 => h p e R s mid args below meth c H1 locs1 lsA Z hX' hH1 hS1 hl hgl (am_rgs_tl (am_rgs_tl (am_rgs_tl hgs))) hct hret)
  | new ci =>
    obtain ⟨⟨hd, hnx⟩, q, hq, hN, w1, w2, w3⟩ := ok
    subst hnx
    obtain ⟨hg, h⟩ := am_cond_e h
    simp only [Bool.and_eq_true, Nat.ble_eq] at hg
    rw [hN] at hg h
    exact am_W_new hX' hH hS hq (hOK ci q hq) w1 w2 w3 hd (by omega) (by omega) (fun H1 hH1 hS1 => h p e R s mid args below meth c H1 locs lsA Z hX' hH1 hS1 hl hgl (am_rgs_cons (v := .inr (.inl n)) trivial hgs) ⟨hg.1, hg.2⟩ hret)
  | newarray t =>
    obtain ⟨⟨hd, hnx⟩, hw⟩ := ok
    subst hnx
    obtain ⟨x, r, rfl, hx0, hg, h⟩ := am_i1_e h
    simp only [Bool.and_eq_true, Bool.or_eq_true, Nat.ble_eq, Nat.beq_eq] at hg
    exact am_W_newa (am_rgs_hd hgs) hX' hH hS hg.1 hw hd hx0 hg.2.2.2 (by omega) (by omega) (fun H1 hH1 hS1 => h p e R s mid args below meth c H1 locs lsA Z hX' hH1 hS1 hl hgl (am_rgs_cons (v := .inr (.inl n)) trivial (am_rgs_tl hgs)) ⟨hg.2.1, hg.2.2.1⟩ hret)
  | invokestatic r =>
    obtain ⟨⟨hd, hnx⟩, ok⟩ := ok
    subst hnx
    match r, h, ok, hd with
    | 0, h, ok, hd =>
      obtain ⟨hC, hL, hst, hpar⟩ := ok
      exact am_invS h hd hC hL hst hpar hX' hH hS hl hgl hgs hret
    | 1, h, ok, hd =>
      obtain ⟨x, y, r, rfl, hxy, h⟩ := am_i2_e h
      obtain ⟨hg, h⟩ := am_cond_e h
      simp only [Bool.and_eq_true, Nat.ble_eq] at hg
      exact hchk d m pc ix p e R s mid args below meth c H locs lsA Z x y _ ct.1 ct.2 hX' hS hl.1 hg.1 (by rw [am_words_cv]; exact hg.2) hxy (am_rgs_hd (am_rgs_tl hgs)) (am_rgs_hd hgs) (by omega) (by omega) ok hd (h p e R s mid args below meth c H locs lsA Z hX' hH hS hl hgl (am_rgs_tl (am_rgs_tl hgs)) hct hret)
    | 2, h, ok, hd =>
      obtain ⟨w1, w2, w3, w4⟩ := ok
      obtain ⟨x, y, r, rfl, h⟩ := am_i2_e h
      obtain ⟨hg, h⟩ := am_cond_e h
      simp only [Bool.and_eq_true, Nat.ble_eq] at hg
      have hry : -2147483648 ≤ y ∧ y ≤ 2147483647 := am_rgs_hd hgs
      have hrx : -2147483648 ≤ x ∧ x ≤ 2147483647 := am_rgs_hd (am_rgs_tl hgs)
      have hr : -2147483648 ≤ (if x < y then y else x) ∧ (if x < y then y else x) ≤ 2147483647 := by split <;> omega
      have hw8 : ((r.map (am_cv (am_r G))).map fun v => v.category).sum ≤ 8 := by rw [am_words_cv]; exact hg.2
      refine va_mmax hx hb (by rw [hml]; exact hl.1.symm) hown (hts _ w1) (hts _ w2) (hts _ w3) (hts _ w4) (by omega) (by omega) (by omega) (by omega) hd ?_
      have e9 : (if Int32.ofInt x < Int32.ofInt y then Int32.ofInt y else Int32.ofInt x) = Int32.ofInt (if x < y then y else x) := by
        by_cases q : x < y
        · rw [if_pos q, if_pos ((am_ltI hrx hry).mpr q)]
        · rw [if_neg q, if_neg (fun w => q ((am_ltI hrx hry).mp w))]
      rw [e9]
      exact h _ rfl hr.1 hr.2 p e R s mid args below meth c H locs lsA Z hX' hH hS hl hgl (am_rgs_cons (v := .inl (if x < y then y else x)) hr (am_rgs_tl (am_rgs_tl hgs))) hct hret
    | 3, h, ok, hd =>
      obtain ⟨w1, w2, w3, w4⟩ := ok
      obtain ⟨x, y, r, rfl, h⟩ := am_i2_e h
      obtain ⟨hg, h⟩ := am_cond_e h
      simp only [Bool.and_eq_true, Nat.ble_eq] at hg
      have hry : -2147483648 ≤ y ∧ y ≤ 2147483647 := am_rgs_hd hgs
      have hrx : -2147483648 ≤ x ∧ x ≤ 2147483647 := am_rgs_hd (am_rgs_tl hgs)
      have hr : -2147483648 ≤ (if y < x then y else x) ∧ (if y < x then y else x) ≤ 2147483647 := by split <;> omega
      have hw8 : ((r.map (am_cv (am_r G))).map fun v => v.category).sum ≤ 8 := by rw [am_words_cv]; exact hg.2
      refine va_mmin hx hb (by rw [hml]; exact hl.1.symm) hown (hts _ w1) (hts _ w2) (hts _ w3) (hts _ w4) (by omega) (by omega) (by omega) (by omega) hd ?_
      have e9 : (if Int32.ofInt y < Int32.ofInt x then Int32.ofInt y else Int32.ofInt x) = Int32.ofInt (if y < x then y else x) := by
        by_cases q : y < x
        · rw [if_pos q, if_pos ((am_ltI hry hrx).mpr q)]
        · rw [if_neg q, if_neg (fun w => q ((am_ltI hry hrx).mp w))]
      rw [e9]
      exact h _ rfl hr.1 hr.2 p e R s mid args below meth c H locs lsA Z hX' hH hS hl hgl (am_rgs_cons (v := .inl (if y < x then y else x)) hr (am_rgs_tl (am_rgs_tl hgs))) hct hret
    | r + 4, h, ok, hd =>
      obtain ⟨hC, hL, hst, hpar⟩ := ok
      exact am_invS h hd hC hL hst hpar hX' hH hS hl hgl hgs hret
  | invokespecial r =>
    obtain ⟨⟨hd, hnx⟩, ok⟩ := ok
    subst hnx
    cases r with
    | zero =>
      obtain ⟨w1, w2, w3⟩ := ok
      obtain ⟨a, r, rfl, h⟩ := am_r1_e h
      obtain ⟨hg, h⟩ := am_cond_e h
      simp only [Bool.and_eq_true, Nat.ble_eq] at hg
      have hW : 2 * (F0 mid pc lsA (List.map (am_cv (am_r G)) (.inr (.inl a) :: r))).monitorRoom + ((r.map (am_cv (am_r G))).map fun v => v.category).sum ≤ 8 := lv_room (by rw [am_words_cv]; exact hg.2)
      exact W.objInit hx hb hown (hts _ w1) (hts _ w2) (hts _ w3) rfl (by rw [hml]; exact hl.1) rfl hd (by omega) (by omega) (h p e R s mid args below meth c H locs lsA Z hX' hH hS hl hgl (am_rgs_tl hgs) hct hret)
    | succ r =>
      obtain ⟨hC, hL, w1, w2, w3, hpar⟩ := ok
      obtain ⟨a, rr, hb0, h⟩ := am_r1_e h
      exact am_invI h hd hC hL w1 w2 w3 hpar hb0 hX' hH hS hl hgl hgs hret
  | invokevirtual r =>
    obtain ⟨⟨hd, hnx⟩, hC, hL, w1, hpar, w2, w3⟩ := ok
    subst hnx
    obtain ⟨a, rr, hb0, hk, h⟩ := am_r1_e h
    exact am_invV h hd hC hL w1 hpar w2 w3 hb0 hk hX' hH hS hl hgl hgs hret
  | ireturn =>
    obtain ⟨⟨hd, hnx⟩, hw⟩ := ok
    obtain ⟨x, rfl, h⟩ := am_xi_e h
    obtain ⟨h1, h2⟩ := am_ret_e h
    exact hret (some (.inl x)) _ H locs ct pc lsA h2 hgs hH hS hct ⟨hd, h1⟩
  | lreturn =>
    obtain ⟨⟨hd, hnx⟩, hw⟩ := ok
    obtain ⟨x, rfl, h⟩ := am_xl_e h
    obtain ⟨h1, h2⟩ := am_cond_e h
    exact hret (some (.inr (.inr (some x)))) _ H locs ct pc lsA h2 hgs hH hS hct ⟨hd, Nat.eq_of_beq_eq_true h1⟩
  | areturn =>
    obtain ⟨⟨hd, hnx⟩, hw⟩ := ok
    obtain ⟨x, rfl, h⟩ := am_xr_e h
    obtain ⟨h1, h2⟩ := am_cond_e h
    exact hret (some (.inr (.inl x))) _ H locs ct pc lsA h2 hgs hH hS hct ⟨hd, Nat.eq_of_beq_eq_true h1⟩
  | return_ =>
    obtain ⟨⟨hd, hnx⟩, hw⟩ := ok
    obtain ⟨rfl, h⟩ := am_xn_e h
    obtain ⟨h1, h2⟩ := am_cond_e h
    exact hret none _ H locs ct pc lsA h2 hgs hH hS hct ⟨hd, Nat.eq_of_beq_eq_true h1⟩
  | _ => exact h.elim
end AMN
end
section
-- the words: printed by a program
theorem am_g1 {w : Cond} (j : Nat) (h : tables_1_1[j]? = some w) (g : goodWord w = true) : am_gw w := List.mem_filter.mpr ⟨List.mem_append_right _ (show w ∈ tables_1 from (fun h => List.mem_append_left _ h) (List.mem_of_getElem? h)), g⟩
theorem am_g2 {w : Cond} (j : Nat) (h : tables_1_2[j]? = some w) (g : goodWord w = true) : am_gw w := List.mem_filter.mpr ⟨List.mem_append_right _ (show w ∈ tables_1 from (fun h => List.mem_append_right _ (List.mem_append_left _ h)) (List.mem_of_getElem? h)), g⟩
theorem am_g3 {w : Cond} (j : Nat) (h : tables_1_3[j]? = some w) (g : goodWord w = true) : am_gw w := List.mem_filter.mpr ⟨List.mem_append_right _ (show w ∈ tables_1 from (fun h => List.mem_append_right _ (List.mem_append_right _ (List.mem_append_left _ h))) (List.mem_of_getElem? h)), g⟩
theorem am_g4 {w : Cond} (j : Nat) (h : tables_1_4[j]? = some w) (g : goodWord w = true) : am_gw w := List.mem_filter.mpr ⟨List.mem_append_right _ (show w ∈ tables_1 from (fun h => List.mem_append_right _ (List.mem_append_right _ (List.mem_append_right _ (List.mem_append_left _ h)))) (List.mem_of_getElem? h)), g⟩
theorem am_g5 {w : Cond} (j : Nat) (h : tables_1_5[j]? = some w) (g : goodWord w = true) : am_gw w := List.mem_filter.mpr ⟨List.mem_append_right _ (show w ∈ tables_1 from (fun h => List.mem_append_right _ (List.mem_append_right _ (List.mem_append_right _ (List.mem_append_right _ (List.mem_append_left _ h))))) (List.mem_of_getElem? h)), g⟩
theorem am_g6 {w : Cond} (j : Nat) (h : tables_1_6[j]? = some w) (g : goodWord w = true) : am_gw w := List.mem_filter.mpr ⟨List.mem_append_right _ (show w ∈ tables_1 from (fun h => List.mem_append_right _ (List.mem_append_right _ (List.mem_append_right _ (List.mem_append_right _ (List.mem_append_right _ (h)))))) (List.mem_of_getElem? h)), g⟩
theorem am_w0 : am_gw (Cond.methodLink "PatternTrees" 3 ⟨"java/lang/Object", "<init>", "()V"⟩) := am_g1 24 rfl rfl
theorem am_w1 : am_gw (Cond.instanceMethod ⟨"java/lang/Object", "<init>", "()V"⟩) := am_g1 25 rfl rfl
theorem am_w2 : am_gw (Cond.code ⟨"java/lang/Object", "<init>", "()V"⟩ object_method_1_code 1 (Option.none : Option Jvm.ClassFile.FieldType)) := am_g1 26 rfl rfl
theorem am_w3 : am_gw (Cond.classLink "PatternTrees" 9 "PatternTrees$Form") := am_g1 27 rfl rfl
theorem am_w4 : am_gw (Cond.instantiable "PatternTrees$Form" 1) := am_g1 28 rfl rfl
theorem am_w5 : am_gw (Cond.initialized "PatternTrees$Form") := am_g1 2 rfl rfl
theorem am_w6 : am_gw (Cond.code ⟨"PatternTrees$Form", "<init>", "()V"⟩ prog_3_method_1_code 1 (Option.none : Option Jvm.ClassFile.FieldType)) := am_g1 31 rfl rfl
theorem am_oc85 : am_okC 85 := ⟨am_w6, am_w5, ⟨by decide +kernel, by decide +kernel⟩, by decide +kernel, by decide +kernel, rfl⟩
theorem am_ol0 : am_okL0 "PatternTrees" "PatternTrees" 11 85 := Or.inr (List.mem_of_getElem? (i := 0) rfl)
theorem am_w7 : am_gw (Cond.instanceMethod ⟨"PatternTrees$Form", "<init>", "()V"⟩) := am_g1 30 rfl rfl
theorem am_w8 : am_gw (Cond.fieldLink "PatternTrees" 12 "PatternTrees" "form" "LPatternTrees$Form;") := am_g2 107 rfl rfl
theorem am_w9 : am_gw (Cond.classLink "PatternTrees" 16 "PatternTrees$Terms") := am_g1 72 rfl rfl
theorem am_w10 : am_gw (Cond.instantiable "PatternTrees$Terms" 11) := am_g1 73 rfl rfl
theorem am_w11 : am_gw (Cond.initialized "PatternTrees$Terms") := am_g1 4 rfl rfl
theorem am_w12 : am_gw (Cond.code ⟨"PatternTrees$Terms", "<init>", "()V"⟩ prog_7_method_1_code 1 (Option.none : Option Jvm.ClassFile.FieldType)) := am_g1 76 rfl rfl
theorem am_oc134 : am_okC 134 := ⟨am_w12, am_w11, ⟨by decide +kernel, by decide +kernel⟩, by decide +kernel, by decide +kernel, rfl⟩
theorem am_ol1 : am_okL0 "PatternTrees" "PatternTrees" 18 134 := Or.inr (List.mem_of_getElem? (i := 1) rfl)
theorem am_w13 : am_gw (Cond.instanceMethod ⟨"PatternTrees$Terms", "<init>", "()V"⟩) := am_g1 75 rfl rfl
theorem am_w14 : am_gw (Cond.fieldLink "PatternTrees" 19 "PatternTrees" "values" "LPatternTrees$Terms;") := am_g2 108 rfl rfl
theorem am_w15 : am_gw (Cond.classLink "PatternTrees" 23 "PatternTrees$Trial") := am_g1 142 rfl rfl
theorem am_w16 : am_gw (Cond.instantiable "PatternTrees$Trial" 2) := am_g1 143 rfl rfl
theorem am_w17 : am_gw (Cond.initialized "PatternTrees$Trial") := am_g1 5 rfl rfl
theorem am_w18 : am_gw (Cond.code ⟨"PatternTrees$Trial", "<init>", "()V"⟩ prog_9_method_1_code 1 (Option.none : Option Jvm.ClassFile.FieldType)) := am_g1 146 rfl rfl
theorem am_oc155 : am_okC 155 := ⟨am_w18, am_w17, ⟨by decide +kernel, by decide +kernel⟩, by decide +kernel, by decide +kernel, rfl⟩
theorem am_ol2 : am_okL0 "PatternTrees" "PatternTrees" 25 155 := Or.inr (List.mem_of_getElem? (i := 2) rfl)
theorem am_w19 : am_gw (Cond.instanceMethod ⟨"PatternTrees$Trial", "<init>", "()V"⟩) := am_g1 145 rfl rfl
theorem am_w20 : am_gw (Cond.fieldLink "PatternTrees" 26 "PatternTrees" "trial" "LPatternTrees$Trial;") := am_g2 109 rfl rfl
theorem am_w21 : am_gw (Cond.classLink "PatternTrees" 30 "PatternTrees$Search") := am_g1 157 rfl rfl
theorem am_w22 : am_gw (Cond.instantiable "PatternTrees$Search" 4) := am_g1 158 rfl rfl
theorem am_w23 : am_gw (Cond.initialized "PatternTrees$Search") := am_g1 6 rfl rfl
theorem am_w24 : am_gw (Cond.code ⟨"PatternTrees$Search", "<init>", "()V"⟩ prog_6_method_1_code 1 (Option.none : Option Jvm.ClassFile.FieldType)) := am_g1 161 rfl rfl
theorem am_oc116 : am_okC 116 := ⟨am_w24, am_w23, ⟨by decide +kernel, by decide +kernel⟩, by decide +kernel, by decide +kernel, rfl⟩
theorem am_ol3 : am_okL0 "PatternTrees" "PatternTrees" 32 116 := Or.inr (List.mem_of_getElem? (i := 3) rfl)
theorem am_w25 : am_gw (Cond.instanceMethod ⟨"PatternTrees$Search", "<init>", "()V"⟩) := am_g1 160 rfl rfl
theorem am_w26 : am_gw (Cond.fieldLink "PatternTrees" 33 "PatternTrees" "search" "LPatternTrees$Search;") := am_g2 110 rfl rfl
theorem am_w27 : am_gw (Cond.classLink "PatternTrees" 37 "PatternTrees$Rules") := am_g1 223 rfl rfl
theorem am_w28 : am_gw (Cond.instantiable "PatternTrees$Rules" 10) := am_g1 224 rfl rfl
theorem am_w29 : am_gw (Cond.initialized "PatternTrees$Rules") := am_g1 9 rfl rfl
theorem am_w30 : am_gw (Cond.code ⟨"PatternTrees$Rules", "<init>", "()V"⟩ prog_5_method_1_code 1 (Option.none : Option Jvm.ClassFile.FieldType)) := am_g1 227 rfl rfl
theorem am_oc106 : am_okC 106 := ⟨am_w30, am_w29, ⟨by decide +kernel, by decide +kernel⟩, by decide +kernel, by decide +kernel, rfl⟩
theorem am_ol4 : am_okL0 "PatternTrees" "PatternTrees" 39 106 := Or.inr (List.mem_of_getElem? (i := 4) rfl)
theorem am_w31 : am_gw (Cond.instanceMethod ⟨"PatternTrees$Rules", "<init>", "()V"⟩) := am_g1 226 rfl rfl
theorem am_w32 : am_gw (Cond.fieldLink "PatternTrees" 40 "PatternTrees" "rules" "LPatternTrees$Rules;") := am_g2 111 rfl rfl
theorem am_w33 : am_gw (Cond.fieldLink "PatternTrees" 44 "PatternTrees" "spare" "LPatternTrees$Rules;") := am_g2 112 rfl rfl
theorem am_w34 : am_gw (Cond.fieldLink "PatternTrees" 47 "PatternTrees" "hasSet" "Z") := am_g2 113 rfl rfl
theorem am_w35 : am_gw (Cond.fieldLink "PatternTrees" 51 "PatternTrees" "fault" "I") := am_g2 114 rfl rfl
theorem am_of0 : am_okF0 "PatternTrees" "PatternTrees" 12 0 0 := ⟨by decide, Or.inl am_w8⟩
theorem am_w36 : am_gw (Cond.fieldLink "PatternTrees" 55 "PatternTrees$Form" "tokens" "LPatternTrees$Tokens;") := am_g1 68 rfl rfl
theorem am_of1 : am_okF0 "PatternTrees" "PatternTrees" 55 3 0 := ⟨by decide, Or.inl am_w36⟩
theorem am_w37 : am_gw (Cond.fieldLink "PatternTrees" 59 "PatternTrees$Tokens" "length" "I") := am_g1 41 rfl rfl
theorem am_of2 : am_okF0 "PatternTrees" "PatternTrees" 59 8 1 := ⟨by decide, Or.inl am_w37⟩
theorem am_w38 : am_gw (Cond.code ⟨"PatternTrees$Tokens", "addBytes", "(I)V"⟩ prog_8_method_2_code 3 (Option.none : Option Jvm.ClassFile.FieldType)) := am_g2 139 rfl rfl
theorem am_w39 : am_gw (Cond.initialized "PatternTrees$Tokens") := am_g1 3 rfl rfl
theorem am_oc139 : am_okC 139 := ⟨am_w38, am_w39, ⟨by decide +kernel, by decide +kernel⟩, by decide +kernel, by decide +kernel, rfl⟩
theorem am_w40 : am_gw (Cond.methodLink "PatternTrees" 64 ⟨"PatternTrees$Tokens", "addBytes", "(I)V"⟩) := am_g2 136 rfl rfl
theorem am_ol5 : am_okL0 "PatternTrees" "PatternTrees" 64 139 := Or.inl am_w40
theorem am_w41 : am_gw (Cond.instanceMethod ⟨"PatternTrees$Tokens", "addBytes", "(I)V"⟩) := am_g2 137 rfl rfl
theorem am_w42 : am_gw (Cond.selects "PatternTrees$Tokens" ⟨"PatternTrees$Tokens", "addBytes", "(I)V"⟩ ⟨"PatternTrees$Tokens", "addBytes", "(I)V"⟩) := am_g2 138 rfl rfl
theorem am_of3 : am_okF0 "PatternTrees" "PatternTrees" 44 0 5 := ⟨by decide, Or.inl am_w33⟩
theorem am_w43 : am_gw (Cond.code ⟨"PatternTrees$Form", "readSet", "(LPatternTrees$Rules;)Z"⟩ prog_3_method_2_code 2 (Option.some Jvm.ClassFile.FieldType.boolean)) := am_g2 151 rfl rfl
theorem am_oc86 : am_okC 86 := ⟨am_w43, am_w5, ⟨by decide +kernel, by decide +kernel⟩, by decide +kernel, by decide +kernel, rfl⟩
theorem am_w44 : am_gw (Cond.methodLink "PatternTrees" 68 ⟨"PatternTrees$Form", "readSet", "(LPatternTrees$Rules;)Z"⟩) := am_g2 148 rfl rfl
theorem am_ol6 : am_okL0 "PatternTrees" "PatternTrees" 68 86 := Or.inl am_w44
theorem am_w45 : am_gw (Cond.instanceMethod ⟨"PatternTrees$Form", "readSet", "(LPatternTrees$Rules;)Z"⟩) := am_g2 149 rfl rfl
theorem am_w46 : am_gw (Cond.selects "PatternTrees$Form" ⟨"PatternTrees$Form", "readSet", "(LPatternTrees$Rules;)Z"⟩ ⟨"PatternTrees$Form", "readSet", "(LPatternTrees$Rules;)Z"⟩) := am_g2 150 rfl rfl
theorem am_w47 : am_gw (Cond.code ⟨"PatternTrees$Rules", "findFault", "()I"⟩ prog_5_method_6_code 3 (Option.some Jvm.ClassFile.FieldType.int)) := am_g3 175 rfl rfl
theorem am_oc111 : am_okC 111 := ⟨am_w47, am_w29, ⟨by decide +kernel, by decide +kernel⟩, by decide +kernel, by decide +kernel, rfl⟩
theorem am_w48 : am_gw (Cond.methodLink "PatternTrees" 72 ⟨"PatternTrees$Rules", "findFault", "()I"⟩) := am_g3 172 rfl rfl
theorem am_ol7 : am_okL0 "PatternTrees" "PatternTrees" 72 111 := Or.inl am_w48
theorem am_w49 : am_gw (Cond.instanceMethod ⟨"PatternTrees$Rules", "findFault", "()I"⟩) := am_g3 173 rfl rfl
theorem am_w50 : am_gw (Cond.selects "PatternTrees$Rules" ⟨"PatternTrees$Rules", "findFault", "()I"⟩ ⟨"PatternTrees$Rules", "findFault", "()I"⟩) := am_g3 174 rfl rfl
theorem am_w51 : am_gw (Cond.code ⟨"PatternTrees$Tokens", "at", "()I"⟩ prog_8_method_4_code 1 (Option.some Jvm.ClassFile.FieldType.int)) := am_g3 98 rfl rfl
theorem am_oc141 : am_okC 141 := ⟨am_w51, am_w39, ⟨by decide +kernel, by decide +kernel⟩, by decide +kernel, by decide +kernel, rfl⟩
theorem am_w52 : am_gw (Cond.methodLink "PatternTrees" 76 ⟨"PatternTrees$Tokens", "at", "()I"⟩) := am_g3 214 rfl rfl
theorem am_ol8 : am_okL0 "PatternTrees" "PatternTrees" 76 141 := Or.inl am_w52
theorem am_w53 : am_gw (Cond.instanceMethod ⟨"PatternTrees$Tokens", "at", "()I"⟩) := am_g3 96 rfl rfl
theorem am_w54 : am_gw (Cond.selects "PatternTrees$Tokens" ⟨"PatternTrees$Tokens", "at", "()I"⟩ ⟨"PatternTrees$Tokens", "at", "()I"⟩) := am_g3 97 rfl rfl
theorem am_of4 : am_okF0 "PatternTrees" "PatternTrees" 51 0 7 := ⟨by decide, Or.inl am_w35⟩
theorem am_of5 : am_okF0 "PatternTrees" "PatternTrees" 40 0 4 := ⟨by decide, Or.inl am_w32⟩
theorem am_of6 : am_okF0 "PatternTrees" "PatternTrees" 26 0 2 := ⟨by decide, Or.inl am_w20⟩
theorem am_w55 : am_gw (Cond.code ⟨"PatternTrees$Trial", "forget", "()V"⟩ prog_9_method_2_code 1 (Option.none : Option Jvm.ClassFile.FieldType)) := am_g3 218 rfl rfl
theorem am_oc156 : am_okC 156 := ⟨am_w55, am_w17, ⟨by decide +kernel, by decide +kernel⟩, by decide +kernel, by decide +kernel, rfl⟩
theorem am_w56 : am_gw (Cond.methodLink "PatternTrees" 79 ⟨"PatternTrees$Trial", "forget", "()V"⟩) := am_g3 215 rfl rfl
theorem am_ol9 : am_okL0 "PatternTrees" "PatternTrees" 79 156 := Or.inl am_w56
theorem am_w57 : am_gw (Cond.instanceMethod ⟨"PatternTrees$Trial", "forget", "()V"⟩) := am_g3 216 rfl rfl
theorem am_w58 : am_gw (Cond.selects "PatternTrees$Trial" ⟨"PatternTrees$Trial", "forget", "()V"⟩ ⟨"PatternTrees$Trial", "forget", "()V"⟩) := am_g3 217 rfl rfl
theorem am_of7 : am_okF0 "PatternTrees" "PatternTrees" 33 0 3 := ⟨by decide, Or.inl am_w26⟩
theorem am_w59 : am_gw (Cond.code ⟨"PatternTrees$Search", "begin", "(LPatternTrees$Rules;)V"⟩ prog_6_method_2_code 2 (Option.none : Option Jvm.ClassFile.FieldType)) := am_g3 222 rfl rfl
theorem am_oc117 : am_okC 117 := ⟨am_w59, am_w23, ⟨by decide +kernel, by decide +kernel⟩, by decide +kernel, by decide +kernel, rfl⟩
theorem am_w60 : am_gw (Cond.methodLink "PatternTrees" 82 ⟨"PatternTrees$Search", "begin", "(LPatternTrees$Rules;)V"⟩) := am_g3 219 rfl rfl
theorem am_ol10 : am_okL0 "PatternTrees" "PatternTrees" 82 117 := Or.inl am_w60
theorem am_w61 : am_gw (Cond.instanceMethod ⟨"PatternTrees$Search", "begin", "(LPatternTrees$Rules;)V"⟩) := am_g3 220 rfl rfl
theorem am_w62 : am_gw (Cond.selects "PatternTrees$Search" ⟨"PatternTrees$Search", "begin", "(LPatternTrees$Rules;)V"⟩ ⟨"PatternTrees$Search", "begin", "(LPatternTrees$Rules;)V"⟩) := am_g3 221 rfl rfl
theorem am_w63 : am_gw (Cond.fieldLink "PatternTrees" 86 "PatternTrees$Rules" "rows" "I") := am_g2 74 rfl rfl
theorem am_of8 : am_okF0 "PatternTrees" "PatternTrees" 86 5 3 := ⟨by decide, Or.inl am_w63⟩
theorem am_of9 : am_okF0 "PatternTrees" "PatternTrees" 47 0 6 := ⟨by decide, Or.inl am_w34⟩
theorem am_w64 : am_gw (Cond.fieldLink "PatternTrees" 89 "PatternTrees$Rules" "types" "LPatternTrees$Types;") := am_g2 61 rfl rfl
theorem am_of10 : am_okF0 "PatternTrees" "PatternTrees" 89 5 0 := ⟨by decide, Or.inl am_w64⟩
theorem am_w65 : am_gw (Cond.fieldLink "PatternTrees" 93 "PatternTrees$Types" "count" "I") := am_g1 237 rfl rfl
theorem am_of11 : am_okF0 "PatternTrees" "PatternTrees" 93 10 0 := ⟨by decide, Or.inl am_w65⟩
theorem am_w66 : am_gw (Cond.fieldLink "PatternTrees" 98 "PatternTrees$Types" "conCount" "I") := am_g1 239 rfl rfl
theorem am_of12 : am_okF0 "PatternTrees" "PatternTrees" 98 10 1 := ⟨by decide, Or.inl am_w66⟩
theorem am_w67 : am_gw (Cond.fieldLink "PatternTrees" 101 "PatternTrees$Rules" "columns" "I") := am_g2 68 rfl rfl
theorem am_of13 : am_okF0 "PatternTrees" "PatternTrees" 101 5 2 := ⟨by decide, Or.inl am_w67⟩
theorem am_w68 : am_gw (Cond.fieldLink "PatternTrees" 104 "PatternTrees$Rules" "pats" "LPatternTrees$Terms;") := am_g2 65 rfl rfl
theorem am_of14 : am_okF0 "PatternTrees" "PatternTrees" 104 5 1 := ⟨by decide, Or.inl am_w68⟩
theorem am_w69 : am_gw (Cond.fieldLink "PatternTrees" 107 "PatternTrees$Terms" "count" "I") := am_g1 79 rfl rfl
theorem am_of15 : am_okF0 "PatternTrees" "PatternTrees" 107 7 0 := ⟨by decide, Or.inl am_w69⟩
theorem am_of16 : am_okF0 "PatternTrees" "PatternTrees" 19 0 1 := ⟨by decide, Or.inl am_w14⟩
theorem am_w70 : am_gw (Cond.code ⟨"PatternTrees$Form", "readValues", "(LPatternTrees$Terms;)Z"⟩ prog_3_method_3_code 2 (Option.some Jvm.ClassFile.FieldType.boolean)) := am_g4 28 rfl rfl
theorem am_oc87 : am_okC 87 := ⟨am_w70, am_w5, ⟨by decide +kernel, by decide +kernel⟩, by decide +kernel, by decide +kernel, rfl⟩
theorem am_w71 : am_gw (Cond.methodLink "PatternTrees" 108 ⟨"PatternTrees$Form", "readValues", "(LPatternTrees$Terms;)Z"⟩) := am_g4 25 rfl rfl
theorem am_ol11 : am_okL0 "PatternTrees" "PatternTrees" 108 87 := Or.inl am_w71
theorem am_w72 : am_gw (Cond.instanceMethod ⟨"PatternTrees$Form", "readValues", "(LPatternTrees$Terms;)Z"⟩) := am_g4 26 rfl rfl
theorem am_w73 : am_gw (Cond.selects "PatternTrees$Form" ⟨"PatternTrees$Form", "readValues", "(LPatternTrees$Terms;)Z"⟩ ⟨"PatternTrees$Form", "readValues", "(LPatternTrees$Terms;)Z"⟩) := am_g4 27 rfl rfl
theorem am_w74 : am_gw (Cond.fieldLink "PatternTrees" 112 "PatternTrees$Terms" "head" "I") := am_g1 84 rfl rfl
theorem am_of17 : am_okF0 "PatternTrees" "PatternTrees" 112 7 1 := ⟨by decide, Or.inl am_w74⟩
theorem am_w75 : am_gw (Cond.code ⟨"PatternTrees$Rules", "findFaultInRow", "(LPatternTrees$Terms;II)I"⟩ prog_5_method_7_code 4 (Option.some Jvm.ClassFile.FieldType.int)) := am_g3 200 rfl rfl
theorem am_oc112 : am_okC 112 := ⟨am_w75, am_w29, ⟨by decide +kernel, by decide +kernel⟩, by decide +kernel, by decide +kernel, rfl⟩
theorem am_w76 : am_gw (Cond.methodLink "PatternTrees" 115 ⟨"PatternTrees$Rules", "findFaultInRow", "(LPatternTrees$Terms;II)I"⟩) := am_g4 30 rfl rfl
theorem am_ol12 : am_okL0 "PatternTrees" "PatternTrees" 115 112 := Or.inl am_w76
theorem am_w77 : am_gw (Cond.instanceMethod ⟨"PatternTrees$Rules", "findFaultInRow", "(LPatternTrees$Terms;II)I"⟩) := am_g3 198 rfl rfl
theorem am_w78 : am_gw (Cond.selects "PatternTrees$Rules" ⟨"PatternTrees$Rules", "findFaultInRow", "(LPatternTrees$Terms;II)I"⟩ ⟨"PatternTrees$Rules", "findFaultInRow", "(LPatternTrees$Terms;II)I"⟩) := am_g3 199 rfl rfl
theorem am_w79 : am_gw (Cond.code ⟨"PatternTrees$Trial", "tryRows", "(LPatternTrees$Rules;LPatternTrees$Terms;I)I"⟩ prog_9_method_3_code 7 (Option.some Jvm.ClassFile.FieldType.int)) := am_g4 34 rfl rfl
theorem am_oc157 : am_okC 157 := ⟨am_w79, am_w17, ⟨by decide +kernel, by decide +kernel⟩, by decide +kernel, by decide +kernel, rfl⟩
theorem am_w80 : am_gw (Cond.methodLink "PatternTrees" 119 ⟨"PatternTrees$Trial", "tryRows", "(LPatternTrees$Rules;LPatternTrees$Terms;I)I"⟩) := am_g4 31 rfl rfl
theorem am_ol13 : am_okL0 "PatternTrees" "PatternTrees" 119 157 := Or.inl am_w80
theorem am_w81 : am_gw (Cond.instanceMethod ⟨"PatternTrees$Trial", "tryRows", "(LPatternTrees$Rules;LPatternTrees$Terms;I)I"⟩) := am_g4 32 rfl rfl
theorem am_w82 : am_gw (Cond.selects "PatternTrees$Trial" ⟨"PatternTrees$Trial", "tryRows", "(LPatternTrees$Rules;LPatternTrees$Terms;I)I"⟩ ⟨"PatternTrees$Trial", "tryRows", "(LPatternTrees$Rules;LPatternTrees$Terms;I)I"⟩) := am_g4 33 rfl rfl
theorem am_w83 : am_gw (Cond.fieldLink "PatternTrees" 123 "PatternTrees$Trial" "count" "I") := am_g1 149 rfl rfl
theorem am_of18 : am_okF0 "PatternTrees" "PatternTrees" 123 9 0 := ⟨by decide, Or.inl am_w83⟩
theorem am_w84 : am_gw (Cond.fieldLink "PatternTrees" 124 "PatternTrees$Trial" "places" "[I") := am_g1 151 rfl rfl
theorem am_of19 : am_okF0 "PatternTrees" "PatternTrees" 124 9 1 := ⟨by decide, Or.inl am_w84⟩
theorem am_w85 : am_gw (Cond.code ⟨"PatternTrees$Search", "findExample", "(LPatternTrees$Rules;)V"⟩ prog_6_method_3_code 2 (Option.none : Option Jvm.ClassFile.FieldType)) := am_g4 71 rfl rfl
theorem am_oc118 : am_okC 118 := ⟨am_w85, am_w23, ⟨by decide +kernel, by decide +kernel⟩, by decide +kernel, by decide +kernel, rfl⟩
theorem am_w86 : am_gw (Cond.methodLink "PatternTrees" 128 ⟨"PatternTrees$Search", "findExample", "(LPatternTrees$Rules;)V"⟩) := am_g4 68 rfl rfl
theorem am_ol14 : am_okL0 "PatternTrees" "PatternTrees" 128 118 := Or.inl am_w86
theorem am_w87 : am_gw (Cond.instanceMethod ⟨"PatternTrees$Search", "findExample", "(LPatternTrees$Rules;)V"⟩) := am_g4 69 rfl rfl
theorem am_w88 : am_gw (Cond.selects "PatternTrees$Search" ⟨"PatternTrees$Search", "findExample", "(LPatternTrees$Rules;)V"⟩ ⟨"PatternTrees$Search", "findExample", "(LPatternTrees$Rules;)V"⟩) := am_g4 70 rfl rfl
theorem am_w89 : am_gw (Cond.fieldLink "PatternTrees" 131 "PatternTrees$Search" "line" "LPatternTrees$Line;") := am_g1 210 rfl rfl
theorem am_of20 : am_okF0 "PatternTrees" "PatternTrees" 131 6 0 := ⟨by decide, Or.inl am_w89⟩
theorem am_w90 : am_gw (Cond.fieldLink "PatternTrees" 135 "PatternTrees$Line" "length" "I") := am_g1 170 rfl rfl
theorem am_of21 : am_okF0 "PatternTrees" "PatternTrees" 135 4 0 := ⟨by decide, Or.inl am_w90⟩
theorem am_w91 : am_gw (Cond.fieldLink "PatternTrees" 138 "PatternTrees$Line" "bytes" "[I") := am_g1 172 rfl rfl
theorem am_of22 : am_okF0 "PatternTrees" "PatternTrees" 138 4 1 := ⟨by decide, Or.inl am_w91⟩
theorem am_w92 : am_gw (Cond.code ⟨"PatternTrees$Search", "reaches", "(LPatternTrees$Rules;I)Z"⟩ prog_6_method_4_code 5 (Option.some Jvm.ClassFile.FieldType.boolean)) := am_g4 162 rfl rfl
theorem am_oc119 : am_okC 119 := ⟨am_w92, am_w23, ⟨by decide +kernel, by decide +kernel⟩, by decide +kernel, by decide +kernel, rfl⟩
theorem am_w93 : am_gw (Cond.methodLink "PatternTrees" 141 ⟨"PatternTrees$Search", "reaches", "(LPatternTrees$Rules;I)Z"⟩) := am_g4 159 rfl rfl
theorem am_ol15 : am_okL0 "PatternTrees" "PatternTrees" 141 119 := Or.inl am_w93
theorem am_w94 : am_gw (Cond.instanceMethod ⟨"PatternTrees$Search", "reaches", "(LPatternTrees$Rules;I)Z"⟩) := am_g4 160 rfl rfl
theorem am_w95 : am_gw (Cond.selects "PatternTrees$Search" ⟨"PatternTrees$Search", "reaches", "(LPatternTrees$Rules;I)Z"⟩ ⟨"PatternTrees$Search", "reaches", "(LPatternTrees$Rules;I)Z"⟩) := am_g4 161 rfl rfl
theorem am_w96 : am_gw (Cond.methodLink "PatternTreesModel" 1 ⟨"java/lang/Object", "<init>", "()V"⟩) := am_g4 168 rfl rfl
theorem am_w97 : am_gw (Cond.arrayClass Jvm.ClassFile.FieldType.byte) := am_g4 12 rfl rfl
theorem am_w98 : am_gw (Cond.fieldLink "PatternTreesModel" 7 "PatternTreesModel" "tape" "[B") := am_g4 170 rfl rfl
theorem am_w99 : am_gw (Cond.fieldLink "PatternTreesModel" 13 "PatternTreesModel" "place" "I") := am_g4 172 rfl rfl
theorem am_w100 : am_gw (Cond.arrayClass Jvm.ClassFile.FieldType.int) := am_g1 65 rfl rfl
theorem am_w101 : am_gw (Cond.fieldLink "PatternTreesModel" 17 "PatternTreesModel" "sorts" "[I") := am_g4 174 rfl rfl
theorem am_w102 : am_gw (Cond.fieldLink "PatternTreesModel" 21 "PatternTreesModel" "places" "[I") := am_g4 175 rfl rfl
theorem am_w103 : am_gw (Cond.arrayClass Jvm.ClassFile.FieldType.long) := am_g1 66 rfl rfl
theorem am_w104 : am_gw (Cond.fieldLink "PatternTreesModel" 24 "PatternTreesModel" "whats" "[J") := am_g4 176 rfl rfl
theorem am_w105 : am_gw (Cond.fieldLink "PatternTreesModel" 28 "PatternTreesModel" "open" "[I") := am_g4 182 rfl rfl
theorem am_w106 : am_gw (Cond.fieldLink "PatternTreesModel" 31 "PatternTreesModel" "set" "I") := am_g4 184 rfl rfl
theorem am_w107 : am_gw (Cond.fieldLink "PatternTreesModel" 34 "PatternTreesModel" "typeKinds" "[I") := am_g4 185 rfl rfl
theorem am_w108 : am_gw (Cond.fieldLink "PatternTreesModel" 37 "PatternTreesModel" "typeCounts" "[I") := am_g4 186 rfl rfl
theorem am_w109 : am_gw (Cond.fieldLink "PatternTreesModel" 40 "PatternTreesModel" "conCounts" "[I") := am_g4 187 rfl rfl
theorem am_w110 : am_gw (Cond.fieldLink "PatternTreesModel" 43 "PatternTreesModel" "conNames" "[J") := am_g4 188 rfl rfl
theorem am_w111 : am_gw (Cond.fieldLink "PatternTreesModel" 46 "PatternTreesModel" "conTypes" "[I") := am_g4 189 rfl rfl
theorem am_w112 : am_gw (Cond.fieldLink "PatternTreesModel" 49 "PatternTreesModel" "conWide" "[I") := am_g4 190 rfl rfl
theorem am_w113 : am_gw (Cond.fieldLink "PatternTreesModel" 52 "PatternTreesModel" "conArgs" "[I") := am_g4 191 rfl rfl
theorem am_w114 : am_gw (Cond.fieldLink "PatternTreesModel" 55 "PatternTreesModel" "columnCounts" "[I") := am_g4 192 rfl rfl
theorem am_w115 : am_gw (Cond.fieldLink "PatternTreesModel" 58 "PatternTreesModel" "columns" "[I") := am_g4 193 rfl rfl
theorem am_w116 : am_gw (Cond.fieldLink "PatternTreesModel" 61 "PatternTreesModel" "rowCounts" "[I") := am_g4 194 rfl rfl
theorem am_w117 : am_gw (Cond.fieldLink "PatternTreesModel" 64 "PatternTreesModel" "patCounts" "[I") := am_g4 195 rfl rfl
theorem am_w118 : am_gw (Cond.arrayClass Jvm.ClassFile.FieldType.boolean) := am_g2 55 rfl rfl
theorem am_w119 : am_gw (Cond.fieldLink "PatternTreesModel" 67 "PatternTreesModel" "guarded" "[Z") := am_g4 196 rfl rfl
theorem am_w120 : am_gw (Cond.fieldLink "PatternTreesModel" 71 "PatternTreesModel" "actCounts" "[I") := am_g4 197 rfl rfl
theorem am_w121 : am_gw (Cond.fieldLink "PatternTreesModel" 74 "PatternTreesModel" "actPlaces" "[I") := am_g4 198 rfl rfl
theorem am_w122 : am_gw (Cond.fieldLink "PatternTreesModel" 77 "PatternTreesModel" "actWhats" "[I") := am_g4 199 rfl rfl
theorem am_w123 : am_gw (Cond.fieldLink "PatternTreesModel" 80 "PatternTreesModel" "frameCons" "[I") := am_g4 200 rfl rfl
theorem am_w124 : am_gw (Cond.fieldLink "PatternTreesModel" 83 "PatternTreesModel" "frameCounts" "[I") := am_g4 201 rfl rfl
theorem am_w125 : am_gw (Cond.fieldLink "PatternTreesModel" 86 "PatternTreesModel" "framePlaces" "[I") := am_g4 202 rfl rfl
theorem am_w126 : am_gw (Cond.constant "PatternTreesModel" 89 65536) := am_g4 169 rfl rfl
theorem am_w127 : am_gw (Cond.fieldLink "PatternTreesModel" 90 "PatternTreesModel" "values" "[I") := am_g4 208 rfl rfl
theorem am_w128 : am_gw (Cond.fieldLink "PatternTreesModel" 93 "PatternTreesModel" "wasLooked" "[Z") := am_g4 209 rfl rfl
theorem am_w129 : am_gw (Cond.fieldLink "PatternTreesModel" 96 "PatternTreesModel" "looks" "[I") := am_g4 211 rfl rfl
theorem am_w130 : am_gw (Cond.fieldLink "PatternTreesModel" 99 "PatternTreesModel" "known" "[I") := am_g4 212 rfl rfl
theorem am_w131 : am_gw (Cond.fieldLink "PatternTreesModel" 102 "PatternTreesModel" "nevers" "[I") := am_g4 214 rfl rfl
theorem am_w132 : am_gw (Cond.fieldLink "PatternTreesModel" 105 "PatternTreesModel" "asked" "[I") := am_g4 215 rfl rfl
theorem am_w133 : am_gw (Cond.fieldLink "PatternTreesModel" 108 "PatternTreesModel" "askedWhats" "[I") := am_g4 216 rfl rfl
theorem am_w134 : am_gw (Cond.fieldLink "PatternTreesModel" 111 "PatternTreesModel" "givens" "[I") := am_g4 218 rfl rfl
theorem am_w135 : am_gw (Cond.fieldLink "PatternTreesModel" 114 "PatternTreesModel" "askedNumbers" "[Z") := am_g4 220 rfl rfl
theorem am_w136 : am_gw (Cond.fieldLink "PatternTreesModel" 117 "PatternTreesModel" "askedOther" "[Z") := am_g4 221 rfl rfl
theorem am_w137 : am_gw (Cond.fieldLink "PatternTreesModel" 120 "PatternTreesModel" "example" "[B") := am_g4 222 rfl rfl
theorem am_w138 : am_gw (Cond.fieldLink "PatternTreesModel" 123 "PatternTreesModel" "todo" "[I") := am_g4 224 rfl rfl
theorem am_w139 : am_gw (Cond.fieldLink "PatternTreesModel" 126 "PatternTreesModel" "todoTypes" "[I") := am_g4 225 rfl rfl
theorem am_w140 : am_gw (Cond.fieldLink "PatternTreesModel" 129 "PatternTreesModel" "size" "I") := am_g4 171 rfl rfl
theorem am_of23 : am_okF0 "PatternTreesModel" "PatternTreesModel" 129 1 1 := ⟨by decide, Or.inl am_w140⟩
theorem am_of24 : am_okF0 "PatternTreesModel" "PatternTreesModel" 7 1 0 := ⟨by decide, Or.inl am_w98⟩
theorem am_w141 : am_gw (Cond.fieldLink "PatternTreesModel" 132 "PatternTreesModel" "tokens" "I") := am_g4 173 rfl rfl
theorem am_w142 : am_gw (Cond.code ⟨"PatternTreesModel", "byteAt", "(I)I"⟩ prog_12_method_5_code 2 (Option.some Jvm.ClassFile.FieldType.int)) := am_g5 123 rfl rfl
theorem am_w143 : am_gw (Cond.initialized "PatternTreesModel") := am_g1 11 rfl rfl
theorem am_oc20 : am_okC 20 := ⟨am_w142, am_w143, ⟨by decide +kernel, by decide +kernel⟩, by decide +kernel, by decide +kernel, rfl⟩
theorem am_w144 : am_gw (Cond.methodLink "PatternTreesModel" 135 ⟨"PatternTreesModel", "byteAt", "(I)I"⟩) := am_g5 120 rfl rfl
theorem am_ol16 : am_okL0 "PatternTreesModel" "PatternTreesModel" 135 20 := Or.inl am_w144
theorem am_w145 : am_gw (Cond.instanceMethod ⟨"PatternTreesModel", "byteAt", "(I)I"⟩) := am_g5 122 rfl rfl
theorem am_sl20 : am_gw (Cond.selects "PatternTreesModel" ⟨"PatternTreesModel", "byteAt", "(I)I"⟩ ⟨"PatternTreesModel", "byteAt", "(I)I"⟩) := List.mem_filter.mpr ⟨List.mem_append_left _ (List.mem_map.mpr ⟨(⟨"PatternTreesModel", "byteAt", "(I)I"⟩, 58), (show _ ∈ lw_privs from List.mem_append_right _ (List.mem_append_right _ (List.mem_append_left _ (List.mem_of_getElem? (i := 14) rfl)))), rfl⟩), rfl⟩
theorem am_of25 : am_okF0 "PatternTreesModel" "PatternTreesModel" 21 1 5 := ⟨by decide, Or.inl am_w102⟩
theorem am_of26 : am_okF0 "PatternTreesModel" "PatternTreesModel" 132 1 3 := ⟨by decide, Or.inl am_w141⟩
theorem am_of27 : am_okF0 "PatternTreesModel" "PatternTreesModel" 24 1 6 := ⟨by decide, Or.inl am_w104⟩
theorem am_of28 : am_okF0 "PatternTreesModel" "PatternTreesModel" 17 1 4 := ⟨by decide, Or.inl am_w101⟩
theorem am_w146 : am_gw (Cond.code ⟨"PatternTreesModel", "isSmall", "(I)Z"⟩ prog_12_method_2_code 1 (Option.some Jvm.ClassFile.FieldType.boolean)) := am_g5 126 rfl rfl
theorem am_oc17 : am_okC 17 := ⟨am_w146, am_w143, ⟨by decide +kernel, by decide +kernel⟩, by decide +kernel, by decide +kernel, rfl⟩
theorem am_w147 : am_gw (Cond.methodLink "PatternTreesModel" 139 ⟨"PatternTreesModel", "isSmall", "(I)Z"⟩) := am_g5 124 rfl rfl
theorem am_ol17 : am_okL0 "PatternTreesModel" "PatternTreesModel" 139 17 := Or.inl am_w147
theorem am_w148 : am_gw (Cond.static ⟨"PatternTreesModel", "isSmall", "(I)Z"⟩) := am_g5 125 rfl rfl
theorem am_w149 : am_gw (Cond.code ⟨"PatternTreesModel", "isGreat", "(I)Z"⟩ prog_12_method_3_code 1 (Option.some Jvm.ClassFile.FieldType.boolean)) := am_g5 129 rfl rfl
theorem am_oc18 : am_okC 18 := ⟨am_w149, am_w143, ⟨by decide +kernel, by decide +kernel⟩, by decide +kernel, by decide +kernel, rfl⟩
theorem am_w150 : am_gw (Cond.methodLink "PatternTreesModel" 143 ⟨"PatternTreesModel", "isGreat", "(I)Z"⟩) := am_g5 127 rfl rfl
theorem am_ol18 : am_okL0 "PatternTreesModel" "PatternTreesModel" 143 18 := Or.inl am_w150
theorem am_w151 : am_gw (Cond.static ⟨"PatternTreesModel", "isGreat", "(I)Z"⟩) := am_g5 128 rfl rfl
theorem am_w152 : am_gw (Cond.code ⟨"PatternTreesModel", "scanWord", "(II)I"⟩ prog_12_method_8_code 8 (Option.some Jvm.ClassFile.FieldType.int)) := am_g5 133 rfl rfl
theorem am_oc23 : am_okC 23 := ⟨am_w152, am_w143, ⟨by decide +kernel, by decide +kernel⟩, by decide +kernel, by decide +kernel, rfl⟩
theorem am_w153 : am_gw (Cond.methodLink "PatternTreesModel" 146 ⟨"PatternTreesModel", "scanWord", "(II)I"⟩) := am_g5 130 rfl rfl
theorem am_ol19 : am_okL0 "PatternTreesModel" "PatternTreesModel" 146 23 := Or.inl am_w153
theorem am_w154 : am_gw (Cond.instanceMethod ⟨"PatternTreesModel", "scanWord", "(II)I"⟩) := am_g5 132 rfl rfl
theorem am_sl23 : am_gw (Cond.selects "PatternTreesModel" ⟨"PatternTreesModel", "scanWord", "(II)I"⟩ ⟨"PatternTreesModel", "scanWord", "(II)I"⟩) := List.mem_filter.mpr ⟨List.mem_append_left _ (List.mem_map.mpr ⟨(⟨"PatternTreesModel", "scanWord", "(II)I"⟩, 58), (show _ ∈ lw_privs from List.mem_append_right _ (List.mem_append_right _ (List.mem_append_left _ (List.mem_of_getElem? (i := 15) rfl)))), rfl⟩), rfl⟩
theorem am_w155 : am_gw (Cond.code ⟨"PatternTreesModel", "isFigure", "(I)Z"⟩ prog_12_method_4_code 1 (Option.some Jvm.ClassFile.FieldType.boolean)) := am_g5 136 rfl rfl
theorem am_oc19 : am_okC 19 := ⟨am_w155, am_w143, ⟨by decide +kernel, by decide +kernel⟩, by decide +kernel, by decide +kernel, rfl⟩
theorem am_w156 : am_gw (Cond.methodLink "PatternTreesModel" 150 ⟨"PatternTreesModel", "isFigure", "(I)Z"⟩) := am_g5 134 rfl rfl
theorem am_ol20 : am_okL0 "PatternTreesModel" "PatternTreesModel" 150 19 := Or.inl am_w156
theorem am_w157 : am_gw (Cond.static ⟨"PatternTreesModel", "isFigure", "(I)Z"⟩) := am_g5 135 rfl rfl
theorem am_w158 : am_gw (Cond.code ⟨"PatternTreesModel", "isSignByte", "(I)Z"⟩ prog_12_method_6_code 1 (Option.some Jvm.ClassFile.FieldType.boolean)) := am_g5 139 rfl rfl
theorem am_oc21 : am_okC 21 := ⟨am_w158, am_w143, ⟨by decide +kernel, by decide +kernel⟩, by decide +kernel, by decide +kernel, rfl⟩
theorem am_w159 : am_gw (Cond.methodLink "PatternTreesModel" 153 ⟨"PatternTreesModel", "isSignByte", "(I)Z"⟩) := am_g5 137 rfl rfl
theorem am_ol21 : am_okL0 "PatternTreesModel" "PatternTreesModel" 153 21 := Or.inl am_w159
theorem am_w160 : am_gw (Cond.static ⟨"PatternTreesModel", "isSignByte", "(I)Z"⟩) := am_g5 138 rfl rfl
theorem am_w161 : am_gw (Cond.fieldLink "PatternTreesModel" 156 "PatternTreesModel" "bad" "Z") := am_g4 178 rfl rfl
theorem am_of29 : am_okF0 "PatternTreesModel" "PatternTreesModel" 156 1 8 := ⟨by decide, Or.inl am_w161⟩
theorem am_w162 : am_gw (Cond.fieldLink "PatternTreesModel" 160 "PatternTreesModel" "at" "I") := am_g4 177 rfl rfl
theorem am_of30 : am_okF0 "PatternTreesModel" "PatternTreesModel" 160 1 7 := ⟨by decide, Or.inl am_w162⟩
theorem am_w163 : am_gw (Cond.fieldLink "PatternTreesModel" 163 "PatternTreesModel" "badPlace" "I") := am_g4 179 rfl rfl
theorem am_w164 : am_gw (Cond.constantLong "PatternTreesModel" 166 1684108385) := am_g5 144 rfl rfl
theorem am_w165 : am_gw (Cond.constantLong "PatternTreesModel" 168 7234935) := am_g5 149 rfl rfl
theorem am_w166 : am_gw (Cond.constantLong "PatternTreesModel" 170 469786452840) := am_g5 174 rfl rfl
theorem am_w167 : am_gw (Cond.constantLong "PatternTreesModel" 172 2003330414) := am_g5 175 rfl rfl
theorem am_w168 : am_gw (Cond.code ⟨"PatternTreesModel", "isSign", "(I)Z"⟩ prog_12_method_10_code 2 (Option.some Jvm.ClassFile.FieldType.boolean)) := am_g5 165 rfl rfl
theorem am_oc25 : am_okC 25 := ⟨am_w168, am_w143, ⟨by decide +kernel, by decide +kernel⟩, by decide +kernel, by decide +kernel, rfl⟩
theorem am_w169 : am_gw (Cond.methodLink "PatternTreesModel" 174 ⟨"PatternTreesModel", "isSign", "(I)Z"⟩) := am_g5 162 rfl rfl
theorem am_ol22 : am_okL0 "PatternTreesModel" "PatternTreesModel" 174 25 := Or.inl am_w169
theorem am_w170 : am_gw (Cond.instanceMethod ⟨"PatternTreesModel", "isSign", "(I)Z"⟩) := am_g5 164 rfl rfl
theorem am_sl25 : am_gw (Cond.selects "PatternTreesModel" ⟨"PatternTreesModel", "isSign", "(I)Z"⟩ ⟨"PatternTreesModel", "isSign", "(I)Z"⟩) := List.mem_filter.mpr ⟨List.mem_append_left _ (List.mem_map.mpr ⟨(⟨"PatternTreesModel", "isSign", "(I)Z"⟩, 58), (show _ ∈ lw_privs from List.mem_append_right _ (List.mem_append_right _ (List.mem_append_right _ (List.mem_append_left _ (List.mem_of_getElem? (i := 5) rfl))))), rfl⟩), rfl⟩
theorem am_w171 : am_gw (Cond.code ⟨"PatternTreesModel", "misplaced", "()V"⟩ prog_12_method_9_code 1 (Option.none : Option Jvm.ClassFile.FieldType)) := am_g5 157 rfl rfl
theorem am_oc24 : am_okC 24 := ⟨am_w171, am_w143, ⟨by decide +kernel, by decide +kernel⟩, by decide +kernel, by decide +kernel, rfl⟩
theorem am_w172 : am_gw (Cond.methodLink "PatternTreesModel" 177 ⟨"PatternTreesModel", "misplaced", "()V"⟩) := am_g5 154 rfl rfl
theorem am_ol23 : am_okL0 "PatternTreesModel" "PatternTreesModel" 177 24 := Or.inl am_w172
theorem am_w173 : am_gw (Cond.instanceMethod ⟨"PatternTreesModel", "misplaced", "()V"⟩) := am_g5 156 rfl rfl
theorem am_sl24 : am_gw (Cond.selects "PatternTreesModel" ⟨"PatternTreesModel", "misplaced", "()V"⟩ ⟨"PatternTreesModel", "misplaced", "()V"⟩) := List.mem_filter.mpr ⟨List.mem_append_left _ (List.mem_map.mpr ⟨(⟨"PatternTreesModel", "misplaced", "()V"⟩, 58), (show _ ∈ lw_privs from List.mem_append_right _ (List.mem_append_right _ (List.mem_append_right _ (List.mem_append_left _ (List.mem_of_getElem? (i := 3) rfl))))), rfl⟩), rfl⟩
theorem am_w174 : am_gw (Cond.code ⟨"PatternTreesModel", "isWord", "(J)Z"⟩ prog_12_method_11_code 3 (Option.some Jvm.ClassFile.FieldType.boolean)) := am_g5 148 rfl rfl
theorem am_oc26 : am_okC 26 := ⟨am_w174, am_w143, ⟨by decide +kernel, by decide +kernel⟩, by decide +kernel, by decide +kernel, rfl⟩
theorem am_w175 : am_gw (Cond.methodLink "PatternTreesModel" 180 ⟨"PatternTreesModel", "isWord", "(J)Z"⟩) := am_g5 145 rfl rfl
theorem am_ol24 : am_okL0 "PatternTreesModel" "PatternTreesModel" 180 26 := Or.inl am_w175
theorem am_w176 : am_gw (Cond.instanceMethod ⟨"PatternTreesModel", "isWord", "(J)Z"⟩) := am_g5 147 rfl rfl
theorem am_sl26 : am_gw (Cond.selects "PatternTreesModel" ⟨"PatternTreesModel", "isWord", "(J)Z"⟩ ⟨"PatternTreesModel", "isWord", "(J)Z"⟩) := List.mem_filter.mpr ⟨List.mem_append_left _ (List.mem_map.mpr ⟨(⟨"PatternTreesModel", "isWord", "(J)Z"⟩, 58), (show _ ∈ lw_privs from List.mem_append_right _ (List.mem_append_right _ (List.mem_append_right _ (List.mem_append_left _ (List.mem_of_getElem? (i := 1) rfl))))), rfl⟩), rfl⟩
theorem am_w177 : am_gw (Cond.code ⟨"PatternTreesModel", "takeSort", "(Z)V"⟩ prog_12_method_14_code 2 (Option.none : Option Jvm.ClassFile.FieldType)) := am_g5 153 rfl rfl
theorem am_oc29 : am_okC 29 := ⟨am_w177, am_w143, ⟨by decide +kernel, by decide +kernel⟩, by decide +kernel, by decide +kernel, rfl⟩
theorem am_w178 : am_gw (Cond.methodLink "PatternTreesModel" 184 ⟨"PatternTreesModel", "takeSort", "(Z)V"⟩) := am_g5 150 rfl rfl
theorem am_ol25 : am_okL0 "PatternTreesModel" "PatternTreesModel" 184 29 := Or.inl am_w178
theorem am_w179 : am_gw (Cond.instanceMethod ⟨"PatternTreesModel", "takeSort", "(Z)V"⟩) := am_g5 152 rfl rfl
theorem am_sl29 : am_gw (Cond.selects "PatternTreesModel" ⟨"PatternTreesModel", "takeSort", "(Z)V"⟩ ⟨"PatternTreesModel", "takeSort", "(Z)V"⟩) := List.mem_filter.mpr ⟨List.mem_append_left _ (List.mem_map.mpr ⟨(⟨"PatternTreesModel", "takeSort", "(Z)V"⟩, 58), (show _ ∈ lw_privs from List.mem_append_right _ (List.mem_append_right _ (List.mem_append_right _ (List.mem_append_left _ (List.mem_of_getElem? (i := 2) rfl))))), rfl⟩), rfl⟩
theorem am_w180 : am_gw (Cond.code ⟨"PatternTreesModel", "takeSign", "(I)V"⟩ prog_12_method_13_code 2 (Option.none : Option Jvm.ClassFile.FieldType)) := am_g5 161 rfl rfl
theorem am_oc28 : am_okC 28 := ⟨am_w180, am_w143, ⟨by decide +kernel, by decide +kernel⟩, by decide +kernel, by decide +kernel, rfl⟩
theorem am_w181 : am_gw (Cond.methodLink "PatternTreesModel" 188 ⟨"PatternTreesModel", "takeSign", "(I)V"⟩) := am_g5 158 rfl rfl
theorem am_ol26 : am_okL0 "PatternTreesModel" "PatternTreesModel" 188 28 := Or.inl am_w181
theorem am_w182 : am_gw (Cond.instanceMethod ⟨"PatternTreesModel", "takeSign", "(I)V"⟩) := am_g5 160 rfl rfl
theorem am_sl28 : am_gw (Cond.selects "PatternTreesModel" ⟨"PatternTreesModel", "takeSign", "(I)V"⟩ ⟨"PatternTreesModel", "takeSign", "(I)V"⟩) := List.mem_filter.mpr ⟨List.mem_append_left _ (List.mem_map.mpr ⟨(⟨"PatternTreesModel", "takeSign", "(I)V"⟩, 58), (show _ ∈ lw_privs from List.mem_append_right _ (List.mem_append_right _ (List.mem_append_right _ (List.mem_append_left _ (List.mem_of_getElem? (i := 4) rfl))))), rfl⟩), rfl⟩
theorem am_w183 : am_gw (Cond.code ⟨"PatternTreesModel", "formOfCons", "()V"⟩ prog_12_method_17_code 3 (Option.none : Option Jvm.ClassFile.FieldType)) := am_g5 169 rfl rfl
theorem am_oc32 : am_okC 32 := ⟨am_w183, am_w143, ⟨by decide +kernel, by decide +kernel⟩, by decide +kernel, by decide +kernel, rfl⟩
theorem am_w184 : am_gw (Cond.methodLink "PatternTreesModel" 192 ⟨"PatternTreesModel", "formOfCons", "()V"⟩) := am_g5 166 rfl rfl
theorem am_ol27 : am_okL0 "PatternTreesModel" "PatternTreesModel" 192 32 := Or.inl am_w184
theorem am_w185 : am_gw (Cond.instanceMethod ⟨"PatternTreesModel", "formOfCons", "()V"⟩) := am_g5 168 rfl rfl
theorem am_sl32 : am_gw (Cond.selects "PatternTreesModel" ⟨"PatternTreesModel", "formOfCons", "()V"⟩ ⟨"PatternTreesModel", "formOfCons", "()V"⟩) := List.mem_filter.mpr ⟨List.mem_append_left _ (List.mem_map.mpr ⟨(⟨"PatternTreesModel", "formOfCons", "()V"⟩, 58), (show _ ∈ lw_privs from List.mem_append_right _ (List.mem_append_right _ (List.mem_append_right _ (List.mem_append_left _ (List.mem_of_getElem? (i := 6) rfl))))), rfl⟩), rfl⟩
theorem am_w186 : am_gw (Cond.code ⟨"PatternTreesModel", "isCon", "()Z"⟩ prog_12_method_12_code 1 (Option.some Jvm.ClassFile.FieldType.boolean)) := am_g5 173 rfl rfl
theorem am_oc27 : am_okC 27 := ⟨am_w186, am_w143, ⟨by decide +kernel, by decide +kernel⟩, by decide +kernel, by decide +kernel, rfl⟩
theorem am_w187 : am_gw (Cond.methodLink "PatternTreesModel" 195 ⟨"PatternTreesModel", "isCon", "()Z"⟩) := am_g5 170 rfl rfl
theorem am_ol28 : am_okL0 "PatternTreesModel" "PatternTreesModel" 195 27 := Or.inl am_w187
theorem am_w188 : am_gw (Cond.instanceMethod ⟨"PatternTreesModel", "isCon", "()Z"⟩) := am_g5 172 rfl rfl
theorem am_sl27 : am_gw (Cond.selects "PatternTreesModel" ⟨"PatternTreesModel", "isCon", "()Z"⟩ ⟨"PatternTreesModel", "isCon", "()Z"⟩) := List.mem_filter.mpr ⟨List.mem_append_left _ (List.mem_map.mpr ⟨(⟨"PatternTreesModel", "isCon", "()Z"⟩, 58), (show _ ∈ lw_privs from List.mem_append_right _ (List.mem_append_right _ (List.mem_append_right _ (List.mem_append_left _ (List.mem_of_getElem? (i := 7) rfl))))), rfl⟩), rfl⟩
theorem am_w189 : am_gw (Cond.code ⟨"PatternTreesModel", "formOfTypes", "(I)V"⟩ prog_12_method_16_code 3 (Option.none : Option Jvm.ClassFile.FieldType)) := am_g5 179 rfl rfl
theorem am_oc31 : am_okC 31 := ⟨am_w189, am_w143, ⟨by decide +kernel, by decide +kernel⟩, by decide +kernel, by decide +kernel, rfl⟩
theorem am_w190 : am_gw (Cond.methodLink "PatternTreesModel" 199 ⟨"PatternTreesModel", "formOfTypes", "(I)V"⟩) := am_g5 176 rfl rfl
theorem am_ol29 : am_okL0 "PatternTreesModel" "PatternTreesModel" 199 31 := Or.inl am_w190
theorem am_w191 : am_gw (Cond.instanceMethod ⟨"PatternTreesModel", "formOfTypes", "(I)V"⟩) := am_g5 178 rfl rfl
theorem am_sl31 : am_gw (Cond.selects "PatternTreesModel" ⟨"PatternTreesModel", "formOfTypes", "(I)V"⟩ ⟨"PatternTreesModel", "formOfTypes", "(I)V"⟩) := List.mem_filter.mpr ⟨List.mem_append_left _ (List.mem_map.mpr ⟨(⟨"PatternTreesModel", "formOfTypes", "(I)V"⟩, 58), (show _ ∈ lw_privs from List.mem_append_right _ (List.mem_append_right _ (List.mem_append_right _ (List.mem_append_left _ (List.mem_of_getElem? (i := 8) rfl))))), rfl⟩), rfl⟩
theorem am_w192 : am_gw (Cond.fieldLink "PatternTreesModel" 202 "PatternTreesModel" "rowStart" "I") := am_g4 181 rfl rfl
theorem am_w193 : am_gw (Cond.fieldLink "PatternTreesModel" 205 "PatternTreesModel" "formPats" "I") := am_g4 180 rfl rfl
theorem am_w194 : am_gw (Cond.code ⟨"PatternTreesModel", "formOfRow", "(Z)V"⟩ prog_12_method_19_code 4 (Option.none : Option Jvm.ClassFile.FieldType)) := am_g5 183 rfl rfl
theorem am_oc34 : am_okC 34 := ⟨am_w194, am_w143, ⟨by decide +kernel, by decide +kernel⟩, by decide +kernel, by decide +kernel, rfl⟩
theorem am_w195 : am_gw (Cond.methodLink "PatternTreesModel" 208 ⟨"PatternTreesModel", "formOfRow", "(Z)V"⟩) := am_g5 180 rfl rfl
theorem am_ol30 : am_okL0 "PatternTreesModel" "PatternTreesModel" 208 34 := Or.inl am_w195
theorem am_w196 : am_gw (Cond.instanceMethod ⟨"PatternTreesModel", "formOfRow", "(Z)V"⟩) := am_g5 182 rfl rfl
theorem am_sl34 : am_gw (Cond.selects "PatternTreesModel" ⟨"PatternTreesModel", "formOfRow", "(Z)V"⟩ ⟨"PatternTreesModel", "formOfRow", "(Z)V"⟩) := List.mem_filter.mpr ⟨List.mem_append_left _ (List.mem_map.mpr ⟨(⟨"PatternTreesModel", "formOfRow", "(Z)V"⟩, 58), (show _ ∈ lw_privs from List.mem_append_right _ (List.mem_append_right _ (List.mem_append_right _ (List.mem_append_left _ (List.mem_of_getElem? (i := 9) rfl))))), rfl⟩), rfl⟩
theorem am_w197 : am_gw (Cond.fieldLink "PatternTreesModel" 211 "PatternTreesModel" "opened" "I") := am_g4 183 rfl rfl
theorem am_w198 : am_gw (Cond.code ⟨"PatternTreesModel", "beginsPat", "(Z)Z"⟩ prog_12_method_18_code 2 (Option.some Jvm.ClassFile.FieldType.boolean)) := am_g5 187 rfl rfl
theorem am_oc33 : am_okC 33 := ⟨am_w198, am_w143, ⟨by decide +kernel, by decide +kernel⟩, by decide +kernel, by decide +kernel, rfl⟩
theorem am_w199 : am_gw (Cond.methodLink "PatternTreesModel" 214 ⟨"PatternTreesModel", "beginsPat", "(Z)Z"⟩) := am_g5 184 rfl rfl
theorem am_ol31 : am_okL0 "PatternTreesModel" "PatternTreesModel" 214 33 := Or.inl am_w199
theorem am_w200 : am_gw (Cond.instanceMethod ⟨"PatternTreesModel", "beginsPat", "(Z)Z"⟩) := am_g5 186 rfl rfl
theorem am_sl33 : am_gw (Cond.selects "PatternTreesModel" ⟨"PatternTreesModel", "beginsPat", "(Z)Z"⟩ ⟨"PatternTreesModel", "beginsPat", "(Z)Z"⟩) := List.mem_filter.mpr ⟨List.mem_append_left _ (List.mem_map.mpr ⟨(⟨"PatternTreesModel", "beginsPat", "(Z)Z"⟩, 58), (show _ ∈ lw_privs from List.mem_append_right _ (List.mem_append_right _ (List.mem_append_right _ (List.mem_append_left _ (List.mem_of_getElem? (i := 10) rfl))))), rfl⟩), rfl⟩
theorem am_of31 : am_okF0 "PatternTreesModel" "PatternTreesModel" 211 1 13 := ⟨by decide, Or.inl am_w197⟩
theorem am_w201 : am_gw (Cond.code ⟨"PatternTreesModel", "closeFronts", "()V"⟩ prog_12_method_20_code 1 (Option.none : Option Jvm.ClassFile.FieldType)) := am_g5 191 rfl rfl
theorem am_oc35 : am_okC 35 := ⟨am_w201, am_w143, ⟨by decide +kernel, by decide +kernel⟩, by decide +kernel, by decide +kernel, rfl⟩
theorem am_w202 : am_gw (Cond.methodLink "PatternTreesModel" 218 ⟨"PatternTreesModel", "closeFronts", "()V"⟩) := am_g5 188 rfl rfl
theorem am_ol32 : am_okL0 "PatternTreesModel" "PatternTreesModel" 218 35 := Or.inl am_w202
theorem am_w203 : am_gw (Cond.instanceMethod ⟨"PatternTreesModel", "closeFronts", "()V"⟩) := am_g5 190 rfl rfl
theorem am_sl35 : am_gw (Cond.selects "PatternTreesModel" ⟨"PatternTreesModel", "closeFronts", "()V"⟩ ⟨"PatternTreesModel", "closeFronts", "()V"⟩) := List.mem_filter.mpr ⟨List.mem_append_left _ (List.mem_map.mpr ⟨(⟨"PatternTreesModel", "closeFronts", "()V"⟩, 58), (show _ ∈ lw_privs from List.mem_append_right _ (List.mem_append_right _ (List.mem_append_right _ (List.mem_append_left _ (List.mem_of_getElem? (i := 11) rfl))))), rfl⟩), rfl⟩
theorem am_w204 : am_gw (Cond.code ⟨"PatternTreesModel", "formOfPat", "(Z)V"⟩ prog_12_method_21_code 3 (Option.none : Option Jvm.ClassFile.FieldType)) := am_g5 195 rfl rfl
theorem am_oc36 : am_okC 36 := ⟨am_w204, am_w143, ⟨by decide +kernel, by decide +kernel⟩, by decide +kernel, by decide +kernel, rfl⟩
theorem am_w205 : am_gw (Cond.methodLink "PatternTreesModel" 221 ⟨"PatternTreesModel", "formOfPat", "(Z)V"⟩) := am_g5 192 rfl rfl
theorem am_ol33 : am_okL0 "PatternTreesModel" "PatternTreesModel" 221 36 := Or.inl am_w205
theorem am_w206 : am_gw (Cond.instanceMethod ⟨"PatternTreesModel", "formOfPat", "(Z)V"⟩) := am_g5 194 rfl rfl
theorem am_sl36 : am_gw (Cond.selects "PatternTreesModel" ⟨"PatternTreesModel", "formOfPat", "(Z)V"⟩ ⟨"PatternTreesModel", "formOfPat", "(Z)V"⟩) := List.mem_filter.mpr ⟨List.mem_append_left _ (List.mem_map.mpr ⟨(⟨"PatternTreesModel", "formOfPat", "(Z)V"⟩, 58), (show _ ∈ lw_privs from List.mem_append_right _ (List.mem_append_right _ (List.mem_append_right _ (List.mem_append_left _ (List.mem_of_getElem? (i := 12) rfl))))), rfl⟩), rfl⟩
theorem am_of32 : am_okF0 "PatternTreesModel" "PatternTreesModel" 28 1 12 := ⟨by decide, Or.inl am_w105⟩
theorem am_of33 : am_okF0 "PatternTreesModel" "PatternTreesModel" 205 1 10 := ⟨by decide, Or.inl am_w193⟩
theorem am_w207 : am_gw (Cond.constantLong "PatternTreesModel" 224 64) := am_g5 196 rfl rfl
theorem am_w208 : am_gw (Cond.code ⟨"PatternTreesModel", "formOfInner", "(Z)V"⟩ prog_12_method_22_code 2 (Option.none : Option Jvm.ClassFile.FieldType)) := am_g5 200 rfl rfl
theorem am_oc37 : am_okC 37 := ⟨am_w208, am_w143, ⟨by decide +kernel, by decide +kernel⟩, by decide +kernel, by decide +kernel, rfl⟩
theorem am_w209 : am_gw (Cond.methodLink "PatternTreesModel" 226 ⟨"PatternTreesModel", "formOfInner", "(Z)V"⟩) := am_g5 197 rfl rfl
theorem am_ol34 : am_okL0 "PatternTreesModel" "PatternTreesModel" 226 37 := Or.inl am_w209
theorem am_w210 : am_gw (Cond.instanceMethod ⟨"PatternTreesModel", "formOfInner", "(Z)V"⟩) := am_g5 199 rfl rfl
theorem am_sl37 : am_gw (Cond.selects "PatternTreesModel" ⟨"PatternTreesModel", "formOfInner", "(Z)V"⟩ ⟨"PatternTreesModel", "formOfInner", "(Z)V"⟩) := List.mem_filter.mpr ⟨List.mem_append_left _ (List.mem_map.mpr ⟨(⟨"PatternTreesModel", "formOfInner", "(Z)V"⟩, 58), (show _ ∈ lw_privs from List.mem_append_right _ (List.mem_append_right _ (List.mem_append_right _ (List.mem_append_left _ (List.mem_of_getElem? (i := 13) rfl))))), rfl⟩), rfl⟩
theorem am_of34 : am_okF0 "PatternTreesModel" "PatternTreesModel" 40 1 17 := ⟨by decide, Or.inl am_w109⟩
theorem am_of35 : am_okF0 "PatternTreesModel" "PatternTreesModel" 43 1 18 := ⟨by decide, Or.inl am_w110⟩
theorem am_of36 : am_okF0 "PatternTreesModel" "PatternTreesModel" 34 1 15 := ⟨by decide, Or.inl am_w107⟩
theorem am_of37 : am_okF0 "PatternTreesModel" "PatternTreesModel" 37 1 16 := ⟨by decide, Or.inl am_w108⟩
theorem am_of38 : am_okF0 "PatternTreesModel" "PatternTreesModel" 55 1 22 := ⟨by decide, Or.inl am_w114⟩
theorem am_of39 : am_okF0 "PatternTreesModel" "PatternTreesModel" 61 1 24 := ⟨by decide, Or.inl am_w116⟩
theorem am_of40 : am_okF0 "PatternTreesModel" "PatternTreesModel" 64 1 25 := ⟨by decide, Or.inl am_w117⟩
theorem am_of41 : am_okF0 "PatternTreesModel" "PatternTreesModel" 202 1 11 := ⟨by decide, Or.inl am_w192⟩
theorem am_w211 : am_gw (Cond.constantLong "PatternTreesModel" 229 8) := am_g5 205 rfl rfl
theorem am_w212 : am_gw (Cond.code ⟨"PatternTreesModel", "meaningOfCons", "(II)V"⟩ prog_12_method_26_code 4 (Option.none : Option Jvm.ClassFile.FieldType)) := am_g5 209 rfl rfl
theorem am_oc41 : am_okC 41 := ⟨am_w212, am_w143, ⟨by decide +kernel, by decide +kernel⟩, by decide +kernel, by decide +kernel, rfl⟩
theorem am_w213 : am_gw (Cond.methodLink "PatternTreesModel" 231 ⟨"PatternTreesModel", "meaningOfCons", "(II)V"⟩) := am_g5 206 rfl rfl
theorem am_ol35 : am_okL0 "PatternTreesModel" "PatternTreesModel" 231 41 := Or.inl am_w213
theorem am_w214 : am_gw (Cond.instanceMethod ⟨"PatternTreesModel", "meaningOfCons", "(II)V"⟩) := am_g5 208 rfl rfl
theorem am_sl41 : am_gw (Cond.selects "PatternTreesModel" ⟨"PatternTreesModel", "meaningOfCons", "(II)V"⟩ ⟨"PatternTreesModel", "meaningOfCons", "(II)V"⟩) := List.mem_filter.mpr ⟨List.mem_append_left _ (List.mem_map.mpr ⟨(⟨"PatternTreesModel", "meaningOfCons", "(II)V"⟩, 58), (show _ ∈ lw_privs from List.mem_append_right _ (List.mem_append_right _ (List.mem_append_right _ (List.mem_append_left _ (List.mem_of_getElem? (i := 15) rfl))))), rfl⟩), rfl⟩
theorem am_of42 : am_okF0 "PatternTreesModel" "PatternTreesModel" 58 1 23 := ⟨by decide, Or.inl am_w115⟩
theorem am_w215 : am_gw (Cond.code ⟨"PatternTreesModel", "meaningOfType", "(I)V"⟩ prog_12_method_25_code 2 (Option.none : Option Jvm.ClassFile.FieldType)) := am_g5 217 rfl rfl
theorem am_oc40 : am_okC 40 := ⟨am_w215, am_w143, ⟨by decide +kernel, by decide +kernel⟩, by decide +kernel, by decide +kernel, rfl⟩
theorem am_w216 : am_gw (Cond.methodLink "PatternTreesModel" 235 ⟨"PatternTreesModel", "meaningOfType", "(I)V"⟩) := am_g5 214 rfl rfl
theorem am_ol36 : am_okL0 "PatternTreesModel" "PatternTreesModel" 235 40 := Or.inl am_w216
theorem am_w217 : am_gw (Cond.instanceMethod ⟨"PatternTreesModel", "meaningOfType", "(I)V"⟩) := am_g5 216 rfl rfl
theorem am_sl40 : am_gw (Cond.selects "PatternTreesModel" ⟨"PatternTreesModel", "meaningOfType", "(I)V"⟩ ⟨"PatternTreesModel", "meaningOfType", "(I)V"⟩) := List.mem_filter.mpr ⟨List.mem_append_left _ (List.mem_map.mpr ⟨(⟨"PatternTreesModel", "meaningOfType", "(I)V"⟩, 58), (show _ ∈ lw_privs from List.mem_append_right _ (List.mem_append_right _ (List.mem_append_right _ (List.mem_append_right _ (List.mem_append_left _ (List.mem_of_getElem? (i := 1) rfl)))))), rfl⟩), rfl⟩
theorem am_w218 : am_gw (Cond.code ⟨"PatternTreesModel", "meaningOfRow", "(I)V"⟩ prog_12_method_29_code 6 (Option.none : Option Jvm.ClassFile.FieldType)) := am_g5 221 rfl rfl
theorem am_oc44 : am_okC 44 := ⟨am_w218, am_w143, ⟨by decide +kernel, by decide +kernel⟩, by decide +kernel, by decide +kernel, rfl⟩
theorem am_w219 : am_gw (Cond.methodLink "PatternTreesModel" 238 ⟨"PatternTreesModel", "meaningOfRow", "(I)V"⟩) := am_g5 218 rfl rfl
theorem am_ol37 : am_okL0 "PatternTreesModel" "PatternTreesModel" 238 44 := Or.inl am_w219
theorem am_w220 : am_gw (Cond.instanceMethod ⟨"PatternTreesModel", "meaningOfRow", "(I)V"⟩) := am_g5 220 rfl rfl
theorem am_sl44 : am_gw (Cond.selects "PatternTreesModel" ⟨"PatternTreesModel", "meaningOfRow", "(I)V"⟩ ⟨"PatternTreesModel", "meaningOfRow", "(I)V"⟩) := List.mem_filter.mpr ⟨List.mem_append_left _ (List.mem_map.mpr ⟨(⟨"PatternTreesModel", "meaningOfRow", "(I)V"⟩, 58), (show _ ∈ lw_privs from List.mem_append_right _ (List.mem_append_right _ (List.mem_append_right _ (List.mem_append_right _ (List.mem_append_left _ (List.mem_of_getElem? (i := 2) rfl)))))), rfl⟩), rfl⟩
theorem am_w221 : am_gw (Cond.code ⟨"PatternTreesModel", "findCon", "(IJ)I"⟩ prog_12_method_23_code 5 (Option.some Jvm.ClassFile.FieldType.int)) := am_g5 213 rfl rfl
theorem am_oc38 : am_okC 38 := ⟨am_w221, am_w143, ⟨by decide +kernel, by decide +kernel⟩, by decide +kernel, by decide +kernel, rfl⟩
theorem am_w222 : am_gw (Cond.methodLink "PatternTreesModel" 241 ⟨"PatternTreesModel", "findCon", "(IJ)I"⟩) := am_g5 210 rfl rfl
theorem am_ol38 : am_okL0 "PatternTreesModel" "PatternTreesModel" 241 38 := Or.inl am_w222
theorem am_w223 : am_gw (Cond.instanceMethod ⟨"PatternTreesModel", "findCon", "(IJ)I"⟩) := am_g5 212 rfl rfl
theorem am_sl38 : am_gw (Cond.selects "PatternTreesModel" ⟨"PatternTreesModel", "findCon", "(IJ)I"⟩ ⟨"PatternTreesModel", "findCon", "(IJ)I"⟩) := List.mem_filter.mpr ⟨List.mem_append_left _ (List.mem_map.mpr ⟨(⟨"PatternTreesModel", "findCon", "(IJ)I"⟩, 58), (show _ ∈ lw_privs from List.mem_append_right _ (List.mem_append_right _ (List.mem_append_right _ (List.mem_append_right _ (List.mem_append_left _ (List.mem_of_getElem? (i := 0) rfl)))))), rfl⟩), rfl⟩
theorem am_of43 : am_okF0 "PatternTreesModel" "PatternTreesModel" 46 1 19 := ⟨by decide, Or.inl am_w111⟩
theorem am_of44 : am_okF0 "PatternTreesModel" "PatternTreesModel" 49 1 20 := ⟨by decide, Or.inl am_w112⟩
theorem am_of45 : am_okF0 "PatternTreesModel" "PatternTreesModel" 52 1 21 := ⟨by decide, Or.inl am_w113⟩
theorem am_w224 : am_gw (Cond.fieldLink "PatternTreesModel" 245 "PatternTreesModel" "frames" "I") := am_g4 203 rfl rfl
theorem am_of46 : am_okF0 "PatternTreesModel" "PatternTreesModel" 245 1 33 := ⟨by decide, Or.inl am_w224⟩
theorem am_w225 : am_gw (Cond.fieldLink "PatternTreesModel" 248 "PatternTreesModel" "wantedType" "I") := am_g4 204 rfl rfl
theorem am_w226 : am_gw (Cond.fieldLink "PatternTreesModel" 251 "PatternTreesModel" "wantedPlace" "I") := am_g4 205 rfl rfl
theorem am_of47 : am_okF0 "PatternTreesModel" "PatternTreesModel" 80 1 30 := ⟨by decide, Or.inl am_w123⟩
theorem am_of48 : am_okF0 "PatternTreesModel" "PatternTreesModel" 83 1 31 := ⟨by decide, Or.inl am_w124⟩
theorem am_of49 : am_okF0 "PatternTreesModel" "PatternTreesModel" 86 1 32 := ⟨by decide, Or.inl am_w125⟩
theorem am_of50 : am_okF0 "PatternTreesModel" "PatternTreesModel" 74 1 28 := ⟨by decide, Or.inl am_w121⟩
theorem am_of51 : am_okF0 "PatternTreesModel" "PatternTreesModel" 71 1 27 := ⟨by decide, Or.inl am_w120⟩
theorem am_of52 : am_okF0 "PatternTreesModel" "PatternTreesModel" 77 1 29 := ⟨by decide, Or.inl am_w122⟩
theorem am_of53 : am_okF0 "PatternTreesModel" "PatternTreesModel" 67 1 26 := ⟨by decide, Or.inl am_w119⟩
theorem am_w227 : am_gw (Cond.fieldLink "PatternTreesModel" 254 "PatternTreesModel" "lazy" "Z") := am_g4 206 rfl rfl
theorem am_of54 : am_okF0 "PatternTreesModel" "PatternTreesModel" 254 1 36 := ⟨by decide, Or.inl am_w227⟩
theorem am_w228 : am_gw (Cond.fieldLink "PatternTreesModel" 257 "PatternTreesModel" "lazyFrames" "I") := am_g4 207 rfl rfl
theorem am_of55 : am_okF0 "PatternTreesModel" "PatternTreesModel" 257 1 37 := ⟨by decide, Or.inl am_w228⟩
theorem am_w229 : am_gw (Cond.code ⟨"PatternTreesModel", "comeBehind", "()I"⟩ prog_12_method_30_code 1 (Option.some Jvm.ClassFile.FieldType.int)) := am_g5 225 rfl rfl
theorem am_oc45 : am_okC 45 := ⟨am_w229, am_w143, ⟨by decide +kernel, by decide +kernel⟩, by decide +kernel, by decide +kernel, rfl⟩
theorem am_w230 : am_gw (Cond.methodLink "PatternTreesModel" 260 ⟨"PatternTreesModel", "comeBehind", "()I"⟩) := am_g5 222 rfl rfl
theorem am_ol39 : am_okL0 "PatternTreesModel" "PatternTreesModel" 260 45 := Or.inl am_w230
theorem am_w231 : am_gw (Cond.instanceMethod ⟨"PatternTreesModel", "comeBehind", "()I"⟩) := am_g5 224 rfl rfl
theorem am_sl45 : am_gw (Cond.selects "PatternTreesModel" ⟨"PatternTreesModel", "comeBehind", "()I"⟩ ⟨"PatternTreesModel", "comeBehind", "()I"⟩) := List.mem_filter.mpr ⟨List.mem_append_left _ (List.mem_map.mpr ⟨(⟨"PatternTreesModel", "comeBehind", "()I"⟩, 58), (show _ ∈ lw_privs from List.mem_append_right _ (List.mem_append_right _ (List.mem_append_right _ (List.mem_append_right _ (List.mem_append_left _ (List.mem_of_getElem? (i := 3) rfl)))))), rfl⟩), rfl⟩
theorem am_w232 : am_gw (Cond.code ⟨"PatternTreesModel", "want", "(II)Z"⟩ prog_12_method_27_code 6 (Option.some Jvm.ClassFile.FieldType.boolean)) := am_g5 229 rfl rfl
theorem am_oc42 : am_okC 42 := ⟨am_w232, am_w143, ⟨by decide +kernel, by decide +kernel⟩, by decide +kernel, by decide +kernel, rfl⟩
theorem am_w233 : am_gw (Cond.methodLink "PatternTreesModel" 264 ⟨"PatternTreesModel", "want", "(II)Z"⟩) := am_g5 226 rfl rfl
theorem am_ol40 : am_okL0 "PatternTreesModel" "PatternTreesModel" 264 42 := Or.inl am_w233
theorem am_w234 : am_gw (Cond.instanceMethod ⟨"PatternTreesModel", "want", "(II)Z"⟩) := am_g5 228 rfl rfl
theorem am_sl42 : am_gw (Cond.selects "PatternTreesModel" ⟨"PatternTreesModel", "want", "(II)Z"⟩ ⟨"PatternTreesModel", "want", "(II)Z"⟩) := List.mem_filter.mpr ⟨List.mem_append_left _ (List.mem_map.mpr ⟨(⟨"PatternTreesModel", "want", "(II)Z"⟩, 58), (show _ ∈ lw_privs from List.mem_append_right _ (List.mem_append_right _ (List.mem_append_right _ (List.mem_append_right _ (List.mem_append_left _ (List.mem_of_getElem? (i := 4) rfl)))))), rfl⟩), rfl⟩
theorem am_w235 : am_gw (Cond.code ⟨"PatternTreesModel", "meaningOfPat", "(II)I"⟩ prog_12_method_31_code 7 (Option.some Jvm.ClassFile.FieldType.int)) := am_g5 233 rfl rfl
theorem am_oc46 : am_okC 46 := ⟨am_w235, am_w143, ⟨by decide +kernel, by decide +kernel⟩, by decide +kernel, by decide +kernel, rfl⟩
theorem am_w236 : am_gw (Cond.methodLink "PatternTreesModel" 268 ⟨"PatternTreesModel", "meaningOfPat", "(II)I"⟩) := am_g5 230 rfl rfl
theorem am_ol41 : am_okL0 "PatternTreesModel" "PatternTreesModel" 268 46 := Or.inl am_w236
theorem am_w237 : am_gw (Cond.instanceMethod ⟨"PatternTreesModel", "meaningOfPat", "(II)I"⟩) := am_g5 232 rfl rfl
theorem am_sl46 : am_gw (Cond.selects "PatternTreesModel" ⟨"PatternTreesModel", "meaningOfPat", "(II)I"⟩ ⟨"PatternTreesModel", "meaningOfPat", "(II)I"⟩) := List.mem_filter.mpr ⟨List.mem_append_left _ (List.mem_map.mpr ⟨(⟨"PatternTreesModel", "meaningOfPat", "(II)I"⟩, 58), (show _ ∈ lw_privs from List.mem_append_right _ (List.mem_append_right _ (List.mem_append_right _ (List.mem_append_right _ (List.mem_append_left _ (List.mem_of_getElem? (i := 5) rfl)))))), rfl⟩), rfl⟩
theorem am_of56 : am_okF0 "PatternTreesModel" "PatternTreesModel" 251 1 35 := ⟨by decide, Or.inl am_w226⟩
theorem am_w238 : am_gw (Cond.code ⟨"PatternTreesModel", "act", "(IIII)V"⟩ prog_12_method_28_code 6 (Option.none : Option Jvm.ClassFile.FieldType)) := am_g5 237 rfl rfl
theorem am_oc43 : am_okC 43 := ⟨am_w238, am_w143, ⟨by decide +kernel, by decide +kernel⟩, by decide +kernel, by decide +kernel, rfl⟩
theorem am_w239 : am_gw (Cond.methodLink "PatternTreesModel" 271 ⟨"PatternTreesModel", "act", "(IIII)V"⟩) := am_g5 234 rfl rfl
theorem am_ol42 : am_okL0 "PatternTreesModel" "PatternTreesModel" 271 43 := Or.inl am_w239
theorem am_w240 : am_gw (Cond.instanceMethod ⟨"PatternTreesModel", "act", "(IIII)V"⟩) := am_g5 236 rfl rfl
theorem am_sl43 : am_gw (Cond.selects "PatternTreesModel" ⟨"PatternTreesModel", "act", "(IIII)V"⟩ ⟨"PatternTreesModel", "act", "(IIII)V"⟩) := List.mem_filter.mpr ⟨List.mem_append_left _ (List.mem_map.mpr ⟨(⟨"PatternTreesModel", "act", "(IIII)V"⟩, 58), (show _ ∈ lw_privs from List.mem_append_right _ (List.mem_append_right _ (List.mem_append_right _ (List.mem_append_right _ (List.mem_append_left _ (List.mem_of_getElem? (i := 6) rfl)))))), rfl⟩), rfl⟩
theorem am_of57 : am_okF0 "PatternTreesModel" "PatternTreesModel" 248 1 34 := ⟨by decide, Or.inl am_w225⟩
theorem am_w241 : am_gw (Cond.code ⟨"PatternTreesModel", "conHere", "(I)I"⟩ prog_12_method_32_code 3 (Option.some Jvm.ClassFile.FieldType.int)) := am_g6 1 rfl rfl
theorem am_oc47 : am_okC 47 := ⟨am_w241, am_w143, ⟨by decide +kernel, by decide +kernel⟩, by decide +kernel, by decide +kernel, rfl⟩
theorem am_w242 : am_gw (Cond.methodLink "PatternTreesModel" 275 ⟨"PatternTreesModel", "conHere", "(I)I"⟩) := am_g5 238 rfl rfl
theorem am_ol43 : am_okL0 "PatternTreesModel" "PatternTreesModel" 275 47 := Or.inl am_w242
theorem am_w243 : am_gw (Cond.instanceMethod ⟨"PatternTreesModel", "conHere", "(I)I"⟩) := am_g6 0 rfl rfl
theorem am_sl47 : am_gw (Cond.selects "PatternTreesModel" ⟨"PatternTreesModel", "conHere", "(I)I"⟩ ⟨"PatternTreesModel", "conHere", "(I)I"⟩) := List.mem_filter.mpr ⟨List.mem_append_left _ (List.mem_map.mpr ⟨(⟨"PatternTreesModel", "conHere", "(I)I"⟩, 58), (show _ ∈ lw_privs from List.mem_append_right _ (List.mem_append_right _ (List.mem_append_right _ (List.mem_append_right _ (List.mem_append_left _ (List.mem_of_getElem? (i := 7) rfl)))))), rfl⟩), rfl⟩
theorem am_w244 : am_gw (Cond.code ⟨"PatternTreesModel", "askFor", "(III)V"⟩ prog_12_method_33_code 4 (Option.none : Option Jvm.ClassFile.FieldType)) := am_g6 5 rfl rfl
theorem am_oc48 : am_okC 48 := ⟨am_w244, am_w143, ⟨by decide +kernel, by decide +kernel⟩, by decide +kernel, by decide +kernel, rfl⟩
theorem am_w245 : am_gw (Cond.methodLink "PatternTreesModel" 278 ⟨"PatternTreesModel", "askFor", "(III)V"⟩) := am_g6 2 rfl rfl
theorem am_ol44 : am_okL0 "PatternTreesModel" "PatternTreesModel" 278 48 := Or.inl am_w245
theorem am_w246 : am_gw (Cond.instanceMethod ⟨"PatternTreesModel", "askFor", "(III)V"⟩) := am_g6 4 rfl rfl
theorem am_sl48 : am_gw (Cond.selects "PatternTreesModel" ⟨"PatternTreesModel", "askFor", "(III)V"⟩ ⟨"PatternTreesModel", "askFor", "(III)V"⟩) := List.mem_filter.mpr ⟨List.mem_append_left _ (List.mem_map.mpr ⟨(⟨"PatternTreesModel", "askFor", "(III)V"⟩, 58), (show _ ∈ lw_privs from List.mem_append_right _ (List.mem_append_right _ (List.mem_append_right _ (List.mem_append_right _ (List.mem_append_left _ (List.mem_of_getElem? (i := 8) rfl)))))), rfl⟩), rfl⟩
theorem am_w247 : am_gw (Cond.code ⟨"PatternTreesModel", "scan", "()V"⟩ prog_12_method_7_code 6 (Option.none : Option Jvm.ClassFile.FieldType)) := am_g5 119 rfl rfl
theorem am_oc22 : am_okC 22 := ⟨am_w247, am_w143, ⟨by decide +kernel, by decide +kernel⟩, by decide +kernel, by decide +kernel, rfl⟩
theorem am_w248 : am_gw (Cond.methodLink "PatternTreesModel" 282 ⟨"PatternTreesModel", "scan", "()V"⟩) := am_g5 116 rfl rfl
theorem am_ol45 : am_okL0 "PatternTreesModel" "PatternTreesModel" 282 22 := Or.inl am_w248
theorem am_w249 : am_gw (Cond.instanceMethod ⟨"PatternTreesModel", "scan", "()V"⟩) := am_g5 118 rfl rfl
theorem am_sl22 : am_gw (Cond.selects "PatternTreesModel" ⟨"PatternTreesModel", "scan", "()V"⟩ ⟨"PatternTreesModel", "scan", "()V"⟩) := List.mem_filter.mpr ⟨List.mem_append_left _ (List.mem_map.mpr ⟨(⟨"PatternTreesModel", "scan", "()V"⟩, 58), (show _ ∈ lw_privs from List.mem_append_right _ (List.mem_append_right _ (List.mem_append_left _ (List.mem_of_getElem? (i := 13) rfl)))), rfl⟩), rfl⟩
theorem am_w250 : am_gw (Cond.code ⟨"PatternTreesModel", "formOfSet", "()V"⟩ prog_12_method_15_code 3 (Option.none : Option Jvm.ClassFile.FieldType)) := am_g5 143 rfl rfl
theorem am_oc30 : am_okC 30 := ⟨am_w250, am_w143, ⟨by decide +kernel, by decide +kernel⟩, by decide +kernel, by decide +kernel, rfl⟩
theorem am_w251 : am_gw (Cond.methodLink "PatternTreesModel" 285 ⟨"PatternTreesModel", "formOfSet", "()V"⟩) := am_g5 140 rfl rfl
theorem am_ol46 : am_okL0 "PatternTreesModel" "PatternTreesModel" 285 30 := Or.inl am_w251
theorem am_w252 : am_gw (Cond.instanceMethod ⟨"PatternTreesModel", "formOfSet", "()V"⟩) := am_g5 142 rfl rfl
theorem am_sl30 : am_gw (Cond.selects "PatternTreesModel" ⟨"PatternTreesModel", "formOfSet", "()V"⟩ ⟨"PatternTreesModel", "formOfSet", "()V"⟩) := List.mem_filter.mpr ⟨List.mem_append_left _ (List.mem_map.mpr ⟨(⟨"PatternTreesModel", "formOfSet", "()V"⟩, 58), (show _ ∈ lw_privs from List.mem_append_right _ (List.mem_append_right _ (List.mem_append_right _ (List.mem_append_left _ (List.mem_of_getElem? (i := 0) rfl))))), rfl⟩), rfl⟩
theorem am_of58 : am_okF0 "PatternTreesModel" "PatternTreesModel" 163 1 9 := ⟨by decide, Or.inl am_w163⟩
theorem am_of59 : am_okF0 "PatternTreesModel" "PatternTreesModel" 31 1 14 := ⟨by decide, Or.inl am_w106⟩
theorem am_w253 : am_gw (Cond.code ⟨"PatternTreesModel", "meaningOfSet", "(I)V"⟩ prog_12_method_24_code 4 (Option.none : Option Jvm.ClassFile.FieldType)) := am_g5 204 rfl rfl
theorem am_oc39 : am_okC 39 := ⟨am_w253, am_w143, ⟨by decide +kernel, by decide +kernel⟩, by decide +kernel, by decide +kernel, rfl⟩
theorem am_w254 : am_gw (Cond.methodLink "PatternTreesModel" 288 ⟨"PatternTreesModel", "meaningOfSet", "(I)V"⟩) := am_g5 201 rfl rfl
theorem am_ol47 : am_okL0 "PatternTreesModel" "PatternTreesModel" 288 39 := Or.inl am_w254
theorem am_w255 : am_gw (Cond.instanceMethod ⟨"PatternTreesModel", "meaningOfSet", "(I)V"⟩) := am_g5 203 rfl rfl
theorem am_sl39 : am_gw (Cond.selects "PatternTreesModel" ⟨"PatternTreesModel", "meaningOfSet", "(I)V"⟩ ⟨"PatternTreesModel", "meaningOfSet", "(I)V"⟩) := List.mem_filter.mpr ⟨List.mem_append_left _ (List.mem_map.mpr ⟨(⟨"PatternTreesModel", "meaningOfSet", "(I)V"⟩, 58), (show _ ∈ lw_privs from List.mem_append_right _ (List.mem_append_right _ (List.mem_append_right _ (List.mem_append_left _ (List.mem_of_getElem? (i := 14) rfl))))), rfl⟩), rfl⟩
theorem am_w256 : am_gw (Cond.fieldLink "PatternTreesModel" 291 "PatternTreesModel" "lookCount" "I") := am_g4 210 rfl rfl
theorem am_of60 : am_okF0 "PatternTreesModel" "PatternTreesModel" 102 1 44 := ⟨by decide, Or.inl am_w131⟩
theorem am_w257 : am_gw (Cond.code ⟨"PatternTreesModel", "findExample", "()V"⟩ prog_12_method_54_code 2 (Option.none : Option Jvm.ClassFile.FieldType)) := am_g6 9 rfl rfl
theorem am_oc69 : am_okC 69 := ⟨am_w257, am_w143, ⟨by decide +kernel, by decide +kernel⟩, by decide +kernel, by decide +kernel, rfl⟩
theorem am_w258 : am_gw (Cond.methodLink "PatternTreesModel" 294 ⟨"PatternTreesModel", "findExample", "()V"⟩) := am_g6 6 rfl rfl
theorem am_ol48 : am_okL0 "PatternTreesModel" "PatternTreesModel" 294 69 := Or.inl am_w258
theorem am_w259 : am_gw (Cond.instanceMethod ⟨"PatternTreesModel", "findExample", "()V"⟩) := am_g6 8 rfl rfl
theorem am_sl69 : am_gw (Cond.selects "PatternTreesModel" ⟨"PatternTreesModel", "findExample", "()V"⟩ ⟨"PatternTreesModel", "findExample", "()V"⟩) := List.mem_filter.mpr ⟨List.mem_append_left _ (List.mem_map.mpr ⟨(⟨"PatternTreesModel", "findExample", "()V"⟩, 58), (show _ ∈ lw_privs from List.mem_append_right _ (List.mem_append_right _ (List.mem_append_right _ (List.mem_append_right _ (List.mem_append_left _ (List.mem_of_getElem? (i := 9) rfl)))))), rfl⟩), rfl⟩
theorem am_of61 : am_okF0 "PatternTreesModel" "PatternTreesModel" 13 1 2 := ⟨by decide, Or.inl am_w99⟩
theorem am_of62 : am_okF0 "PatternTreesModel" "PatternTreesModel" 90 1 38 := ⟨by decide, Or.inl am_w127⟩
theorem am_of63 : am_okF0 "PatternTreesModel" "PatternTreesModel" 291 1 40 := ⟨by decide, Or.inl am_w256⟩
theorem am_of64 : am_okF0 "PatternTreesModel" "PatternTreesModel" 96 1 41 := ⟨by decide, Or.inl am_w129⟩
theorem am_w260 : am_gw (Cond.code ⟨"PatternTreesModel", "meaningOfValues", "(I)V"⟩ prog_12_method_39_code 5 (Option.none : Option Jvm.ClassFile.FieldType)) := am_g6 82 rfl rfl
theorem am_oc54 : am_okC 54 := ⟨am_w260, am_w143, ⟨by decide +kernel, by decide +kernel⟩, by decide +kernel, by decide +kernel, rfl⟩
theorem am_w261 : am_gw (Cond.methodLink "PatternTreesModel" 297 ⟨"PatternTreesModel", "meaningOfValues", "(I)V"⟩) := am_g6 79 rfl rfl
theorem am_ol49 : am_okL0 "PatternTreesModel" "PatternTreesModel" 297 54 := Or.inl am_w261
theorem am_w262 : am_gw (Cond.instanceMethod ⟨"PatternTreesModel", "meaningOfValues", "(I)V"⟩) := am_g6 81 rfl rfl
theorem am_sl54 : am_gw (Cond.selects "PatternTreesModel" ⟨"PatternTreesModel", "meaningOfValues", "(I)V"⟩ ⟨"PatternTreesModel", "meaningOfValues", "(I)V"⟩) := List.mem_filter.mpr ⟨List.mem_append_left _ (List.mem_map.mpr ⟨(⟨"PatternTreesModel", "meaningOfValues", "(I)V"⟩, 58), (show _ ∈ lw_privs from List.mem_append_right _ (List.mem_append_right _ (List.mem_append_right _ (List.mem_append_right _ (List.mem_append_right _ (List.mem_of_getElem? (i := 8) rfl)))))), rfl⟩), rfl⟩
theorem am_w263 : am_gw (Cond.code ⟨"PatternTreesModel", "tryRow", "(I)I"⟩ prog_12_method_42_code 5 (Option.some Jvm.ClassFile.FieldType.int)) := am_g6 86 rfl rfl
theorem am_oc57 : am_okC 57 := ⟨am_w263, am_w143, ⟨by decide +kernel, by decide +kernel⟩, by decide +kernel, by decide +kernel, rfl⟩
theorem am_w264 : am_gw (Cond.methodLink "PatternTreesModel" 300 ⟨"PatternTreesModel", "tryRow", "(I)I"⟩) := am_g6 83 rfl rfl
theorem am_ol50 : am_okL0 "PatternTreesModel" "PatternTreesModel" 300 57 := Or.inl am_w264
theorem am_w265 : am_gw (Cond.instanceMethod ⟨"PatternTreesModel", "tryRow", "(I)I"⟩) := am_g6 85 rfl rfl
theorem am_sl57 : am_gw (Cond.selects "PatternTreesModel" ⟨"PatternTreesModel", "tryRow", "(I)I"⟩ ⟨"PatternTreesModel", "tryRow", "(I)I"⟩) := List.mem_filter.mpr ⟨List.mem_append_left _ (List.mem_map.mpr ⟨(⟨"PatternTreesModel", "tryRow", "(I)I"⟩, 58), (show _ ∈ lw_privs from List.mem_append_right _ (List.mem_append_right _ (List.mem_append_right _ (List.mem_append_right _ (List.mem_append_right _ (List.mem_of_getElem? (i := 9) rfl)))))), rfl⟩), rfl⟩
theorem am_w266 : am_gw (Cond.code ⟨"PatternTreesModel", "lookAt", "(I)V"⟩ prog_12_method_40_code 3 (Option.none : Option Jvm.ClassFile.FieldType)) := am_g6 90 rfl rfl
theorem am_oc55 : am_okC 55 := ⟨am_w266, am_w143, ⟨by decide +kernel, by decide +kernel⟩, by decide +kernel, by decide +kernel, rfl⟩
theorem am_w267 : am_gw (Cond.methodLink "PatternTreesModel" 303 ⟨"PatternTreesModel", "lookAt", "(I)V"⟩) := am_g6 87 rfl rfl
theorem am_ol51 : am_okL0 "PatternTreesModel" "PatternTreesModel" 303 55 := Or.inl am_w267
theorem am_w268 : am_gw (Cond.instanceMethod ⟨"PatternTreesModel", "lookAt", "(I)V"⟩) := am_g6 89 rfl rfl
theorem am_sl55 : am_gw (Cond.selects "PatternTreesModel" ⟨"PatternTreesModel", "lookAt", "(I)V"⟩ ⟨"PatternTreesModel", "lookAt", "(I)V"⟩) := List.mem_filter.mpr ⟨List.mem_append_left _ (List.mem_map.mpr ⟨(⟨"PatternTreesModel", "lookAt", "(I)V"⟩, 58), (show _ ∈ lw_privs from List.mem_append_right _ (List.mem_append_right _ (List.mem_append_right _ (List.mem_append_right _ (List.mem_append_right _ (List.mem_of_getElem? (i := 10) rfl)))))), rfl⟩), rfl⟩
theorem am_of65 : am_okF0 "PatternTreesModel" "PatternTreesModel" 99 1 42 := ⟨by decide, Or.inl am_w130⟩
theorem am_w269 : am_gw (Cond.fieldLink "PatternTreesModel" 306 "PatternTreesModel" "ahead" "I") := am_g4 219 rfl rfl
theorem am_of66 : am_okF0 "PatternTreesModel" "PatternTreesModel" 306 1 50 := ⟨by decide, Or.inl am_w269⟩
theorem am_w270 : am_gw (Cond.code ⟨"PatternTreesModel", "isLeft", "(I)Z"⟩ prog_12_method_45_code 5 (Option.some Jvm.ClassFile.FieldType.boolean)) := am_g6 25 rfl rfl
theorem am_oc60 : am_okC 60 := ⟨am_w270, am_w143, ⟨by decide +kernel, by decide +kernel⟩, by decide +kernel, by decide +kernel, rfl⟩
theorem am_w271 : am_gw (Cond.methodLink "PatternTreesModel" 309 ⟨"PatternTreesModel", "isLeft", "(I)Z"⟩) := am_g6 22 rfl rfl
theorem am_ol52 : am_okL0 "PatternTreesModel" "PatternTreesModel" 309 60 := Or.inl am_w271
theorem am_w272 : am_gw (Cond.instanceMethod ⟨"PatternTreesModel", "isLeft", "(I)Z"⟩) := am_g6 24 rfl rfl
theorem am_sl60 : am_gw (Cond.selects "PatternTreesModel" ⟨"PatternTreesModel", "isLeft", "(I)Z"⟩ ⟨"PatternTreesModel", "isLeft", "(I)Z"⟩) := List.mem_filter.mpr ⟨List.mem_append_left _ (List.mem_map.mpr ⟨(⟨"PatternTreesModel", "isLeft", "(I)Z"⟩, 58), (show _ ∈ lw_privs from List.mem_append_right _ (List.mem_append_right _ (List.mem_append_right _ (List.mem_append_right _ (List.mem_append_left _ (List.mem_of_getElem? (i := 13) rfl)))))), rfl⟩), rfl⟩
theorem am_w273 : am_gw (Cond.code ⟨"PatternTreesModel", "isAskedFor", "(II)Z"⟩ prog_12_method_49_code 6 (Option.some Jvm.ClassFile.FieldType.boolean)) := am_g6 37 rfl rfl
theorem am_oc64 : am_okC 64 := ⟨am_w273, am_w143, ⟨by decide +kernel, by decide +kernel⟩, by decide +kernel, by decide +kernel, rfl⟩
theorem am_w274 : am_gw (Cond.methodLink "PatternTreesModel" 312 ⟨"PatternTreesModel", "isAskedFor", "(II)Z"⟩) := am_g6 34 rfl rfl
theorem am_ol53 : am_okL0 "PatternTreesModel" "PatternTreesModel" 312 64 := Or.inl am_w274
theorem am_w275 : am_gw (Cond.instanceMethod ⟨"PatternTreesModel", "isAskedFor", "(II)Z"⟩) := am_g6 36 rfl rfl
theorem am_sl64 : am_gw (Cond.selects "PatternTreesModel" ⟨"PatternTreesModel", "isAskedFor", "(II)Z"⟩ ⟨"PatternTreesModel", "isAskedFor", "(II)Z"⟩) := List.mem_filter.mpr ⟨List.mem_append_left _ (List.mem_map.mpr ⟨(⟨"PatternTreesModel", "isAskedFor", "(II)Z"⟩, 58), (show _ ∈ lw_privs from List.mem_append_right _ (List.mem_append_right _ (List.mem_append_right _ (List.mem_append_right _ (List.mem_append_right _ (List.mem_of_getElem? (i := 0) rfl)))))), rfl⟩), rfl⟩
theorem am_of67 : am_okF0 "PatternTreesModel" "PatternTreesModel" 117 1 52 := ⟨by decide, Or.inl am_w136⟩
theorem am_w276 : am_gw (Cond.fieldLink "PatternTreesModel" 315 "PatternTreesModel" "askedCount" "I") := am_g4 217 rfl rfl
theorem am_w277 : am_gw (Cond.code ⟨"PatternTreesModel", "firstLeft", "()I"⟩ prog_12_method_46_code 2 (Option.some Jvm.ClassFile.FieldType.int)) := am_g6 21 rfl rfl
theorem am_oc61 : am_okC 61 := ⟨am_w277, am_w143, ⟨by decide +kernel, by decide +kernel⟩, by decide +kernel, by decide +kernel, rfl⟩
theorem am_w278 : am_gw (Cond.methodLink "PatternTreesModel" 318 ⟨"PatternTreesModel", "firstLeft", "()I"⟩) := am_g6 18 rfl rfl
theorem am_ol54 : am_okL0 "PatternTreesModel" "PatternTreesModel" 318 61 := Or.inl am_w278
theorem am_w279 : am_gw (Cond.instanceMethod ⟨"PatternTreesModel", "firstLeft", "()I"⟩) := am_g6 20 rfl rfl
theorem am_sl61 : am_gw (Cond.selects "PatternTreesModel" ⟨"PatternTreesModel", "firstLeft", "()I"⟩ ⟨"PatternTreesModel", "firstLeft", "()I"⟩) := List.mem_filter.mpr ⟨List.mem_append_left _ (List.mem_map.mpr ⟨(⟨"PatternTreesModel", "firstLeft", "()I"⟩, 58), (show _ ∈ lw_privs from List.mem_append_right _ (List.mem_append_right _ (List.mem_append_right _ (List.mem_append_right _ (List.mem_append_left _ (List.mem_of_getElem? (i := 12) rfl)))))), rfl⟩), rfl⟩
theorem am_w280 : am_gw (Cond.code ⟨"PatternTreesModel", "firstOpen", "(I)I"⟩ prog_12_method_47_code 3 (Option.some Jvm.ClassFile.FieldType.int)) := am_g6 29 rfl rfl
theorem am_oc62 : am_okC 62 := ⟨am_w280, am_w143, ⟨by decide +kernel, by decide +kernel⟩, by decide +kernel, by decide +kernel, rfl⟩
theorem am_w281 : am_gw (Cond.methodLink "PatternTreesModel" 321 ⟨"PatternTreesModel", "firstOpen", "(I)I"⟩) := am_g6 26 rfl rfl
theorem am_ol55 : am_okL0 "PatternTreesModel" "PatternTreesModel" 321 62 := Or.inl am_w281
theorem am_w282 : am_gw (Cond.instanceMethod ⟨"PatternTreesModel", "firstOpen", "(I)I"⟩) := am_g6 28 rfl rfl
theorem am_sl62 : am_gw (Cond.selects "PatternTreesModel" ⟨"PatternTreesModel", "firstOpen", "(I)I"⟩ ⟨"PatternTreesModel", "firstOpen", "(I)I"⟩) := List.mem_filter.mpr ⟨List.mem_append_left _ (List.mem_map.mpr ⟨(⟨"PatternTreesModel", "firstOpen", "(I)I"⟩, 58), (show _ ∈ lw_privs from List.mem_append_right _ (List.mem_append_right _ (List.mem_append_right _ (List.mem_append_right _ (List.mem_append_left _ (List.mem_of_getElem? (i := 14) rfl)))))), rfl⟩), rfl⟩
theorem am_of68 : am_okF0 "PatternTreesModel" "PatternTreesModel" 105 1 45 := ⟨by decide, Or.inl am_w132⟩
theorem am_of69 : am_okF0 "PatternTreesModel" "PatternTreesModel" 315 1 47 := ⟨by decide, Or.inl am_w276⟩
theorem am_of70 : am_okF0 "PatternTreesModel" "PatternTreesModel" 114 1 51 := ⟨by decide, Or.inl am_w135⟩
theorem am_of71 : am_okF0 "PatternTreesModel" "PatternTreesModel" 108 1 46 := ⟨by decide, Or.inl am_w133⟩
theorem am_w283 : am_gw (Cond.code ⟨"PatternTreesModel", "nextNumber", "(II)I"⟩ prog_12_method_50_code 4 (Option.some Jvm.ClassFile.FieldType.int)) := am_g6 33 rfl rfl
theorem am_oc65 : am_okC 65 := ⟨am_w283, am_w143, ⟨by decide +kernel, by decide +kernel⟩, by decide +kernel, by decide +kernel, rfl⟩
theorem am_w284 : am_gw (Cond.methodLink "PatternTreesModel" 324 ⟨"PatternTreesModel", "nextNumber", "(II)I"⟩) := am_g6 30 rfl rfl
theorem am_ol56 : am_okL0 "PatternTreesModel" "PatternTreesModel" 324 65 := Or.inl am_w284
theorem am_w285 : am_gw (Cond.instanceMethod ⟨"PatternTreesModel", "nextNumber", "(II)I"⟩) := am_g6 32 rfl rfl
theorem am_sl65 : am_gw (Cond.selects "PatternTreesModel" ⟨"PatternTreesModel", "nextNumber", "(II)I"⟩ ⟨"PatternTreesModel", "nextNumber", "(II)I"⟩) := List.mem_filter.mpr ⟨List.mem_append_left _ (List.mem_map.mpr ⟨(⟨"PatternTreesModel", "nextNumber", "(II)I"⟩, 58), (show _ ∈ lw_privs from List.mem_append_right _ (List.mem_append_right _ (List.mem_append_right _ (List.mem_append_right _ (List.mem_append_left _ (List.mem_of_getElem? (i := 15) rfl)))))), rfl⟩), rfl⟩
theorem am_w286 : am_gw (Cond.code ⟨"PatternTreesModel", "firstCon", "(I)I"⟩ prog_12_method_51_code 3 (Option.some Jvm.ClassFile.FieldType.int)) := am_g6 41 rfl rfl
theorem am_oc66 : am_okC 66 := ⟨am_w286, am_w143, ⟨by decide +kernel, by decide +kernel⟩, by decide +kernel, by decide +kernel, rfl⟩
theorem am_w287 : am_gw (Cond.methodLink "PatternTreesModel" 327 ⟨"PatternTreesModel", "firstCon", "(I)I"⟩) := am_g6 38 rfl rfl
theorem am_ol57 : am_okL0 "PatternTreesModel" "PatternTreesModel" 327 66 := Or.inl am_w287
theorem am_w288 : am_gw (Cond.instanceMethod ⟨"PatternTreesModel", "firstCon", "(I)I"⟩) := am_g6 40 rfl rfl
theorem am_sl66 : am_gw (Cond.selects "PatternTreesModel" ⟨"PatternTreesModel", "firstCon", "(I)I"⟩ ⟨"PatternTreesModel", "firstCon", "(I)I"⟩) := List.mem_filter.mpr ⟨List.mem_append_left _ (List.mem_map.mpr ⟨(⟨"PatternTreesModel", "firstCon", "(I)I"⟩, 58), (show _ ∈ lw_privs from List.mem_append_right _ (List.mem_append_right _ (List.mem_append_right _ (List.mem_append_right _ (List.mem_append_right _ (List.mem_of_getElem? (i := 1) rfl)))))), rfl⟩), rfl⟩
theorem am_w289 : am_gw (Cond.code ⟨"PatternTreesModel", "nextCon", "(IIII)I"⟩ prog_12_method_48_code 6 (Option.some Jvm.ClassFile.FieldType.int)) := am_g6 45 rfl rfl
theorem am_oc63 : am_okC 63 := ⟨am_w289, am_w143, ⟨by decide +kernel, by decide +kernel⟩, by decide +kernel, by decide +kernel, rfl⟩
theorem am_w290 : am_gw (Cond.methodLink "PatternTreesModel" 330 ⟨"PatternTreesModel", "nextCon", "(IIII)I"⟩) := am_g6 42 rfl rfl
theorem am_ol58 : am_okL0 "PatternTreesModel" "PatternTreesModel" 330 63 := Or.inl am_w290
theorem am_w291 : am_gw (Cond.instanceMethod ⟨"PatternTreesModel", "nextCon", "(IIII)I"⟩) := am_g6 44 rfl rfl
theorem am_sl63 : am_gw (Cond.selects "PatternTreesModel" ⟨"PatternTreesModel", "nextCon", "(IIII)I"⟩ ⟨"PatternTreesModel", "nextCon", "(IIII)I"⟩) := List.mem_filter.mpr ⟨List.mem_append_left _ (List.mem_map.mpr ⟨(⟨"PatternTreesModel", "nextCon", "(IIII)I"⟩, 58), (show _ ∈ lw_privs from List.mem_append_right _ (List.mem_append_right _ (List.mem_append_right _ (List.mem_append_right _ (List.mem_append_right _ (List.mem_of_getElem? (i := 2) rfl)))))), rfl⟩), rfl⟩
theorem am_w292 : am_gw (Cond.code ⟨"PatternTreesModel", "openAll", "()V"⟩ prog_12_method_53_code 2 (Option.none : Option Jvm.ClassFile.FieldType)) := am_g6 13 rfl rfl
theorem am_oc68 : am_okC 68 := ⟨am_w292, am_w143, ⟨by decide +kernel, by decide +kernel⟩, by decide +kernel, by decide +kernel, rfl⟩
theorem am_w293 : am_gw (Cond.methodLink "PatternTreesModel" 334 ⟨"PatternTreesModel", "openAll", "()V"⟩) := am_g6 10 rfl rfl
theorem am_ol59 : am_okL0 "PatternTreesModel" "PatternTreesModel" 334 68 := Or.inl am_w293
theorem am_w294 : am_gw (Cond.instanceMethod ⟨"PatternTreesModel", "openAll", "()V"⟩) := am_g6 12 rfl rfl
theorem am_sl68 : am_gw (Cond.selects "PatternTreesModel" ⟨"PatternTreesModel", "openAll", "()V"⟩ ⟨"PatternTreesModel", "openAll", "()V"⟩) := List.mem_filter.mpr ⟨List.mem_append_left _ (List.mem_map.mpr ⟨(⟨"PatternTreesModel", "openAll", "()V"⟩, 58), (show _ ∈ lw_privs from List.mem_append_right _ (List.mem_append_right _ (List.mem_append_right _ (List.mem_append_right _ (List.mem_append_left _ (List.mem_of_getElem? (i := 10) rfl)))))), rfl⟩), rfl⟩
theorem am_w295 : am_gw (Cond.code ⟨"PatternTreesModel", "search", "()Z"⟩ prog_12_method_52_code 7 (Option.some Jvm.ClassFile.FieldType.boolean)) := am_g6 17 rfl rfl
theorem am_oc67 : am_okC 67 := ⟨am_w295, am_w143, ⟨by decide +kernel, by decide +kernel⟩, by decide +kernel, by decide +kernel, rfl⟩
theorem am_w296 : am_gw (Cond.methodLink "PatternTreesModel" 337 ⟨"PatternTreesModel", "search", "()Z"⟩) := am_g6 14 rfl rfl
theorem am_ol60 : am_okL0 "PatternTreesModel" "PatternTreesModel" 337 67 := Or.inl am_w296
theorem am_w297 : am_gw (Cond.instanceMethod ⟨"PatternTreesModel", "search", "()Z"⟩) := am_g6 16 rfl rfl
theorem am_sl67 : am_gw (Cond.selects "PatternTreesModel" ⟨"PatternTreesModel", "search", "()Z"⟩ ⟨"PatternTreesModel", "search", "()Z"⟩) := List.mem_filter.mpr ⟨List.mem_append_left _ (List.mem_map.mpr ⟨(⟨"PatternTreesModel", "search", "()Z"⟩, 58), (show _ ∈ lw_privs from List.mem_append_right _ (List.mem_append_right _ (List.mem_append_right _ (List.mem_append_right _ (List.mem_append_left _ (List.mem_of_getElem? (i := 11) rfl)))))), rfl⟩), rfl⟩
theorem am_w298 : am_gw (Cond.fieldLink "PatternTreesModel" 340 "PatternTreesModel" "found" "Z") := am_g4 213 rfl rfl
theorem am_w299 : am_gw (Cond.fieldLink "PatternTreesModel" 343 "PatternTreesModel" "exampleSize" "I") := am_g4 223 rfl rfl
theorem am_of72 : am_okF0 "PatternTreesModel" "PatternTreesModel" 340 1 43 := ⟨by decide, Or.inl am_w298⟩
theorem am_w300 : am_gw (Cond.code ⟨"PatternTreesModel", "say", "(I)V"⟩ prog_12_method_55_code 2 (Option.none : Option Jvm.ClassFile.FieldType)) := am_g6 49 rfl rfl
theorem am_oc70 : am_okC 70 := ⟨am_w300, am_w143, ⟨by decide +kernel, by decide +kernel⟩, by decide +kernel, by decide +kernel, rfl⟩
theorem am_w301 : am_gw (Cond.methodLink "PatternTreesModel" 346 ⟨"PatternTreesModel", "say", "(I)V"⟩) := am_g6 46 rfl rfl
theorem am_ol61 : am_okL0 "PatternTreesModel" "PatternTreesModel" 346 70 := Or.inl am_w301
theorem am_w302 : am_gw (Cond.instanceMethod ⟨"PatternTreesModel", "say", "(I)V"⟩) := am_g6 48 rfl rfl
theorem am_sl70 : am_gw (Cond.selects "PatternTreesModel" ⟨"PatternTreesModel", "say", "(I)V"⟩ ⟨"PatternTreesModel", "say", "(I)V"⟩) := List.mem_filter.mpr ⟨List.mem_append_left _ (List.mem_map.mpr ⟨(⟨"PatternTreesModel", "say", "(I)V"⟩, 58), (show _ ∈ lw_privs from List.mem_append_right _ (List.mem_append_right _ (List.mem_append_right _ (List.mem_append_right _ (List.mem_append_right _ (List.mem_of_getElem? (i := 3) rfl)))))), rfl⟩), rfl⟩
theorem am_w303 : am_gw (Cond.code ⟨"PatternTreesModel", "sayValue", "(II)V"⟩ prog_12_method_58_code 9 (Option.none : Option Jvm.ClassFile.FieldType)) := am_g6 53 rfl rfl
theorem am_oc73 : am_okC 73 := ⟨am_w303, am_w143, ⟨by decide +kernel, by decide +kernel⟩, by decide +kernel, by decide +kernel, rfl⟩
theorem am_w304 : am_gw (Cond.methodLink "PatternTreesModel" 349 ⟨"PatternTreesModel", "sayValue", "(II)V"⟩) := am_g6 50 rfl rfl
theorem am_ol62 : am_okL0 "PatternTreesModel" "PatternTreesModel" 349 73 := Or.inl am_w304
theorem am_w305 : am_gw (Cond.instanceMethod ⟨"PatternTreesModel", "sayValue", "(II)V"⟩) := am_g6 52 rfl rfl
theorem am_sl73 : am_gw (Cond.selects "PatternTreesModel" ⟨"PatternTreesModel", "sayValue", "(II)V"⟩ ⟨"PatternTreesModel", "sayValue", "(II)V"⟩) := List.mem_filter.mpr ⟨List.mem_append_left _ (List.mem_map.mpr ⟨(⟨"PatternTreesModel", "sayValue", "(II)V"⟩, 58), (show _ ∈ lw_privs from List.mem_append_right _ (List.mem_append_right _ (List.mem_append_right _ (List.mem_append_right _ (List.mem_append_right _ (List.mem_of_getElem? (i := 4) rfl)))))), rfl⟩), rfl⟩
theorem am_of73 : am_okF0 "PatternTreesModel" "PatternTreesModel" 120 1 53 := ⟨by decide, Or.inl am_w137⟩
theorem am_of74 : am_okF0 "PatternTreesModel" "PatternTreesModel" 343 1 54 := ⟨by decide, Or.inl am_w299⟩
theorem am_w306 : am_gw (Cond.constantLong "PatternTreesModel" 352 255) := am_g6 66 rfl rfl
theorem am_of75 : am_okF0 "PatternTreesModel" "PatternTreesModel" 123 1 55 := ⟨by decide, Or.inl am_w138⟩
theorem am_w307 : am_gw (Cond.fieldLink "PatternTreesModel" 354 "PatternTreesModel" "todoCount" "I") := am_g4 226 rfl rfl
theorem am_of76 : am_okF0 "PatternTreesModel" "PatternTreesModel" 354 1 57 := ⟨by decide, Or.inl am_w307⟩
theorem am_of77 : am_okF0 "PatternTreesModel" "PatternTreesModel" 126 1 56 := ⟨by decide, Or.inl am_w139⟩
theorem am_w308 : am_gw (Cond.code ⟨"PatternTreesModel", "later", "(II)V"⟩ prog_12_method_57_code 3 (Option.none : Option Jvm.ClassFile.FieldType)) := am_g6 57 rfl rfl
theorem am_oc72 : am_okC 72 := ⟨am_w308, am_w143, ⟨by decide +kernel, by decide +kernel⟩, by decide +kernel, by decide +kernel, rfl⟩
theorem am_w309 : am_gw (Cond.methodLink "PatternTreesModel" 357 ⟨"PatternTreesModel", "later", "(II)V"⟩) := am_g6 54 rfl rfl
theorem am_ol63 : am_okL0 "PatternTreesModel" "PatternTreesModel" 357 72 := Or.inl am_w309
theorem am_w310 : am_gw (Cond.instanceMethod ⟨"PatternTreesModel", "later", "(II)V"⟩) := am_g6 56 rfl rfl
theorem am_sl72 : am_gw (Cond.selects "PatternTreesModel" ⟨"PatternTreesModel", "later", "(II)V"⟩ ⟨"PatternTreesModel", "later", "(II)V"⟩) := List.mem_filter.mpr ⟨List.mem_append_left _ (List.mem_map.mpr ⟨(⟨"PatternTreesModel", "later", "(II)V"⟩, 58), (show _ ∈ lw_privs from List.mem_append_right _ (List.mem_append_right _ (List.mem_append_right _ (List.mem_append_right _ (List.mem_append_right _ (List.mem_of_getElem? (i := 5) rfl)))))), rfl⟩), rfl⟩
theorem am_w311 : am_gw (Cond.code ⟨"PatternTreesModel", "sayNumber", "(I)V"⟩ prog_12_method_59_code 2 (Option.none : Option Jvm.ClassFile.FieldType)) := am_g6 61 rfl rfl
theorem am_oc74 : am_okC 74 := ⟨am_w311, am_w143, ⟨by decide +kernel, by decide +kernel⟩, by decide +kernel, by decide +kernel, rfl⟩
theorem am_w312 : am_gw (Cond.methodLink "PatternTreesModel" 360 ⟨"PatternTreesModel", "sayNumber", "(I)V"⟩) := am_g6 58 rfl rfl
theorem am_ol64 : am_okL0 "PatternTreesModel" "PatternTreesModel" 360 74 := Or.inl am_w312
theorem am_w313 : am_gw (Cond.instanceMethod ⟨"PatternTreesModel", "sayNumber", "(I)V"⟩) := am_g6 60 rfl rfl
theorem am_sl74 : am_gw (Cond.selects "PatternTreesModel" ⟨"PatternTreesModel", "sayNumber", "(I)V"⟩ ⟨"PatternTreesModel", "sayNumber", "(I)V"⟩) := List.mem_filter.mpr ⟨List.mem_append_left _ (List.mem_map.mpr ⟨(⟨"PatternTreesModel", "sayNumber", "(I)V"⟩, 58), (show _ ∈ lw_privs from List.mem_append_right _ (List.mem_append_right _ (List.mem_append_right _ (List.mem_append_right _ (List.mem_append_right _ (List.mem_of_getElem? (i := 6) rfl)))))), rfl⟩), rfl⟩
theorem am_w314 : am_gw (Cond.code ⟨"PatternTreesModel", "sayCon", "(I)V"⟩ prog_12_method_56_code 5 (Option.none : Option Jvm.ClassFile.FieldType)) := am_g6 65 rfl rfl
theorem am_oc71 : am_okC 71 := ⟨am_w314, am_w143, ⟨by decide +kernel, by decide +kernel⟩, by decide +kernel, by decide +kernel, rfl⟩
theorem am_w315 : am_gw (Cond.methodLink "PatternTreesModel" 363 ⟨"PatternTreesModel", "sayCon", "(I)V"⟩) := am_g6 62 rfl rfl
theorem am_ol65 : am_okL0 "PatternTreesModel" "PatternTreesModel" 363 71 := Or.inl am_w315
theorem am_w316 : am_gw (Cond.instanceMethod ⟨"PatternTreesModel", "sayCon", "(I)V"⟩) := am_g6 64 rfl rfl
theorem am_sl71 : am_gw (Cond.selects "PatternTreesModel" ⟨"PatternTreesModel", "sayCon", "(I)V"⟩ ⟨"PatternTreesModel", "sayCon", "(I)V"⟩) := List.mem_filter.mpr ⟨List.mem_append_left _ (List.mem_map.mpr ⟨(⟨"PatternTreesModel", "sayCon", "(I)V"⟩, 58), (show _ ∈ lw_privs from List.mem_append_right _ (List.mem_append_right _ (List.mem_append_right _ (List.mem_append_right _ (List.mem_append_right _ (List.mem_of_getElem? (i := 7) rfl)))))), rfl⟩), rfl⟩
theorem am_w317 : am_gw (Cond.methodLink "PatternTrees$Asks" 3 ⟨"java/lang/Object", "<init>", "()V"⟩) := am_g1 183 rfl rfl
theorem am_w318 : am_gw (Cond.fieldLink "PatternTrees$Asks" 9 "PatternTrees$Asks" "spots" "I") := am_g1 184 rfl rfl
theorem am_w319 : am_gw (Cond.fieldLink "PatternTrees$Asks" 15 "PatternTrees$Asks" "count" "I") := am_g1 185 rfl rfl
theorem am_w320 : am_gw (Cond.fieldLink "PatternTrees$Asks" 18 "PatternTrees$Asks" "spotPlace" "[I") := am_g1 186 rfl rfl
theorem am_w321 : am_gw (Cond.fieldLink "PatternTrees$Asks" 22 "PatternTrees$Asks" "spot" "[I") := am_g1 187 rfl rfl
theorem am_w322 : am_gw (Cond.fieldLink "PatternTrees$Asks" 25 "PatternTrees$Asks" "answer" "[I") := am_g1 189 rfl rfl
theorem am_w323 : am_gw (Cond.fieldLink "PatternTrees$Asks" 28 "PatternTrees$Asks" "begin" "[I") := am_g1 191 rfl rfl
theorem am_w324 : am_gw (Cond.fieldLink "PatternTrees$Asks" 31 "PatternTrees$Asks" "wanted" "[I") := am_g1 193 rfl rfl
theorem am_of78 : am_okF0 "PatternTrees$Asks" "PatternTrees" 31 2 6 := ⟨by decide, Or.inl am_w324⟩
theorem am_w325 : am_gw (Cond.fieldLink "PatternTrees$Asks" 34 "PatternTrees$Rules" "rows" "I") := am_g2 72 rfl rfl
theorem am_of79 : am_okF0 "PatternTrees$Asks" "PatternTrees" 34 5 3 := ⟨by decide, Or.inl am_w325⟩
theorem am_of80 : am_okF0 "PatternTrees$Asks" "PatternTrees" 28 2 5 := ⟨by decide, Or.inl am_w323⟩
theorem am_of81 : am_okF0 "PatternTrees$Asks" "PatternTrees" 15 2 1 := ⟨by decide, Or.inl am_w319⟩
theorem am_w326 : am_gw (Cond.fieldLink "PatternTrees$Asks" 39 "PatternTrees$Rules" "head" "[I") := am_g2 79 rfl rfl
theorem am_of82 : am_okF0 "PatternTrees$Asks" "PatternTrees" 39 5 5 := ⟨by decide, Or.inl am_w326⟩
theorem am_w327 : am_gw (Cond.code ⟨"PatternTrees$Asks", "collectList", "(LPatternTrees$Rules;III)V"⟩ prog_2_method_5_code 7 (Option.none : Option Jvm.ClassFile.FieldType)) := am_g3 230 rfl rfl
theorem am_w328 : am_gw (Cond.initialized "PatternTrees$Asks") := am_g1 8 rfl rfl
theorem am_oc82 : am_okC 82 := ⟨am_w327, am_w328, ⟨by decide +kernel, by decide +kernel⟩, by decide +kernel, by decide +kernel, rfl⟩
theorem am_w329 : am_gw (Cond.methodLink "PatternTrees$Asks" 42 ⟨"PatternTrees$Asks", "collectList", "(LPatternTrees$Rules;III)V"⟩) := am_g3 227 rfl rfl
theorem am_ol66 : am_okL0 "PatternTrees$Asks" "PatternTrees" 42 82 := Or.inl am_w329
theorem am_w330 : am_gw (Cond.instanceMethod ⟨"PatternTrees$Asks", "collectList", "(LPatternTrees$Rules;III)V"⟩) := am_g3 229 rfl rfl
theorem am_sl82 : am_gw (Cond.selects "PatternTrees$Asks" ⟨"PatternTrees$Asks", "collectList", "(LPatternTrees$Rules;III)V"⟩ ⟨"PatternTrees$Asks", "collectList", "(LPatternTrees$Rules;III)V"⟩) := List.mem_filter.mpr ⟨List.mem_append_left _ (List.mem_map.mpr ⟨(⟨"PatternTrees$Asks", "collectList", "(LPatternTrees$Rules;III)V"⟩, 7), (show _ ∈ lw_privs from List.mem_append_right _ (List.mem_append_left _ (List.mem_of_getElem? (i := 8) rfl))), rfl⟩), rfl⟩
theorem am_of83 : am_okF0 "PatternTrees$Asks" "PatternTrees" 9 2 0 := ⟨by decide, Or.inl am_w318⟩
theorem am_of84 : am_okF0 "PatternTrees$Asks" "PatternTrees" 18 2 2 := ⟨by decide, Or.inl am_w320⟩
theorem am_w331 : am_gw (Cond.code ⟨"PatternTrees$Asks", "collectPat", "(LPatternTrees$Rules;III)V"⟩ prog_2_method_6_code 8 (Option.none : Option Jvm.ClassFile.FieldType)) := am_g3 234 rfl rfl
theorem am_oc83 : am_okC 83 := ⟨am_w331, am_w328, ⟨by decide +kernel, by decide +kernel⟩, by decide +kernel, by decide +kernel, rfl⟩
theorem am_w332 : am_gw (Cond.methodLink "PatternTrees$Asks" 46 ⟨"PatternTrees$Asks", "collectPat", "(LPatternTrees$Rules;III)V"⟩) := am_g3 231 rfl rfl
theorem am_ol67 : am_okL0 "PatternTrees$Asks" "PatternTrees" 46 83 := Or.inl am_w332
theorem am_w333 : am_gw (Cond.instanceMethod ⟨"PatternTrees$Asks", "collectPat", "(LPatternTrees$Rules;III)V"⟩) := am_g3 233 rfl rfl
theorem am_sl83 : am_gw (Cond.selects "PatternTrees$Asks" ⟨"PatternTrees$Asks", "collectPat", "(LPatternTrees$Rules;III)V"⟩ ⟨"PatternTrees$Asks", "collectPat", "(LPatternTrees$Rules;III)V"⟩) := List.mem_filter.mpr ⟨List.mem_append_left _ (List.mem_map.mpr ⟨(⟨"PatternTrees$Asks", "collectPat", "(LPatternTrees$Rules;III)V"⟩, 7), (show _ ∈ lw_privs from List.mem_append_right _ (List.mem_append_left _ (List.mem_of_getElem? (i := 9) rfl))), rfl⟩), rfl⟩
theorem am_w334 : am_gw (Cond.fieldLink "PatternTrees$Asks" 49 "PatternTrees$Rules" "pats" "LPatternTrees$Terms;") := am_g2 64 rfl rfl
theorem am_of85 : am_okF0 "PatternTrees$Asks" "PatternTrees" 49 5 1 := ⟨by decide, Or.inl am_w334⟩
theorem am_w335 : am_gw (Cond.fieldLink "PatternTrees$Asks" 53 "PatternTrees$Terms" "next" "[I") := am_g1 116 rfl rfl
theorem am_of86 : am_okF0 "PatternTrees$Asks" "PatternTrees" 53 7 10 := ⟨by decide, Or.inl am_w335⟩
theorem am_w336 : am_gw (Cond.fieldLink "PatternTrees$Asks" 58 "PatternTrees$Terms" "kind" "[I") := am_g1 87 rfl rfl
theorem am_of87 : am_okF0 "PatternTrees$Asks" "PatternTrees" 58 7 2 := ⟨by decide, Or.inl am_w336⟩
theorem am_w337 : am_gw (Cond.fieldLink "PatternTrees$Asks" 61 "PatternTrees$Terms" "first" "[I") := am_g1 111 rfl rfl
theorem am_of88 : am_okF0 "PatternTrees$Asks" "PatternTrees" 61 7 9 := ⟨by decide, Or.inl am_w337⟩
theorem am_w338 : am_gw (Cond.fieldLink "PatternTrees$Asks" 64 "PatternTrees$Terms" "number" "[I") := am_g1 103 rfl rfl
theorem am_of89 : am_okF0 "PatternTrees$Asks" "PatternTrees" 64 7 7 := ⟨by decide, Or.inl am_w338⟩
theorem am_w339 : am_gw (Cond.code ⟨"PatternTrees$Asks", "ask", "(III)V"⟩ prog_2_method_7_code 5 (Option.none : Option Jvm.ClassFile.FieldType)) := am_g3 238 rfl rfl
theorem am_oc84 : am_okC 84 := ⟨am_w339, am_w328, ⟨by decide +kernel, by decide +kernel⟩, by decide +kernel, by decide +kernel, rfl⟩
theorem am_w340 : am_gw (Cond.methodLink "PatternTrees$Asks" 67 ⟨"PatternTrees$Asks", "ask", "(III)V"⟩) := am_g3 235 rfl rfl
theorem am_ol68 : am_okL0 "PatternTrees$Asks" "PatternTrees" 67 84 := Or.inl am_w340
theorem am_w341 : am_gw (Cond.instanceMethod ⟨"PatternTrees$Asks", "ask", "(III)V"⟩) := am_g3 237 rfl rfl
theorem am_sl84 : am_gw (Cond.selects "PatternTrees$Asks" ⟨"PatternTrees$Asks", "ask", "(III)V"⟩ ⟨"PatternTrees$Asks", "ask", "(III)V"⟩) := List.mem_filter.mpr ⟨List.mem_append_left _ (List.mem_map.mpr ⟨(⟨"PatternTrees$Asks", "ask", "(III)V"⟩, 7), (show _ ∈ lw_privs from List.mem_append_right _ (List.mem_append_left _ (List.mem_of_getElem? (i := 10) rfl))), rfl⟩), rfl⟩
theorem am_w342 : am_gw (Cond.code ⟨"PatternTrees$Rules", "isNewCon", "(LPatternTrees$Terms;I)Z"⟩ prog_5_method_10_code 4 (Option.some Jvm.ClassFile.FieldType.boolean)) := am_g4 6 rfl rfl
theorem am_oc115 : am_okC 115 := ⟨am_w342, am_w29, ⟨by decide +kernel, by decide +kernel⟩, by decide +kernel, by decide +kernel, rfl⟩
theorem am_w343 : am_gw (Cond.methodLink "PatternTrees$Asks" 71 ⟨"PatternTrees$Rules", "isNewCon", "(LPatternTrees$Terms;I)Z"⟩) := am_g4 3 rfl rfl
theorem am_ol69 : am_okL0 "PatternTrees$Asks" "PatternTrees" 71 115 := Or.inl am_w343
theorem am_w344 : am_gw (Cond.instanceMethod ⟨"PatternTrees$Rules", "isNewCon", "(LPatternTrees$Terms;I)Z"⟩) := am_g4 4 rfl rfl
theorem am_w345 : am_gw (Cond.selects "PatternTrees$Rules" ⟨"PatternTrees$Rules", "isNewCon", "(LPatternTrees$Terms;I)Z"⟩ ⟨"PatternTrees$Rules", "isNewCon", "(LPatternTrees$Terms;I)Z"⟩) := am_g4 5 rfl rfl
theorem am_w346 : am_gw (Cond.code ⟨"PatternTrees$Terms", "isCon", "(I)Z"⟩ prog_7_method_4_code 2 (Option.some Jvm.ClassFile.FieldType.boolean)) := am_g3 212 rfl rfl
theorem am_oc137 : am_okC 137 := ⟨am_w346, am_w11, ⟨by decide +kernel, by decide +kernel⟩, by decide +kernel, by decide +kernel, rfl⟩
theorem am_w347 : am_gw (Cond.methodLink "PatternTrees$Asks" 75 ⟨"PatternTrees$Terms", "isCon", "(I)Z"⟩) := am_g4 7 rfl rfl
theorem am_ol70 : am_okL0 "PatternTrees$Asks" "PatternTrees" 75 137 := Or.inl am_w347
theorem am_w348 : am_gw (Cond.instanceMethod ⟨"PatternTrees$Terms", "isCon", "(I)Z"⟩) := am_g3 210 rfl rfl
theorem am_w349 : am_gw (Cond.selects "PatternTrees$Terms" ⟨"PatternTrees$Terms", "isCon", "(I)Z"⟩ ⟨"PatternTrees$Terms", "isCon", "(I)Z"⟩) := am_g3 211 rfl rfl
theorem am_w350 : am_gw (Cond.fieldLink "PatternTrees$Asks" 79 "PatternTrees$Terms" "con" "[I") := am_g1 107 rfl rfl
theorem am_of90 : am_okF0 "PatternTrees$Asks" "PatternTrees" 79 7 8 := ⟨by decide, Or.inl am_w350⟩
theorem am_w351 : am_gw (Cond.code ⟨"PatternTrees$Asks", "spotOf", "(I)I"⟩ prog_2_method_4_code 3 (Option.some Jvm.ClassFile.FieldType.int)) := am_g4 2 rfl rfl
theorem am_oc81 : am_okC 81 := ⟨am_w351, am_w328, ⟨by decide +kernel, by decide +kernel⟩, by decide +kernel, by decide +kernel, rfl⟩
theorem am_w352 : am_gw (Cond.methodLink "PatternTrees$Asks" 82 ⟨"PatternTrees$Asks", "spotOf", "(I)I"⟩) := am_g3 239 rfl rfl
theorem am_ol71 : am_okL0 "PatternTrees$Asks" "PatternTrees" 82 81 := Or.inl am_w352
theorem am_w353 : am_gw (Cond.instanceMethod ⟨"PatternTrees$Asks", "spotOf", "(I)I"⟩) := am_g4 0 rfl rfl
theorem am_w354 : am_gw (Cond.selects "PatternTrees$Asks" ⟨"PatternTrees$Asks", "spotOf", "(I)I"⟩ ⟨"PatternTrees$Asks", "spotOf", "(I)I"⟩) := am_g4 1 rfl rfl
theorem am_of91 : am_okF0 "PatternTrees$Asks" "PatternTrees" 22 2 3 := ⟨by decide, Or.inl am_w321⟩
theorem am_of92 : am_okF0 "PatternTrees$Asks" "PatternTrees" 25 2 4 := ⟨by decide, Or.inl am_w322⟩
theorem am_w355 : am_gw (Cond.methodLink "PatternTrees$Form" 3 ⟨"java/lang/Object", "<init>", "()V"⟩) := am_g1 32 rfl rfl
theorem am_w356 : am_gw (Cond.classLink "PatternTrees$Form" 9 "PatternTrees$Tokens") := am_g1 33 rfl rfl
theorem am_w357 : am_gw (Cond.instantiable "PatternTrees$Tokens" 8) := am_g1 34 rfl rfl
theorem am_w358 : am_gw (Cond.code ⟨"PatternTrees$Tokens", "<init>", "()V"⟩ prog_8_method_1_code 1 (Option.none : Option Jvm.ClassFile.FieldType)) := am_g1 37 rfl rfl
theorem am_oc138 : am_okC 138 := ⟨am_w358, am_w39, ⟨by decide +kernel, by decide +kernel⟩, by decide +kernel, by decide +kernel, rfl⟩
theorem am_ol72 : am_okL0 "PatternTrees$Form" "PatternTrees" 11 138 := Or.inr (List.mem_of_getElem? (i := 5) rfl)
theorem am_w359 : am_gw (Cond.instanceMethod ⟨"PatternTrees$Tokens", "<init>", "()V"⟩) := am_g1 36 rfl rfl
theorem am_w360 : am_gw (Cond.fieldLink "PatternTrees$Form" 12 "PatternTrees$Form" "tokens" "LPatternTrees$Tokens;") := am_g1 67 rfl rfl
theorem am_w361 : am_gw (Cond.code ⟨"PatternTrees$Rules", "clear", "()V"⟩ prog_5_method_2_code 1 (Option.none : Option Jvm.ClassFile.FieldType)) := am_g2 155 rfl rfl
theorem am_oc107 : am_okC 107 := ⟨am_w361, am_w29, ⟨by decide +kernel, by decide +kernel⟩, by decide +kernel, by decide +kernel, rfl⟩
theorem am_w362 : am_gw (Cond.methodLink "PatternTrees$Form" 18 ⟨"PatternTrees$Rules", "clear", "()V"⟩) := am_g2 152 rfl rfl
theorem am_ol73 : am_okL0 "PatternTrees$Form" "PatternTrees" 18 107 := Or.inl am_w362
theorem am_w363 : am_gw (Cond.instanceMethod ⟨"PatternTrees$Rules", "clear", "()V"⟩) := am_g2 153 rfl rfl
theorem am_w364 : am_gw (Cond.selects "PatternTrees$Rules" ⟨"PatternTrees$Rules", "clear", "()V"⟩ ⟨"PatternTrees$Rules", "clear", "()V"⟩) := am_g2 154 rfl rfl
theorem am_of93 : am_okF0 "PatternTrees$Form" "PatternTrees" 12 3 0 := ⟨by decide, Or.inl am_w360⟩
theorem am_w365 : am_gw (Cond.code ⟨"PatternTrees$Tokens", "cut", "()V"⟩ prog_8_method_8_code 3 (Option.none : Option Jvm.ClassFile.FieldType)) := am_g2 167 rfl rfl
theorem am_oc145 : am_okC 145 := ⟨am_w365, am_w39, ⟨by decide +kernel, by decide +kernel⟩, by decide +kernel, by decide +kernel, rfl⟩
theorem am_w366 : am_gw (Cond.methodLink "PatternTrees$Form" 23 ⟨"PatternTrees$Tokens", "cut", "()V"⟩) := am_g2 164 rfl rfl
theorem am_ol74 : am_okL0 "PatternTrees$Form" "PatternTrees" 23 145 := Or.inl am_w366
theorem am_w367 : am_gw (Cond.instanceMethod ⟨"PatternTrees$Tokens", "cut", "()V"⟩) := am_g2 165 rfl rfl
theorem am_w368 : am_gw (Cond.selects "PatternTrees$Tokens" ⟨"PatternTrees$Tokens", "cut", "()V"⟩ ⟨"PatternTrees$Tokens", "cut", "()V"⟩) := am_g2 166 rfl rfl
theorem am_w369 : am_gw (Cond.fieldLink "PatternTrees$Form" 26 "PatternTrees$Rules" "types" "LPatternTrees$Types;") := am_g2 59 rfl rfl
theorem am_of94 : am_okF0 "PatternTrees$Form" "PatternTrees" 26 5 0 := ⟨by decide, Or.inl am_w369⟩
theorem am_w370 : am_gw (Cond.code ⟨"PatternTrees$Form", "readTypes", "(LPatternTrees$Types;)Z"⟩ prog_3_method_4_code 4 (Option.some Jvm.ClassFile.FieldType.boolean)) := am_g3 78 rfl rfl
theorem am_oc88 : am_okC 88 := ⟨am_w370, am_w5, ⟨by decide +kernel, by decide +kernel⟩, by decide +kernel, by decide +kernel, rfl⟩
theorem am_w371 : am_gw (Cond.methodLink "PatternTrees$Form" 30 ⟨"PatternTrees$Form", "readTypes", "(LPatternTrees$Types;)Z"⟩) := am_g3 75 rfl rfl
theorem am_ol75 : am_okL0 "PatternTrees$Form" "PatternTrees" 30 88 := Or.inl am_w371
theorem am_w372 : am_gw (Cond.instanceMethod ⟨"PatternTrees$Form", "readTypes", "(LPatternTrees$Types;)Z"⟩) := am_g3 77 rfl rfl
theorem am_sl88 : am_gw (Cond.selects "PatternTrees$Form" ⟨"PatternTrees$Form", "readTypes", "(LPatternTrees$Types;)Z"⟩ ⟨"PatternTrees$Form", "readTypes", "(LPatternTrees$Types;)Z"⟩) := List.mem_filter.mpr ⟨List.mem_append_left _ (List.mem_map.mpr ⟨(⟨"PatternTrees$Form", "readTypes", "(LPatternTrees$Types;)Z"⟩, 1), (show _ ∈ lw_privs from List.mem_append_left _ (List.mem_of_getElem? (i := 7) rfl)), rfl⟩), rfl⟩
theorem am_w373 : am_gw (Cond.code ⟨"PatternTrees$Form", "readColumns", "(LPatternTrees$Rules;)Z"⟩ prog_3_method_7_code 3 (Option.some Jvm.ClassFile.FieldType.boolean)) := am_g3 126 rfl rfl
theorem am_oc91 : am_okC 91 := ⟨am_w373, am_w5, ⟨by decide +kernel, by decide +kernel⟩, by decide +kernel, by decide +kernel, rfl⟩
theorem am_w374 : am_gw (Cond.methodLink "PatternTrees$Form" 34 ⟨"PatternTrees$Form", "readColumns", "(LPatternTrees$Rules;)Z"⟩) := am_g3 123 rfl rfl
theorem am_ol76 : am_okL0 "PatternTrees$Form" "PatternTrees" 34 91 := Or.inl am_w374
theorem am_w375 : am_gw (Cond.instanceMethod ⟨"PatternTrees$Form", "readColumns", "(LPatternTrees$Rules;)Z"⟩) := am_g3 125 rfl rfl
theorem am_sl91 : am_gw (Cond.selects "PatternTrees$Form" ⟨"PatternTrees$Form", "readColumns", "(LPatternTrees$Rules;)Z"⟩ ⟨"PatternTrees$Form", "readColumns", "(LPatternTrees$Rules;)Z"⟩) := List.mem_filter.mpr ⟨List.mem_append_left _ (List.mem_map.mpr ⟨(⟨"PatternTrees$Form", "readColumns", "(LPatternTrees$Rules;)Z"⟩, 1), (show _ ∈ lw_privs from List.mem_append_left _ (List.mem_of_getElem? (i := 11) rfl)), rfl⟩), rfl⟩
theorem am_w376 : am_gw (Cond.code ⟨"PatternTrees$Form", "readRows", "(LPatternTrees$Rules;)Z"⟩ prog_3_method_8_code 6 (Option.some Jvm.ClassFile.FieldType.boolean)) := am_g3 134 rfl rfl
theorem am_oc92 : am_okC 92 := ⟨am_w376, am_w5, ⟨by decide +kernel, by decide +kernel⟩, by decide +kernel, by decide +kernel, rfl⟩
theorem am_w377 : am_gw (Cond.methodLink "PatternTrees$Form" 38 ⟨"PatternTrees$Form", "readRows", "(LPatternTrees$Rules;)Z"⟩) := am_g3 131 rfl rfl
theorem am_ol77 : am_okL0 "PatternTrees$Form" "PatternTrees" 38 92 := Or.inl am_w377
theorem am_w378 : am_gw (Cond.instanceMethod ⟨"PatternTrees$Form", "readRows", "(LPatternTrees$Rules;)Z"⟩) := am_g3 133 rfl rfl
theorem am_sl92 : am_gw (Cond.selects "PatternTrees$Form" ⟨"PatternTrees$Form", "readRows", "(LPatternTrees$Rules;)Z"⟩ ⟨"PatternTrees$Form", "readRows", "(LPatternTrees$Rules;)Z"⟩) := List.mem_filter.mpr ⟨List.mem_append_left _ (List.mem_map.mpr ⟨(⟨"PatternTrees$Form", "readRows", "(LPatternTrees$Rules;)Z"⟩, 1), (show _ ∈ lw_privs from List.mem_append_left _ (List.mem_of_getElem? (i := 12) rfl)), rfl⟩), rfl⟩
theorem am_w379 : am_gw (Cond.code ⟨"PatternTrees$Terms", "clear", "()V"⟩ prog_7_method_2_code 1 (Option.none : Option Jvm.ClassFile.FieldType)) := am_g2 163 rfl rfl
theorem am_oc135 : am_okC 135 := ⟨am_w379, am_w11, ⟨by decide +kernel, by decide +kernel⟩, by decide +kernel, by decide +kernel, rfl⟩
theorem am_w380 : am_gw (Cond.methodLink "PatternTrees$Form" 41 ⟨"PatternTrees$Terms", "clear", "()V"⟩) := am_g4 29 rfl rfl
theorem am_ol78 : am_okL0 "PatternTrees$Form" "PatternTrees" 41 135 := Or.inl am_w380
theorem am_w381 : am_gw (Cond.instanceMethod ⟨"PatternTrees$Terms", "clear", "()V"⟩) := am_g2 161 rfl rfl
theorem am_w382 : am_gw (Cond.selects "PatternTrees$Terms" ⟨"PatternTrees$Terms", "clear", "()V"⟩ ⟨"PatternTrees$Terms", "clear", "()V"⟩) := am_g2 162 rfl rfl
theorem am_w383 : am_gw (Cond.code ⟨"PatternTrees$Form", "readList", "(LPatternTrees$Terms;ZI)I"⟩ prog_3_method_10_code 8 (Option.some Jvm.ClassFile.FieldType.int)) := am_g3 138 rfl rfl
theorem am_oc94 : am_okC 94 := ⟨am_w383, am_w5, ⟨by decide +kernel, by decide +kernel⟩, by decide +kernel, by decide +kernel, rfl⟩
theorem am_w384 : am_gw (Cond.methodLink "PatternTrees$Form" 44 ⟨"PatternTrees$Form", "readList", "(LPatternTrees$Terms;ZI)I"⟩) := am_g3 135 rfl rfl
theorem am_ol79 : am_okL0 "PatternTrees$Form" "PatternTrees" 44 94 := Or.inl am_w384
theorem am_w385 : am_gw (Cond.instanceMethod ⟨"PatternTrees$Form", "readList", "(LPatternTrees$Terms;ZI)I"⟩) := am_g3 137 rfl rfl
theorem am_sl94 : am_gw (Cond.selects "PatternTrees$Form" ⟨"PatternTrees$Form", "readList", "(LPatternTrees$Terms;ZI)I"⟩ ⟨"PatternTrees$Form", "readList", "(LPatternTrees$Terms;ZI)I"⟩) := List.mem_filter.mpr ⟨List.mem_append_left _ (List.mem_map.mpr ⟨(⟨"PatternTrees$Form", "readList", "(LPatternTrees$Terms;ZI)I"⟩, 1), (show _ ∈ lw_privs from List.mem_append_left _ (List.mem_of_getElem? (i := 13) rfl)), rfl⟩), rfl⟩
theorem am_w386 : am_gw (Cond.fieldLink "PatternTrees$Form" 48 "PatternTrees$Terms" "head" "I") := am_g1 82 rfl rfl
theorem am_of95 : am_okF0 "PatternTrees$Form" "PatternTrees" 48 7 1 := ⟨by decide, Or.inl am_w386⟩
theorem am_w387 : am_gw (Cond.code ⟨"PatternTrees$Tokens", "kind", "()I"⟩ prog_8_method_3_code 1 (Option.some Jvm.ClassFile.FieldType.int)) := am_g3 82 rfl rfl
theorem am_oc140 : am_okC 140 := ⟨am_w387, am_w39, ⟨by decide +kernel, by decide +kernel⟩, by decide +kernel, by decide +kernel, rfl⟩
theorem am_w388 : am_gw (Cond.methodLink "PatternTrees$Form" 52 ⟨"PatternTrees$Tokens", "kind", "()I"⟩) := am_g3 79 rfl rfl
theorem am_ol80 : am_okL0 "PatternTrees$Form" "PatternTrees" 52 140 := Or.inl am_w388
theorem am_w389 : am_gw (Cond.instanceMethod ⟨"PatternTrees$Tokens", "kind", "()I"⟩) := am_g3 80 rfl rfl
theorem am_w390 : am_gw (Cond.selects "PatternTrees$Tokens" ⟨"PatternTrees$Tokens", "kind", "()I"⟩ ⟨"PatternTrees$Tokens", "kind", "()I"⟩) := am_g3 81 rfl rfl
theorem am_w391 : am_gw (Cond.code ⟨"PatternTrees$Tokens", "advance", "()V"⟩ prog_8_method_7_code 1 (Option.none : Option Jvm.ClassFile.FieldType)) := am_g3 86 rfl rfl
theorem am_oc144 : am_okC 144 := ⟨am_w391, am_w39, ⟨by decide +kernel, by decide +kernel⟩, by decide +kernel, by decide +kernel, rfl⟩
theorem am_w392 : am_gw (Cond.methodLink "PatternTrees$Form" 56 ⟨"PatternTrees$Tokens", "advance", "()V"⟩) := am_g3 83 rfl rfl
theorem am_ol81 : am_okL0 "PatternTrees$Form" "PatternTrees" 56 144 := Or.inl am_w392
theorem am_w393 : am_gw (Cond.instanceMethod ⟨"PatternTrees$Tokens", "advance", "()V"⟩) := am_g3 84 rfl rfl
theorem am_w394 : am_gw (Cond.selects "PatternTrees$Tokens" ⟨"PatternTrees$Tokens", "advance", "()V"⟩ ⟨"PatternTrees$Tokens", "advance", "()V"⟩) := am_g3 85 rfl rfl
theorem am_w395 : am_gw (Cond.code ⟨"PatternTrees$Form", "readType", "(LPatternTrees$Types;Z)Z"⟩ prog_3_method_5_code 4 (Option.some Jvm.ClassFile.FieldType.boolean)) := am_g3 90 rfl rfl
theorem am_oc89 : am_okC 89 := ⟨am_w395, am_w5, ⟨by decide +kernel, by decide +kernel⟩, by decide +kernel, by decide +kernel, rfl⟩
theorem am_w396 : am_gw (Cond.methodLink "PatternTrees$Form" 59 ⟨"PatternTrees$Form", "readType", "(LPatternTrees$Types;Z)Z"⟩) := am_g3 87 rfl rfl
theorem am_ol82 : am_okL0 "PatternTrees$Form" "PatternTrees" 59 89 := Or.inl am_w396
theorem am_w397 : am_gw (Cond.instanceMethod ⟨"PatternTrees$Form", "readType", "(LPatternTrees$Types;Z)Z"⟩) := am_g3 89 rfl rfl
theorem am_sl89 : am_gw (Cond.selects "PatternTrees$Form" ⟨"PatternTrees$Form", "readType", "(LPatternTrees$Types;Z)Z"⟩ ⟨"PatternTrees$Form", "readType", "(LPatternTrees$Types;Z)Z"⟩) := List.mem_filter.mpr ⟨List.mem_append_left _ (List.mem_map.mpr ⟨(⟨"PatternTrees$Form", "readType", "(LPatternTrees$Types;Z)Z"⟩, 1), (show _ ∈ lw_privs from List.mem_append_left _ (List.mem_of_getElem? (i := 8) rfl)), rfl⟩), rfl⟩
theorem am_w398 : am_gw (Cond.fieldLink "PatternTrees$Form" 63 "PatternTrees$Types" "count" "I") := am_g1 236 rfl rfl
theorem am_of96 : am_okF0 "PatternTrees$Form" "PatternTrees" 63 10 0 := ⟨by decide, Or.inl am_w398⟩
theorem am_w399 : am_gw (Cond.code ⟨"PatternTrees$Tokens", "number", "()I"⟩ prog_8_method_5_code 1 (Option.some Jvm.ClassFile.FieldType.int)) := am_g3 94 rfl rfl
theorem am_oc142 : am_okC 142 := ⟨am_w399, am_w39, ⟨by decide +kernel, by decide +kernel⟩, by decide +kernel, by decide +kernel, rfl⟩
theorem am_w400 : am_gw (Cond.methodLink "PatternTrees$Form" 68 ⟨"PatternTrees$Tokens", "number", "()I"⟩) := am_g3 91 rfl rfl
theorem am_ol83 : am_okL0 "PatternTrees$Form" "PatternTrees" 68 142 := Or.inl am_w400
theorem am_w401 : am_gw (Cond.instanceMethod ⟨"PatternTrees$Tokens", "number", "()I"⟩) := am_g3 92 rfl rfl
theorem am_w402 : am_gw (Cond.selects "PatternTrees$Tokens" ⟨"PatternTrees$Tokens", "number", "()I"⟩ ⟨"PatternTrees$Tokens", "number", "()I"⟩) := am_g3 93 rfl rfl
theorem am_w403 : am_gw (Cond.methodLink "PatternTrees$Form" 71 ⟨"PatternTrees$Tokens", "at", "()I"⟩) := am_g3 95 rfl rfl
theorem am_ol84 : am_okL0 "PatternTrees$Form" "PatternTrees" 71 141 := Or.inl am_w403
theorem am_w404 : am_gw (Cond.code ⟨"PatternTrees$Types", "addType", "(IIZ)V"⟩ prog_10_method_3_code 4 (Option.none : Option Jvm.ClassFile.FieldType)) := am_g3 102 rfl rfl
theorem am_w405 : am_gw (Cond.initialized "PatternTrees$Types") := am_g1 10 rfl rfl
theorem am_oc164 : am_okC 164 := ⟨am_w404, am_w405, ⟨by decide +kernel, by decide +kernel⟩, by decide +kernel, by decide +kernel, rfl⟩
theorem am_w406 : am_gw (Cond.methodLink "PatternTrees$Form" 74 ⟨"PatternTrees$Types", "addType", "(IIZ)V"⟩) := am_g3 99 rfl rfl
theorem am_ol85 : am_okL0 "PatternTrees$Form" "PatternTrees" 74 164 := Or.inl am_w406
theorem am_w407 : am_gw (Cond.instanceMethod ⟨"PatternTrees$Types", "addType", "(IIZ)V"⟩) := am_g3 100 rfl rfl
theorem am_w408 : am_gw (Cond.selects "PatternTrees$Types" ⟨"PatternTrees$Types", "addType", "(IIZ)V"⟩ ⟨"PatternTrees$Types", "addType", "(IIZ)V"⟩) := am_g3 101 rfl rfl
theorem am_w409 : am_gw (Cond.code ⟨"PatternTrees$Form", "pass", "(I)Z"⟩ prog_3_method_9_code 2 (Option.some Jvm.ClassFile.FieldType.boolean)) := am_g3 106 rfl rfl
theorem am_oc93 : am_okC 93 := ⟨am_w409, am_w5, ⟨by decide +kernel, by decide +kernel⟩, by decide +kernel, by decide +kernel, rfl⟩
theorem am_w410 : am_gw (Cond.methodLink "PatternTrees$Form" 78 ⟨"PatternTrees$Form", "pass", "(I)Z"⟩) := am_g3 103 rfl rfl
theorem am_ol86 : am_okL0 "PatternTrees$Form" "PatternTrees" 78 93 := Or.inl am_w410
theorem am_w411 : am_gw (Cond.instanceMethod ⟨"PatternTrees$Form", "pass", "(I)Z"⟩) := am_g3 105 rfl rfl
theorem am_sl93 : am_gw (Cond.selects "PatternTrees$Form" ⟨"PatternTrees$Form", "pass", "(I)Z"⟩ ⟨"PatternTrees$Form", "pass", "(I)Z"⟩) := List.mem_filter.mpr ⟨List.mem_append_left _ (List.mem_map.mpr ⟨(⟨"PatternTrees$Form", "pass", "(I)Z"⟩, 1), (show _ ∈ lw_privs from List.mem_append_left _ (List.mem_of_getElem? (i := 9) rfl)), rfl⟩), rfl⟩
theorem am_w412 : am_gw (Cond.code ⟨"PatternTrees$Form", "readCon", "(LPatternTrees$Types;Z)Z"⟩ prog_3_method_6_code 5 (Option.some Jvm.ClassFile.FieldType.boolean)) := am_g3 110 rfl rfl
theorem am_oc90 : am_okC 90 := ⟨am_w412, am_w5, ⟨by decide +kernel, by decide +kernel⟩, by decide +kernel, by decide +kernel, rfl⟩
theorem am_w413 : am_gw (Cond.methodLink "PatternTrees$Form" 82 ⟨"PatternTrees$Form", "readCon", "(LPatternTrees$Types;Z)Z"⟩) := am_g3 107 rfl rfl
theorem am_ol87 : am_okL0 "PatternTrees$Form" "PatternTrees" 82 90 := Or.inl am_w413
theorem am_w414 : am_gw (Cond.instanceMethod ⟨"PatternTrees$Form", "readCon", "(LPatternTrees$Types;Z)Z"⟩) := am_g3 109 rfl rfl
theorem am_sl90 : am_gw (Cond.selects "PatternTrees$Form" ⟨"PatternTrees$Form", "readCon", "(LPatternTrees$Types;Z)Z"⟩ ⟨"PatternTrees$Form", "readCon", "(LPatternTrees$Types;Z)Z"⟩) := List.mem_filter.mpr ⟨List.mem_append_left _ (List.mem_map.mpr ⟨(⟨"PatternTrees$Form", "readCon", "(LPatternTrees$Types;Z)Z"⟩, 1), (show _ ∈ lw_privs from List.mem_append_left _ (List.mem_of_getElem? (i := 10) rfl)), rfl⟩), rfl⟩
theorem am_w415 : am_gw (Cond.code ⟨"PatternTrees$Tokens", "name", "()J"⟩ prog_8_method_6_code 1 (Option.some Jvm.ClassFile.FieldType.long)) := am_g3 114 rfl rfl
theorem am_oc143 : am_okC 143 := ⟨am_w415, am_w39, ⟨by decide +kernel, by decide +kernel⟩, by decide +kernel, by decide +kernel, rfl⟩
theorem am_w416 : am_gw (Cond.methodLink "PatternTrees$Form" 85 ⟨"PatternTrees$Tokens", "name", "()J"⟩) := am_g3 111 rfl rfl
theorem am_ol88 : am_okL0 "PatternTrees$Form" "PatternTrees" 85 143 := Or.inl am_w416
theorem am_w417 : am_gw (Cond.instanceMethod ⟨"PatternTrees$Tokens", "name", "()J"⟩) := am_g3 112 rfl rfl
theorem am_w418 : am_gw (Cond.selects "PatternTrees$Tokens" ⟨"PatternTrees$Tokens", "name", "()J"⟩ ⟨"PatternTrees$Tokens", "name", "()J"⟩) := am_g3 113 rfl rfl
theorem am_w419 : am_gw (Cond.code ⟨"PatternTrees$Types", "addCon", "(JI)V"⟩ prog_10_method_4_code 4 (Option.none : Option Jvm.ClassFile.FieldType)) := am_g3 118 rfl rfl
theorem am_oc165 : am_okC 165 := ⟨am_w419, am_w405, ⟨by decide +kernel, by decide +kernel⟩, by decide +kernel, by decide +kernel, rfl⟩
theorem am_w420 : am_gw (Cond.methodLink "PatternTrees$Form" 89 ⟨"PatternTrees$Types", "addCon", "(JI)V"⟩) := am_g3 115 rfl rfl
theorem am_ol89 : am_okL0 "PatternTrees$Form" "PatternTrees" 89 165 := Or.inl am_w420
theorem am_w421 : am_gw (Cond.instanceMethod ⟨"PatternTrees$Types", "addCon", "(JI)V"⟩) := am_g3 116 rfl rfl
theorem am_w422 : am_gw (Cond.selects "PatternTrees$Types" ⟨"PatternTrees$Types", "addCon", "(JI)V"⟩ ⟨"PatternTrees$Types", "addCon", "(JI)V"⟩) := am_g3 117 rfl rfl
theorem am_w423 : am_gw (Cond.code ⟨"PatternTrees$Types", "addArg", "(II)V"⟩ prog_10_method_5_code 5 (Option.none : Option Jvm.ClassFile.FieldType)) := am_g3 122 rfl rfl
theorem am_oc166 : am_okC 166 := ⟨am_w423, am_w405, ⟨by decide +kernel, by decide +kernel⟩, by decide +kernel, by decide +kernel, rfl⟩
theorem am_w424 : am_gw (Cond.methodLink "PatternTrees$Form" 93 ⟨"PatternTrees$Types", "addArg", "(II)V"⟩) := am_g3 119 rfl rfl
theorem am_ol90 : am_okL0 "PatternTrees$Form" "PatternTrees" 93 166 := Or.inl am_w424
theorem am_w425 : am_gw (Cond.instanceMethod ⟨"PatternTrees$Types", "addArg", "(II)V"⟩) := am_g3 120 rfl rfl
theorem am_w426 : am_gw (Cond.selects "PatternTrees$Types" ⟨"PatternTrees$Types", "addArg", "(II)V"⟩ ⟨"PatternTrees$Types", "addArg", "(II)V"⟩) := am_g3 121 rfl rfl
theorem am_w427 : am_gw (Cond.code ⟨"PatternTrees$Rules", "addColumn", "(II)V"⟩ prog_5_method_3_code 3 (Option.none : Option Jvm.ClassFile.FieldType)) := am_g3 130 rfl rfl
theorem am_oc108 : am_okC 108 := ⟨am_w427, am_w29, ⟨by decide +kernel, by decide +kernel⟩, by decide +kernel, by decide +kernel, rfl⟩
theorem am_w428 : am_gw (Cond.methodLink "PatternTrees$Form" 97 ⟨"PatternTrees$Rules", "addColumn", "(II)V"⟩) := am_g3 127 rfl rfl
theorem am_ol91 : am_okL0 "PatternTrees$Form" "PatternTrees" 97 108 := Or.inl am_w428
theorem am_w429 : am_gw (Cond.instanceMethod ⟨"PatternTrees$Rules", "addColumn", "(II)V"⟩) := am_g3 128 rfl rfl
theorem am_w430 : am_gw (Cond.selects "PatternTrees$Rules" ⟨"PatternTrees$Rules", "addColumn", "(II)V"⟩ ⟨"PatternTrees$Rules", "addColumn", "(II)V"⟩) := am_g3 129 rfl rfl
theorem am_w431 : am_gw (Cond.fieldLink "PatternTrees$Form" 100 "PatternTrees$Rules" "columns" "I") := am_g2 69 rfl rfl
theorem am_of97 : am_okF0 "PatternTrees$Form" "PatternTrees" 100 5 2 := ⟨by decide, Or.inl am_w431⟩
theorem am_w432 : am_gw (Cond.fieldLink "PatternTrees$Form" 103 "PatternTrees$Rules" "pats" "LPatternTrees$Terms;") := am_g2 66 rfl rfl
theorem am_of98 : am_okF0 "PatternTrees$Form" "PatternTrees" 103 5 1 := ⟨by decide, Or.inl am_w432⟩
theorem am_w433 : am_gw (Cond.code ⟨"PatternTrees$Rules", "addRow", "(IIZ)V"⟩ prog_5_method_4_code 4 (Option.none : Option Jvm.ClassFile.FieldType)) := am_g3 171 rfl rfl
theorem am_oc109 : am_okC 109 := ⟨am_w433, am_w29, ⟨by decide +kernel, by decide +kernel⟩, by decide +kernel, by decide +kernel, rfl⟩
theorem am_w434 : am_gw (Cond.methodLink "PatternTrees$Form" 107 ⟨"PatternTrees$Rules", "addRow", "(IIZ)V"⟩) := am_g3 168 rfl rfl
theorem am_ol92 : am_okL0 "PatternTrees$Form" "PatternTrees" 107 109 := Or.inl am_w434
theorem am_w435 : am_gw (Cond.instanceMethod ⟨"PatternTrees$Rules", "addRow", "(IIZ)V"⟩) := am_g3 169 rfl rfl
theorem am_w436 : am_gw (Cond.selects "PatternTrees$Rules" ⟨"PatternTrees$Rules", "addRow", "(IIZ)V"⟩ ⟨"PatternTrees$Rules", "addRow", "(IIZ)V"⟩) := am_g3 170 rfl rfl
theorem am_w437 : am_gw (Cond.fieldLink "PatternTrees$Form" 110 "PatternTrees$Rules" "rows" "I") := am_g2 75 rfl rfl
theorem am_of99 : am_okF0 "PatternTrees$Form" "PatternTrees" 110 5 3 := ⟨by decide, Or.inl am_w437⟩
theorem am_w438 : am_gw (Cond.code ⟨"PatternTrees$Form", "readTerm", "(LPatternTrees$Terms;ZI)I"⟩ prog_3_method_12_code 5 (Option.some Jvm.ClassFile.FieldType.int)) := am_g3 142 rfl rfl
theorem am_oc96 : am_okC 96 := ⟨am_w438, am_w5, ⟨by decide +kernel, by decide +kernel⟩, by decide +kernel, by decide +kernel, rfl⟩
theorem am_w439 : am_gw (Cond.methodLink "PatternTrees$Form" 113 ⟨"PatternTrees$Form", "readTerm", "(LPatternTrees$Terms;ZI)I"⟩) := am_g3 139 rfl rfl
theorem am_ol93 : am_okL0 "PatternTrees$Form" "PatternTrees" 113 96 := Or.inl am_w439
theorem am_w440 : am_gw (Cond.instanceMethod ⟨"PatternTrees$Form", "readTerm", "(LPatternTrees$Terms;ZI)I"⟩) := am_g3 141 rfl rfl
theorem am_sl96 : am_gw (Cond.selects "PatternTrees$Form" ⟨"PatternTrees$Form", "readTerm", "(LPatternTrees$Terms;ZI)I"⟩ ⟨"PatternTrees$Form", "readTerm", "(LPatternTrees$Terms;ZI)I"⟩) := List.mem_filter.mpr ⟨List.mem_append_left _ (List.mem_map.mpr ⟨(⟨"PatternTrees$Form", "readTerm", "(LPatternTrees$Terms;ZI)I"⟩, 1), (show _ ∈ lw_privs from List.mem_append_left _ (List.mem_of_getElem? (i := 14) rfl)), rfl⟩), rfl⟩
theorem am_w441 : am_gw (Cond.code ⟨"PatternTrees$Form", "atListEnd", "()Z"⟩ prog_3_method_11_code 2 (Option.some Jvm.ClassFile.FieldType.boolean)) := am_g3 167 rfl rfl
theorem am_oc95 : am_okC 95 := ⟨am_w441, am_w5, ⟨by decide +kernel, by decide +kernel⟩, by decide +kernel, by decide +kernel, rfl⟩
theorem am_w442 : am_gw (Cond.methodLink "PatternTrees$Form" 116 ⟨"PatternTrees$Form", "atListEnd", "()Z"⟩) := am_g3 164 rfl rfl
theorem am_ol94 : am_okL0 "PatternTrees$Form" "PatternTrees" 116 95 := Or.inl am_w442
theorem am_w443 : am_gw (Cond.instanceMethod ⟨"PatternTrees$Form", "atListEnd", "()Z"⟩) := am_g3 166 rfl rfl
theorem am_sl95 : am_gw (Cond.selects "PatternTrees$Form" ⟨"PatternTrees$Form", "atListEnd", "()Z"⟩ ⟨"PatternTrees$Form", "atListEnd", "()Z"⟩) := List.mem_filter.mpr ⟨List.mem_append_left _ (List.mem_map.mpr ⟨(⟨"PatternTrees$Form", "atListEnd", "()Z"⟩, 1), (show _ ∈ lw_privs from List.mem_append_right _ (List.mem_append_left _ (List.mem_of_getElem? (i := 3) rfl))), rfl⟩), rfl⟩
theorem am_w444 : am_gw (Cond.fieldLink "PatternTrees$Form" 120 "PatternTrees$Terms" "next" "[I") := am_g1 118 rfl rfl
theorem am_of100 : am_okF0 "PatternTrees$Form" "PatternTrees" 120 7 10 := ⟨by decide, Or.inl am_w444⟩
theorem am_w445 : am_gw (Cond.fieldLink "PatternTrees$Form" 124 "PatternTrees$Terms" "count" "I") := am_g1 80 rfl rfl
theorem am_of101 : am_okF0 "PatternTrees$Form" "PatternTrees" 124 7 0 := ⟨by decide, Or.inl am_w445⟩
theorem am_w446 : am_gw (Cond.code ⟨"PatternTrees$Form", "readLeaf", "(LPatternTrees$Terms;I)I"⟩ prog_3_method_13_code 4 (Option.some Jvm.ClassFile.FieldType.int)) := am_g3 146 rfl rfl
theorem am_oc97 : am_okC 97 := ⟨am_w446, am_w5, ⟨by decide +kernel, by decide +kernel⟩, by decide +kernel, by decide +kernel, rfl⟩
theorem am_w447 : am_gw (Cond.methodLink "PatternTrees$Form" 125 ⟨"PatternTrees$Form", "readLeaf", "(LPatternTrees$Terms;I)I"⟩) := am_g3 143 rfl rfl
theorem am_ol95 : am_okL0 "PatternTrees$Form" "PatternTrees" 125 97 := Or.inl am_w447
theorem am_w448 : am_gw (Cond.instanceMethod ⟨"PatternTrees$Form", "readLeaf", "(LPatternTrees$Terms;I)I"⟩) := am_g3 145 rfl rfl
theorem am_sl97 : am_gw (Cond.selects "PatternTrees$Form" ⟨"PatternTrees$Form", "readLeaf", "(LPatternTrees$Terms;I)I"⟩ ⟨"PatternTrees$Form", "readLeaf", "(LPatternTrees$Terms;I)I"⟩) := List.mem_filter.mpr ⟨List.mem_append_left _ (List.mem_map.mpr ⟨(⟨"PatternTrees$Form", "readLeaf", "(LPatternTrees$Terms;I)I"⟩, 1), (show _ ∈ lw_privs from List.mem_append_left _ (List.mem_of_getElem? (i := 15) rfl)), rfl⟩), rfl⟩
theorem am_w449 : am_gw (Cond.code ⟨"PatternTrees$Form", "readConWith", "(LPatternTrees$Terms;ZI)I"⟩ prog_3_method_16_code 5 (Option.some Jvm.ClassFile.FieldType.int)) := am_g3 155 rfl rfl
theorem am_oc100 : am_okC 100 := ⟨am_w449, am_w5, ⟨by decide +kernel, by decide +kernel⟩, by decide +kernel, by decide +kernel, rfl⟩
theorem am_w450 : am_gw (Cond.methodLink "PatternTrees$Form" 129 ⟨"PatternTrees$Form", "readConWith", "(LPatternTrees$Terms;ZI)I"⟩) := am_g3 152 rfl rfl
theorem am_ol96 : am_okL0 "PatternTrees$Form" "PatternTrees" 129 100 := Or.inl am_w450
theorem am_w451 : am_gw (Cond.instanceMethod ⟨"PatternTrees$Form", "readConWith", "(LPatternTrees$Terms;ZI)I"⟩) := am_g3 154 rfl rfl
theorem am_sl100 : am_gw (Cond.selects "PatternTrees$Form" ⟨"PatternTrees$Form", "readConWith", "(LPatternTrees$Terms;ZI)I"⟩ ⟨"PatternTrees$Form", "readConWith", "(LPatternTrees$Terms;ZI)I"⟩) := List.mem_filter.mpr ⟨List.mem_append_left _ (List.mem_map.mpr ⟨(⟨"PatternTrees$Form", "readConWith", "(LPatternTrees$Terms;ZI)I"⟩, 1), (show _ ∈ lw_privs from List.mem_append_right _ (List.mem_append_left _ (List.mem_of_getElem? (i := 0) rfl))), rfl⟩), rfl⟩
theorem am_w452 : am_gw (Cond.code ⟨"PatternTrees$Form", "readAround", "(LPatternTrees$Terms;II)I"⟩ prog_3_method_15_code 4 (Option.some Jvm.ClassFile.FieldType.int)) := am_g3 159 rfl rfl
theorem am_oc99 : am_okC 99 := ⟨am_w452, am_w5, ⟨by decide +kernel, by decide +kernel⟩, by decide +kernel, by decide +kernel, rfl⟩
theorem am_w453 : am_gw (Cond.methodLink "PatternTrees$Form" 132 ⟨"PatternTrees$Form", "readAround", "(LPatternTrees$Terms;II)I"⟩) := am_g3 156 rfl rfl
theorem am_ol97 : am_okL0 "PatternTrees$Form" "PatternTrees" 132 99 := Or.inl am_w453
theorem am_w454 : am_gw (Cond.instanceMethod ⟨"PatternTrees$Form", "readAround", "(LPatternTrees$Terms;II)I"⟩) := am_g3 158 rfl rfl
theorem am_sl99 : am_gw (Cond.selects "PatternTrees$Form" ⟨"PatternTrees$Form", "readAround", "(LPatternTrees$Terms;II)I"⟩ ⟨"PatternTrees$Form", "readAround", "(LPatternTrees$Terms;II)I"⟩) := List.mem_filter.mpr ⟨List.mem_append_left _ (List.mem_map.mpr ⟨(⟨"PatternTrees$Form", "readAround", "(LPatternTrees$Terms;II)I"⟩, 1), (show _ ∈ lw_privs from List.mem_append_right _ (List.mem_append_left _ (List.mem_of_getElem? (i := 1) rfl))), rfl⟩), rfl⟩
theorem am_w455 : am_gw (Cond.code ⟨"PatternTrees$Form", "readLetter", "(LPatternTrees$Terms;I)I"⟩ prog_3_method_14_code 4 (Option.some Jvm.ClassFile.FieldType.int)) := am_g3 163 rfl rfl
theorem am_oc98 : am_okC 98 := ⟨am_w455, am_w5, ⟨by decide +kernel, by decide +kernel⟩, by decide +kernel, by decide +kernel, rfl⟩
theorem am_w456 : am_gw (Cond.methodLink "PatternTrees$Form" 136 ⟨"PatternTrees$Form", "readLetter", "(LPatternTrees$Terms;I)I"⟩) := am_g3 160 rfl rfl
theorem am_ol98 : am_okL0 "PatternTrees$Form" "PatternTrees" 136 98 := Or.inl am_w456
theorem am_w457 : am_gw (Cond.instanceMethod ⟨"PatternTrees$Form", "readLetter", "(LPatternTrees$Terms;I)I"⟩) := am_g3 162 rfl rfl
theorem am_sl98 : am_gw (Cond.selects "PatternTrees$Form" ⟨"PatternTrees$Form", "readLetter", "(LPatternTrees$Terms;I)I"⟩ ⟨"PatternTrees$Form", "readLetter", "(LPatternTrees$Terms;I)I"⟩) := List.mem_filter.mpr ⟨List.mem_append_left _ (List.mem_map.mpr ⟨(⟨"PatternTrees$Form", "readLetter", "(LPatternTrees$Terms;I)I"⟩, 1), (show _ ∈ lw_privs from List.mem_append_right _ (List.mem_append_left _ (List.mem_of_getElem? (i := 2) rfl))), rfl⟩), rfl⟩
theorem am_w458 : am_gw (Cond.code ⟨"PatternTrees$Terms", "add", "(II)I"⟩ prog_7_method_3_code 4 (Option.some Jvm.ClassFile.FieldType.int)) := am_g3 150 rfl rfl
theorem am_oc136 : am_okC 136 := ⟨am_w458, am_w11, ⟨by decide +kernel, by decide +kernel⟩, by decide +kernel, by decide +kernel, rfl⟩
theorem am_w459 : am_gw (Cond.methodLink "PatternTrees$Form" 139 ⟨"PatternTrees$Terms", "add", "(II)I"⟩) := am_g3 147 rfl rfl
theorem am_ol99 : am_okL0 "PatternTrees$Form" "PatternTrees" 139 136 := Or.inl am_w459
theorem am_w460 : am_gw (Cond.instanceMethod ⟨"PatternTrees$Terms", "add", "(II)I"⟩) := am_g3 148 rfl rfl
theorem am_w461 : am_gw (Cond.selects "PatternTrees$Terms" ⟨"PatternTrees$Terms", "add", "(II)I"⟩ ⟨"PatternTrees$Terms", "add", "(II)I"⟩) := am_g3 149 rfl rfl
theorem am_w462 : am_gw (Cond.fieldLink "PatternTrees$Form" 143 "PatternTrees$Terms" "number" "[I") := am_g1 104 rfl rfl
theorem am_of102 : am_okF0 "PatternTrees$Form" "PatternTrees" 143 7 7 := ⟨by decide, Or.inl am_w462⟩
theorem am_w463 : am_gw (Cond.fieldLink "PatternTrees$Form" 145 "PatternTrees$Terms" "name" "[J") := am_g1 100 rfl rfl
theorem am_of103 : am_okF0 "PatternTrees$Form" "PatternTrees" 145 7 6 := ⟨by decide, Or.inl am_w463⟩
theorem am_w464 : am_gw (Cond.fieldLink "PatternTrees$Form" 148 "PatternTrees$Terms" "kind" "[I") := am_g1 89 rfl rfl
theorem am_of104 : am_okF0 "PatternTrees$Form" "PatternTrees" 148 7 2 := ⟨by decide, Or.inl am_w464⟩
theorem am_w465 : am_gw (Cond.fieldLink "PatternTrees$Form" 150 "PatternTrees$Terms" "first" "[I") := am_g1 113 rfl rfl
theorem am_of105 : am_okF0 "PatternTrees$Form" "PatternTrees" 150 7 9 := ⟨by decide, Or.inl am_w465⟩
theorem am_w466 : am_gw (Cond.fieldLink "PatternTrees$Form" 153 "PatternTrees$Terms" "nameAt" "[I") := am_g1 94 rfl rfl
theorem am_of106 : am_okF0 "PatternTrees$Form" "PatternTrees" 153 7 4 := ⟨by decide, Or.inl am_w466⟩
theorem am_w467 : am_gw (Cond.fieldLink "PatternTrees$Form" 156 "PatternTrees$Terms" "closeAt" "[I") := am_g1 97 rfl rfl
theorem am_of107 : am_okF0 "PatternTrees$Form" "PatternTrees" 156 7 5 := ⟨by decide, Or.inl am_w467⟩
theorem am_w468 : am_gw (Cond.methodLink "PatternTrees$Line" 3 ⟨"java/lang/Object", "<init>", "()V"⟩) := am_g1 168 rfl rfl
theorem am_w469 : am_gw (Cond.fieldLink "PatternTrees$Line" 9 "PatternTrees$Line" "length" "I") := am_g1 169 rfl rfl
theorem am_w470 : am_gw (Cond.fieldLink "PatternTrees$Line" 15 "PatternTrees$Line" "bytes" "[I") := am_g1 171 rfl rfl
theorem am_of108 : am_okF0 "PatternTrees$Line" "PatternTrees" 9 4 0 := ⟨by decide, Or.inl am_w469⟩
theorem am_of109 : am_okF0 "PatternTrees$Line" "PatternTrees" 15 4 1 := ⟨by decide, Or.inl am_w470⟩
theorem am_w471 : am_gw (Cond.code ⟨"PatternTrees$Line", "put", "(I)V"⟩ prog_4_method_3_code 2 (Option.none : Option Jvm.ClassFile.FieldType)) := am_g4 131 rfl rfl
theorem am_w472 : am_gw (Cond.initialized "PatternTrees$Line") := am_g1 7 rfl rfl
theorem am_oc103 : am_okC 103 := ⟨am_w471, am_w472, ⟨by decide +kernel, by decide +kernel⟩, by decide +kernel, by decide +kernel, rfl⟩
theorem am_w473 : am_gw (Cond.methodLink "PatternTrees$Line" 19 ⟨"PatternTrees$Line", "put", "(I)V"⟩) := am_g4 146 rfl rfl
theorem am_ol100 : am_okL0 "PatternTrees$Line" "PatternTrees" 19 103 := Or.inl am_w473
theorem am_w474 : am_gw (Cond.instanceMethod ⟨"PatternTrees$Line", "put", "(I)V"⟩) := am_g4 129 rfl rfl
theorem am_w475 : am_gw (Cond.selects "PatternTrees$Line" ⟨"PatternTrees$Line", "put", "(I)V"⟩ ⟨"PatternTrees$Line", "put", "(I)V"⟩) := am_g4 130 rfl rfl
theorem am_w476 : am_gw (Cond.constantLong "PatternTrees$Line" 23 31) := am_g4 145 rfl rfl
theorem am_w477 : am_gw (Cond.methodLink "PatternTrees$Rules" 3 ⟨"java/lang/Object", "<init>", "()V"⟩) := am_g1 228 rfl rfl
theorem am_w478 : am_gw (Cond.classLink "PatternTrees$Rules" 9 "PatternTrees$Types") := am_g1 229 rfl rfl
theorem am_w479 : am_gw (Cond.instantiable "PatternTrees$Types" 15) := am_g1 230 rfl rfl
theorem am_w480 : am_gw (Cond.code ⟨"PatternTrees$Types", "<init>", "()V"⟩ prog_10_method_1_code 1 (Option.none : Option Jvm.ClassFile.FieldType)) := am_g1 233 rfl rfl
theorem am_oc162 : am_okC 162 := ⟨am_w480, am_w405, ⟨by decide +kernel, by decide +kernel⟩, by decide +kernel, by decide +kernel, rfl⟩
theorem am_ol101 : am_okL0 "PatternTrees$Rules" "PatternTrees" 11 162 := Or.inr (List.mem_of_getElem? (i := 6) rfl)
theorem am_w481 : am_gw (Cond.instanceMethod ⟨"PatternTrees$Types", "<init>", "()V"⟩) := am_g1 232 rfl rfl
theorem am_w482 : am_gw (Cond.fieldLink "PatternTrees$Rules" 12 "PatternTrees$Rules" "types" "LPatternTrees$Types;") := am_g2 58 rfl rfl
theorem am_w483 : am_gw (Cond.classLink "PatternTrees$Rules" 18 "PatternTrees$Terms") := am_g2 56 rfl rfl
theorem am_ol102 : am_okL0 "PatternTrees$Rules" "PatternTrees" 20 134 := Or.inr (List.mem_of_getElem? (i := 7) rfl)
theorem am_w484 : am_gw (Cond.fieldLink "PatternTrees$Rules" 21 "PatternTrees$Rules" "pats" "LPatternTrees$Terms;") := am_g2 62 rfl rfl
theorem am_w485 : am_gw (Cond.fieldLink "PatternTrees$Rules" 25 "PatternTrees$Rules" "columns" "I") := am_g2 67 rfl rfl
theorem am_w486 : am_gw (Cond.fieldLink "PatternTrees$Rules" 29 "PatternTrees$Rules" "rows" "I") := am_g2 71 rfl rfl
theorem am_w487 : am_gw (Cond.fieldLink "PatternTrees$Rules" 32 "PatternTrees$Rules" "plainRows" "I") := am_g2 76 rfl rfl
theorem am_w488 : am_gw (Cond.fieldLink "PatternTrees$Rules" 35 "PatternTrees$Rules" "head" "[I") := am_g2 78 rfl rfl
theorem am_w489 : am_gw (Cond.fieldLink "PatternTrees$Rules" 39 "PatternTrees$Rules" "columnType" "[I") := am_g2 81 rfl rfl
theorem am_w490 : am_gw (Cond.fieldLink "PatternTrees$Rules" 42 "PatternTrees$Rules" "columnLetter" "[I") := am_g2 83 rfl rfl
theorem am_w491 : am_gw (Cond.fieldLink "PatternTrees$Rules" 45 "PatternTrees$Rules" "columnAt" "[I") := am_g2 84 rfl rfl
theorem am_w492 : am_gw (Cond.fieldLink "PatternTrees$Rules" 48 "PatternTrees$Rules" "endAt" "[I") := am_g2 85 rfl rfl
theorem am_of110 : am_okF0 "PatternTrees$Rules" "PatternTrees" 12 5 0 := ⟨by decide, Or.inl am_w482⟩
theorem am_w493 : am_gw (Cond.code ⟨"PatternTrees$Types", "clear", "()V"⟩ prog_10_method_2_code 1 (Option.none : Option Jvm.ClassFile.FieldType)) := am_g2 159 rfl rfl
theorem am_oc163 : am_okC 163 := ⟨am_w493, am_w405, ⟨by decide +kernel, by decide +kernel⟩, by decide +kernel, by decide +kernel, rfl⟩
theorem am_w494 : am_gw (Cond.methodLink "PatternTrees$Rules" 51 ⟨"PatternTrees$Types", "clear", "()V"⟩) := am_g2 156 rfl rfl
theorem am_ol103 : am_okL0 "PatternTrees$Rules" "PatternTrees" 51 163 := Or.inl am_w494
theorem am_w495 : am_gw (Cond.instanceMethod ⟨"PatternTrees$Types", "clear", "()V"⟩) := am_g2 157 rfl rfl
theorem am_w496 : am_gw (Cond.selects "PatternTrees$Types" ⟨"PatternTrees$Types", "clear", "()V"⟩ ⟨"PatternTrees$Types", "clear", "()V"⟩) := am_g2 158 rfl rfl
theorem am_of111 : am_okF0 "PatternTrees$Rules" "PatternTrees" 21 5 1 := ⟨by decide, Or.inl am_w484⟩
theorem am_w497 : am_gw (Cond.methodLink "PatternTrees$Rules" 54 ⟨"PatternTrees$Terms", "clear", "()V"⟩) := am_g2 160 rfl rfl
theorem am_ol104 : am_okL0 "PatternTrees$Rules" "PatternTrees" 54 135 := Or.inl am_w497
theorem am_of112 : am_okF0 "PatternTrees$Rules" "PatternTrees" 25 5 2 := ⟨by decide, Or.inl am_w485⟩
theorem am_of113 : am_okF0 "PatternTrees$Rules" "PatternTrees" 42 5 7 := ⟨by decide, Or.inl am_w490⟩
theorem am_of114 : am_okF0 "PatternTrees$Rules" "PatternTrees" 45 5 8 := ⟨by decide, Or.inl am_w491⟩
theorem am_of115 : am_okF0 "PatternTrees$Rules" "PatternTrees" 29 5 3 := ⟨by decide, Or.inl am_w486⟩
theorem am_of116 : am_okF0 "PatternTrees$Rules" "PatternTrees" 35 5 5 := ⟨by decide, Or.inl am_w488⟩
theorem am_of117 : am_okF0 "PatternTrees$Rules" "PatternTrees" 48 5 9 := ⟨by decide, Or.inl am_w492⟩
theorem am_of118 : am_okF0 "PatternTrees$Rules" "PatternTrees" 32 5 4 := ⟨by decide, Or.inl am_w487⟩
theorem am_w498 : am_gw (Cond.code ⟨"PatternTrees$Types", "findFault", "()I"⟩ prog_10_method_8_code 5 (Option.some Jvm.ClassFile.FieldType.int)) := am_g3 179 rfl rfl
theorem am_oc169 : am_okC 169 := ⟨am_w498, am_w405, ⟨by decide +kernel, by decide +kernel⟩, by decide +kernel, by decide +kernel, rfl⟩
theorem am_w499 : am_gw (Cond.methodLink "PatternTrees$Rules" 55 ⟨"PatternTrees$Types", "findFault", "()I"⟩) := am_g3 176 rfl rfl
theorem am_ol105 : am_okL0 "PatternTrees$Rules" "PatternTrees" 55 169 := Or.inl am_w499
theorem am_w500 : am_gw (Cond.instanceMethod ⟨"PatternTrees$Types", "findFault", "()I"⟩) := am_g3 177 rfl rfl
theorem am_w501 : am_gw (Cond.selects "PatternTrees$Types" ⟨"PatternTrees$Types", "findFault", "()I"⟩ ⟨"PatternTrees$Types", "findFault", "()I"⟩) := am_g3 178 rfl rfl
theorem am_of119 : am_okF0 "PatternTrees$Rules" "PatternTrees" 39 5 6 := ⟨by decide, Or.inl am_w489⟩
theorem am_w502 : am_gw (Cond.code ⟨"PatternTrees$Types", "typeOf", "(I)I"⟩ prog_10_method_6_code 2 (Option.some Jvm.ClassFile.FieldType.int)) := am_g3 187 rfl rfl
theorem am_oc167 : am_okC 167 := ⟨am_w502, am_w405, ⟨by decide +kernel, by decide +kernel⟩, by decide +kernel, by decide +kernel, rfl⟩
theorem am_w503 : am_gw (Cond.methodLink "PatternTrees$Rules" 59 ⟨"PatternTrees$Types", "typeOf", "(I)I"⟩) := am_g3 196 rfl rfl
theorem am_ol106 : am_okL0 "PatternTrees$Rules" "PatternTrees" 59 167 := Or.inl am_w503
theorem am_w504 : am_gw (Cond.instanceMethod ⟨"PatternTrees$Types", "typeOf", "(I)I"⟩) := am_g3 185 rfl rfl
theorem am_w505 : am_gw (Cond.selects "PatternTrees$Types" ⟨"PatternTrees$Types", "typeOf", "(I)I"⟩ ⟨"PatternTrees$Types", "typeOf", "(I)I"⟩) := am_g3 186 rfl rfl
theorem am_w506 : am_gw (Cond.methodLink "PatternTrees$Rules" 63 ⟨"PatternTrees$Rules", "findFaultInRow", "(LPatternTrees$Terms;II)I"⟩) := am_g3 197 rfl rfl
theorem am_ol107 : am_okL0 "PatternTrees$Rules" "PatternTrees" 63 112 := Or.inl am_w506
theorem am_w507 : am_gw (Cond.code ⟨"PatternTrees$Rules", "findFaultInList", "(LPatternTrees$Terms;I[IIII)I"⟩ prog_5_method_8_code 10 (Option.some Jvm.ClassFile.FieldType.int)) := am_g3 204 rfl rfl
theorem am_oc113 : am_okC 113 := ⟨am_w507, am_w29, ⟨by decide +kernel, by decide +kernel⟩, by decide +kernel, by decide +kernel, rfl⟩
theorem am_w508 : am_gw (Cond.methodLink "PatternTrees$Rules" 67 ⟨"PatternTrees$Rules", "findFaultInList", "(LPatternTrees$Terms;I[IIII)I"⟩) := am_g3 201 rfl rfl
theorem am_ol108 : am_okL0 "PatternTrees$Rules" "PatternTrees" 67 113 := Or.inl am_w508
theorem am_w509 : am_gw (Cond.instanceMethod ⟨"PatternTrees$Rules", "findFaultInList", "(LPatternTrees$Terms;I[IIII)I"⟩) := am_g3 203 rfl rfl
theorem am_sl113 : am_gw (Cond.selects "PatternTrees$Rules" ⟨"PatternTrees$Rules", "findFaultInList", "(LPatternTrees$Terms;I[IIII)I"⟩ ⟨"PatternTrees$Rules", "findFaultInList", "(LPatternTrees$Terms;I[IIII)I"⟩) := List.mem_filter.mpr ⟨List.mem_append_left _ (List.mem_map.mpr ⟨(⟨"PatternTrees$Rules", "findFaultInList", "(LPatternTrees$Terms;I[IIII)I"⟩, 10), (show _ ∈ lw_privs from List.mem_append_right _ (List.mem_append_left _ (List.mem_of_getElem? (i := 6) rfl))), rfl⟩), rfl⟩
theorem am_w510 : am_gw (Cond.code ⟨"PatternTrees$Rules", "findFaultInTerm", "(LPatternTrees$Terms;II)I"⟩ prog_5_method_9_code 5 (Option.some Jvm.ClassFile.FieldType.int)) := am_g3 208 rfl rfl
theorem am_oc114 : am_okC 114 := ⟨am_w510, am_w29, ⟨by decide +kernel, by decide +kernel⟩, by decide +kernel, by decide +kernel, rfl⟩
theorem am_w511 : am_gw (Cond.methodLink "PatternTrees$Rules" 71 ⟨"PatternTrees$Rules", "findFaultInTerm", "(LPatternTrees$Terms;II)I"⟩) := am_g3 205 rfl rfl
theorem am_ol109 : am_okL0 "PatternTrees$Rules" "PatternTrees" 71 114 := Or.inl am_w511
theorem am_w512 : am_gw (Cond.instanceMethod ⟨"PatternTrees$Rules", "findFaultInTerm", "(LPatternTrees$Terms;II)I"⟩) := am_g3 207 rfl rfl
theorem am_sl114 : am_gw (Cond.selects "PatternTrees$Rules" ⟨"PatternTrees$Rules", "findFaultInTerm", "(LPatternTrees$Terms;II)I"⟩ ⟨"PatternTrees$Rules", "findFaultInTerm", "(LPatternTrees$Terms;II)I"⟩) := List.mem_filter.mpr ⟨List.mem_append_left _ (List.mem_map.mpr ⟨(⟨"PatternTrees$Rules", "findFaultInTerm", "(LPatternTrees$Terms;II)I"⟩, 10), (show _ ∈ lw_privs from List.mem_append_right _ (List.mem_append_left _ (List.mem_of_getElem? (i := 7) rfl))), rfl⟩), rfl⟩
theorem am_w513 : am_gw (Cond.fieldLink "PatternTrees$Rules" 74 "PatternTrees$Terms" "next" "[I") := am_g1 117 rfl rfl
theorem am_of120 : am_okF0 "PatternTrees$Rules" "PatternTrees" 74 7 10 := ⟨by decide, Or.inl am_w513⟩
theorem am_w514 : am_gw (Cond.fieldLink "PatternTrees$Rules" 77 "PatternTrees$Terms" "at" "[I") := am_g1 91 rfl rfl
theorem am_of121 : am_okF0 "PatternTrees$Rules" "PatternTrees" 77 7 3 := ⟨by decide, Or.inl am_w514⟩
theorem am_w515 : am_gw (Cond.fieldLink "PatternTrees$Rules" 80 "PatternTrees$Terms" "kind" "[I") := am_g1 88 rfl rfl
theorem am_of122 : am_okF0 "PatternTrees$Rules" "PatternTrees" 80 7 2 := ⟨by decide, Or.inl am_w515⟩
theorem am_w516 : am_gw (Cond.methodLink "PatternTrees$Rules" 83 ⟨"PatternTrees$Terms", "isCon", "(I)Z"⟩) := am_g3 209 rfl rfl
theorem am_ol110 : am_okL0 "PatternTrees$Rules" "PatternTrees" 83 137 := Or.inl am_w516
theorem am_w517 : am_gw (Cond.fieldLink "PatternTrees$Rules" 87 "PatternTrees$Terms" "first" "[I") := am_g1 112 rfl rfl
theorem am_of123 : am_okF0 "PatternTrees$Rules" "PatternTrees" 87 7 9 := ⟨by decide, Or.inl am_w517⟩
theorem am_w518 : am_gw (Cond.fieldLink "PatternTrees$Rules" 90 "PatternTrees$Terms" "name" "[J") := am_g1 99 rfl rfl
theorem am_of124 : am_okF0 "PatternTrees$Rules" "PatternTrees" 90 7 6 := ⟨by decide, Or.inl am_w518⟩
theorem am_w519 : am_gw (Cond.code ⟨"PatternTrees$Types", "conOf", "(J)I"⟩ prog_10_method_7_code 4 (Option.some Jvm.ClassFile.FieldType.int)) := am_g3 191 rfl rfl
theorem am_oc168 : am_okC 168 := ⟨am_w519, am_w405, ⟨by decide +kernel, by decide +kernel⟩, by decide +kernel, by decide +kernel, rfl⟩
theorem am_w520 : am_gw (Cond.methodLink "PatternTrees$Rules" 94 ⟨"PatternTrees$Types", "conOf", "(J)I"⟩) := am_g3 213 rfl rfl
theorem am_ol111 : am_okL0 "PatternTrees$Rules" "PatternTrees" 94 168 := Or.inl am_w520
theorem am_w521 : am_gw (Cond.instanceMethod ⟨"PatternTrees$Types", "conOf", "(J)I"⟩) := am_g3 189 rfl rfl
theorem am_w522 : am_gw (Cond.selects "PatternTrees$Types" ⟨"PatternTrees$Types", "conOf", "(J)I"⟩ ⟨"PatternTrees$Types", "conOf", "(J)I"⟩) := am_g3 190 rfl rfl
theorem am_w523 : am_gw (Cond.fieldLink "PatternTrees$Rules" 98 "PatternTrees$Types" "conType" "[I") := am_g2 8 rfl rfl
theorem am_of125 : am_okF0 "PatternTrees$Rules" "PatternTrees" 98 10 5 := ⟨by decide, Or.inl am_w523⟩
theorem am_w524 : am_gw (Cond.fieldLink "PatternTrees$Rules" 101 "PatternTrees$Terms" "nameAt" "[I") := am_g1 93 rfl rfl
theorem am_of126 : am_okF0 "PatternTrees$Rules" "PatternTrees" 101 7 4 := ⟨by decide, Or.inl am_w524⟩
theorem am_w525 : am_gw (Cond.fieldLink "PatternTrees$Rules" 104 "PatternTrees$Terms" "con" "[I") := am_g1 108 rfl rfl
theorem am_of127 : am_okF0 "PatternTrees$Rules" "PatternTrees" 104 7 8 := ⟨by decide, Or.inl am_w525⟩
theorem am_w526 : am_gw (Cond.fieldLink "PatternTrees$Rules" 107 "PatternTrees$Types" "arity" "[I") := am_g2 11 rfl rfl
theorem am_of128 : am_okF0 "PatternTrees$Rules" "PatternTrees" 107 10 6 := ⟨by decide, Or.inl am_w526⟩
theorem am_w527 : am_gw (Cond.fieldLink "PatternTrees$Rules" 110 "PatternTrees$Types" "argType" "[I") := am_g2 16 rfl rfl
theorem am_of129 : am_okF0 "PatternTrees$Rules" "PatternTrees" 110 10 8 := ⟨by decide, Or.inl am_w527⟩
theorem am_w528 : am_gw (Cond.fieldLink "PatternTrees$Rules" 113 "PatternTrees$Terms" "closeAt" "[I") := am_g1 96 rfl rfl
theorem am_of130 : am_okF0 "PatternTrees$Rules" "PatternTrees" 113 7 5 := ⟨by decide, Or.inl am_w528⟩
theorem am_w529 : am_gw (Cond.fieldLink "PatternTrees$Rules" 116 "PatternTrees$Types" "isNew" "[Z") := am_g2 1 rfl rfl
theorem am_of131 : am_okF0 "PatternTrees$Rules" "PatternTrees" 116 10 2 := ⟨by decide, Or.inl am_w529⟩
theorem am_w530 : am_gw (Cond.methodLink "PatternTrees$Search" 3 ⟨"java/lang/Object", "<init>", "()V"⟩) := am_g1 162 rfl rfl
theorem am_w531 : am_gw (Cond.classLink "PatternTrees$Search" 9 "PatternTrees$Line") := am_g1 163 rfl rfl
theorem am_w532 : am_gw (Cond.instantiable "PatternTrees$Line" 2) := am_g1 164 rfl rfl
theorem am_w533 : am_gw (Cond.code ⟨"PatternTrees$Line", "<init>", "()V"⟩ prog_4_method_1_code 1 (Option.none : Option Jvm.ClassFile.FieldType)) := am_g1 167 rfl rfl
theorem am_oc101 : am_okC 101 := ⟨am_w533, am_w472, ⟨by decide +kernel, by decide +kernel⟩, by decide +kernel, by decide +kernel, rfl⟩
theorem am_ol112 : am_okL0 "PatternTrees$Search" "PatternTrees" 11 101 := Or.inr (List.mem_of_getElem? (i := 8) rfl)
theorem am_w534 : am_gw (Cond.instanceMethod ⟨"PatternTrees$Line", "<init>", "()V"⟩) := am_g1 166 rfl rfl
theorem am_w535 : am_gw (Cond.fieldLink "PatternTrees$Search" 12 "PatternTrees$Search" "line" "LPatternTrees$Line;") := am_g1 209 rfl rfl
theorem am_w536 : am_gw (Cond.classLink "PatternTrees$Search" 18 "PatternTrees$Asks") := am_g1 178 rfl rfl
theorem am_w537 : am_gw (Cond.instantiable "PatternTrees$Asks" 7) := am_g1 179 rfl rfl
theorem am_w538 : am_gw (Cond.code ⟨"PatternTrees$Asks", "<init>", "()V"⟩ prog_2_method_1_code 1 (Option.none : Option Jvm.ClassFile.FieldType)) := am_g1 182 rfl rfl
theorem am_oc78 : am_okC 78 := ⟨am_w538, am_w328, ⟨by decide +kernel, by decide +kernel⟩, by decide +kernel, by decide +kernel, rfl⟩
theorem am_ol113 : am_okL0 "PatternTrees$Search" "PatternTrees" 20 78 := Or.inr (List.mem_of_getElem? (i := 9) rfl)
theorem am_w539 : am_gw (Cond.instanceMethod ⟨"PatternTrees$Asks", "<init>", "()V"⟩) := am_g1 181 rfl rfl
theorem am_w540 : am_gw (Cond.fieldLink "PatternTrees$Search" 21 "PatternTrees$Search" "asks" "LPatternTrees$Asks;") := am_g1 211 rfl rfl
theorem am_w541 : am_gw (Cond.fieldLink "PatternTrees$Search" 25 "PatternTrees$Search" "settled" "[I") := am_g1 212 rfl rfl
theorem am_w542 : am_gw (Cond.fieldLink "PatternTrees$Search" 29 "PatternTrees$Search" "exampleSought" "Z") := am_g1 213 rfl rfl
theorem am_of132 : am_okF0 "PatternTrees$Search" "PatternTrees" 21 6 1 := ⟨by decide, Or.inl am_w540⟩
theorem am_w543 : am_gw (Cond.code ⟨"PatternTrees$Asks", "collect", "(LPatternTrees$Rules;)V"⟩ prog_2_method_2_code 3 (Option.none : Option Jvm.ClassFile.FieldType)) := am_g3 226 rfl rfl
theorem am_oc79 : am_okC 79 := ⟨am_w543, am_w328, ⟨by decide +kernel, by decide +kernel⟩, by decide +kernel, by decide +kernel, rfl⟩
theorem am_w544 : am_gw (Cond.methodLink "PatternTrees$Search" 33 ⟨"PatternTrees$Asks", "collect", "(LPatternTrees$Rules;)V"⟩) := am_g3 223 rfl rfl
theorem am_ol114 : am_okL0 "PatternTrees$Search" "PatternTrees" 33 79 := Or.inl am_w544
theorem am_w545 : am_gw (Cond.instanceMethod ⟨"PatternTrees$Asks", "collect", "(LPatternTrees$Rules;)V"⟩) := am_g3 224 rfl rfl
theorem am_w546 : am_gw (Cond.selects "PatternTrees$Asks" ⟨"PatternTrees$Asks", "collect", "(LPatternTrees$Rules;)V"⟩ ⟨"PatternTrees$Asks", "collect", "(LPatternTrees$Rules;)V"⟩) := am_g3 225 rfl rfl
theorem am_of133 : am_okF0 "PatternTrees$Search" "PatternTrees" 12 6 0 := ⟨by decide, Or.inl am_w535⟩
theorem am_w547 : am_gw (Cond.code ⟨"PatternTrees$Line", "clear", "()V"⟩ prog_4_method_2_code 1 (Option.none : Option Jvm.ClassFile.FieldType)) := am_g4 11 rfl rfl
theorem am_oc102 : am_okC 102 := ⟨am_w547, am_w472, ⟨by decide +kernel, by decide +kernel⟩, by decide +kernel, by decide +kernel, rfl⟩
theorem am_w548 : am_gw (Cond.methodLink "PatternTrees$Search" 37 ⟨"PatternTrees$Line", "clear", "()V"⟩) := am_g4 8 rfl rfl
theorem am_ol115 : am_okL0 "PatternTrees$Search" "PatternTrees" 37 102 := Or.inl am_w548
theorem am_w549 : am_gw (Cond.instanceMethod ⟨"PatternTrees$Line", "clear", "()V"⟩) := am_g4 9 rfl rfl
theorem am_w550 : am_gw (Cond.selects "PatternTrees$Line" ⟨"PatternTrees$Line", "clear", "()V"⟩ ⟨"PatternTrees$Line", "clear", "()V"⟩) := am_g4 10 rfl rfl
theorem am_of134 : am_okF0 "PatternTrees$Search" "PatternTrees" 29 6 3 := ⟨by decide, Or.inl am_w542⟩
theorem am_w551 : am_gw (Cond.code ⟨"PatternTrees$Search", "unsettle", "()V"⟩ prog_6_method_5_code 2 (Option.none : Option Jvm.ClassFile.FieldType)) := am_g4 75 rfl rfl
theorem am_oc120 : am_okC 120 := ⟨am_w551, am_w23, ⟨by decide +kernel, by decide +kernel⟩, by decide +kernel, by decide +kernel, rfl⟩
theorem am_w552 : am_gw (Cond.methodLink "PatternTrees$Search" 40 ⟨"PatternTrees$Search", "unsettle", "()V"⟩) := am_g4 72 rfl rfl
theorem am_ol116 : am_okL0 "PatternTrees$Search" "PatternTrees" 40 120 := Or.inl am_w552
theorem am_w553 : am_gw (Cond.instanceMethod ⟨"PatternTrees$Search", "unsettle", "()V"⟩) := am_g4 74 rfl rfl
theorem am_sl120 : am_gw (Cond.selects "PatternTrees$Search" ⟨"PatternTrees$Search", "unsettle", "()V"⟩ ⟨"PatternTrees$Search", "unsettle", "()V"⟩) := List.mem_filter.mpr ⟨List.mem_append_left _ (List.mem_map.mpr ⟨(⟨"PatternTrees$Search", "unsettle", "()V"⟩, 4), (show _ ∈ lw_privs from List.mem_append_right _ (List.mem_append_left _ (List.mem_of_getElem? (i := 15) rfl))), rfl⟩), rfl⟩
theorem am_w554 : am_gw (Cond.fieldLink "PatternTrees$Search" 43 "PatternTrees$Rules" "types" "LPatternTrees$Types;") := am_g2 60 rfl rfl
theorem am_of135 : am_okF0 "PatternTrees$Search" "PatternTrees" 43 5 0 := ⟨by decide, Or.inl am_w554⟩
theorem am_w555 : am_gw (Cond.fieldLink "PatternTrees$Search" 49 "PatternTrees$Rules" "plainRows" "I") := am_g2 77 rfl rfl
theorem am_of136 : am_okF0 "PatternTrees$Search" "PatternTrees" 49 5 4 := ⟨by decide, Or.inl am_w555⟩
theorem am_w556 : am_gw (Cond.code ⟨"PatternTrees$Search", "escapes", "(LPatternTrees$Types;II)Z"⟩ prog_6_method_7_code 10 (Option.some Jvm.ClassFile.FieldType.boolean)) := am_g4 79 rfl rfl
theorem am_oc122 : am_okC 122 := ⟨am_w556, am_w23, ⟨by decide +kernel, by decide +kernel⟩, by decide +kernel, by decide +kernel, rfl⟩
theorem am_w557 : am_gw (Cond.methodLink "PatternTrees$Search" 53 ⟨"PatternTrees$Search", "escapes", "(LPatternTrees$Types;II)Z"⟩) := am_g4 76 rfl rfl
theorem am_ol117 : am_okL0 "PatternTrees$Search" "PatternTrees" 53 122 := Or.inl am_w557
theorem am_w558 : am_gw (Cond.instanceMethod ⟨"PatternTrees$Search", "escapes", "(LPatternTrees$Types;II)Z"⟩) := am_g4 78 rfl rfl
theorem am_sl122 : am_gw (Cond.selects "PatternTrees$Search" ⟨"PatternTrees$Search", "escapes", "(LPatternTrees$Types;II)Z"⟩ ⟨"PatternTrees$Search", "escapes", "(LPatternTrees$Types;II)Z"⟩) := List.mem_filter.mpr ⟨List.mem_append_left _ (List.mem_map.mpr ⟨(⟨"PatternTrees$Search", "escapes", "(LPatternTrees$Types;II)Z"⟩, 4), (show _ ∈ lw_privs from List.mem_append_right _ (List.mem_append_right _ (List.mem_append_left _ (List.mem_of_getElem? (i := 0) rfl)))), rfl⟩), rfl⟩
theorem am_w559 : am_gw (Cond.code ⟨"PatternTrees$Search", "settleExample", "(LPatternTrees$Types;I)V"⟩ prog_6_method_8_code 6 (Option.none : Option Jvm.ClassFile.FieldType)) := am_g4 119 rfl rfl
theorem am_oc123 : am_okC 123 := ⟨am_w559, am_w23, ⟨by decide +kernel, by decide +kernel⟩, by decide +kernel, by decide +kernel, rfl⟩
theorem am_w560 : am_gw (Cond.methodLink "PatternTrees$Search" 57 ⟨"PatternTrees$Search", "settleExample", "(LPatternTrees$Types;I)V"⟩) := am_g4 116 rfl rfl
theorem am_ol118 : am_okL0 "PatternTrees$Search" "PatternTrees" 57 123 := Or.inl am_w560
theorem am_w561 : am_gw (Cond.instanceMethod ⟨"PatternTrees$Search", "settleExample", "(LPatternTrees$Types;I)V"⟩) := am_g4 118 rfl rfl
theorem am_sl123 : am_gw (Cond.selects "PatternTrees$Search" ⟨"PatternTrees$Search", "settleExample", "(LPatternTrees$Types;I)V"⟩ ⟨"PatternTrees$Search", "settleExample", "(LPatternTrees$Types;I)V"⟩) := List.mem_filter.mpr ⟨List.mem_append_left _ (List.mem_map.mpr ⟨(⟨"PatternTrees$Search", "settleExample", "(LPatternTrees$Types;I)V"⟩, 4), (show _ ∈ lw_privs from List.mem_append_right _ (List.mem_append_right _ (List.mem_append_left _ (List.mem_of_getElem? (i := 8) rfl)))), rfl⟩), rfl⟩
theorem am_w562 : am_gw (Cond.code ⟨"PatternTrees$Search", "writeExample", "(LPatternTrees$Rules;)V"⟩ prog_6_method_16_code 3 (Option.none : Option Jvm.ClassFile.FieldType)) := am_g4 127 rfl rfl
theorem am_oc131 : am_okC 131 := ⟨am_w562, am_w23, ⟨by decide +kernel, by decide +kernel⟩, by decide +kernel, by decide +kernel, rfl⟩
theorem am_w563 : am_gw (Cond.methodLink "PatternTrees$Search" 61 ⟨"PatternTrees$Search", "writeExample", "(LPatternTrees$Rules;)V"⟩) := am_g4 124 rfl rfl
theorem am_ol119 : am_okL0 "PatternTrees$Search" "PatternTrees" 61 131 := Or.inl am_w563
theorem am_w564 : am_gw (Cond.instanceMethod ⟨"PatternTrees$Search", "writeExample", "(LPatternTrees$Rules;)V"⟩) := am_g4 126 rfl rfl
theorem am_sl131 : am_gw (Cond.selects "PatternTrees$Search" ⟨"PatternTrees$Search", "writeExample", "(LPatternTrees$Rules;)V"⟩ ⟨"PatternTrees$Search", "writeExample", "(LPatternTrees$Rules;)V"⟩) := List.mem_filter.mpr ⟨List.mem_append_left _ (List.mem_map.mpr ⟨(⟨"PatternTrees$Search", "writeExample", "(LPatternTrees$Rules;)V"⟩, 4), (show _ ∈ lw_privs from List.mem_append_right _ (List.mem_append_right _ (List.mem_append_left _ (List.mem_of_getElem? (i := 10) rfl)))), rfl⟩), rfl⟩
theorem am_w565 : am_gw (Cond.fieldLink "PatternTrees$Search" 64 "PatternTrees$Asks" "begin" "[I") := am_g1 192 rfl rfl
theorem am_of137 : am_okF0 "PatternTrees$Search" "PatternTrees" 64 2 5 := ⟨by decide, Or.inl am_w565⟩
theorem am_w566 : am_gw (Cond.fieldLink "PatternTrees$Search" 67 "PatternTrees$Asks" "spot" "[I") := am_g1 188 rfl rfl
theorem am_of138 : am_okF0 "PatternTrees$Search" "PatternTrees" 67 2 3 := ⟨by decide, Or.inl am_w566⟩
theorem am_w567 : am_gw (Cond.fieldLink "PatternTrees$Search" 70 "PatternTrees$Asks" "answer" "[I") := am_g1 190 rfl rfl
theorem am_of139 : am_okF0 "PatternTrees$Search" "PatternTrees" 70 2 4 := ⟨by decide, Or.inl am_w567⟩
theorem am_w568 : am_gw (Cond.code ⟨"PatternTrees$Search", "settle", "(III)I"⟩ prog_6_method_6_code 8 (Option.some Jvm.ClassFile.FieldType.int)) := am_g4 111 rfl rfl
theorem am_oc121 : am_okC 121 := ⟨am_w568, am_w23, ⟨by decide +kernel, by decide +kernel⟩, by decide +kernel, by decide +kernel, rfl⟩
theorem am_w569 : am_gw (Cond.methodLink "PatternTrees$Search" 73 ⟨"PatternTrees$Search", "settle", "(III)I"⟩) := am_g4 108 rfl rfl
theorem am_ol120 : am_okL0 "PatternTrees$Search" "PatternTrees" 73 121 := Or.inl am_w569
theorem am_w570 : am_gw (Cond.instanceMethod ⟨"PatternTrees$Search", "settle", "(III)I"⟩) := am_g4 110 rfl rfl
theorem am_sl121 : am_gw (Cond.selects "PatternTrees$Search" ⟨"PatternTrees$Search", "settle", "(III)I"⟩ ⟨"PatternTrees$Search", "settle", "(III)I"⟩) := List.mem_filter.mpr ⟨List.mem_append_left _ (List.mem_map.mpr ⟨(⟨"PatternTrees$Search", "settle", "(III)I"⟩, 4), (show _ ∈ lw_privs from List.mem_append_right _ (List.mem_append_right _ (List.mem_append_left _ (List.mem_of_getElem? (i := 6) rfl)))), rfl⟩), rfl⟩
theorem am_of140 : am_okF0 "PatternTrees$Search" "PatternTrees" 25 6 2 := ⟨by decide, Or.inl am_w541⟩
theorem am_w571 : am_gw (Cond.code ⟨"PatternTrees$Asks", "wantedAt", "(II)I"⟩ prog_2_method_3_code 3 (Option.some Jvm.ClassFile.FieldType.int)) := am_g4 103 rfl rfl
theorem am_oc80 : am_okC 80 := ⟨am_w571, am_w328, ⟨by decide +kernel, by decide +kernel⟩, by decide +kernel, by decide +kernel, rfl⟩
theorem am_w572 : am_gw (Cond.methodLink "PatternTrees$Search" 77 ⟨"PatternTrees$Asks", "wantedAt", "(II)I"⟩) := am_g4 100 rfl rfl
theorem am_ol121 : am_okL0 "PatternTrees$Search" "PatternTrees" 77 80 := Or.inl am_w572
theorem am_w573 : am_gw (Cond.instanceMethod ⟨"PatternTrees$Asks", "wantedAt", "(II)I"⟩) := am_g4 101 rfl rfl
theorem am_w574 : am_gw (Cond.selects "PatternTrees$Asks" ⟨"PatternTrees$Asks", "wantedAt", "(II)I"⟩ ⟨"PatternTrees$Asks", "wantedAt", "(II)I"⟩) := am_g4 102 rfl rfl
theorem am_w575 : am_gw (Cond.code ⟨"PatternTrees$Search", "openAsk", "(I)I"⟩ prog_6_method_10_code 4 (Option.some Jvm.ClassFile.FieldType.int)) := am_g4 83 rfl rfl
theorem am_oc125 : am_okC 125 := ⟨am_w575, am_w23, ⟨by decide +kernel, by decide +kernel⟩, by decide +kernel, by decide +kernel, rfl⟩
theorem am_w576 : am_gw (Cond.methodLink "PatternTrees$Search" 81 ⟨"PatternTrees$Search", "openAsk", "(I)I"⟩) := am_g4 80 rfl rfl
theorem am_ol122 : am_okL0 "PatternTrees$Search" "PatternTrees" 81 125 := Or.inl am_w576
theorem am_w577 : am_gw (Cond.instanceMethod ⟨"PatternTrees$Search", "openAsk", "(I)I"⟩) := am_g4 82 rfl rfl
theorem am_sl125 : am_gw (Cond.selects "PatternTrees$Search" ⟨"PatternTrees$Search", "openAsk", "(I)I"⟩ ⟨"PatternTrees$Search", "openAsk", "(I)I"⟩) := List.mem_filter.mpr ⟨List.mem_append_left _ (List.mem_map.mpr ⟨(⟨"PatternTrees$Search", "openAsk", "(I)I"⟩, 4), (show _ ∈ lw_privs from List.mem_append_right _ (List.mem_append_right _ (List.mem_append_left _ (List.mem_of_getElem? (i := 1) rfl)))), rfl⟩), rfl⟩
theorem am_w578 : am_gw (Cond.code ⟨"PatternTrees$Search", "unwantedAnswer", "(LPatternTrees$Types;II)I"⟩ prog_6_method_14_code 7 (Option.some Jvm.ClassFile.FieldType.int)) := am_g4 91 rfl rfl
theorem am_oc129 : am_okC 129 := ⟨am_w578, am_w23, ⟨by decide +kernel, by decide +kernel⟩, by decide +kernel, by decide +kernel, rfl⟩
theorem am_w579 : am_gw (Cond.methodLink "PatternTrees$Search" 85 ⟨"PatternTrees$Search", "unwantedAnswer", "(LPatternTrees$Types;II)I"⟩) := am_g4 88 rfl rfl
theorem am_ol123 : am_okL0 "PatternTrees$Search" "PatternTrees" 85 129 := Or.inl am_w579
theorem am_w580 : am_gw (Cond.instanceMethod ⟨"PatternTrees$Search", "unwantedAnswer", "(LPatternTrees$Types;II)I"⟩) := am_g4 90 rfl rfl
theorem am_sl129 : am_gw (Cond.selects "PatternTrees$Search" ⟨"PatternTrees$Search", "unwantedAnswer", "(LPatternTrees$Types;II)I"⟩ ⟨"PatternTrees$Search", "unwantedAnswer", "(LPatternTrees$Types;II)I"⟩) := List.mem_filter.mpr ⟨List.mem_append_left _ (List.mem_map.mpr ⟨(⟨"PatternTrees$Search", "unwantedAnswer", "(LPatternTrees$Types;II)I"⟩, 4), (show _ ∈ lw_privs from List.mem_append_right _ (List.mem_append_right _ (List.mem_append_left _ (List.mem_of_getElem? (i := 2) rfl)))), rfl⟩), rfl⟩
theorem am_w581 : am_gw (Cond.code ⟨"PatternTrees$Search", "firstAnswer", "(LPatternTrees$Types;II)I"⟩ prog_6_method_11_code 5 (Option.some Jvm.ClassFile.FieldType.int)) := am_g4 107 rfl rfl
theorem am_oc126 : am_okC 126 := ⟨am_w581, am_w23, ⟨by decide +kernel, by decide +kernel⟩, by decide +kernel, by decide +kernel, rfl⟩
theorem am_w582 : am_gw (Cond.methodLink "PatternTrees$Search" 89 ⟨"PatternTrees$Search", "firstAnswer", "(LPatternTrees$Types;II)I"⟩) := am_g4 104 rfl rfl
theorem am_ol124 : am_okL0 "PatternTrees$Search" "PatternTrees" 89 126 := Or.inl am_w582
theorem am_w583 : am_gw (Cond.instanceMethod ⟨"PatternTrees$Search", "firstAnswer", "(LPatternTrees$Types;II)I"⟩) := am_g4 106 rfl rfl
theorem am_sl126 : am_gw (Cond.selects "PatternTrees$Search" ⟨"PatternTrees$Search", "firstAnswer", "(LPatternTrees$Types;II)I"⟩ ⟨"PatternTrees$Search", "firstAnswer", "(LPatternTrees$Types;II)I"⟩) := List.mem_filter.mpr ⟨List.mem_append_left _ (List.mem_map.mpr ⟨(⟨"PatternTrees$Search", "firstAnswer", "(LPatternTrees$Types;II)I"⟩, 4), (show _ ∈ lw_privs from List.mem_append_right _ (List.mem_append_right _ (List.mem_append_left _ (List.mem_of_getElem? (i := 5) rfl)))), rfl⟩), rfl⟩
theorem am_w584 : am_gw (Cond.code ⟨"PatternTrees$Search", "nextAnswer", "(LPatternTrees$Types;III)I"⟩ prog_6_method_12_code 6 (Option.some Jvm.ClassFile.FieldType.int)) := am_g4 115 rfl rfl
theorem am_oc127 : am_okC 127 := ⟨am_w584, am_w23, ⟨by decide +kernel, by decide +kernel⟩, by decide +kernel, by decide +kernel, rfl⟩
theorem am_w585 : am_gw (Cond.methodLink "PatternTrees$Search" 92 ⟨"PatternTrees$Search", "nextAnswer", "(LPatternTrees$Types;III)I"⟩) := am_g4 112 rfl rfl
theorem am_ol125 : am_okL0 "PatternTrees$Search" "PatternTrees" 92 127 := Or.inl am_w585
theorem am_w586 : am_gw (Cond.instanceMethod ⟨"PatternTrees$Search", "nextAnswer", "(LPatternTrees$Types;III)I"⟩) := am_g4 114 rfl rfl
theorem am_sl127 : am_gw (Cond.selects "PatternTrees$Search" ⟨"PatternTrees$Search", "nextAnswer", "(LPatternTrees$Types;III)I"⟩ ⟨"PatternTrees$Search", "nextAnswer", "(LPatternTrees$Types;III)I"⟩) := List.mem_filter.mpr ⟨List.mem_append_left _ (List.mem_map.mpr ⟨(⟨"PatternTrees$Search", "nextAnswer", "(LPatternTrees$Types;III)I"⟩, 4), (show _ ∈ lw_privs from List.mem_append_right _ (List.mem_append_right _ (List.mem_append_left _ (List.mem_of_getElem? (i := 7) rfl)))), rfl⟩), rfl⟩
theorem am_w587 : am_gw (Cond.code ⟨"PatternTrees$Search", "settleFirst", "(LPatternTrees$Types;III)I"⟩ prog_6_method_9_code 9 (Option.some Jvm.ClassFile.FieldType.int)) := am_g4 123 rfl rfl
theorem am_oc124 : am_okC 124 := ⟨am_w587, am_w23, ⟨by decide +kernel, by decide +kernel⟩, by decide +kernel, by decide +kernel, rfl⟩
theorem am_w588 : am_gw (Cond.methodLink "PatternTrees$Search" 96 ⟨"PatternTrees$Search", "settleFirst", "(LPatternTrees$Types;III)I"⟩) := am_g4 120 rfl rfl
theorem am_ol126 : am_okL0 "PatternTrees$Search" "PatternTrees" 96 124 := Or.inl am_w588
theorem am_w589 : am_gw (Cond.instanceMethod ⟨"PatternTrees$Search", "settleFirst", "(LPatternTrees$Types;III)I"⟩) := am_g4 122 rfl rfl
theorem am_sl124 : am_gw (Cond.selects "PatternTrees$Search" ⟨"PatternTrees$Search", "settleFirst", "(LPatternTrees$Types;III)I"⟩ ⟨"PatternTrees$Search", "settleFirst", "(LPatternTrees$Types;III)I"⟩) := List.mem_filter.mpr ⟨List.mem_append_left _ (List.mem_map.mpr ⟨(⟨"PatternTrees$Search", "settleFirst", "(LPatternTrees$Types;III)I"⟩, 4), (show _ ∈ lw_privs from List.mem_append_right _ (List.mem_append_right _ (List.mem_append_left _ (List.mem_of_getElem? (i := 9) rfl)))), rfl⟩), rfl⟩
theorem am_w590 : am_gw (Cond.code ⟨"java/lang/Integer", "numberOfTrailingZeros", "(I)I"⟩ prog_14_method_48_code 2 (Option.some Jvm.ClassFile.FieldType.int)) := am_g4 86 rfl rfl
theorem am_w591 : am_gw (Cond.initialized "java/lang/Integer") := am_g1 18 rfl rfl
theorem am_oc183 : am_okC 183 := ⟨am_w590, am_w591, ⟨by decide +kernel, by decide +kernel⟩, by decide +kernel, by decide +kernel, rfl⟩
theorem am_w592 : am_gw (Cond.methodLink "PatternTrees$Search" 99 ⟨"java/lang/Integer", "numberOfTrailingZeros", "(I)I"⟩) := am_g4 84 rfl rfl
theorem am_ol127 : am_okL0 "PatternTrees$Search" "PatternTrees" 99 183 := Or.inl am_w592
theorem am_w593 : am_gw (Cond.static ⟨"java/lang/Integer", "numberOfTrailingZeros", "(I)I"⟩) := am_g4 85 rfl rfl
theorem am_w594 : am_gw (Cond.fieldLink "PatternTrees$Search" 104 "PatternTrees$Types" "firstCon" "[I") := am_g2 4 rfl rfl
theorem am_of141 : am_okF0 "PatternTrees$Search" "PatternTrees" 104 10 3 := ⟨by decide, Or.inl am_w594⟩
theorem am_w595 : am_gw (Cond.fieldLink "PatternTrees$Search" 109 "PatternTrees$Types" "conType" "[I") := am_g2 9 rfl rfl
theorem am_of142 : am_okF0 "PatternTrees$Search" "PatternTrees" 109 10 5 := ⟨by decide, Or.inl am_w595⟩
theorem am_w596 : am_gw (Cond.code ⟨"PatternTrees$Search", "leastWanted", "(III)I"⟩ prog_6_method_13_code 7 (Option.some Jvm.ClassFile.FieldType.int)) := am_g4 99 rfl rfl
theorem am_oc128 : am_okC 128 := ⟨am_w596, am_w23, ⟨by decide +kernel, by decide +kernel⟩, by decide +kernel, by decide +kernel, rfl⟩
theorem am_w597 : am_gw (Cond.methodLink "PatternTrees$Search" 112 ⟨"PatternTrees$Search", "leastWanted", "(III)I"⟩) := am_g4 96 rfl rfl
theorem am_ol128 : am_okL0 "PatternTrees$Search" "PatternTrees" 112 128 := Or.inl am_w597
theorem am_w598 : am_gw (Cond.instanceMethod ⟨"PatternTrees$Search", "leastWanted", "(III)I"⟩) := am_g4 98 rfl rfl
theorem am_sl128 : am_gw (Cond.selects "PatternTrees$Search" ⟨"PatternTrees$Search", "leastWanted", "(III)I"⟩ ⟨"PatternTrees$Search", "leastWanted", "(III)I"⟩) := List.mem_filter.mpr ⟨List.mem_append_left _ (List.mem_map.mpr ⟨(⟨"PatternTrees$Search", "leastWanted", "(III)I"⟩, 4), (show _ ∈ lw_privs from List.mem_append_right _ (List.mem_append_right _ (List.mem_append_left _ (List.mem_of_getElem? (i := 4) rfl)))), rfl⟩), rfl⟩
theorem am_w599 : am_gw (Cond.fieldLink "PatternTrees$Search" 115 "PatternTrees$Types" "consOf" "[I") := am_g2 6 rfl rfl
theorem am_of143 : am_okF0 "PatternTrees$Search" "PatternTrees" 115 10 4 := ⟨by decide, Or.inl am_w599⟩
theorem am_w600 : am_gw (Cond.code ⟨"PatternTrees$Search", "leastUnwanted", "(III)I"⟩ prog_6_method_15_code 6 (Option.some Jvm.ClassFile.FieldType.int)) := am_g4 95 rfl rfl
theorem am_oc130 : am_okC 130 := ⟨am_w600, am_w23, ⟨by decide +kernel, by decide +kernel⟩, by decide +kernel, by decide +kernel, rfl⟩
theorem am_w601 : am_gw (Cond.methodLink "PatternTrees$Search" 118 ⟨"PatternTrees$Search", "leastUnwanted", "(III)I"⟩) := am_g4 92 rfl rfl
theorem am_ol129 : am_okL0 "PatternTrees$Search" "PatternTrees" 118 130 := Or.inl am_w601
theorem am_w602 : am_gw (Cond.instanceMethod ⟨"PatternTrees$Search", "leastUnwanted", "(III)I"⟩) := am_g4 94 rfl rfl
theorem am_sl130 : am_gw (Cond.selects "PatternTrees$Search" ⟨"PatternTrees$Search", "leastUnwanted", "(III)I"⟩ ⟨"PatternTrees$Search", "leastUnwanted", "(III)I"⟩) := List.mem_filter.mpr ⟨List.mem_append_left _ (List.mem_map.mpr ⟨(⟨"PatternTrees$Search", "leastUnwanted", "(III)I"⟩, 4), (show _ ∈ lw_privs from List.mem_append_right _ (List.mem_append_right _ (List.mem_append_left _ (List.mem_of_getElem? (i := 3) rfl)))), rfl⟩), rfl⟩
theorem am_w603 : am_gw (Cond.fieldLink "PatternTrees$Search" 121 "PatternTrees$Rules" "columns" "I") := am_g2 70 rfl rfl
theorem am_of144 : am_okF0 "PatternTrees$Search" "PatternTrees" 121 5 2 := ⟨by decide, Or.inl am_w603⟩
theorem am_w604 : am_gw (Cond.methodLink "PatternTrees$Search" 124 ⟨"PatternTrees$Line", "put", "(I)V"⟩) := am_g4 128 rfl rfl
theorem am_ol130 : am_okL0 "PatternTrees$Search" "PatternTrees" 124 103 := Or.inl am_w604
theorem am_w605 : am_gw (Cond.fieldLink "PatternTrees$Search" 128 "PatternTrees$Rules" "columnType" "[I") := am_g2 82 rfl rfl
theorem am_of145 : am_okF0 "PatternTrees$Search" "PatternTrees" 128 5 6 := ⟨by decide, Or.inl am_w605⟩
theorem am_w606 : am_gw (Cond.code ⟨"PatternTrees$Search", "writeValue", "(LPatternTrees$Types;III)V"⟩ prog_6_method_17_code 7 (Option.none : Option Jvm.ClassFile.FieldType)) := am_g4 135 rfl rfl
theorem am_oc132 : am_okC 132 := ⟨am_w606, am_w23, ⟨by decide +kernel, by decide +kernel⟩, by decide +kernel, by decide +kernel, rfl⟩
theorem am_w607 : am_gw (Cond.methodLink "PatternTrees$Search" 131 ⟨"PatternTrees$Search", "writeValue", "(LPatternTrees$Types;III)V"⟩) := am_g4 132 rfl rfl
theorem am_ol131 : am_okL0 "PatternTrees$Search" "PatternTrees" 131 132 := Or.inl am_w607
theorem am_w608 : am_gw (Cond.instanceMethod ⟨"PatternTrees$Search", "writeValue", "(LPatternTrees$Types;III)V"⟩) := am_g4 134 rfl rfl
theorem am_sl132 : am_gw (Cond.selects "PatternTrees$Search" ⟨"PatternTrees$Search", "writeValue", "(LPatternTrees$Types;III)V"⟩ ⟨"PatternTrees$Search", "writeValue", "(LPatternTrees$Types;III)V"⟩) := List.mem_filter.mpr ⟨List.mem_append_left _ (List.mem_map.mpr ⟨(⟨"PatternTrees$Search", "writeValue", "(LPatternTrees$Types;III)V"⟩, 4), (show _ ∈ lw_privs from List.mem_append_right _ (List.mem_append_right _ (List.mem_append_left _ (List.mem_of_getElem? (i := 11) rfl)))), rfl⟩), rfl⟩
theorem am_w609 : am_gw (Cond.methodLink "PatternTrees$Search" 135 ⟨"PatternTrees$Asks", "spotOf", "(I)I"⟩) := am_g4 136 rfl rfl
theorem am_ol132 : am_okL0 "PatternTrees$Search" "PatternTrees" 135 81 := Or.inl am_w609
theorem am_w610 : am_gw (Cond.fieldLink "PatternTrees$Search" 138 "PatternTrees$Types" "isNew" "[Z") := am_g2 2 rfl rfl
theorem am_of146 : am_okF0 "PatternTrees$Search" "PatternTrees" 138 10 2 := ⟨by decide, Or.inl am_w610⟩
theorem am_w611 : am_gw (Cond.code ⟨"PatternTrees$Search", "writeConWith", "(LPatternTrees$Types;III)V"⟩ prog_6_method_18_code 6 (Option.none : Option Jvm.ClassFile.FieldType)) := am_g4 140 rfl rfl
theorem am_oc133 : am_okC 133 := ⟨am_w611, am_w23, ⟨by decide +kernel, by decide +kernel⟩, by decide +kernel, by decide +kernel, rfl⟩
theorem am_w612 : am_gw (Cond.methodLink "PatternTrees$Search" 142 ⟨"PatternTrees$Search", "writeConWith", "(LPatternTrees$Types;III)V"⟩) := am_g4 137 rfl rfl
theorem am_ol133 : am_okL0 "PatternTrees$Search" "PatternTrees" 142 133 := Or.inl am_w612
theorem am_w613 : am_gw (Cond.instanceMethod ⟨"PatternTrees$Search", "writeConWith", "(LPatternTrees$Types;III)V"⟩) := am_g4 139 rfl rfl
theorem am_sl133 : am_gw (Cond.selects "PatternTrees$Search" ⟨"PatternTrees$Search", "writeConWith", "(LPatternTrees$Types;III)V"⟩ ⟨"PatternTrees$Search", "writeConWith", "(LPatternTrees$Types;III)V"⟩) := List.mem_filter.mpr ⟨List.mem_append_left _ (List.mem_map.mpr ⟨(⟨"PatternTrees$Search", "writeConWith", "(LPatternTrees$Types;III)V"⟩, 4), (show _ ∈ lw_privs from List.mem_append_right _ (List.mem_append_right _ (List.mem_append_left _ (List.mem_of_getElem? (i := 12) rfl)))), rfl⟩), rfl⟩
theorem am_w614 : am_gw (Cond.code ⟨"PatternTrees$Line", "putNumber", "(I)V"⟩ prog_4_method_4_code 2 (Option.none : Option Jvm.ClassFile.FieldType)) := am_g4 150 rfl rfl
theorem am_oc104 : am_okC 104 := ⟨am_w614, am_w472, ⟨by decide +kernel, by decide +kernel⟩, by decide +kernel, by decide +kernel, rfl⟩
theorem am_w615 : am_gw (Cond.methodLink "PatternTrees$Search" 145 ⟨"PatternTrees$Line", "putNumber", "(I)V"⟩) := am_g4 147 rfl rfl
theorem am_ol134 : am_okL0 "PatternTrees$Search" "PatternTrees" 145 104 := Or.inl am_w615
theorem am_w616 : am_gw (Cond.instanceMethod ⟨"PatternTrees$Line", "putNumber", "(I)V"⟩) := am_g4 148 rfl rfl
theorem am_w617 : am_gw (Cond.selects "PatternTrees$Line" ⟨"PatternTrees$Line", "putNumber", "(I)V"⟩ ⟨"PatternTrees$Line", "putNumber", "(I)V"⟩) := am_g4 149 rfl rfl
theorem am_w618 : am_gw (Cond.fieldLink "PatternTrees$Search" 148 "PatternTrees$Types" "arity" "[I") := am_g2 12 rfl rfl
theorem am_of147 : am_okF0 "PatternTrees$Search" "PatternTrees" 148 10 6 := ⟨by decide, Or.inl am_w618⟩
theorem am_w619 : am_gw (Cond.fieldLink "PatternTrees$Search" 151 "PatternTrees$Types" "conName" "[J") := am_g2 14 rfl rfl
theorem am_of148 : am_okF0 "PatternTrees$Search" "PatternTrees" 151 10 7 := ⟨by decide, Or.inl am_w619⟩
theorem am_w620 : am_gw (Cond.code ⟨"PatternTrees$Line", "putName", "(J)V"⟩ prog_4_method_5_code 5 (Option.none : Option Jvm.ClassFile.FieldType)) := am_g4 144 rfl rfl
theorem am_oc105 : am_okC 105 := ⟨am_w620, am_w472, ⟨by decide +kernel, by decide +kernel⟩, by decide +kernel, by decide +kernel, rfl⟩
theorem am_w621 : am_gw (Cond.methodLink "PatternTrees$Search" 155 ⟨"PatternTrees$Line", "putName", "(J)V"⟩) := am_g4 141 rfl rfl
theorem am_ol135 : am_okL0 "PatternTrees$Search" "PatternTrees" 155 105 := Or.inl am_w621
theorem am_w622 : am_gw (Cond.instanceMethod ⟨"PatternTrees$Line", "putName", "(J)V"⟩) := am_g4 142 rfl rfl
theorem am_w623 : am_gw (Cond.selects "PatternTrees$Line" ⟨"PatternTrees$Line", "putName", "(J)V"⟩ ⟨"PatternTrees$Line", "putName", "(J)V"⟩) := am_g4 143 rfl rfl
theorem am_w624 : am_gw (Cond.fieldLink "PatternTrees$Search" 159 "PatternTrees$Types" "argType" "[I") := am_g2 17 rfl rfl
theorem am_of149 : am_okF0 "PatternTrees$Search" "PatternTrees" 159 10 8 := ⟨by decide, Or.inl am_w624⟩
theorem am_w625 : am_gw (Cond.methodLink "PatternTrees$Terms" 3 ⟨"java/lang/Object", "<init>", "()V"⟩) := am_g1 77 rfl rfl
theorem am_w626 : am_gw (Cond.fieldLink "PatternTrees$Terms" 9 "PatternTrees$Terms" "count" "I") := am_g1 78 rfl rfl
theorem am_w627 : am_gw (Cond.fieldLink "PatternTrees$Terms" 15 "PatternTrees$Terms" "head" "I") := am_g1 81 rfl rfl
theorem am_w628 : am_gw (Cond.fieldLink "PatternTrees$Terms" 18 "PatternTrees$Terms" "kind" "[I") := am_g1 85 rfl rfl
theorem am_w629 : am_gw (Cond.fieldLink "PatternTrees$Terms" 22 "PatternTrees$Terms" "at" "[I") := am_g1 90 rfl rfl
theorem am_w630 : am_gw (Cond.fieldLink "PatternTrees$Terms" 25 "PatternTrees$Terms" "nameAt" "[I") := am_g1 92 rfl rfl
theorem am_w631 : am_gw (Cond.fieldLink "PatternTrees$Terms" 28 "PatternTrees$Terms" "closeAt" "[I") := am_g1 95 rfl rfl
theorem am_w632 : am_gw (Cond.fieldLink "PatternTrees$Terms" 31 "PatternTrees$Terms" "name" "[J") := am_g1 98 rfl rfl
theorem am_w633 : am_gw (Cond.fieldLink "PatternTrees$Terms" 35 "PatternTrees$Terms" "number" "[I") := am_g1 101 rfl rfl
theorem am_w634 : am_gw (Cond.fieldLink "PatternTrees$Terms" 38 "PatternTrees$Terms" "con" "[I") := am_g1 105 rfl rfl
theorem am_w635 : am_gw (Cond.fieldLink "PatternTrees$Terms" 41 "PatternTrees$Terms" "first" "[I") := am_g1 109 rfl rfl
theorem am_w636 : am_gw (Cond.fieldLink "PatternTrees$Terms" 44 "PatternTrees$Terms" "next" "[I") := am_g1 114 rfl rfl
theorem am_of150 : am_okF0 "PatternTrees$Terms" "PatternTrees" 9 7 0 := ⟨by decide, Or.inl am_w626⟩
theorem am_w637 : am_gw (Cond.methodLink "PatternTrees$Terms" 47 ⟨"java/lang/Math", "min", "(II)I"⟩) := am_g3 151 rfl rfl
theorem am_w638 : am_gw (Cond.static ⟨"java/lang/Math", "min", "(II)I"⟩) := am_g3 35 rfl rfl
theorem am_w639 : am_gw (Cond.initialized "java/lang/Math") := am_g1 16 rfl rfl
theorem am_w640 : am_gw (Cond.code ⟨"java/lang/Math", "min", "(II)I"⟩ prog_15_method_69_code 2 (Option.some Jvm.ClassFile.FieldType.int)) := am_g3 36 rfl rfl
theorem am_of151 : am_okF0 "PatternTrees$Terms" "PatternTrees" 18 7 2 := ⟨by decide, Or.inl am_w628⟩
theorem am_of152 : am_okF0 "PatternTrees$Terms" "PatternTrees" 22 7 3 := ⟨by decide, Or.inl am_w629⟩
theorem am_of153 : am_okF0 "PatternTrees$Terms" "PatternTrees" 25 7 4 := ⟨by decide, Or.inl am_w630⟩
theorem am_of154 : am_okF0 "PatternTrees$Terms" "PatternTrees" 28 7 5 := ⟨by decide, Or.inl am_w631⟩
theorem am_of155 : am_okF0 "PatternTrees$Terms" "PatternTrees" 38 7 8 := ⟨by decide, Or.inl am_w634⟩
theorem am_of156 : am_okF0 "PatternTrees$Terms" "PatternTrees" 41 7 9 := ⟨by decide, Or.inl am_w635⟩
theorem am_of157 : am_okF0 "PatternTrees$Terms" "PatternTrees" 44 7 10 := ⟨by decide, Or.inl am_w636⟩
theorem am_w641 : am_gw (Cond.methodLink "PatternTrees$Tokens" 3 ⟨"java/lang/Object", "<init>", "()V"⟩) := am_g1 38 rfl rfl
theorem am_w642 : am_gw (Cond.fieldLink "PatternTrees$Tokens" 9 "PatternTrees$Tokens" "bytes" "[I") := am_g1 39 rfl rfl
theorem am_w643 : am_gw (Cond.fieldLink "PatternTrees$Tokens" 15 "PatternTrees$Tokens" "length" "I") := am_g1 40 rfl rfl
theorem am_w644 : am_gw (Cond.fieldLink "PatternTrees$Tokens" 19 "PatternTrees$Tokens" "kinds" "[I") := am_g1 42 rfl rfl
theorem am_w645 : am_gw (Cond.fieldLink "PatternTrees$Tokens" 22 "PatternTrees$Tokens" "places" "[I") := am_g1 43 rfl rfl
theorem am_w646 : am_gw (Cond.fieldLink "PatternTrees$Tokens" 25 "PatternTrees$Tokens" "numbers" "[I") := am_g1 44 rfl rfl
theorem am_w647 : am_gw (Cond.fieldLink "PatternTrees$Tokens" 28 "PatternTrees$Tokens" "names" "[J") := am_g1 45 rfl rfl
theorem am_w648 : am_gw (Cond.fieldLink "PatternTrees$Tokens" 32 "PatternTrees$Tokens" "count" "I") := am_g1 46 rfl rfl
theorem am_w649 : am_gw (Cond.fieldLink "PatternTrees$Tokens" 35 "PatternTrees$Tokens" "current" "I") := am_g1 47 rfl rfl
theorem am_of158 : am_okF0 "PatternTrees$Tokens" "PatternTrees" 15 8 1 := ⟨by decide, Or.inl am_w643⟩
theorem am_of159 : am_okF0 "PatternTrees$Tokens" "PatternTrees" 9 8 0 := ⟨by decide, Or.inl am_w642⟩
theorem am_of160 : am_okF0 "PatternTrees$Tokens" "PatternTrees" 19 8 2 := ⟨by decide, Or.inl am_w644⟩
theorem am_of161 : am_okF0 "PatternTrees$Tokens" "PatternTrees" 35 8 7 := ⟨by decide, Or.inl am_w649⟩
theorem am_of162 : am_okF0 "PatternTrees$Tokens" "PatternTrees" 22 8 3 := ⟨by decide, Or.inl am_w645⟩
theorem am_of163 : am_okF0 "PatternTrees$Tokens" "PatternTrees" 25 8 4 := ⟨by decide, Or.inl am_w646⟩
theorem am_of164 : am_okF0 "PatternTrees$Tokens" "PatternTrees" 28 8 5 := ⟨by decide, Or.inl am_w647⟩
theorem am_of165 : am_okF0 "PatternTrees$Tokens" "PatternTrees" 32 8 6 := ⟨by decide, Or.inl am_w648⟩
theorem am_w650 : am_gw (Cond.code ⟨"PatternTrees$Tokens", "behindBlanks", "(I)I"⟩ prog_8_method_9_code 3 (Option.some Jvm.ClassFile.FieldType.int)) := am_g2 171 rfl rfl
theorem am_oc146 : am_okC 146 := ⟨am_w650, am_w39, ⟨by decide +kernel, by decide +kernel⟩, by decide +kernel, by decide +kernel, rfl⟩
theorem am_w651 : am_gw (Cond.methodLink "PatternTrees$Tokens" 38 ⟨"PatternTrees$Tokens", "behindBlanks", "(I)I"⟩) := am_g2 168 rfl rfl
theorem am_ol136 : am_okL0 "PatternTrees$Tokens" "PatternTrees" 38 146 := Or.inl am_w651
theorem am_w652 : am_gw (Cond.instanceMethod ⟨"PatternTrees$Tokens", "behindBlanks", "(I)I"⟩) := am_g2 170 rfl rfl
theorem am_sl146 : am_gw (Cond.selects "PatternTrees$Tokens" ⟨"PatternTrees$Tokens", "behindBlanks", "(I)I"⟩ ⟨"PatternTrees$Tokens", "behindBlanks", "(I)I"⟩) := List.mem_filter.mpr ⟨List.mem_append_left _ (List.mem_map.mpr ⟨(⟨"PatternTrees$Tokens", "behindBlanks", "(I)I"⟩, 8), (show _ ∈ lw_privs from List.mem_append_left _ (List.mem_of_getElem? (i := 0) rfl)), rfl⟩), rfl⟩
theorem am_w653 : am_gw (Cond.code ⟨"PatternTrees$Tokens", "cutToken", "(I)I"⟩ prog_8_method_10_code 3 (Option.some Jvm.ClassFile.FieldType.int)) := am_g2 175 rfl rfl
theorem am_oc147 : am_okC 147 := ⟨am_w653, am_w39, ⟨by decide +kernel, by decide +kernel⟩, by decide +kernel, by decide +kernel, rfl⟩
theorem am_w654 : am_gw (Cond.methodLink "PatternTrees$Tokens" 42 ⟨"PatternTrees$Tokens", "cutToken", "(I)I"⟩) := am_g2 172 rfl rfl
theorem am_ol137 : am_okL0 "PatternTrees$Tokens" "PatternTrees" 42 147 := Or.inl am_w654
theorem am_w655 : am_gw (Cond.instanceMethod ⟨"PatternTrees$Tokens", "cutToken", "(I)I"⟩) := am_g2 174 rfl rfl
theorem am_sl147 : am_gw (Cond.selects "PatternTrees$Tokens" ⟨"PatternTrees$Tokens", "cutToken", "(I)I"⟩ ⟨"PatternTrees$Tokens", "cutToken", "(I)I"⟩) := List.mem_filter.mpr ⟨List.mem_append_left _ (List.mem_map.mpr ⟨(⟨"PatternTrees$Tokens", "cutToken", "(I)I"⟩, 8), (show _ ∈ lw_privs from List.mem_append_left _ (List.mem_of_getElem? (i := 1) rfl)), rfl⟩), rfl⟩
theorem am_w656 : am_gw (Cond.code ⟨"PatternTrees$Tokens", "add", "(IIIJ)V"⟩ prog_8_method_15_code 6 (Option.none : Option Jvm.ClassFile.FieldType)) := am_g3 7 rfl rfl
theorem am_oc152 : am_okC 152 := ⟨am_w656, am_w39, ⟨by decide +kernel, by decide +kernel⟩, by decide +kernel, by decide +kernel, rfl⟩
theorem am_w657 : am_gw (Cond.methodLink "PatternTrees$Tokens" 45 ⟨"PatternTrees$Tokens", "add", "(IIIJ)V"⟩) := am_g3 4 rfl rfl
theorem am_ol138 : am_okL0 "PatternTrees$Tokens" "PatternTrees" 45 152 := Or.inl am_w657
theorem am_w658 : am_gw (Cond.instanceMethod ⟨"PatternTrees$Tokens", "add", "(IIIJ)V"⟩) := am_g3 6 rfl rfl
theorem am_sl152 : am_gw (Cond.selects "PatternTrees$Tokens" ⟨"PatternTrees$Tokens", "add", "(IIIJ)V"⟩ ⟨"PatternTrees$Tokens", "add", "(IIIJ)V"⟩) := List.mem_filter.mpr ⟨List.mem_append_left _ (List.mem_map.mpr ⟨(⟨"PatternTrees$Tokens", "add", "(IIIJ)V"⟩, 8), (show _ ∈ lw_privs from List.mem_append_left _ (List.mem_of_getElem? (i := 5) rfl)), rfl⟩), rfl⟩
theorem am_w659 : am_gw (Cond.code ⟨"PatternTrees$Tokens", "isLetter", "(I)Z"⟩ prog_8_method_16_code 1 (Option.some Jvm.ClassFile.FieldType.boolean)) := am_g2 178 rfl rfl
theorem am_oc153 : am_okC 153 := ⟨am_w659, am_w39, ⟨by decide +kernel, by decide +kernel⟩, by decide +kernel, by decide +kernel, rfl⟩
theorem am_w660 : am_gw (Cond.methodLink "PatternTrees$Tokens" 49 ⟨"PatternTrees$Tokens", "isLetter", "(I)Z"⟩) := am_g2 176 rfl rfl
theorem am_ol139 : am_okL0 "PatternTrees$Tokens" "PatternTrees" 49 153 := Or.inl am_w660
theorem am_w661 : am_gw (Cond.static ⟨"PatternTrees$Tokens", "isLetter", "(I)Z"⟩) := am_g2 177 rfl rfl
theorem am_w662 : am_gw (Cond.code ⟨"PatternTrees$Tokens", "cutLetters", "(I)I"⟩ prog_8_method_11_code 6 (Option.some Jvm.ClassFile.FieldType.int)) := am_g2 182 rfl rfl
theorem am_oc148 : am_okC 148 := ⟨am_w662, am_w39, ⟨by decide +kernel, by decide +kernel⟩, by decide +kernel, by decide +kernel, rfl⟩
theorem am_w663 : am_gw (Cond.methodLink "PatternTrees$Tokens" 53 ⟨"PatternTrees$Tokens", "cutLetters", "(I)I"⟩) := am_g2 179 rfl rfl
theorem am_ol140 : am_okL0 "PatternTrees$Tokens" "PatternTrees" 53 148 := Or.inl am_w663
theorem am_w664 : am_gw (Cond.instanceMethod ⟨"PatternTrees$Tokens", "cutLetters", "(I)I"⟩) := am_g2 181 rfl rfl
theorem am_sl148 : am_gw (Cond.selects "PatternTrees$Tokens" ⟨"PatternTrees$Tokens", "cutLetters", "(I)I"⟩ ⟨"PatternTrees$Tokens", "cutLetters", "(I)I"⟩) := List.mem_filter.mpr ⟨List.mem_append_left _ (List.mem_map.mpr ⟨(⟨"PatternTrees$Tokens", "cutLetters", "(I)I"⟩, 8), (show _ ∈ lw_privs from List.mem_append_left _ (List.mem_of_getElem? (i := 2) rfl)), rfl⟩), rfl⟩
theorem am_w665 : am_gw (Cond.code ⟨"PatternTrees$Tokens", "isDigit", "(I)Z"⟩ prog_8_method_17_code 1 (Option.some Jvm.ClassFile.FieldType.boolean)) := am_g3 10 rfl rfl
theorem am_oc154 : am_okC 154 := ⟨am_w665, am_w39, ⟨by decide +kernel, by decide +kernel⟩, by decide +kernel, by decide +kernel, rfl⟩
theorem am_w666 : am_gw (Cond.methodLink "PatternTrees$Tokens" 56 ⟨"PatternTrees$Tokens", "isDigit", "(I)Z"⟩) := am_g3 8 rfl rfl
theorem am_ol141 : am_okL0 "PatternTrees$Tokens" "PatternTrees" 56 154 := Or.inl am_w666
theorem am_w667 : am_gw (Cond.static ⟨"PatternTrees$Tokens", "isDigit", "(I)Z"⟩) := am_g3 9 rfl rfl
theorem am_w668 : am_gw (Cond.code ⟨"PatternTrees$Tokens", "cutDigits", "(I)I"⟩ prog_8_method_14_code 6 (Option.some Jvm.ClassFile.FieldType.int)) := am_g3 14 rfl rfl
theorem am_oc151 : am_okC 151 := ⟨am_w668, am_w39, ⟨by decide +kernel, by decide +kernel⟩, by decide +kernel, by decide +kernel, rfl⟩
theorem am_w669 : am_gw (Cond.methodLink "PatternTrees$Tokens" 59 ⟨"PatternTrees$Tokens", "cutDigits", "(I)I"⟩) := am_g3 11 rfl rfl
theorem am_ol142 : am_okL0 "PatternTrees$Tokens" "PatternTrees" 59 151 := Or.inl am_w669
theorem am_w670 : am_gw (Cond.instanceMethod ⟨"PatternTrees$Tokens", "cutDigits", "(I)I"⟩) := am_g3 13 rfl rfl
theorem am_sl151 : am_gw (Cond.selects "PatternTrees$Tokens" ⟨"PatternTrees$Tokens", "cutDigits", "(I)I"⟩ ⟨"PatternTrees$Tokens", "cutDigits", "(I)I"⟩) := List.mem_filter.mpr ⟨List.mem_append_left _ (List.mem_map.mpr ⟨(⟨"PatternTrees$Tokens", "cutDigits", "(I)I"⟩, 8), (show _ ∈ lw_privs from List.mem_append_left _ (List.mem_of_getElem? (i := 6) rfl)), rfl⟩), rfl⟩
theorem am_w671 : am_gw (Cond.code ⟨"java/lang/String", "indexOf", "(I)I"⟩ prog_16_method_79_code 2 (Option.some Jvm.ClassFile.FieldType.int)) := am_g3 19 rfl rfl
theorem am_w672 : am_gw (Cond.initialized "java/lang/String") := am_g1 12 rfl rfl
theorem am_oc175 : am_okC 175 := ⟨am_w671, am_w672, ⟨by decide +kernel, by decide +kernel⟩, by decide +kernel, by decide +kernel, rfl⟩
theorem am_w673 : am_gw (Cond.methodLink "PatternTrees$Tokens" 64 ⟨"java/lang/String", "indexOf", "(I)I"⟩) := am_g3 16 rfl rfl
theorem am_ol143 : am_okL0 "PatternTrees$Tokens" "PatternTrees" 64 175 := Or.inl am_w673
theorem am_w674 : am_gw (Cond.instanceMethod ⟨"java/lang/String", "indexOf", "(I)I"⟩) := am_g3 17 rfl rfl
theorem am_w675 : am_gw (Cond.selects "java/lang/String" ⟨"java/lang/String", "indexOf", "(I)I"⟩ ⟨"java/lang/String", "indexOf", "(I)I"⟩) := am_g3 18 rfl rfl
theorem am_w676 : am_gw (Cond.constantLong "PatternTrees$Tokens" 69 32) := am_g2 183 rfl rfl
theorem am_w677 : am_gw (Cond.code ⟨"PatternTrees$Tokens", "kindOfLetters", "(IIZ)I"⟩ prog_8_method_12_code 4 (Option.some Jvm.ClassFile.FieldType.int)) := am_g2 187 rfl rfl
theorem am_oc149 : am_okC 149 := ⟨am_w677, am_w39, ⟨by decide +kernel, by decide +kernel⟩, by decide +kernel, by decide +kernel, rfl⟩
theorem am_w678 : am_gw (Cond.methodLink "PatternTrees$Tokens" 71 ⟨"PatternTrees$Tokens", "kindOfLetters", "(IIZ)I"⟩) := am_g2 184 rfl rfl
theorem am_ol144 : am_okL0 "PatternTrees$Tokens" "PatternTrees" 71 149 := Or.inl am_w678
theorem am_w679 : am_gw (Cond.instanceMethod ⟨"PatternTrees$Tokens", "kindOfLetters", "(IIZ)I"⟩) := am_g2 186 rfl rfl
theorem am_sl149 : am_gw (Cond.selects "PatternTrees$Tokens" ⟨"PatternTrees$Tokens", "kindOfLetters", "(IIZ)I"⟩ ⟨"PatternTrees$Tokens", "kindOfLetters", "(IIZ)I"⟩) := List.mem_filter.mpr ⟨List.mem_append_left _ (List.mem_map.mpr ⟨(⟨"PatternTrees$Tokens", "kindOfLetters", "(IIZ)I"⟩, 8), (show _ ∈ lw_privs from List.mem_append_left _ (List.mem_of_getElem? (i := 3) rfl)), rfl⟩), rfl⟩
theorem am_w680 : am_gw (Cond.code ⟨"PatternTrees$Tokens", "spells", "(Ljava/lang/String;II)Z"⟩ prog_8_method_13_code 5 (Option.some Jvm.ClassFile.FieldType.boolean)) := am_g2 192 rfl rfl
theorem am_oc150 : am_okC 150 := ⟨am_w680, am_w39, ⟨by decide +kernel, by decide +kernel⟩, by decide +kernel, by decide +kernel, rfl⟩
theorem am_w681 : am_gw (Cond.methodLink "PatternTrees$Tokens" 77 ⟨"PatternTrees$Tokens", "spells", "(Ljava/lang/String;II)Z"⟩) := am_g2 189 rfl rfl
theorem am_ol145 : am_okL0 "PatternTrees$Tokens" "PatternTrees" 77 150 := Or.inl am_w681
theorem am_w682 : am_gw (Cond.instanceMethod ⟨"PatternTrees$Tokens", "spells", "(Ljava/lang/String;II)Z"⟩) := am_g2 191 rfl rfl
theorem am_sl150 : am_gw (Cond.selects "PatternTrees$Tokens" ⟨"PatternTrees$Tokens", "spells", "(Ljava/lang/String;II)Z"⟩ ⟨"PatternTrees$Tokens", "spells", "(Ljava/lang/String;II)Z"⟩) := List.mem_filter.mpr ⟨List.mem_append_left _ (List.mem_map.mpr ⟨(⟨"PatternTrees$Tokens", "spells", "(Ljava/lang/String;II)Z"⟩, 8), (show _ ∈ lw_privs from List.mem_append_left _ (List.mem_of_getElem? (i := 4) rfl)), rfl⟩), rfl⟩
theorem am_w683 : am_gw (Cond.code ⟨"java/lang/String", "length", "()I"⟩ prog_16_method_54_code 1 (Option.some Jvm.ClassFile.FieldType.int)) := am_g2 196 rfl rfl
theorem am_oc173 : am_okC 173 := ⟨am_w683, am_w672, ⟨by decide +kernel, by decide +kernel⟩, by decide +kernel, by decide +kernel, rfl⟩
theorem am_w684 : am_gw (Cond.methodLink "PatternTrees$Tokens" 87 ⟨"java/lang/String", "length", "()I"⟩) := am_g2 193 rfl rfl
theorem am_ol146 : am_okL0 "PatternTrees$Tokens" "PatternTrees" 87 173 := Or.inl am_w684
theorem am_w685 : am_gw (Cond.instanceMethod ⟨"java/lang/String", "length", "()I"⟩) := am_g2 194 rfl rfl
theorem am_w686 : am_gw (Cond.selects "java/lang/String" ⟨"java/lang/String", "length", "()I"⟩ ⟨"java/lang/String", "length", "()I"⟩) := am_g2 195 rfl rfl
theorem am_w687 : am_gw (Cond.code ⟨"java/lang/String", "charAt", "(I)C"⟩ prog_16_method_56_code 2 (Option.some Jvm.ClassFile.FieldType.char)) := am_g2 206 rfl rfl
theorem am_oc174 : am_okC 174 := ⟨am_w687, am_w672, ⟨by decide +kernel, by decide +kernel⟩, by decide +kernel, by decide +kernel, rfl⟩
theorem am_w688 : am_gw (Cond.methodLink "PatternTrees$Tokens" 90 ⟨"java/lang/String", "charAt", "(I)C"⟩) := am_g2 203 rfl rfl
theorem am_ol147 : am_okL0 "PatternTrees$Tokens" "PatternTrees" 90 174 := Or.inl am_w688
theorem am_w689 : am_gw (Cond.instanceMethod ⟨"java/lang/String", "charAt", "(I)C"⟩) := am_g2 204 rfl rfl
theorem am_w690 : am_gw (Cond.selects "java/lang/String" ⟨"java/lang/String", "charAt", "(I)C"⟩ ⟨"java/lang/String", "charAt", "(I)C"⟩) := am_g2 205 rfl rfl
theorem am_w691 : am_gw (Cond.methodLink "PatternTrees$Trial" 3 ⟨"java/lang/Object", "<init>", "()V"⟩) := am_g1 147 rfl rfl
theorem am_w692 : am_gw (Cond.fieldLink "PatternTrees$Trial" 9 "PatternTrees$Trial" "count" "I") := am_g1 148 rfl rfl
theorem am_w693 : am_gw (Cond.fieldLink "PatternTrees$Trial" 15 "PatternTrees$Trial" "places" "[I") := am_g1 150 rfl rfl
theorem am_w694 : am_gw (Cond.fieldLink "PatternTrees$Trial" 19 "PatternTrees$Rules" "rows" "I") := am_g2 73 rfl rfl
theorem am_of166 : am_okF0 "PatternTrees$Trial" "PatternTrees" 19 5 3 := ⟨by decide, Or.inl am_w694⟩
theorem am_w695 : am_gw (Cond.fieldLink "PatternTrees$Trial" 24 "PatternTrees$Rules" "head" "[I") := am_g2 80 rfl rfl
theorem am_of167 : am_okF0 "PatternTrees$Trial" "PatternTrees" 24 5 5 := ⟨by decide, Or.inl am_w695⟩
theorem am_w696 : am_gw (Cond.fieldLink "PatternTrees$Trial" 27 "PatternTrees$Terms" "head" "I") := am_g1 83 rfl rfl
theorem am_of168 : am_okF0 "PatternTrees$Trial" "PatternTrees" 27 7 1 := ⟨by decide, Or.inl am_w696⟩
theorem am_w697 : am_gw (Cond.code ⟨"PatternTrees$Trial", "tryList", "(LPatternTrees$Rules;LPatternTrees$Terms;III)I"⟩ prog_9_method_4_code 10 (Option.some Jvm.ClassFile.FieldType.int)) := am_g4 38 rfl rfl
theorem am_oc158 : am_okC 158 := ⟨am_w697, am_w17, ⟨by decide +kernel, by decide +kernel⟩, by decide +kernel, by decide +kernel, rfl⟩
theorem am_w698 : am_gw (Cond.methodLink "PatternTrees$Trial" 31 ⟨"PatternTrees$Trial", "tryList", "(LPatternTrees$Rules;LPatternTrees$Terms;III)I"⟩) := am_g4 35 rfl rfl
theorem am_ol148 : am_okL0 "PatternTrees$Trial" "PatternTrees" 31 158 := Or.inl am_w698
theorem am_w699 : am_gw (Cond.instanceMethod ⟨"PatternTrees$Trial", "tryList", "(LPatternTrees$Rules;LPatternTrees$Terms;III)I"⟩) := am_g4 37 rfl rfl
theorem am_sl158 : am_gw (Cond.selects "PatternTrees$Trial" ⟨"PatternTrees$Trial", "tryList", "(LPatternTrees$Rules;LPatternTrees$Terms;III)I"⟩ ⟨"PatternTrees$Trial", "tryList", "(LPatternTrees$Rules;LPatternTrees$Terms;III)I"⟩) := List.mem_filter.mpr ⟨List.mem_append_left _ (List.mem_map.mpr ⟨(⟨"PatternTrees$Trial", "tryList", "(LPatternTrees$Rules;LPatternTrees$Terms;III)I"⟩, 2), (show _ ∈ lw_privs from List.mem_append_right _ (List.mem_append_left _ (List.mem_of_getElem? (i := 11) rfl))), rfl⟩), rfl⟩
theorem am_w700 : am_gw (Cond.code ⟨"PatternTrees$Rules", "isPlain", "(I)Z"⟩ prog_5_method_5_code 2 (Option.some Jvm.ClassFile.FieldType.boolean)) := am_g4 55 rfl rfl
theorem am_oc110 : am_okC 110 := ⟨am_w700, am_w29, ⟨by decide +kernel, by decide +kernel⟩, by decide +kernel, by decide +kernel, rfl⟩
theorem am_w701 : am_gw (Cond.methodLink "PatternTrees$Trial" 35 ⟨"PatternTrees$Rules", "isPlain", "(I)Z"⟩) := am_g4 52 rfl rfl
theorem am_ol149 : am_okL0 "PatternTrees$Trial" "PatternTrees" 35 110 := Or.inl am_w701
theorem am_w702 : am_gw (Cond.instanceMethod ⟨"PatternTrees$Rules", "isPlain", "(I)Z"⟩) := am_g4 53 rfl rfl
theorem am_w703 : am_gw (Cond.selects "PatternTrees$Rules" ⟨"PatternTrees$Rules", "isPlain", "(I)Z"⟩ ⟨"PatternTrees$Rules", "isPlain", "(I)Z"⟩) := am_g4 54 rfl rfl
theorem am_w704 : am_gw (Cond.code ⟨"PatternTrees$Trial", "tryPat", "(LPatternTrees$Rules;LPatternTrees$Terms;III)I"⟩ prog_9_method_5_code 10 (Option.some Jvm.ClassFile.FieldType.int)) := am_g4 42 rfl rfl
theorem am_oc159 : am_okC 159 := ⟨am_w704, am_w17, ⟨by decide +kernel, by decide +kernel⟩, by decide +kernel, by decide +kernel, rfl⟩
theorem am_w705 : am_gw (Cond.methodLink "PatternTrees$Trial" 39 ⟨"PatternTrees$Trial", "tryPat", "(LPatternTrees$Rules;LPatternTrees$Terms;III)I"⟩) := am_g4 39 rfl rfl
theorem am_ol150 : am_okL0 "PatternTrees$Trial" "PatternTrees" 39 159 := Or.inl am_w705
theorem am_w706 : am_gw (Cond.instanceMethod ⟨"PatternTrees$Trial", "tryPat", "(LPatternTrees$Rules;LPatternTrees$Terms;III)I"⟩) := am_g4 41 rfl rfl
theorem am_sl159 : am_gw (Cond.selects "PatternTrees$Trial" ⟨"PatternTrees$Trial", "tryPat", "(LPatternTrees$Rules;LPatternTrees$Terms;III)I"⟩ ⟨"PatternTrees$Trial", "tryPat", "(LPatternTrees$Rules;LPatternTrees$Terms;III)I"⟩) := List.mem_filter.mpr ⟨List.mem_append_left _ (List.mem_map.mpr ⟨(⟨"PatternTrees$Trial", "tryPat", "(LPatternTrees$Rules;LPatternTrees$Terms;III)I"⟩, 2), (show _ ∈ lw_privs from List.mem_append_right _ (List.mem_append_left _ (List.mem_of_getElem? (i := 12) rfl))), rfl⟩), rfl⟩
theorem am_w707 : am_gw (Cond.fieldLink "PatternTrees$Trial" 42 "PatternTrees$Rules" "pats" "LPatternTrees$Terms;") := am_g2 63 rfl rfl
theorem am_of169 : am_okF0 "PatternTrees$Trial" "PatternTrees" 42 5 1 := ⟨by decide, Or.inl am_w707⟩
theorem am_w708 : am_gw (Cond.fieldLink "PatternTrees$Trial" 46 "PatternTrees$Terms" "next" "[I") := am_g1 115 rfl rfl
theorem am_of170 : am_okF0 "PatternTrees$Trial" "PatternTrees" 46 7 10 := ⟨by decide, Or.inl am_w708⟩
theorem am_w709 : am_gw (Cond.fieldLink "PatternTrees$Trial" 49 "PatternTrees$Terms" "kind" "[I") := am_g1 86 rfl rfl
theorem am_of171 : am_okF0 "PatternTrees$Trial" "PatternTrees" 49 7 2 := ⟨by decide, Or.inl am_w709⟩
theorem am_w710 : am_gw (Cond.fieldLink "PatternTrees$Trial" 52 "PatternTrees$Terms" "first" "[I") := am_g1 110 rfl rfl
theorem am_of172 : am_okF0 "PatternTrees$Trial" "PatternTrees" 52 7 9 := ⟨by decide, Or.inl am_w710⟩
theorem am_w711 : am_gw (Cond.methodLink "PatternTrees$Trial" 55 ⟨"PatternTrees$Rules", "isNewCon", "(LPatternTrees$Terms;I)Z"⟩) := am_g4 43 rfl rfl
theorem am_ol151 : am_okL0 "PatternTrees$Trial" "PatternTrees" 55 115 := Or.inl am_w711
theorem am_w712 : am_gw (Cond.code ⟨"PatternTrees$Trial", "look", "(LPatternTrees$Rules;LPatternTrees$Terms;II)I"⟩ prog_9_method_6_code 7 (Option.some Jvm.ClassFile.FieldType.int)) := am_g4 47 rfl rfl
theorem am_oc160 : am_okC 160 := ⟨am_w712, am_w17, ⟨by decide +kernel, by decide +kernel⟩, by decide +kernel, by decide +kernel, rfl⟩
theorem am_w713 : am_gw (Cond.methodLink "PatternTrees$Trial" 59 ⟨"PatternTrees$Trial", "look", "(LPatternTrees$Rules;LPatternTrees$Terms;II)I"⟩) := am_g4 44 rfl rfl
theorem am_ol152 : am_okL0 "PatternTrees$Trial" "PatternTrees" 59 160 := Or.inl am_w713
theorem am_w714 : am_gw (Cond.instanceMethod ⟨"PatternTrees$Trial", "look", "(LPatternTrees$Rules;LPatternTrees$Terms;II)I"⟩) := am_g4 46 rfl rfl
theorem am_sl160 : am_gw (Cond.selects "PatternTrees$Trial" ⟨"PatternTrees$Trial", "look", "(LPatternTrees$Rules;LPatternTrees$Terms;II)I"⟩ ⟨"PatternTrees$Trial", "look", "(LPatternTrees$Rules;LPatternTrees$Terms;II)I"⟩) := List.mem_filter.mpr ⟨List.mem_append_left _ (List.mem_map.mpr ⟨(⟨"PatternTrees$Trial", "look", "(LPatternTrees$Rules;LPatternTrees$Terms;II)I"⟩, 2), (show _ ∈ lw_privs from List.mem_append_right _ (List.mem_append_left _ (List.mem_of_getElem? (i := 13) rfl))), rfl⟩), rfl⟩
theorem am_w715 : am_gw (Cond.fieldLink "PatternTrees$Trial" 63 "PatternTrees$Terms" "number" "[I") := am_g1 102 rfl rfl
theorem am_of173 : am_okF0 "PatternTrees$Trial" "PatternTrees" 63 7 7 := ⟨by decide, Or.inl am_w715⟩
theorem am_w716 : am_gw (Cond.fieldLink "PatternTrees$Trial" 66 "PatternTrees$Terms" "con" "[I") := am_g1 106 rfl rfl
theorem am_of174 : am_okF0 "PatternTrees$Trial" "PatternTrees" 66 7 8 := ⟨by decide, Or.inl am_w716⟩
theorem am_w717 : am_gw (Cond.code ⟨"PatternTrees$Trial", "keep", "(I)V"⟩ prog_9_method_7_code 3 (Option.none : Option Jvm.ClassFile.FieldType)) := am_g4 51 rfl rfl
theorem am_oc161 : am_okC 161 := ⟨am_w717, am_w17, ⟨by decide +kernel, by decide +kernel⟩, by decide +kernel, by decide +kernel, rfl⟩
theorem am_w718 : am_gw (Cond.methodLink "PatternTrees$Trial" 69 ⟨"PatternTrees$Trial", "keep", "(I)V"⟩) := am_g4 48 rfl rfl
theorem am_ol153 : am_okL0 "PatternTrees$Trial" "PatternTrees" 69 161 := Or.inl am_w718
theorem am_w719 : am_gw (Cond.instanceMethod ⟨"PatternTrees$Trial", "keep", "(I)V"⟩) := am_g4 50 rfl rfl
theorem am_sl161 : am_gw (Cond.selects "PatternTrees$Trial" ⟨"PatternTrees$Trial", "keep", "(I)V"⟩ ⟨"PatternTrees$Trial", "keep", "(I)V"⟩) := List.mem_filter.mpr ⟨List.mem_append_left _ (List.mem_map.mpr ⟨(⟨"PatternTrees$Trial", "keep", "(I)V"⟩, 2), (show _ ∈ lw_privs from List.mem_append_right _ (List.mem_append_left _ (List.mem_of_getElem? (i := 14) rfl))), rfl⟩), rfl⟩
theorem am_of175 : am_okF0 "PatternTrees$Trial" "PatternTrees" 9 9 0 := ⟨by decide, Or.inl am_w692⟩
theorem am_of176 : am_okF0 "PatternTrees$Trial" "PatternTrees" 15 9 1 := ⟨by decide, Or.inl am_w693⟩
theorem am_w720 : am_gw (Cond.methodLink "PatternTrees$Types" 3 ⟨"java/lang/Object", "<init>", "()V"⟩) := am_g1 234 rfl rfl
theorem am_w721 : am_gw (Cond.fieldLink "PatternTrees$Types" 9 "PatternTrees$Types" "count" "I") := am_g1 235 rfl rfl
theorem am_w722 : am_gw (Cond.fieldLink "PatternTrees$Types" 15 "PatternTrees$Types" "conCount" "I") := am_g1 238 rfl rfl
theorem am_w723 : am_gw (Cond.fieldLink "PatternTrees$Types" 18 "PatternTrees$Types" "isNew" "[Z") := am_g2 0 rfl rfl
theorem am_w724 : am_gw (Cond.fieldLink "PatternTrees$Types" 22 "PatternTrees$Types" "firstCon" "[I") := am_g2 3 rfl rfl
theorem am_w725 : am_gw (Cond.fieldLink "PatternTrees$Types" 26 "PatternTrees$Types" "consOf" "[I") := am_g2 5 rfl rfl
theorem am_w726 : am_gw (Cond.fieldLink "PatternTrees$Types" 29 "PatternTrees$Types" "conType" "[I") := am_g2 7 rfl rfl
theorem am_w727 : am_gw (Cond.fieldLink "PatternTrees$Types" 32 "PatternTrees$Types" "arity" "[I") := am_g2 10 rfl rfl
theorem am_w728 : am_gw (Cond.fieldLink "PatternTrees$Types" 35 "PatternTrees$Types" "conName" "[J") := am_g2 13 rfl rfl
theorem am_w729 : am_gw (Cond.fieldLink "PatternTrees$Types" 39 "PatternTrees$Types" "argType" "[I") := am_g2 15 rfl rfl
theorem am_w730 : am_gw (Cond.fieldLink "PatternTrees$Types" 42 "PatternTrees$Types" "letter" "[I") := am_g2 18 rfl rfl
theorem am_w731 : am_gw (Cond.fieldLink "PatternTrees$Types" 45 "PatternTrees$Types" "letterAt" "[I") := am_g2 19 rfl rfl
theorem am_w732 : am_gw (Cond.fieldLink "PatternTrees$Types" 48 "PatternTrees$Types" "conAt" "[I") := am_g2 20 rfl rfl
theorem am_w733 : am_gw (Cond.fieldLink "PatternTrees$Types" 51 "PatternTrees$Types" "argLetter" "[I") := am_g2 21 rfl rfl
theorem am_w734 : am_gw (Cond.fieldLink "PatternTrees$Types" 54 "PatternTrees$Types" "argAt" "[I") := am_g2 22 rfl rfl
theorem am_w735 : am_gw (Cond.fieldLink "PatternTrees$Types" 57 "PatternTrees$Types" "typeOfLetter" "[I") := am_g2 23 rfl rfl
theorem am_of177 : am_okF0 "PatternTrees$Types" "PatternTrees" 9 10 0 := ⟨by decide, Or.inl am_w721⟩
theorem am_of178 : am_okF0 "PatternTrees$Types" "PatternTrees" 42 10 9 := ⟨by decide, Or.inl am_w730⟩
theorem am_of179 : am_okF0 "PatternTrees$Types" "PatternTrees" 45 10 10 := ⟨by decide, Or.inl am_w731⟩
theorem am_of180 : am_okF0 "PatternTrees$Types" "PatternTrees" 18 10 2 := ⟨by decide, Or.inl am_w723⟩
theorem am_of181 : am_okF0 "PatternTrees$Types" "PatternTrees" 22 10 3 := ⟨by decide, Or.inl am_w724⟩
theorem am_of182 : am_okF0 "PatternTrees$Types" "PatternTrees" 15 10 1 := ⟨by decide, Or.inl am_w722⟩
theorem am_of183 : am_okF0 "PatternTrees$Types" "PatternTrees" 26 10 4 := ⟨by decide, Or.inl am_w725⟩
theorem am_of184 : am_okF0 "PatternTrees$Types" "PatternTrees" 35 10 7 := ⟨by decide, Or.inl am_w728⟩
theorem am_of185 : am_okF0 "PatternTrees$Types" "PatternTrees" 48 10 11 := ⟨by decide, Or.inl am_w732⟩
theorem am_of186 : am_okF0 "PatternTrees$Types" "PatternTrees" 29 10 5 := ⟨by decide, Or.inl am_w726⟩
theorem am_of187 : am_okF0 "PatternTrees$Types" "PatternTrees" 32 10 6 := ⟨by decide, Or.inl am_w727⟩
theorem am_of188 : am_okF0 "PatternTrees$Types" "PatternTrees" 51 10 12 := ⟨by decide, Or.inl am_w733⟩
theorem am_of189 : am_okF0 "PatternTrees$Types" "PatternTrees" 54 10 13 := ⟨by decide, Or.inl am_w734⟩
theorem am_of190 : am_okF0 "PatternTrees$Types" "PatternTrees" 57 10 14 := ⟨by decide, Or.inl am_w735⟩
theorem am_w736 : am_gw (Cond.code ⟨"PatternTrees$Types", "nameTypes", "()V"⟩ prog_10_method_9_code 3 (Option.none : Option Jvm.ClassFile.FieldType)) := am_g3 183 rfl rfl
theorem am_oc170 : am_okC 170 := ⟨am_w736, am_w405, ⟨by decide +kernel, by decide +kernel⟩, by decide +kernel, by decide +kernel, rfl⟩
theorem am_w737 : am_gw (Cond.methodLink "PatternTrees$Types" 60 ⟨"PatternTrees$Types", "nameTypes", "()V"⟩) := am_g3 180 rfl rfl
theorem am_ol154 : am_okL0 "PatternTrees$Types" "PatternTrees" 60 170 := Or.inl am_w737
theorem am_w738 : am_gw (Cond.instanceMethod ⟨"PatternTrees$Types", "nameTypes", "()V"⟩) := am_g3 182 rfl rfl
theorem am_sl170 : am_gw (Cond.selects "PatternTrees$Types" ⟨"PatternTrees$Types", "nameTypes", "()V"⟩ ⟨"PatternTrees$Types", "nameTypes", "()V"⟩) := List.mem_filter.mpr ⟨List.mem_append_left _ (List.mem_map.mpr ⟨(⟨"PatternTrees$Types", "nameTypes", "()V"⟩, 15), (show _ ∈ lw_privs from List.mem_append_right _ (List.mem_append_left _ (List.mem_of_getElem? (i := 4) rfl))), rfl⟩), rfl⟩
theorem am_w739 : am_gw (Cond.methodLink "PatternTrees$Types" 63 ⟨"PatternTrees$Types", "typeOf", "(I)I"⟩) := am_g3 184 rfl rfl
theorem am_ol155 : am_okL0 "PatternTrees$Types" "PatternTrees" 63 167 := Or.inl am_w739
theorem am_w740 : am_gw (Cond.methodLink "PatternTrees$Types" 67 ⟨"PatternTrees$Types", "conOf", "(J)I"⟩) := am_g3 188 rfl rfl
theorem am_ol156 : am_okL0 "PatternTrees$Types" "PatternTrees" 67 168 := Or.inl am_w740
theorem am_w741 : am_gw (Cond.code ⟨"PatternTrees$Types", "findFaultInArgs", "(I)I"⟩ prog_10_method_10_code 4 (Option.some Jvm.ClassFile.FieldType.int)) := am_g3 195 rfl rfl
theorem am_oc171 : am_okC 171 := ⟨am_w741, am_w405, ⟨by decide +kernel, by decide +kernel⟩, by decide +kernel, by decide +kernel, rfl⟩
theorem am_w742 : am_gw (Cond.methodLink "PatternTrees$Types" 71 ⟨"PatternTrees$Types", "findFaultInArgs", "(I)I"⟩) := am_g3 192 rfl rfl
theorem am_ol157 : am_okL0 "PatternTrees$Types" "PatternTrees" 71 171 := Or.inl am_w742
theorem am_w743 : am_gw (Cond.instanceMethod ⟨"PatternTrees$Types", "findFaultInArgs", "(I)I"⟩) := am_g3 194 rfl rfl
theorem am_sl171 : am_gw (Cond.selects "PatternTrees$Types" ⟨"PatternTrees$Types", "findFaultInArgs", "(I)I"⟩ ⟨"PatternTrees$Types", "findFaultInArgs", "(I)I"⟩) := List.mem_filter.mpr ⟨List.mem_append_left _ (List.mem_map.mpr ⟨(⟨"PatternTrees$Types", "findFaultInArgs", "(I)I"⟩, 15), (show _ ∈ lw_privs from List.mem_append_right _ (List.mem_append_left _ (List.mem_of_getElem? (i := 5) rfl))), rfl⟩), rfl⟩
theorem am_of191 : am_okF0 "PatternTrees$Types" "PatternTrees" 39 10 8 := ⟨by decide, Or.inl am_w729⟩
theorem am_w744 : am_gw (Cond.classLink "PatternTreesLaw" 7 "PatternTrees") := am_g1 19 rfl rfl
theorem am_w745 : am_gw (Cond.instantiable "PatternTrees" 8) := am_g1 20 rfl rfl
theorem am_w746 : am_gw (Cond.initialized "PatternTrees") := am_g1 1 rfl rfl
theorem am_w747 : am_gw (Cond.code ⟨"PatternTrees", "<init>", "()V"⟩ prog_1_method_1_code 1 (Option.none : Option Jvm.ClassFile.FieldType)) := am_g1 23 rfl rfl
theorem am_oc4 : am_okC 4 := ⟨am_w747, am_w746, ⟨by decide +kernel, by decide +kernel⟩, by decide +kernel, by decide +kernel, rfl⟩
theorem am_w748 : am_gw (Cond.methodLink "PatternTreesLaw" 9 ⟨"PatternTrees", "<init>", "()V"⟩) := am_g1 21 rfl rfl
theorem am_ol158 : am_okL0 "PatternTreesLaw" "PatternTreesLaw" 9 4 := Or.inl am_w748
theorem am_w749 : am_gw (Cond.instanceMethod ⟨"PatternTrees", "<init>", "()V"⟩) := am_g1 22 rfl rfl
theorem am_w750 : am_gw (Cond.classLink "PatternTreesLaw" 10 "PatternTreesModel") := am_g4 163 rfl rfl
theorem am_w751 : am_gw (Cond.instantiable "PatternTreesModel" 58) := am_g4 164 rfl rfl
theorem am_w752 : am_gw (Cond.code ⟨"PatternTreesModel", "<init>", "()V"⟩ prog_12_method_1_code 1 (Option.none : Option Jvm.ClassFile.FieldType)) := am_g4 167 rfl rfl
theorem am_oc16 : am_okC 16 := ⟨am_w752, am_w143, ⟨by decide +kernel, by decide +kernel⟩, by decide +kernel, by decide +kernel, rfl⟩
theorem am_w753 : am_gw (Cond.methodLink "PatternTreesLaw" 12 ⟨"PatternTreesModel", "<init>", "()V"⟩) := am_g4 165 rfl rfl
theorem am_ol159 : am_okL0 "PatternTreesLaw" "PatternTreesLaw" 12 16 := Or.inl am_w753
theorem am_w754 : am_gw (Cond.instanceMethod ⟨"PatternTreesModel", "<init>", "()V"⟩) := am_g4 166 rfl rfl
theorem am_w755 : am_gw (Cond.code ⟨"PatternTrees", "feed", "(IIIII)I"⟩ prog_1_method_2_code 7 (Option.some Jvm.ClassFile.FieldType.int)) := am_g2 135 rfl rfl
theorem am_oc5 : am_okC 5 := ⟨am_w755, am_w746, ⟨by decide +kernel, by decide +kernel⟩, by decide +kernel, by decide +kernel, rfl⟩
theorem am_w756 : am_gw (Cond.methodLink "PatternTreesLaw" 13 ⟨"PatternTrees", "feed", "(IIIII)I"⟩) := am_g2 132 rfl rfl
theorem am_ol160 : am_okL0 "PatternTreesLaw" "PatternTreesLaw" 13 5 := Or.inl am_w756
theorem am_w757 : am_gw (Cond.instanceMethod ⟨"PatternTrees", "feed", "(IIIII)I"⟩) := am_g2 133 rfl rfl
theorem am_w758 : am_gw (Cond.selects "PatternTrees" ⟨"PatternTrees", "feed", "(IIIII)I"⟩ ⟨"PatternTrees", "feed", "(IIIII)I"⟩) := am_g2 134 rfl rfl
theorem am_w759 : am_gw (Cond.code ⟨"PatternTreesModel", "feed", "(IIIII)I"⟩ prog_12_method_34_code 9 (Option.some Jvm.ClassFile.FieldType.int)) := am_g5 107 rfl rfl
theorem am_oc49 : am_okC 49 := ⟨am_w759, am_w143, ⟨by decide +kernel, by decide +kernel⟩, by decide +kernel, by decide +kernel, rfl⟩
theorem am_w760 : am_gw (Cond.methodLink "PatternTreesLaw" 17 ⟨"PatternTreesModel", "feed", "(IIIII)I"⟩) := am_g5 104 rfl rfl
theorem am_ol161 : am_okL0 "PatternTreesLaw" "PatternTreesLaw" 17 49 := Or.inl am_w760
theorem am_w761 : am_gw (Cond.instanceMethod ⟨"PatternTreesModel", "feed", "(IIIII)I"⟩) := am_g5 105 rfl rfl
theorem am_w762 : am_gw (Cond.selects "PatternTreesModel" ⟨"PatternTreesModel", "feed", "(IIIII)I"⟩ ⟨"PatternTreesModel", "feed", "(IIIII)I"⟩) := am_g5 106 rfl rfl
theorem am_w763 : am_gw (Cond.code ⟨"PatternTrees", "end", "(I)I"⟩ prog_1_method_3_code 3 (Option.some Jvm.ClassFile.FieldType.int)) := am_g2 143 rfl rfl
theorem am_oc6 : am_okC 6 := ⟨am_w763, am_w746, ⟨by decide +kernel, by decide +kernel⟩, by decide +kernel, by decide +kernel, rfl⟩
theorem am_w764 : am_gw (Cond.methodLink "PatternTreesLaw" 18 ⟨"PatternTrees", "end", "(I)I"⟩) := am_g2 140 rfl rfl
theorem am_ol162 : am_okL0 "PatternTreesLaw" "PatternTreesLaw" 18 6 := Or.inl am_w764
theorem am_w765 : am_gw (Cond.instanceMethod ⟨"PatternTrees", "end", "(I)I"⟩) := am_g2 141 rfl rfl
theorem am_w766 : am_gw (Cond.selects "PatternTrees" ⟨"PatternTrees", "end", "(I)I"⟩ ⟨"PatternTrees", "end", "(I)I"⟩) := am_g2 142 rfl rfl
theorem am_w767 : am_gw (Cond.code ⟨"PatternTreesModel", "end", "(I)I"⟩ prog_12_method_35_code 2 (Option.some Jvm.ClassFile.FieldType.int)) := am_g5 111 rfl rfl
theorem am_oc50 : am_okC 50 := ⟨am_w767, am_w143, ⟨by decide +kernel, by decide +kernel⟩, by decide +kernel, by decide +kernel, rfl⟩
theorem am_w768 : am_gw (Cond.methodLink "PatternTreesLaw" 22 ⟨"PatternTreesModel", "end", "(I)I"⟩) := am_g5 108 rfl rfl
theorem am_ol163 : am_okL0 "PatternTreesLaw" "PatternTreesLaw" 22 50 := Or.inl am_w768
theorem am_w769 : am_gw (Cond.instanceMethod ⟨"PatternTreesModel", "end", "(I)I"⟩) := am_g5 109 rfl rfl
theorem am_w770 : am_gw (Cond.selects "PatternTreesModel" ⟨"PatternTreesModel", "end", "(I)I"⟩ ⟨"PatternTreesModel", "end", "(I)I"⟩) := am_g5 110 rfl rfl
theorem am_w771 : am_gw (Cond.code ⟨"PatternTrees", "text", "()I"⟩ prog_1_method_4_code 3 (Option.some Jvm.ClassFile.FieldType.int)) := am_g2 147 rfl rfl
theorem am_oc7 : am_okC 7 := ⟨am_w771, am_w746, ⟨by decide +kernel, by decide +kernel⟩, by decide +kernel, by decide +kernel, rfl⟩
theorem am_w772 : am_gw (Cond.methodLink "PatternTreesLaw" 23 ⟨"PatternTrees", "text", "()I"⟩) := am_g2 144 rfl rfl
theorem am_ol164 : am_okL0 "PatternTreesLaw" "PatternTreesLaw" 23 7 := Or.inl am_w772
theorem am_w773 : am_gw (Cond.instanceMethod ⟨"PatternTrees", "text", "()I"⟩) := am_g2 145 rfl rfl
theorem am_w774 : am_gw (Cond.selects "PatternTrees" ⟨"PatternTrees", "text", "()I"⟩ ⟨"PatternTrees", "text", "()I"⟩) := am_g2 146 rfl rfl
theorem am_w775 : am_gw (Cond.code ⟨"PatternTreesModel", "text", "()I"⟩ prog_12_method_36_code 3 (Option.some Jvm.ClassFile.FieldType.int)) := am_g5 115 rfl rfl
theorem am_oc51 : am_okC 51 := ⟨am_w775, am_w143, ⟨by decide +kernel, by decide +kernel⟩, by decide +kernel, by decide +kernel, rfl⟩
theorem am_w776 : am_gw (Cond.methodLink "PatternTreesLaw" 27 ⟨"PatternTreesModel", "text", "()I"⟩) := am_g5 112 rfl rfl
theorem am_ol165 : am_okL0 "PatternTreesLaw" "PatternTreesLaw" 27 51 := Or.inl am_w776
theorem am_w777 : am_gw (Cond.instanceMethod ⟨"PatternTreesModel", "text", "()I"⟩) := am_g5 113 rfl rfl
theorem am_w778 : am_gw (Cond.selects "PatternTreesModel" ⟨"PatternTreesModel", "text", "()I"⟩ ⟨"PatternTreesModel", "text", "()I"⟩) := am_g5 114 rfl rfl
theorem am_w779 : am_gw (Cond.code ⟨"PatternTrees", "place", "()I"⟩ prog_1_method_5_code 1 (Option.some Jvm.ClassFile.FieldType.int)) := am_g4 16 rfl rfl
theorem am_oc8 : am_okC 8 := ⟨am_w779, am_w746, ⟨by decide +kernel, by decide +kernel⟩, by decide +kernel, by decide +kernel, rfl⟩
theorem am_w780 : am_gw (Cond.methodLink "PatternTreesLaw" 28 ⟨"PatternTrees", "place", "()I"⟩) := am_g4 13 rfl rfl
theorem am_ol166 : am_okL0 "PatternTreesLaw" "PatternTreesLaw" 28 8 := Or.inl am_w780
theorem am_w781 : am_gw (Cond.instanceMethod ⟨"PatternTrees", "place", "()I"⟩) := am_g4 14 rfl rfl
theorem am_w782 : am_gw (Cond.selects "PatternTrees" ⟨"PatternTrees", "place", "()I"⟩ ⟨"PatternTrees", "place", "()I"⟩) := am_g4 15 rfl rfl
theorem am_w783 : am_gw (Cond.code ⟨"PatternTreesModel", "place", "()I"⟩ prog_12_method_37_code 1 (Option.some Jvm.ClassFile.FieldType.int)) := am_g6 70 rfl rfl
theorem am_oc52 : am_okC 52 := ⟨am_w783, am_w143, ⟨by decide +kernel, by decide +kernel⟩, by decide +kernel, by decide +kernel, rfl⟩
theorem am_w784 : am_gw (Cond.methodLink "PatternTreesLaw" 31 ⟨"PatternTreesModel", "place", "()I"⟩) := am_g6 67 rfl rfl
theorem am_ol167 : am_okL0 "PatternTreesLaw" "PatternTreesLaw" 31 52 := Or.inl am_w784
theorem am_w785 : am_gw (Cond.instanceMethod ⟨"PatternTreesModel", "place", "()I"⟩) := am_g6 68 rfl rfl
theorem am_w786 : am_gw (Cond.selects "PatternTreesModel" ⟨"PatternTreesModel", "place", "()I"⟩ ⟨"PatternTreesModel", "place", "()I"⟩) := am_g6 69 rfl rfl
theorem am_w787 : am_gw (Cond.code ⟨"PatternTrees", "told", "(I)I"⟩ prog_1_method_6_code 2 (Option.some Jvm.ClassFile.FieldType.int)) := am_g4 20 rfl rfl
theorem am_oc9 : am_okC 9 := ⟨am_w787, am_w746, ⟨by decide +kernel, by decide +kernel⟩, by decide +kernel, by decide +kernel, rfl⟩
theorem am_w788 : am_gw (Cond.methodLink "PatternTreesLaw" 32 ⟨"PatternTrees", "told", "(I)I"⟩) := am_g4 17 rfl rfl
theorem am_ol168 : am_okL0 "PatternTreesLaw" "PatternTreesLaw" 32 9 := Or.inl am_w788
theorem am_w789 : am_gw (Cond.instanceMethod ⟨"PatternTrees", "told", "(I)I"⟩) := am_g4 18 rfl rfl
theorem am_w790 : am_gw (Cond.selects "PatternTrees" ⟨"PatternTrees", "told", "(I)I"⟩ ⟨"PatternTrees", "told", "(I)I"⟩) := am_g4 19 rfl rfl
theorem am_w791 : am_gw (Cond.code ⟨"PatternTreesModel", "told", "(I)I"⟩ prog_12_method_38_code 2 (Option.some Jvm.ClassFile.FieldType.int)) := am_g6 74 rfl rfl
theorem am_oc53 : am_okC 53 := ⟨am_w791, am_w143, ⟨by decide +kernel, by decide +kernel⟩, by decide +kernel, by decide +kernel, rfl⟩
theorem am_w792 : am_gw (Cond.methodLink "PatternTreesLaw" 35 ⟨"PatternTreesModel", "told", "(I)I"⟩) := am_g6 71 rfl rfl
theorem am_ol169 : am_okL0 "PatternTreesLaw" "PatternTreesLaw" 35 53 := Or.inl am_w792
theorem am_w793 : am_gw (Cond.instanceMethod ⟨"PatternTreesModel", "told", "(I)I"⟩) := am_g6 72 rfl rfl
theorem am_w794 : am_gw (Cond.selects "PatternTreesModel" ⟨"PatternTreesModel", "told", "(I)I"⟩ ⟨"PatternTreesModel", "told", "(I)I"⟩) := am_g6 73 rfl rfl
theorem am_w795 : am_gw (Cond.code ⟨"PatternTrees", "run", "(I)I"⟩ prog_1_method_7_code 4 (Option.some Jvm.ClassFile.FieldType.int)) := am_g4 24 rfl rfl
theorem am_oc10 : am_okC 10 := ⟨am_w795, am_w746, ⟨by decide +kernel, by decide +kernel⟩, by decide +kernel, by decide +kernel, rfl⟩
theorem am_w796 : am_gw (Cond.methodLink "PatternTreesLaw" 36 ⟨"PatternTrees", "run", "(I)I"⟩) := am_g4 21 rfl rfl
theorem am_ol170 : am_okL0 "PatternTreesLaw" "PatternTreesLaw" 36 10 := Or.inl am_w796
theorem am_w797 : am_gw (Cond.instanceMethod ⟨"PatternTrees", "run", "(I)I"⟩) := am_g4 22 rfl rfl
theorem am_w798 : am_gw (Cond.selects "PatternTrees" ⟨"PatternTrees", "run", "(I)I"⟩ ⟨"PatternTrees", "run", "(I)I"⟩) := am_g4 23 rfl rfl
theorem am_w799 : am_gw (Cond.code ⟨"PatternTreesModel", "run", "(I)I"⟩ prog_12_method_41_code 5 (Option.some Jvm.ClassFile.FieldType.int)) := am_g6 78 rfl rfl
theorem am_oc56 : am_okC 56 := ⟨am_w799, am_w143, ⟨by decide +kernel, by decide +kernel⟩, by decide +kernel, by decide +kernel, rfl⟩
theorem am_w800 : am_gw (Cond.methodLink "PatternTreesLaw" 39 ⟨"PatternTreesModel", "run", "(I)I"⟩) := am_g6 75 rfl rfl
theorem am_ol171 : am_okL0 "PatternTreesLaw" "PatternTreesLaw" 39 56 := Or.inl am_w800
theorem am_w801 : am_gw (Cond.instanceMethod ⟨"PatternTreesModel", "run", "(I)I"⟩) := am_g6 76 rfl rfl
theorem am_w802 : am_gw (Cond.selects "PatternTreesModel" ⟨"PatternTreesModel", "run", "(I)I"⟩ ⟨"PatternTreesModel", "run", "(I)I"⟩) := am_g6 77 rfl rfl
theorem am_w803 : am_gw (Cond.code ⟨"PatternTrees", "looks", "()I"⟩ prog_1_method_8_code 1 (Option.some Jvm.ClassFile.FieldType.int)) := am_g4 59 rfl rfl
theorem am_oc11 : am_okC 11 := ⟨am_w803, am_w746, ⟨by decide +kernel, by decide +kernel⟩, by decide +kernel, by decide +kernel, rfl⟩
theorem am_w804 : am_gw (Cond.methodLink "PatternTreesLaw" 40 ⟨"PatternTrees", "looks", "()I"⟩) := am_g4 56 rfl rfl
theorem am_ol172 : am_okL0 "PatternTreesLaw" "PatternTreesLaw" 40 11 := Or.inl am_w804
theorem am_w805 : am_gw (Cond.instanceMethod ⟨"PatternTrees", "looks", "()I"⟩) := am_g4 57 rfl rfl
theorem am_w806 : am_gw (Cond.selects "PatternTrees" ⟨"PatternTrees", "looks", "()I"⟩ ⟨"PatternTrees", "looks", "()I"⟩) := am_g4 58 rfl rfl
theorem am_w807 : am_gw (Cond.code ⟨"PatternTreesModel", "looks", "()I"⟩ prog_12_method_43_code 1 (Option.some Jvm.ClassFile.FieldType.int)) := am_g6 94 rfl rfl
theorem am_oc58 : am_okC 58 := ⟨am_w807, am_w143, ⟨by decide +kernel, by decide +kernel⟩, by decide +kernel, by decide +kernel, rfl⟩
theorem am_w808 : am_gw (Cond.methodLink "PatternTreesLaw" 43 ⟨"PatternTreesModel", "looks", "()I"⟩) := am_g6 91 rfl rfl
theorem am_ol173 : am_okL0 "PatternTreesLaw" "PatternTreesLaw" 43 58 := Or.inl am_w808
theorem am_w809 : am_gw (Cond.instanceMethod ⟨"PatternTreesModel", "looks", "()I"⟩) := am_g6 92 rfl rfl
theorem am_w810 : am_gw (Cond.selects "PatternTreesModel" ⟨"PatternTreesModel", "looks", "()I"⟩ ⟨"PatternTreesModel", "looks", "()I"⟩) := am_g6 93 rfl rfl
theorem am_w811 : am_gw (Cond.code ⟨"PatternTrees", "looked", "(I)I"⟩ prog_1_method_9_code 2 (Option.some Jvm.ClassFile.FieldType.int)) := am_g4 63 rfl rfl
theorem am_oc12 : am_okC 12 := ⟨am_w811, am_w746, ⟨by decide +kernel, by decide +kernel⟩, by decide +kernel, by decide +kernel, rfl⟩
theorem am_w812 : am_gw (Cond.methodLink "PatternTreesLaw" 44 ⟨"PatternTrees", "looked", "(I)I"⟩) := am_g4 60 rfl rfl
theorem am_ol174 : am_okL0 "PatternTreesLaw" "PatternTreesLaw" 44 12 := Or.inl am_w812
theorem am_w813 : am_gw (Cond.instanceMethod ⟨"PatternTrees", "looked", "(I)I"⟩) := am_g4 61 rfl rfl
theorem am_w814 : am_gw (Cond.selects "PatternTrees" ⟨"PatternTrees", "looked", "(I)I"⟩ ⟨"PatternTrees", "looked", "(I)I"⟩) := am_g4 62 rfl rfl
theorem am_w815 : am_gw (Cond.code ⟨"PatternTreesModel", "looked", "(I)I"⟩ prog_12_method_44_code 2 (Option.some Jvm.ClassFile.FieldType.int)) := am_g6 98 rfl rfl
theorem am_oc59 : am_okC 59 := ⟨am_w815, am_w143, ⟨by decide +kernel, by decide +kernel⟩, by decide +kernel, by decide +kernel, rfl⟩
theorem am_w816 : am_gw (Cond.methodLink "PatternTreesLaw" 47 ⟨"PatternTreesModel", "looked", "(I)I"⟩) := am_g6 95 rfl rfl
theorem am_ol175 : am_okL0 "PatternTreesLaw" "PatternTreesLaw" 47 59 := Or.inl am_w816
theorem am_w817 : am_gw (Cond.instanceMethod ⟨"PatternTreesModel", "looked", "(I)I"⟩) := am_g6 96 rfl rfl
theorem am_w818 : am_gw (Cond.selects "PatternTreesModel" ⟨"PatternTreesModel", "looked", "(I)I"⟩ ⟨"PatternTreesModel", "looked", "(I)I"⟩) := am_g6 97 rfl rfl
theorem am_w819 : am_gw (Cond.code ⟨"PatternTrees", "misses", "()I"⟩ prog_1_method_10_code 1 (Option.some Jvm.ClassFile.FieldType.int)) := am_g4 67 rfl rfl
theorem am_oc13 : am_okC 13 := ⟨am_w819, am_w746, ⟨by decide +kernel, by decide +kernel⟩, by decide +kernel, by decide +kernel, rfl⟩
theorem am_w820 : am_gw (Cond.methodLink "PatternTreesLaw" 48 ⟨"PatternTrees", "misses", "()I"⟩) := am_g4 64 rfl rfl
theorem am_ol176 : am_okL0 "PatternTreesLaw" "PatternTreesLaw" 48 13 := Or.inl am_w820
theorem am_w821 : am_gw (Cond.instanceMethod ⟨"PatternTrees", "misses", "()I"⟩) := am_g4 65 rfl rfl
theorem am_w822 : am_gw (Cond.selects "PatternTrees" ⟨"PatternTrees", "misses", "()I"⟩ ⟨"PatternTrees", "misses", "()I"⟩) := am_g4 66 rfl rfl
theorem am_w823 : am_gw (Cond.code ⟨"PatternTreesModel", "misses", "()I"⟩ prog_12_method_60_code 1 (Option.some Jvm.ClassFile.FieldType.int)) := am_g6 102 rfl rfl
theorem am_oc75 : am_okC 75 := ⟨am_w823, am_w143, ⟨by decide +kernel, by decide +kernel⟩, by decide +kernel, by decide +kernel, rfl⟩
theorem am_w824 : am_gw (Cond.methodLink "PatternTreesLaw" 51 ⟨"PatternTreesModel", "misses", "()I"⟩) := am_g6 99 rfl rfl
theorem am_ol177 : am_okL0 "PatternTreesLaw" "PatternTreesLaw" 51 75 := Or.inl am_w824
theorem am_w825 : am_gw (Cond.instanceMethod ⟨"PatternTreesModel", "misses", "()I"⟩) := am_g6 100 rfl rfl
theorem am_w826 : am_gw (Cond.selects "PatternTreesModel" ⟨"PatternTreesModel", "misses", "()I"⟩ ⟨"PatternTreesModel", "misses", "()I"⟩) := am_g6 101 rfl rfl
theorem am_w827 : am_gw (Cond.code ⟨"PatternTrees", "example", "(I)I"⟩ prog_1_method_11_code 2 (Option.some Jvm.ClassFile.FieldType.int)) := am_g4 154 rfl rfl
theorem am_oc14 : am_okC 14 := ⟨am_w827, am_w746, ⟨by decide +kernel, by decide +kernel⟩, by decide +kernel, by decide +kernel, rfl⟩
theorem am_w828 : am_gw (Cond.methodLink "PatternTreesLaw" 52 ⟨"PatternTrees", "example", "(I)I"⟩) := am_g4 151 rfl rfl
theorem am_ol178 : am_okL0 "PatternTreesLaw" "PatternTreesLaw" 52 14 := Or.inl am_w828
theorem am_w829 : am_gw (Cond.instanceMethod ⟨"PatternTrees", "example", "(I)I"⟩) := am_g4 152 rfl rfl
theorem am_w830 : am_gw (Cond.selects "PatternTrees" ⟨"PatternTrees", "example", "(I)I"⟩ ⟨"PatternTrees", "example", "(I)I"⟩) := am_g4 153 rfl rfl
theorem am_w831 : am_gw (Cond.code ⟨"PatternTreesModel", "example", "(I)I"⟩ prog_12_method_61_code 2 (Option.some Jvm.ClassFile.FieldType.int)) := am_g6 106 rfl rfl
theorem am_oc76 : am_okC 76 := ⟨am_w831, am_w143, ⟨by decide +kernel, by decide +kernel⟩, by decide +kernel, by decide +kernel, rfl⟩
theorem am_w832 : am_gw (Cond.methodLink "PatternTreesLaw" 55 ⟨"PatternTreesModel", "example", "(I)I"⟩) := am_g6 103 rfl rfl
theorem am_ol179 : am_okL0 "PatternTreesLaw" "PatternTreesLaw" 55 76 := Or.inl am_w832
theorem am_w833 : am_gw (Cond.instanceMethod ⟨"PatternTreesModel", "example", "(I)I"⟩) := am_g6 104 rfl rfl
theorem am_w834 : am_gw (Cond.selects "PatternTreesModel" ⟨"PatternTreesModel", "example", "(I)I"⟩ ⟨"PatternTreesModel", "example", "(I)I"⟩) := am_g6 105 rfl rfl
theorem am_w835 : am_gw (Cond.code ⟨"PatternTrees", "never", "(I)I"⟩ prog_1_method_12_code 2 (Option.some Jvm.ClassFile.FieldType.int)) := am_g4 158 rfl rfl
theorem am_oc15 : am_okC 15 := ⟨am_w835, am_w746, ⟨by decide +kernel, by decide +kernel⟩, by decide +kernel, by decide +kernel, rfl⟩
theorem am_w836 : am_gw (Cond.methodLink "PatternTreesLaw" 56 ⟨"PatternTrees", "never", "(I)I"⟩) := am_g4 155 rfl rfl
theorem am_ol180 : am_okL0 "PatternTreesLaw" "PatternTreesLaw" 56 15 := Or.inl am_w836
theorem am_w837 : am_gw (Cond.instanceMethod ⟨"PatternTrees", "never", "(I)I"⟩) := am_g4 156 rfl rfl
theorem am_w838 : am_gw (Cond.selects "PatternTrees" ⟨"PatternTrees", "never", "(I)I"⟩ ⟨"PatternTrees", "never", "(I)I"⟩) := am_g4 157 rfl rfl
theorem am_w839 : am_gw (Cond.code ⟨"PatternTreesModel", "never", "(I)I"⟩ prog_12_method_62_code 4 (Option.some Jvm.ClassFile.FieldType.int)) := am_g6 110 rfl rfl
theorem am_oc77 : am_okC 77 := ⟨am_w839, am_w143, ⟨by decide +kernel, by decide +kernel⟩, by decide +kernel, by decide +kernel, rfl⟩
theorem am_w840 : am_gw (Cond.methodLink "PatternTreesLaw" 59 ⟨"PatternTreesModel", "never", "(I)I"⟩) := am_g6 107 rfl rfl
theorem am_ol181 : am_okL0 "PatternTreesLaw" "PatternTreesLaw" 59 77 := Or.inl am_w840
theorem am_w841 : am_gw (Cond.instanceMethod ⟨"PatternTreesModel", "never", "(I)I"⟩) := am_g6 108 rfl rfl
theorem am_w842 : am_gw (Cond.selects "PatternTreesModel" ⟨"PatternTreesModel", "never", "(I)I"⟩ ⟨"PatternTreesModel", "never", "(I)I"⟩) := am_g6 109 rfl rfl
theorem am_w843 : am_gw (Cond.fieldLink "java/lang/String" 9 "java/lang/String" "value" "[B") := am_g6 111 rfl rfl
theorem am_of192 : am_okF0 "java/lang/String" "java/lang/String" 9 11 0 := ⟨by decide, am_w843⟩
theorem am_w844 : am_gw (Cond.code ⟨"java/lang/String", "coder", "()B"⟩ prog_16_method_152_code 1 (Option.some Jvm.ClassFile.FieldType.byte)) := am_g2 200 rfl rfl
theorem am_oc177 : am_okC 177 := ⟨am_w844, am_w672, ⟨by decide +kernel, by decide +kernel⟩, by decide +kernel, by decide +kernel, rfl⟩
theorem am_w845 : am_gw (Cond.methodLink "java/lang/String" 335 ⟨"java/lang/String", "coder", "()B"⟩) := am_g2 197 rfl rfl
theorem am_ol182 : am_okL0 "java/lang/String" "java/lang/String" 335 177 := Or.inl am_w845
theorem am_w846 : am_gw (Cond.instanceMethod ⟨"java/lang/String", "coder", "()B"⟩) := am_g2 198 rfl rfl
theorem am_w847 : am_gw (Cond.selects "java/lang/String" ⟨"java/lang/String", "coder", "()B"⟩ ⟨"java/lang/String", "coder", "()B"⟩) := am_g2 199 rfl rfl
theorem am_w848 : am_gw (Cond.code ⟨"java/lang/String", "isLatin1", "()Z"⟩ prog_16_method_154_code 1 (Option.some Jvm.ClassFile.FieldType.boolean)) := am_g2 210 rfl rfl
theorem am_oc178 : am_okC 178 := ⟨am_w848, am_w672, ⟨by decide +kernel, by decide +kernel⟩, by decide +kernel, by decide +kernel, rfl⟩
theorem am_w849 : am_gw (Cond.methodLink "java/lang/String" 492 ⟨"java/lang/String", "isLatin1", "()Z"⟩) := am_g2 207 rfl rfl
theorem am_ol183 : am_okL0 "java/lang/String" "java/lang/String" 492 178 := Or.inl am_w849
theorem am_w850 : am_gw (Cond.instanceMethod ⟨"java/lang/String", "isLatin1", "()Z"⟩) := am_g2 208 rfl rfl
theorem am_w851 : am_gw (Cond.selects "java/lang/String" ⟨"java/lang/String", "isLatin1", "()Z"⟩ ⟨"java/lang/String", "isLatin1", "()Z"⟩) := am_g2 209 rfl rfl
theorem am_w852 : am_gw (Cond.code ⟨"java/lang/StringLatin1", "charAt", "([BI)C"⟩ prog_17_method_2_code 2 (Option.some Jvm.ClassFile.FieldType.char)) := am_g2 213 rfl rfl
theorem am_w853 : am_gw (Cond.initialized "java/lang/StringLatin1") := am_g1 13 rfl rfl
theorem am_oc179 : am_okC 179 := ⟨am_w852, am_w853, ⟨by decide +kernel, by decide +kernel⟩, by decide +kernel, by decide +kernel, rfl⟩
theorem am_w854 : am_gw (Cond.methodLink "java/lang/String" 495 ⟨"java/lang/StringLatin1", "charAt", "([BI)C"⟩) := am_g2 211 rfl rfl
theorem am_ol184 : am_okL0 "java/lang/String" "java/lang/String" 495 179 := Or.inl am_w854
theorem am_w855 : am_gw (Cond.static ⟨"java/lang/StringLatin1", "charAt", "([BI)C"⟩) := am_g2 212 rfl rfl
theorem am_w856 : am_gw (Cond.code ⟨"java/lang/String", "indexOf", "(II)I"⟩ prog_16_method_80_code 3 (Option.some Jvm.ClassFile.FieldType.int)) := am_g3 23 rfl rfl
theorem am_oc176 : am_okC 176 := ⟨am_w856, am_w672, ⟨by decide +kernel, by decide +kernel⟩, by decide +kernel, by decide +kernel, rfl⟩
theorem am_w857 : am_gw (Cond.methodLink "java/lang/String" 633 ⟨"java/lang/String", "indexOf", "(II)I"⟩) := am_g3 20 rfl rfl
theorem am_ol185 : am_okL0 "java/lang/String" "java/lang/String" 633 176 := Or.inl am_w857
theorem am_w858 : am_gw (Cond.instanceMethod ⟨"java/lang/String", "indexOf", "(II)I"⟩) := am_g3 21 rfl rfl
theorem am_w859 : am_gw (Cond.selects "java/lang/String" ⟨"java/lang/String", "indexOf", "(II)I"⟩ ⟨"java/lang/String", "indexOf", "(II)I"⟩) := am_g3 22 rfl rfl
theorem am_w860 : am_gw (Cond.methodLink "java/lang/String" 505 ⟨"java/lang/String", "length", "()I"⟩) := am_g3 24 rfl rfl
theorem am_ol186 : am_okL0 "java/lang/String" "java/lang/String" 505 173 := Or.inl am_w860
theorem am_w861 : am_gw (Cond.code ⟨"java/lang/StringLatin1", "indexOf", "([BIII)I"⟩ prog_17_method_22_code 4 (Option.some Jvm.ClassFile.FieldType.int)) := am_g3 27 rfl rfl
theorem am_oc181 : am_okC 181 := ⟨am_w861, am_w853, ⟨by decide +kernel, by decide +kernel⟩, by decide +kernel, by decide +kernel, rfl⟩
theorem am_w862 : am_gw (Cond.methodLink "java/lang/String" 637 ⟨"java/lang/StringLatin1", "indexOf", "([BIII)I"⟩) := am_g3 25 rfl rfl
theorem am_ol187 : am_okL0 "java/lang/String" "java/lang/String" 637 181 := Or.inl am_w862
theorem am_w863 : am_gw (Cond.static ⟨"java/lang/StringLatin1", "indexOf", "([BIII)I"⟩) := am_g3 26 rfl rfl
theorem am_w864 : am_gw (Cond.fieldLink "java/lang/String" 38 "java/lang/String" "COMPACT_STRINGS" "Z") := am_g2 201 rfl rfl
theorem am_w865 : am_gw (Cond.fieldLink "java/lang/String" 15 "java/lang/String" "coder" "B") := am_g6 112 rfl rfl
theorem am_of193 : am_okF0 "java/lang/String" "java/lang/String" 15 11 1 := ⟨by decide, am_w865⟩
theorem am_w866 : am_gw (Cond.methodLink "java/lang/StringLatin1" 9 ⟨"java/lang/String", "checkIndex", "(II)V"⟩) := am_g2 214 rfl rfl
theorem am_ol188 : am_okL0 "java/lang/StringLatin1" "java/lang/StringLatin1" 9 1 := Or.inl am_w866
theorem am_w867 : am_gw (Cond.code ⟨"java/lang/StringLatin1", "canEncode", "(I)Z"⟩ prog_17_method_4_code 1 (Option.some Jvm.ClassFile.FieldType.boolean)) := am_g3 30 rfl rfl
theorem am_oc180 : am_okC 180 := ⟨am_w867, am_w853, ⟨by decide +kernel, by decide +kernel⟩, by decide +kernel, by decide +kernel, rfl⟩
theorem am_w868 : am_gw (Cond.methodLink "java/lang/StringLatin1" 88 ⟨"java/lang/StringLatin1", "canEncode", "(I)Z"⟩) := am_g3 28 rfl rfl
theorem am_ol189 : am_okL0 "java/lang/StringLatin1" "java/lang/StringLatin1" 88 180 := Or.inl am_w868
theorem am_w869 : am_gw (Cond.static ⟨"java/lang/StringLatin1", "canEncode", "(I)Z"⟩) := am_g3 29 rfl rfl
theorem am_w870 : am_gw (Cond.methodLink "java/lang/StringLatin1" 92 ⟨"java/lang/Math", "max", "(II)I"⟩) := am_g3 31 rfl rfl
theorem am_w871 : am_gw (Cond.static ⟨"java/lang/Math", "max", "(II)I"⟩) := am_g3 32 rfl rfl
theorem am_w872 : am_gw (Cond.code ⟨"java/lang/Math", "max", "(II)I"⟩ prog_15_method_65_code 2 (Option.some Jvm.ClassFile.FieldType.int)) := am_g3 33 rfl rfl
theorem am_w873 : am_gw (Cond.methodLink "java/lang/StringLatin1" 38 ⟨"java/lang/Math", "min", "(II)I"⟩) := am_g3 34 rfl rfl
theorem am_w874 : am_gw (Cond.code ⟨"java/lang/StringLatin1", "indexOfChar", "([BIII)I"⟩ prog_17_method_23_code 6 (Option.some Jvm.ClassFile.FieldType.int)) := am_g3 39 rfl rfl
theorem am_oc182 : am_okC 182 := ⟨am_w874, am_w853, ⟨by decide +kernel, by decide +kernel⟩, by decide +kernel, by decide +kernel, rfl⟩
theorem am_w875 : am_gw (Cond.methodLink "java/lang/StringLatin1" 95 ⟨"java/lang/StringLatin1", "indexOfChar", "([BIII)I"⟩) := am_g3 37 rfl rfl
theorem am_ol190 : am_okL0 "java/lang/StringLatin1" "java/lang/StringLatin1" 95 182 := Or.inl am_w875
theorem am_w876 : am_gw (Cond.static ⟨"java/lang/StringLatin1", "indexOfChar", "([BIII)I"⟩) := am_g3 38 rfl rfl
theorem am_w877 : am_gw (Cond.constant "java/lang/Integer" 264 65536) := am_g4 87 rfl rfl
def am_AllW (m : Nat) : List (Nat × Jvm.ClassFile.Instr × Nat × Nat) → Prop
  | [] => True
  | q :: r => am_okW m q.1 q.2.1 q.2.2.2 ∧ am_AllW m r
theorem am_AllW_mem {m : Nat} : ∀ (l : List (Nat × Jvm.ClassFile.Instr × Nat × Nat)), am_AllW m l → ∀ q ∈ l, am_okW m q.1 q.2.1 q.2.2.2 := by
  intro l
  induction l with
  | nil => intro _ q h; exact absurd h List.not_mem_nil
  | cons a l ih =>
    intro h q hq
    rcases List.mem_cons.mp hq with rfl | hq
    · exact h.1
    · exact ih h.2 q hq
theorem am_AllW_app {m : Nat} : ∀ (l l' : List (Nat × Jvm.ClassFile.Instr × Nat × Nat)), am_AllW m l → am_AllW m l' → am_AllW m (l ++ l') := by
  intro l l'
  induction l with
  | nil => intro _ h; exact h
  | cons a l ih => intro h h'; exact ⟨h.1, ih h.2 h'⟩
def am_ckD (m : Nat) (q : Nat × Jvm.ClassFile.Instr × Nat × Nat) : Bool := decide (decode (am_by m) q.1 = .ok (am_dec q.1 q.2.1 q.2.2.2)) && Nat.beq q.2.2.1 (q.1 + (am_dec q.1 q.2.1 q.2.2.2).2)
end
section
theorem am_dk4 : ar_4.all (am_ckD 4) = true := by decide +kernel
theorem am_dk5 : ar_5.all (am_ckD 5) = true := by decide +kernel
theorem am_dk6 : ar_6.all (am_ckD 6) = true := by decide +kernel
theorem am_dk7 : ar_7.all (am_ckD 7) = true := by decide +kernel
theorem am_dk8 : ar_8.all (am_ckD 8) = true := by decide +kernel
theorem am_dk9 : ar_9.all (am_ckD 9) = true := by decide +kernel
theorem am_dk10 : ar_10.all (am_ckD 10) = true := by decide +kernel
theorem am_dk11 : ar_11.all (am_ckD 11) = true := by decide +kernel
theorem am_dk12 : ar_12.all (am_ckD 12) = true := by decide +kernel
theorem am_dk13 : ar_13.all (am_ckD 13) = true := by decide +kernel
theorem am_dk14 : ar_14.all (am_ckD 14) = true := by decide +kernel
theorem am_dk15 : ar_15.all (am_ckD 15) = true := by decide +kernel
theorem am_dk16 : ar_16.all (am_ckD 16) = true := by decide +kernel
theorem am_dk17 : ar_17.all (am_ckD 17) = true := by decide +kernel
theorem am_dk18 : ar_18.all (am_ckD 18) = true := by decide +kernel
theorem am_dk19 : ar_19.all (am_ckD 19) = true := by decide +kernel
theorem am_dk20 : ar_20.all (am_ckD 20) = true := by decide +kernel
theorem am_dk21 : ar_21.all (am_ckD 21) = true := by decide +kernel
theorem am_dk22 : ar_22.all (am_ckD 22) = true := by decide +kernel
theorem am_dk23 : ar_23.all (am_ckD 23) = true := by decide +kernel
theorem am_dk24 : ar_24.all (am_ckD 24) = true := by decide +kernel
theorem am_dk25 : ar_25.all (am_ckD 25) = true := by decide +kernel
theorem am_dk26 : ar_26.all (am_ckD 26) = true := by decide +kernel
theorem am_dk27 : ar_27.all (am_ckD 27) = true := by decide +kernel
theorem am_dk28 : ar_28.all (am_ckD 28) = true := by decide +kernel
theorem am_dk29 : ar_29.all (am_ckD 29) = true := by decide +kernel
theorem am_dk30 : ar_30.all (am_ckD 30) = true := by decide +kernel
theorem am_dk31 : ar_31.all (am_ckD 31) = true := by decide +kernel
theorem am_dk32 : ar_32.all (am_ckD 32) = true := by decide +kernel
theorem am_dk33 : ar_33.all (am_ckD 33) = true := by decide +kernel
theorem am_dk34 : ar_34.all (am_ckD 34) = true := by decide +kernel
theorem am_dk35 : ar_35.all (am_ckD 35) = true := by decide +kernel
theorem am_dk36 : ar_36.all (am_ckD 36) = true := by decide +kernel
theorem am_dk37 : ar_37.all (am_ckD 37) = true := by decide +kernel
theorem am_dk38 : ar_38.all (am_ckD 38) = true := by decide +kernel
theorem am_dk39 : ar_39.all (am_ckD 39) = true := by decide +kernel
theorem am_dk40 : ar_40.all (am_ckD 40) = true := by decide +kernel
theorem am_dk41 : ar_41.all (am_ckD 41) = true := by decide +kernel
theorem am_dk42 : ar_42.all (am_ckD 42) = true := by decide +kernel
theorem am_dk43 : ar_43.all (am_ckD 43) = true := by decide +kernel
theorem am_dk44 : ar_44.all (am_ckD 44) = true := by decide +kernel
theorem am_dk45 : ar_45.all (am_ckD 45) = true := by decide +kernel
theorem am_dk46 : ar_46.all (am_ckD 46) = true := by decide +kernel
theorem am_dk47 : ar_47.all (am_ckD 47) = true := by decide +kernel
theorem am_dk48 : ar_48.all (am_ckD 48) = true := by decide +kernel
theorem am_dk49 : ar_49.all (am_ckD 49) = true := by decide +kernel
theorem am_dk50 : ar_50.all (am_ckD 50) = true := by decide +kernel
theorem am_dk51 : ar_51.all (am_ckD 51) = true := by decide +kernel
theorem am_dk52 : ar_52.all (am_ckD 52) = true := by decide +kernel
theorem am_dk53 : ar_53.all (am_ckD 53) = true := by decide +kernel
theorem am_dk54 : ar_54.all (am_ckD 54) = true := by decide +kernel
theorem am_dk55 : ar_55.all (am_ckD 55) = true := by decide +kernel
theorem am_dk56 : ar_56.all (am_ckD 56) = true := by decide +kernel
theorem am_dk57 : ar_57.all (am_ckD 57) = true := by decide +kernel
theorem am_dk58 : ar_58.all (am_ckD 58) = true := by decide +kernel
theorem am_dk59 : ar_59.all (am_ckD 59) = true := by decide +kernel
theorem am_dk60 : ar_60.all (am_ckD 60) = true := by decide +kernel
theorem am_dk61 : ar_61.all (am_ckD 61) = true := by decide +kernel
theorem am_dk62 : ar_62.all (am_ckD 62) = true := by decide +kernel
theorem am_dk63 : ar_63.all (am_ckD 63) = true := by decide +kernel
theorem am_dk64 : ar_64.all (am_ckD 64) = true := by decide +kernel
theorem am_dk65 : ar_65.all (am_ckD 65) = true := by decide +kernel
theorem am_dk66 : ar_66.all (am_ckD 66) = true := by decide +kernel
theorem am_dk67 : ar_67.all (am_ckD 67) = true := by decide +kernel
theorem am_dk68 : ar_68.all (am_ckD 68) = true := by decide +kernel
theorem am_dk69 : ar_69.all (am_ckD 69) = true := by decide +kernel
theorem am_dk70 : ar_70.all (am_ckD 70) = true := by decide +kernel
theorem am_dk71 : ar_71.all (am_ckD 71) = true := by decide +kernel
theorem am_dk72 : ar_72.all (am_ckD 72) = true := by decide +kernel
theorem am_dk73 : ar_73.all (am_ckD 73) = true := by decide +kernel
theorem am_dk74 : ar_74.all (am_ckD 74) = true := by decide +kernel
theorem am_dk75 : ar_75.all (am_ckD 75) = true := by decide +kernel
theorem am_dk76 : ar_76.all (am_ckD 76) = true := by decide +kernel
theorem am_dk77 : ar_77.all (am_ckD 77) = true := by decide +kernel
theorem am_dk78 : ar_78.all (am_ckD 78) = true := by decide +kernel
theorem am_dk79 : ar_79.all (am_ckD 79) = true := by decide +kernel
theorem am_dk80 : ar_80.all (am_ckD 80) = true := by decide +kernel
theorem am_dk81 : ar_81.all (am_ckD 81) = true := by decide +kernel
theorem am_dk82 : ar_82.all (am_ckD 82) = true := by decide +kernel
theorem am_dk83 : ar_83.all (am_ckD 83) = true := by decide +kernel
theorem am_dk84 : ar_84.all (am_ckD 84) = true := by decide +kernel
theorem am_dk85 : ar_85.all (am_ckD 85) = true := by decide +kernel
theorem am_dk86 : ar_86.all (am_ckD 86) = true := by decide +kernel
theorem am_dk87 : ar_87.all (am_ckD 87) = true := by decide +kernel
theorem am_dk88 : ar_88.all (am_ckD 88) = true := by decide +kernel
theorem am_dk89 : ar_89.all (am_ckD 89) = true := by decide +kernel
theorem am_dk90 : ar_90.all (am_ckD 90) = true := by decide +kernel
theorem am_dk91 : ar_91.all (am_ckD 91) = true := by decide +kernel
theorem am_dk92 : ar_92.all (am_ckD 92) = true := by decide +kernel
theorem am_dk93 : ar_93.all (am_ckD 93) = true := by decide +kernel
theorem am_dk94 : ar_94.all (am_ckD 94) = true := by decide +kernel
theorem am_dk95 : ar_95.all (am_ckD 95) = true := by decide +kernel
theorem am_dk96 : ar_96.all (am_ckD 96) = true := by decide +kernel
theorem am_dk97 : ar_97.all (am_ckD 97) = true := by decide +kernel
theorem am_dk98 : ar_98.all (am_ckD 98) = true := by decide +kernel
theorem am_dk99 : ar_99.all (am_ckD 99) = true := by decide +kernel
theorem am_dk100 : ar_100.all (am_ckD 100) = true := by decide +kernel
theorem am_dk101 : ar_101.all (am_ckD 101) = true := by decide +kernel
theorem am_dk102 : ar_102.all (am_ckD 102) = true := by decide +kernel
theorem am_dk103 : ar_103.all (am_ckD 103) = true := by decide +kernel
theorem am_dk104 : ar_104.all (am_ckD 104) = true := by decide +kernel
theorem am_dk105 : ar_105.all (am_ckD 105) = true := by decide +kernel
theorem am_dk106 : ar_106.all (am_ckD 106) = true := by decide +kernel
theorem am_dk107 : ar_107.all (am_ckD 107) = true := by decide +kernel
theorem am_dk108 : ar_108.all (am_ckD 108) = true := by decide +kernel
theorem am_dk109 : ar_109.all (am_ckD 109) = true := by decide +kernel
theorem am_dk110 : ar_110.all (am_ckD 110) = true := by decide +kernel
theorem am_dk111 : ar_111.all (am_ckD 111) = true := by decide +kernel
theorem am_dk112 : ar_112.all (am_ckD 112) = true := by decide +kernel
theorem am_dk113 : ar_113.all (am_ckD 113) = true := by decide +kernel
theorem am_dk114 : ar_114.all (am_ckD 114) = true := by decide +kernel
theorem am_dk115 : ar_115.all (am_ckD 115) = true := by decide +kernel
theorem am_dk116 : ar_116.all (am_ckD 116) = true := by decide +kernel
theorem am_dk117 : ar_117.all (am_ckD 117) = true := by decide +kernel
theorem am_dk118 : ar_118.all (am_ckD 118) = true := by decide +kernel
theorem am_dk119 : ar_119.all (am_ckD 119) = true := by decide +kernel
theorem am_dk120 : ar_120.all (am_ckD 120) = true := by decide +kernel
theorem am_dk121 : ar_121.all (am_ckD 121) = true := by decide +kernel
theorem am_dk122 : ar_122.all (am_ckD 122) = true := by decide +kernel
theorem am_dk123 : ar_123.all (am_ckD 123) = true := by decide +kernel
theorem am_dk124 : ar_124.all (am_ckD 124) = true := by decide +kernel
theorem am_dk125 : ar_125.all (am_ckD 125) = true := by decide +kernel
theorem am_dk126 : ar_126.all (am_ckD 126) = true := by decide +kernel
theorem am_dk127 : ar_127.all (am_ckD 127) = true := by decide +kernel
theorem am_dk128 : ar_128.all (am_ckD 128) = true := by decide +kernel
theorem am_dk129 : ar_129.all (am_ckD 129) = true := by decide +kernel
theorem am_dk130 : ar_130.all (am_ckD 130) = true := by decide +kernel
theorem am_dk131 : ar_131.all (am_ckD 131) = true := by decide +kernel
theorem am_dk132 : ar_132.all (am_ckD 132) = true := by decide +kernel
theorem am_dk133 : ar_133.all (am_ckD 133) = true := by decide +kernel
theorem am_dk134 : ar_134.all (am_ckD 134) = true := by decide +kernel
theorem am_dk135 : ar_135.all (am_ckD 135) = true := by decide +kernel
theorem am_dk136 : ar_136.all (am_ckD 136) = true := by decide +kernel
theorem am_dk137 : ar_137.all (am_ckD 137) = true := by decide +kernel
theorem am_dk138 : ar_138.all (am_ckD 138) = true := by decide +kernel
theorem am_dk139 : ar_139.all (am_ckD 139) = true := by decide +kernel
theorem am_dk140 : ar_140.all (am_ckD 140) = true := by decide +kernel
theorem am_dk141 : ar_141.all (am_ckD 141) = true := by decide +kernel
theorem am_dk142 : ar_142.all (am_ckD 142) = true := by decide +kernel
theorem am_dk143 : ar_143.all (am_ckD 143) = true := by decide +kernel
theorem am_dk144 : ar_144.all (am_ckD 144) = true := by decide +kernel
theorem am_dk145 : ar_145.all (am_ckD 145) = true := by decide +kernel
theorem am_dk146 : ar_146.all (am_ckD 146) = true := by decide +kernel
theorem am_dk147 : ar_147.all (am_ckD 147) = true := by decide +kernel
theorem am_dk148 : ar_148.all (am_ckD 148) = true := by decide +kernel
theorem am_dk149 : ar_149.all (am_ckD 149) = true := by decide +kernel
theorem am_dk150 : ar_150.all (am_ckD 150) = true := by decide +kernel
theorem am_dk151 : ar_151.all (am_ckD 151) = true := by decide +kernel
theorem am_dk152 : ar_152.all (am_ckD 152) = true := by decide +kernel
theorem am_dk153 : ar_153.all (am_ckD 153) = true := by decide +kernel
theorem am_dk154 : ar_154.all (am_ckD 154) = true := by decide +kernel
theorem am_dk155 : ar_155.all (am_ckD 155) = true := by decide +kernel
theorem am_dk156 : ar_156.all (am_ckD 156) = true := by decide +kernel
theorem am_dk157 : ar_157.all (am_ckD 157) = true := by decide +kernel
theorem am_dk158 : ar_158.all (am_ckD 158) = true := by decide +kernel
theorem am_dk159 : ar_159.all (am_ckD 159) = true := by decide +kernel
theorem am_dk160 : ar_160.all (am_ckD 160) = true := by decide +kernel
theorem am_dk161 : ar_161.all (am_ckD 161) = true := by decide +kernel
theorem am_dk162 : ar_162.all (am_ckD 162) = true := by decide +kernel
theorem am_dk163 : ar_163.all (am_ckD 163) = true := by decide +kernel
theorem am_dk164 : ar_164.all (am_ckD 164) = true := by decide +kernel
theorem am_dk165 : ar_165.all (am_ckD 165) = true := by decide +kernel
theorem am_dk166 : ar_166.all (am_ckD 166) = true := by decide +kernel
theorem am_dk167 : ar_167.all (am_ckD 167) = true := by decide +kernel
theorem am_dk168 : ar_168.all (am_ckD 168) = true := by decide +kernel
theorem am_dk169 : ar_169.all (am_ckD 169) = true := by decide +kernel
theorem am_dk170 : ar_170.all (am_ckD 170) = true := by decide +kernel
theorem am_dk171 : ar_171.all (am_ckD 171) = true := by decide +kernel
theorem am_dk172 : ar_172.all (am_ckD 172) = true := by decide +kernel
theorem am_dk173 : ar_173.all (am_ckD 173) = true := by decide +kernel
theorem am_dk174 : ar_174.all (am_ckD 174) = true := by decide +kernel
theorem am_dk175 : ar_175.all (am_ckD 175) = true := by decide +kernel
theorem am_dk176 : ar_176.all (am_ckD 176) = true := by decide +kernel
theorem am_dk177 : ar_177.all (am_ckD 177) = true := by decide +kernel
theorem am_dk178 : ar_178.all (am_ckD 178) = true := by decide +kernel
theorem am_dk179 : ar_179.all (am_ckD 179) = true := by decide +kernel
theorem am_dk180 : ar_180.all (am_ckD 180) = true := by decide +kernel
theorem am_dk181 : ar_181.all (am_ckD 181) = true := by decide +kernel
theorem am_dk182 : ar_182.all (am_ckD 182) = true := by decide +kernel
theorem am_dk183 : ar_183.all (am_ckD 183) = true := by decide +kernel
end
section
set_option maxRecDepth 20000 in
theorem am_wk4 : am_AllW 4 ar_4 := ⟨trivial, ⟨am_w0, am_w1, am_w2⟩, trivial, ⟨_, rfl, rfl, am_w3, am_w4, am_w5⟩, trivial, ⟨am_oc85, am_ol0, rfl, rfl, am_w7, by decide +kernel⟩, ⟨by decide, Or.inr ⟨rfl, rfl, rfl, am_w8⟩⟩, trivial, ⟨_, rfl, rfl, am_w9, am_w10, am_w11⟩, trivial, ⟨am_oc134, am_ol1, rfl, rfl, am_w13, by decide +kernel⟩, ⟨by decide, Or.inr ⟨rfl, rfl, rfl, am_w14⟩⟩, trivial, ⟨_, rfl, rfl, am_w15, am_w16, am_w17⟩, trivial, ⟨am_oc155, am_ol2, rfl, rfl, am_w19, by decide +kernel⟩, ⟨by decide, Or.inr ⟨rfl, rfl, rfl, am_w20⟩⟩, trivial, ⟨_, rfl, rfl, am_w21, am_w22, am_w23⟩, trivial, ⟨am_oc116, am_ol3, rfl, rfl, am_w25, by decide +kernel⟩, ⟨by decide, Or.inr ⟨rfl, rfl, rfl, am_w26⟩⟩, trivial, ⟨_, rfl, rfl, am_w27, am_w28, am_w29⟩, trivial, ⟨am_oc106, am_ol4, rfl, rfl, am_w31, by decide +kernel⟩, ⟨by decide, Or.inl ⟨rfl, Or.inl am_w32⟩⟩, trivial, ⟨_, rfl, rfl, am_w27, am_w28, am_w29⟩, trivial, ⟨am_oc106, am_ol4, rfl, rfl, am_w31, by decide +kernel⟩, ⟨by decide, Or.inl ⟨rfl, Or.inl am_w33⟩⟩, trivial, ⟨by decide, by decide⟩, ⟨by decide, Or.inl ⟨rfl, Or.inl am_w34⟩⟩, trivial, ⟨by decide, by decide⟩, ⟨by decide, Or.inl ⟨rfl, Or.inl am_w35⟩⟩, trivial, trivial⟩
set_option maxRecDepth 20000 in
theorem am_wk5 : am_AllW 5 ar_5 := ⟨trivial, am_of0, am_of1, (show 6 < 7 from by decide), trivial, am_of2, ⟨by decide, by decide⟩, trivial, ⟨by decide, by decide⟩, (show (0 : Int) ≤ 25 from by decide), ⟨by decide, by decide⟩, trivial, trivial, trivial, ⟨am_oc139, am_ol5, am_w41, by decide +kernel, am_w42, rfl⟩, trivial, trivial, ⟨am_oc139, am_ol5, am_w41, by decide +kernel, am_w42, rfl⟩, trivial, trivial, ⟨am_oc139, am_ol5, am_w41, by decide +kernel, am_w42, rfl⟩, trivial, trivial, ⟨am_oc139, am_ol5, am_w41, by decide +kernel, am_w42, rfl⟩, trivial, trivial, ⟨am_oc139, am_ol5, am_w41, by decide +kernel, am_w42, rfl⟩, trivial, am_of2, trivial, trivial⟩
set_option maxRecDepth 20000 in
theorem am_wk6 : am_AllW 6 ar_6 := ⟨trivial, am_of0, am_of1, (show 2 < 3 from by decide), trivial, (show (0 : Int) ≤ 27 from by decide), trivial, ⟨by decide, by decide⟩, (show (0 : Int) ≤ 27 from by decide), trivial, am_of2, ⟨by decide, by decide⟩, (show (0 : Int) ≤ 29 from by decide), ⟨by decide, by decide⟩, trivial, trivial, trivial, am_of2, trivial, ⟨by decide, by decide⟩, trivial, trivial, ⟨by decide, Or.inl ⟨rfl, Or.inl am_w37⟩⟩, trivial, am_of2, trivial, trivial⟩
set_option maxRecDepth 20000 in
theorem am_wk7 : am_AllW 7 ar_7 := ⟨trivial, am_of0, trivial, am_of3, ⟨am_oc86, am_ol6, am_w45, by decide +kernel, am_w46, rfl⟩, (show 1 < 3 from by decide), trivial, trivial, (show (0 : Int) ≤ 27 from by decide), trivial, am_of3, ⟨am_oc111, am_ol7, am_w49, by decide +kernel, am_w50, rfl⟩, (show (0 : Int) ≤ 37 from by decide), trivial, am_of0, am_of1, ⟨am_oc141, am_ol8, am_w53, by decide +kernel, am_w54, rfl⟩, ⟨by decide, Or.inl ⟨rfl, Or.inl am_w35⟩⟩, trivial, am_of0, am_of1, ⟨by decide, by decide⟩, ⟨by decide, Or.inl ⟨rfl, Or.inl am_w37⟩⟩, trivial, am_of4, ⟨by decide, by decide⟩, (show (0 : Int) ≤ 71 from by decide), trivial, (show (0 : Int) ≤ 68 from by decide), ⟨by decide, by decide⟩, (show (0 : Int) ≤ 70 from by decide), ⟨by decide, by decide⟩, trivial, trivial, am_of5, (show 2 < 3 from by decide), trivial, trivial, am_of3, ⟨by decide, Or.inl ⟨rfl, Or.inl am_w32⟩⟩, trivial, trivial, ⟨by decide, Or.inl ⟨rfl, Or.inl am_w33⟩⟩, trivial, ⟨by decide, by decide⟩, ⟨by decide, Or.inl ⟨rfl, Or.inl am_w34⟩⟩, trivial, am_of6, ⟨am_oc156, am_ol9, am_w57, by decide +kernel, am_w58, rfl⟩, trivial, am_of7, trivial, am_of5, ⟨am_oc117, am_ol10, am_w61, by decide +kernel, am_w62, rfl⟩, trivial, am_of5, am_of8, trivial, trivial⟩
set_option maxRecDepth 20000 in
theorem am_wk8 : am_AllW 8 ar_8 := ⟨trivial, am_of4, trivial, trivial⟩
set_option maxRecDepth 20000 in
theorem am_wk9 : am_AllW 9 ar_9 := ⟨trivial, am_of9, (show (0 : Int) ≤ 9 from by decide), ⟨by decide, by decide⟩, trivial, trivial, ⟨by decide, by decide, by decide, by decide, by decide⟩, trivial, am_of5, am_of10, am_of11, trivial, trivial, am_of5, am_of10, am_of12, trivial, trivial, am_of5, am_of13, trivial, trivial, am_of5, am_of8, trivial, trivial, am_of5, am_of14, am_of15, trivial, ⟨by decide, by decide⟩, trivial, trivial⟩
set_option maxRecDepth 20000 in
theorem am_wk10 : am_AllW 10 ar_10 := ⟨trivial, am_of9, (show (0 : Int) ≤ 9 from by decide), ⟨by decide, by decide⟩, trivial, trivial, am_of6, ⟨am_oc156, am_ol9, am_w57, by decide +kernel, am_w58, rfl⟩, trivial, am_of0, trivial, am_of16, ⟨am_oc87, am_ol11, am_w72, by decide +kernel, am_w73, rfl⟩, (show 2 < 4 from by decide), trivial, am_of0, am_of1, am_of2, (show 3 < 4 from by decide), trivial, am_of0, am_of1, ⟨by decide, by decide⟩, ⟨by decide, Or.inl ⟨rfl, Or.inl am_w37⟩⟩, trivial, (show (0 : Int) ≤ 57 from by decide), ⟨by decide, by decide⟩, trivial, trivial, am_of5, trivial, am_of16, trivial, am_of16, am_of17, trivial, ⟨am_oc112, am_ol12, am_w77, by decide +kernel, am_w78, rfl⟩, ⟨by decide, by decide⟩, (show (0 : Int) ≤ 83 from by decide), ⟨by decide, by decide⟩, trivial, trivial, am_of6, trivial, am_of5, trivial, am_of16, trivial, ⟨am_oc157, am_ol13, am_w81, by decide +kernel, am_w82, rfl⟩, trivial, trivial⟩
set_option maxRecDepth 20000 in
theorem am_wk11 : am_AllW 11 ar_11 := ⟨trivial, am_of9, (show (0 : Int) ≤ 17 from by decide), trivial, am_of6, am_of18, (show (0 : Int) ≤ 18 from by decide), ⟨by decide, by decide⟩, trivial, trivial⟩
set_option maxRecDepth 20000 in
theorem am_wk12 : am_AllW 12 ar_12 := ⟨trivial, am_of9, (show (0 : Int) ≤ 34 from by decide), trivial, (show (0 : Int) ≤ 34 from by decide), trivial, trivial, am_of6, am_of18, (show (0 : Int) ≤ 34 from by decide), trivial, am_of6, am_of19, trivial, trivial, (show (0 : Int) ≤ 35 from by decide), ⟨by decide, by decide⟩, trivial, trivial⟩
set_option maxRecDepth 20000 in
theorem am_wk13 : am_AllW 13 ar_13 := ⟨trivial, am_of9, (show (0 : Int) ≤ 9 from by decide), ⟨by decide, by decide⟩, trivial, trivial, am_of7, trivial, am_of5, ⟨am_oc118, am_ol14, am_w87, by decide +kernel, am_w88, rfl⟩, trivial, am_of7, am_of20, am_of21, (show (0 : Int) ≤ 37 from by decide), ⟨by decide, by decide⟩, (show (0 : Int) ≤ 38 from by decide), ⟨by decide, by decide⟩, trivial, trivial⟩
set_option maxRecDepth 20000 in
theorem am_wk14 : am_AllW 14 ar_14 := ⟨trivial, am_of9, (show (0 : Int) ≤ 9 from by decide), ⟨by decide, by decide⟩, trivial, trivial, am_of7, trivial, am_of5, ⟨am_oc118, am_ol14, am_w87, by decide +kernel, am_w88, rfl⟩, trivial, (show (0 : Int) ≤ 53 from by decide), trivial, trivial, am_of7, am_of20, am_of21, (show (0 : Int) ≤ 53 from by decide), trivial, am_of7, am_of20, am_of22, trivial, trivial, (show (0 : Int) ≤ 54 from by decide), ⟨by decide, by decide⟩, trivial, trivial⟩
set_option maxRecDepth 20000 in
theorem am_wk15 : am_AllW 15 ar_15 := ⟨trivial, am_of9, (show (0 : Int) ≤ 22 from by decide), trivial, (show (0 : Int) ≤ 22 from by decide), trivial, trivial, am_of5, am_of8, (show (0 : Int) ≤ 24 from by decide), ⟨by decide, by decide⟩, trivial, trivial, am_of7, trivial, am_of5, trivial, ⟨am_oc119, am_ol15, am_w94, by decide +kernel, am_w95, rfl⟩, (show (0 : Int) ≤ 43 from by decide), ⟨by decide, by decide⟩, (show (0 : Int) ≤ 44 from by decide), ⟨by decide, by decide⟩, trivial, trivial⟩
set_option maxRecDepth 20000 in
theorem am_wk16 : am_AllW 16 ar_16 := ⟨trivial, ⟨am_w96, am_w1, am_w2⟩, trivial, ⟨by decide, by decide⟩, am_w97, ⟨by decide, Or.inr ⟨rfl, rfl, rfl, am_w98⟩⟩, trivial, ⟨by decide, by decide⟩, ⟨by decide, Or.inl ⟨rfl, Or.inl am_w99⟩⟩, trivial, ⟨by decide, by decide⟩, am_w100, ⟨by decide, Or.inr ⟨rfl, rfl, rfl, am_w101⟩⟩, trivial, ⟨by decide, by decide⟩, am_w100, ⟨by decide, Or.inr ⟨rfl, rfl, rfl, am_w102⟩⟩, trivial, ⟨by decide, by decide⟩, am_w103, ⟨by decide, Or.inr ⟨rfl, rfl, rfl, am_w104⟩⟩, trivial, ⟨by decide, by decide⟩, am_w100, ⟨by decide, Or.inr ⟨rfl, rfl, rfl, am_w105⟩⟩, trivial, ⟨by decide, by decide⟩, ⟨by decide, Or.inl ⟨rfl, Or.inl am_w106⟩⟩, trivial, ⟨by decide, by decide⟩, am_w100, ⟨by decide, Or.inr ⟨rfl, rfl, rfl, am_w107⟩⟩, trivial, ⟨by decide, by decide⟩, am_w100, ⟨by decide, Or.inr ⟨rfl, rfl, rfl, am_w108⟩⟩, trivial, ⟨by decide, by decide⟩, am_w100, ⟨by decide, Or.inr ⟨rfl, rfl, rfl, am_w109⟩⟩, trivial, ⟨by decide, by decide⟩, am_w103, ⟨by decide, Or.inr ⟨rfl, rfl, rfl, am_w110⟩⟩, trivial, ⟨by decide, by decide⟩, am_w100, ⟨by decide, Or.inr ⟨rfl, rfl, rfl, am_w111⟩⟩, trivial, ⟨by decide, by decide⟩, am_w100, ⟨by decide, Or.inr ⟨rfl, rfl, rfl, am_w112⟩⟩, trivial, ⟨by decide, by decide⟩, am_w100, ⟨by decide, Or.inr ⟨rfl, rfl, rfl, am_w113⟩⟩, trivial, ⟨by decide, by decide⟩, am_w100, ⟨by decide, Or.inr ⟨rfl, rfl, rfl, am_w114⟩⟩, trivial, ⟨by decide, by decide⟩, am_w100, ⟨by decide, Or.inr ⟨rfl, rfl, rfl, am_w115⟩⟩, trivial, ⟨by decide, by decide⟩, am_w100, ⟨by decide, Or.inr ⟨rfl, rfl, rfl, am_w116⟩⟩, trivial, ⟨by decide, by decide⟩, am_w100, ⟨by decide, Or.inr ⟨rfl, rfl, rfl, am_w117⟩⟩, trivial, ⟨by decide, by decide⟩, am_w118, ⟨by decide, Or.inr ⟨rfl, rfl, rfl, am_w119⟩⟩, trivial, ⟨by decide, by decide⟩, am_w100, ⟨by decide, Or.inr ⟨rfl, rfl, rfl, am_w120⟩⟩, trivial, ⟨by decide, by decide⟩, am_w100, ⟨by decide, Or.inr ⟨rfl, rfl, rfl, am_w121⟩⟩, trivial, ⟨by decide, by decide⟩, am_w100, ⟨by decide, Or.inr ⟨rfl, rfl, rfl, am_w122⟩⟩, trivial, ⟨by decide, by decide⟩, am_w100, ⟨by decide, Or.inr ⟨rfl, rfl, rfl, am_w123⟩⟩, trivial, ⟨by decide, by decide⟩, am_w100, ⟨by decide, Or.inr ⟨rfl, rfl, rfl, am_w124⟩⟩, trivial, ⟨by decide, by decide⟩, am_w100, ⟨by decide, Or.inr ⟨rfl, rfl, rfl, am_w125⟩⟩, trivial, ⟨⟨by decide, by decide⟩, am_w126⟩, am_w100, ⟨by decide, Or.inr ⟨rfl, rfl, rfl, am_w127⟩⟩, trivial, ⟨⟨by decide, by decide⟩, am_w126⟩, am_w118, ⟨by decide, Or.inr ⟨rfl, rfl, rfl, am_w128⟩⟩, trivial, ⟨by decide, by decide⟩, am_w100, ⟨by decide, Or.inr ⟨rfl, rfl, rfl, am_w129⟩⟩, trivial, ⟨⟨by decide, by decide⟩, am_w126⟩, am_w100, ⟨by decide, Or.inr ⟨rfl, rfl, rfl, am_w130⟩⟩, trivial, ⟨by decide, by decide⟩, am_w100, ⟨by decide, Or.inr ⟨rfl, rfl, rfl, am_w131⟩⟩, trivial, ⟨by decide, by decide⟩, am_w100, ⟨by decide, Or.inr ⟨rfl, rfl, rfl, am_w132⟩⟩, trivial, ⟨by decide, by decide⟩, am_w100, ⟨by decide, Or.inr ⟨rfl, rfl, rfl, am_w133⟩⟩, trivial, ⟨by decide, by decide⟩, am_w100, ⟨by decide, Or.inr ⟨rfl, rfl, rfl, am_w134⟩⟩, trivial, ⟨by decide, by decide⟩, am_w118, ⟨by decide, Or.inr ⟨rfl, rfl, rfl, am_w135⟩⟩, trivial, ⟨by decide, by decide⟩, am_w118, ⟨by decide, Or.inr ⟨rfl, rfl, rfl, am_w136⟩⟩, trivial, ⟨by decide, by decide⟩, am_w97, ⟨by decide, Or.inr ⟨rfl, rfl, rfl, am_w137⟩⟩, trivial, ⟨by decide, by decide⟩, am_w100, ⟨by decide, Or.inr ⟨rfl, rfl, rfl, am_w138⟩⟩, trivial, ⟨by decide, by decide⟩, am_w100, ⟨by decide, Or.inr ⟨rfl, rfl, rfl, am_w139⟩⟩, trivial, trivial⟩
set_option maxRecDepth 20000 in
theorem am_wk17 : am_AllW 17 ar_17 := ⟨trivial, ⟨by decide, by decide⟩, (show (0 : Int) ≤ 16 from by decide), trivial, ⟨by decide, by decide⟩, (show (0 : Int) ≤ 16 from by decide), ⟨by decide, by decide⟩, (show (0 : Int) ≤ 17 from by decide), ⟨by decide, by decide⟩, trivial, trivial⟩
set_option maxRecDepth 20000 in
theorem am_wk18 : am_AllW 18 ar_18 := ⟨trivial, ⟨by decide, by decide⟩, (show (0 : Int) ≤ 16 from by decide), trivial, ⟨by decide, by decide⟩, (show (0 : Int) ≤ 16 from by decide), ⟨by decide, by decide⟩, (show (0 : Int) ≤ 17 from by decide), ⟨by decide, by decide⟩, trivial, trivial⟩
set_option maxRecDepth 20000 in
theorem am_wk19 : am_AllW 19 ar_19 := ⟨trivial, ⟨by decide, by decide⟩, (show (0 : Int) ≤ 16 from by decide), trivial, ⟨by decide, by decide⟩, (show (0 : Int) ≤ 16 from by decide), ⟨by decide, by decide⟩, (show (0 : Int) ≤ 17 from by decide), ⟨by decide, by decide⟩, trivial, trivial⟩
set_option maxRecDepth 20000 in
theorem am_wk20 : am_AllW 20 ar_20 := ⟨trivial, trivial, am_of23, (show (0 : Int) ≤ 21 from by decide), trivial, am_of24, trivial, trivial, ⟨by decide, by decide⟩, trivial, (show (0 : Int) ≤ 22 from by decide), ⟨by decide, by decide⟩, trivial, trivial⟩
set_option maxRecDepth 20000 in
theorem am_wk21 : am_AllW 21 ar_21 := ⟨trivial, ⟨by decide, by decide⟩, (show (0 : Int) ≤ 60 from by decide), trivial, ⟨by decide, by decide⟩, (show (0 : Int) ≤ 60 from by decide), trivial, ⟨by decide, by decide⟩, (show (0 : Int) ≤ 60 from by decide), trivial, ⟨by decide, by decide⟩, (show (0 : Int) ≤ 60 from by decide), trivial, ⟨by decide, by decide⟩, (show (0 : Int) ≤ 60 from by decide), trivial, ⟨by decide, by decide⟩, (show (0 : Int) ≤ 60 from by decide), trivial, ⟨by decide, by decide⟩, (show (0 : Int) ≤ 60 from by decide), trivial, ⟨by decide, by decide⟩, (show (0 : Int) ≤ 60 from by decide), trivial, ⟨by decide, by decide⟩, (show (0 : Int) ≤ 60 from by decide), trivial, ⟨by decide, by decide⟩, (show (0 : Int) ≤ 64 from by decide), ⟨by decide, by decide⟩, (show (0 : Int) ≤ 65 from by decide), ⟨by decide, by decide⟩, trivial, trivial⟩
set_option maxRecDepth 20000 in
theorem am_wk22 : am_AllW 22 ar_22 := ⟨trivial, ⟨by decide, by decide⟩, ⟨by decide, Or.inl ⟨rfl, Or.inl am_w141⟩⟩, ⟨by decide, by decide⟩, (show 1 < 6 from by decide), ⟨by decide, by decide⟩, (show 2 < 6 from by decide), trivial, (show (0 : Int) ≤ 255 from by decide), trivial, trivial, ⟨am_oc20, am_ol16, am_w145, by decide +kernel, am_sl20, rfl⟩, (show 3 < 6 from by decide), trivial, ⟨by decide, by decide⟩, (show (0 : Int) ≤ 31 from by decide), trivial, ⟨by decide, by decide⟩, (show (0 : Int) ≤ 43 from by decide), (show 1 < 6 from by decide), trivial, trivial, ⟨am_oc20, am_ol16, am_w145, by decide +kernel, am_sl20, rfl⟩, (show 3 < 6 from by decide), (show (0 : Int) ≤ 19 from by decide), trivial, am_of25, trivial, am_of26, trivial, trivial, trivial, am_of27, trivial, am_of26, trivial, trivial, trivial, trivial, (show (0 : Int) ≤ 83 from by decide), trivial, am_of28, trivial, am_of26, ⟨by decide, by decide⟩, trivial, ⟨by decide, by decide⟩, (show 2 < 6 from by decide), (show (0 : Int) ≤ 242 from by decide), trivial, ⟨am_oc17, am_ol17, am_w148, by decide +kernel⟩, (show (0 : Int) ≤ 97 from by decide), trivial, ⟨am_oc18, am_ol18, am_w151, by decide +kernel⟩, (show (0 : Int) ≤ 107 from by decide), trivial, trivial, trivial, ⟨am_oc23, am_ol19, am_w154, by decide +kernel, am_sl23, rfl⟩, (show 1 < 6 from by decide), (show (0 : Int) ≤ 242 from by decide), trivial, ⟨am_oc19, am_ol20, am_w157, by decide +kernel⟩, (show (0 : Int) ≤ 217 from by decide), ⟨by decide, by decide⟩, (show 4 < 6 from by decide), ⟨by decide, by decide⟩, (show 5 < 6 from by decide), trivial, trivial, ⟨am_oc20, am_ol16, am_w145, by decide +kernel, am_sl20, rfl⟩, ⟨am_oc19, am_ol20, am_w157, by decide +kernel⟩, (show (0 : Int) ≤ 168 from by decide), trivial, ⟨by decide, by decide⟩, (show (0 : Int) ≤ 154 from by decide), ⟨by decide, by decide⟩, trivial, trivial, trivial, trivial, ⟨am_oc20, am_ol16, am_w145, by decide +kernel, am_sl20, rfl⟩, trivial, ⟨by decide, by decide⟩, trivial, (show (0 : Int) ≤ 157 from by decide), ⟨by decide, by decide⟩, (show 5 < 6 from by decide), (show 4 < 6 from by decide), (show 1 < 6 from by decide), (show (0 : Int) ≤ 120 from by decide), trivial, am_of28, trivial, am_of26, trivial, ⟨by decide, by decide⟩, (show (0 : Int) ≤ 196 from by decide), trivial, ⟨by decide, by decide⟩, (show (0 : Int) ≤ 200 from by decide), trivial, ⟨by decide, by decide⟩, (show (0 : Int) ≤ 200 from by decide), ⟨by decide, by decide⟩, (show (0 : Int) ≤ 201 from by decide), ⟨by decide, by decide⟩, trivial, trivial, am_of27, trivial, am_of26, trivial, trivial, trivial, (show (0 : Int) ≤ 242 from by decide), trivial, am_of28, trivial, am_of26, trivial, ⟨am_oc21, am_ol21, am_w160, by decide +kernel⟩, (show (0 : Int) ≤ 237 from by decide), ⟨by decide, by decide⟩, (show (0 : Int) ≤ 238 from by decide), ⟨by decide, by decide⟩, trivial, (show 1 < 6 from by decide), trivial, trivial, am_of26, ⟨by decide, by decide⟩, trivial, ⟨by decide, Or.inl ⟨rfl, Or.inl am_w141⟩⟩, (show (0 : Int) ≤ 9 from by decide), trivial, trivial⟩
set_option maxRecDepth 20000 in
theorem am_wk23 : am_AllW 23 ar_23 := ⟨trivial, (show 3 < 8 from by decide), trivial, (show 4 + 1 < 8 from by decide), ⟨by decide, by decide⟩, (show 6 < 8 from by decide), trivial, trivial, ⟨am_oc20, am_ol16, am_w145, by decide +kernel, am_sl20, rfl⟩, ⟨am_oc17, am_ol17, am_w148, by decide +kernel⟩, (show (0 : Int) ≤ 30 from by decide), trivial, trivial, ⟨am_oc20, am_ol16, am_w145, by decide +kernel, am_sl20, rfl⟩, ⟨am_oc18, am_ol18, am_w151, by decide +kernel⟩, (show (0 : Int) ≤ 86 from by decide), trivial, (show (0 : Int) ≤ 50 from by decide), trivial, trivial, ⟨am_oc20, am_ol16, am_w145, by decide +kernel, am_sl20, rfl⟩, ⟨am_oc17, am_ol17, am_w148, by decide +kernel⟩, (show (0 : Int) ≤ 50 from by decide), ⟨by decide, by decide⟩, (show (0 : Int) ≤ 51 from by decide), ⟨by decide, by decide⟩, (show 6 < 8 from by decide), trivial, trivial, trivial, ⟨by decide, by decide⟩, (show (0 : Int) ≤ 76 from by decide), trivial, ⟨by decide, by decide⟩, trivial, trivial, trivial, ⟨am_oc20, am_ol16, am_w145, by decide +kernel, am_sl20, rfl⟩, trivial, trivial, (show (0 : Int) ≤ 78 from by decide), trivial, (show 4 + 1 < 8 from by decide), (show 3 < 8 from by decide), (show (0 : Int) ≤ 8 from by decide), trivial, trivial, trivial, (show 7 < 8 from by decide), trivial, am_of28, trivial, am_of26, trivial, ⟨by decide, by decide⟩, (show (0 : Int) ≤ 120 from by decide), trivial, ⟨am_oc18, am_ol18, am_w151, by decide +kernel⟩, (show (0 : Int) ≤ 116 from by decide), ⟨by decide, by decide⟩, (show (0 : Int) ≤ 137 from by decide), ⟨by decide, by decide⟩, (show (0 : Int) ≤ 137 from by decide), trivial, (show (0 : Int) ≤ 136 from by decide), trivial, ⟨by decide, by decide⟩, (show (0 : Int) ≤ 136 from by decide), ⟨by decide, by decide⟩, (show (0 : Int) ≤ 137 from by decide), ⟨by decide, by decide⟩, trivial, trivial, am_of27, trivial, am_of26, trivial, ⟨by decide, by decide⟩, (show (0 : Int) ≤ 171 from by decide), trivial, ⟨am_oc18, am_ol18, am_w151, by decide +kernel⟩, (show (0 : Int) ≤ 166 from by decide), trivial, ⟨by decide, by decide⟩, trivial, (show (0 : Int) ≤ 167 from by decide), trivial, trivial, (show (0 : Int) ≤ 173 from by decide), trivial, trivial, trivial, trivial, trivial⟩
set_option maxRecDepth 20000 in
theorem am_wk24 : am_AllW 24 ar_24 := ⟨trivial, am_of29, (show (0 : Int) ≤ 25 from by decide), trivial, ⟨by decide, by decide⟩, ⟨by decide, Or.inl ⟨rfl, Or.inl am_w161⟩⟩, trivial, trivial, am_of25, trivial, am_of30, trivial, ⟨by decide, Or.inl ⟨rfl, Or.inl am_w163⟩⟩, trivial, trivial⟩
set_option maxRecDepth 20000 in
theorem am_wk25 : am_AllW 25 ar_25 := ⟨trivial, am_of28, trivial, am_of30, trivial, ⟨by decide, by decide⟩, (show (0 : Int) ≤ 33 from by decide), trivial, am_of27, trivial, am_of30, trivial, trivial, trivial, trivial, (show (0 : Int) ≤ 33 from by decide), ⟨by decide, by decide⟩, (show (0 : Int) ≤ 34 from by decide), ⟨by decide, by decide⟩, trivial, trivial⟩
set_option maxRecDepth 20000 in
theorem am_wk26 : am_AllW 26 ar_26 := ⟨trivial, am_of28, trivial, am_of30, trivial, ⟨by decide, by decide⟩, (show (0 : Int) ≤ 31 from by decide), trivial, am_of27, trivial, am_of30, trivial, trivial, trivial, (show (0 : Int) ≤ 31 from by decide), ⟨by decide, by decide⟩, (show (0 : Int) ≤ 32 from by decide), ⟨by decide, by decide⟩, trivial, trivial⟩
set_option maxRecDepth 20000 in
theorem am_wk27 : am_AllW 27 ar_27 := ⟨trivial, am_of28, trivial, am_of30, trivial, ⟨by decide, by decide⟩, (show (0 : Int) ≤ 81 from by decide), trivial, am_of27, trivial, am_of30, trivial, ⟨⟨by decide, by decide⟩, am_w164⟩, trivial, (show (0 : Int) ≤ 81 from by decide), trivial, am_of27, trivial, am_of30, trivial, ⟨⟨by decide, by decide⟩, am_w165⟩, trivial, (show (0 : Int) ≤ 81 from by decide), trivial, am_of27, trivial, am_of30, trivial, ⟨⟨by decide, by decide⟩, am_w166⟩, trivial, (show (0 : Int) ≤ 81 from by decide), trivial, am_of27, trivial, am_of30, trivial, ⟨⟨by decide, by decide⟩, am_w167⟩, trivial, (show (0 : Int) ≤ 81 from by decide), ⟨by decide, by decide⟩, (show (0 : Int) ≤ 82 from by decide), ⟨by decide, by decide⟩, trivial, trivial⟩
set_option maxRecDepth 20000 in
theorem am_wk28 : am_AllW 28 ar_28 := ⟨trivial, trivial, ⟨am_oc25, am_ol22, am_w170, by decide +kernel, am_sl25, rfl⟩, (show (0 : Int) ≤ 12 from by decide), trivial, ⟨am_oc24, am_ol23, am_w173, by decide +kernel, am_sl24, rfl⟩, trivial, am_of29, (show (0 : Int) ≤ 29 from by decide), trivial, trivial, am_of30, ⟨by decide, by decide⟩, trivial, ⟨by decide, Or.inl ⟨rfl, Or.inl am_w162⟩⟩, trivial, trivial⟩
set_option maxRecDepth 20000 in
theorem am_wk29 : am_AllW 29 ar_29 := ⟨trivial, (show (0 : Int) ≤ 8 from by decide), trivial, ⟨am_oc24, am_ol23, am_w173, by decide +kernel, am_sl24, rfl⟩, trivial, am_of29, (show (0 : Int) ≤ 25 from by decide), trivial, trivial, am_of30, ⟨by decide, by decide⟩, trivial, ⟨by decide, Or.inl ⟨rfl, Or.inl am_w162⟩⟩, trivial, trivial⟩
set_option maxRecDepth 20000 in
theorem am_wk30 : am_AllW 30 ar_30 := ⟨⟨by decide, by decide⟩, (show 1 < 3 from by decide), trivial, am_of29, (show (0 : Int) ≤ 155 from by decide), trivial, ⟨⟨by decide, by decide⟩, am_w164⟩, ⟨am_oc26, am_ol24, am_w176, by decide +kernel, am_sl26, rfl⟩, (show (0 : Int) ≤ 33 from by decide), trivial, ⟨⟨by decide, by decide⟩, am_w165⟩, ⟨am_oc26, am_ol24, am_w176, by decide +kernel, am_sl26, rfl⟩, (show (0 : Int) ≤ 33 from by decide), trivial, (show (0 : Int) ≤ 155 from by decide), trivial, ⟨⟨by decide, by decide⟩, am_w164⟩, ⟨am_oc26, am_ol24, am_w176, by decide +kernel, am_sl26, rfl⟩, (show 2 < 3 from by decide), trivial, trivial, (show (0 : Int) ≤ 56 from by decide), trivial, ⟨⟨by decide, by decide⟩, am_w165⟩, ⟨am_oc26, am_ol24, am_w176, by decide +kernel, am_sl26, rfl⟩, (show (0 : Int) ≤ 60 from by decide), ⟨by decide, by decide⟩, (show (0 : Int) ≤ 61 from by decide), ⟨by decide, by decide⟩, ⟨am_oc29, am_ol25, am_w179, by decide +kernel, am_sl29, rfl⟩, trivial, ⟨by decide, by decide⟩, (show (0 : Int) ≤ 74 from by decide), trivial, ⟨am_oc24, am_ol23, am_w173, by decide +kernel, am_sl24, rfl⟩, trivial, trivial, am_of28, trivial, am_of30, trivial, ⟨by decide, by decide⟩, (show (0 : Int) ≤ 92 from by decide), ⟨by decide, by decide⟩, (show (0 : Int) ≤ 93 from by decide), ⟨by decide, by decide⟩, ⟨am_oc29, am_ol25, am_w179, by decide +kernel, am_sl29, rfl⟩, trivial, ⟨by decide, by decide⟩, ⟨am_oc28, am_ol26, am_w182, by decide +kernel, am_sl28, rfl⟩, trivial, (show (0 : Int) ≤ 113 from by decide), trivial, ⟨am_oc32, am_ol27, am_w185, by decide +kernel, am_sl32, rfl⟩, (show (0 : Int) ≤ 143 from by decide), trivial, trivial, ⟨am_oc27, am_ol28, am_w188, by decide +kernel, am_sl27, rfl⟩, ⟨am_oc29, am_ol25, am_w179, by decide +kernel, am_sl29, rfl⟩, trivial, trivial, am_of28, trivial, am_of30, trivial, ⟨by decide, by decide⟩, (show (0 : Int) ≤ 139 from by decide), ⟨by decide, by decide⟩, (show (0 : Int) ≤ 140 from by decide), ⟨by decide, by decide⟩, ⟨am_oc29, am_ol25, am_w179, by decide +kernel, am_sl29, rfl⟩, trivial, ⟨by decide, by decide⟩, ⟨am_oc28, am_ol26, am_w182, by decide +kernel, am_sl28, rfl⟩, (show 1 < 3 from by decide), (show (0 : Int) ≤ 2 from by decide), trivial, trivial, ⟨⟨by decide, by decide⟩, am_w166⟩, ⟨am_oc26, am_ol24, am_w176, by decide +kernel, am_sl26, rfl⟩, ⟨am_oc29, am_ol25, am_w179, by decide +kernel, am_sl29, rfl⟩, trivial, ⟨by decide, by decide⟩, ⟨am_oc31, am_ol29, am_w191, by decide +kernel, am_sl31, rfl⟩, trivial, am_of29, (show (0 : Int) ≤ 197 from by decide), trivial, am_of28, trivial, am_of30, ⟨by decide, by decide⟩, trivial, trivial, ⟨by decide, by decide⟩, (show (0 : Int) ≤ 197 from by decide), trivial, ⟨am_oc24, am_ol23, am_w173, by decide +kernel, am_sl24, rfl⟩, trivial, ⟨by decide, by decide⟩, ⟨am_oc28, am_ol26, am_w182, by decide +kernel, am_sl28, rfl⟩, trivial, trivial, am_of30, ⟨by decide, Or.inl ⟨rfl, Or.inl am_w192⟩⟩, trivial, ⟨by decide, by decide⟩, ⟨by decide, Or.inl ⟨rfl, Or.inl am_w193⟩⟩, ⟨by decide, by decide⟩, (show 2 < 3 from by decide), trivial, am_of29, (show (0 : Int) ≤ 295 from by decide), trivial, am_of28, trivial, am_of30, trivial, (show (0 : Int) ≤ 241 from by decide), trivial, (show (0 : Int) ≤ 295 from by decide), trivial, ⟨by decide, by decide⟩, (show (0 : Int) ≤ 251 from by decide), trivial, ⟨am_oc24, am_ol23, am_w173, by decide +kernel, am_sl24, rfl⟩, trivial, ⟨by decide, by decide⟩, ⟨am_oc34, am_ol30, am_w196, by decide +kernel, am_sl34, rfl⟩, trivial, am_of29, (show (0 : Int) ≤ 283 from by decide), trivial, ⟨⟨by decide, by decide⟩, am_w167⟩, ⟨am_oc26, am_ol24, am_w176, by decide +kernel, am_sl26, rfl⟩, (show (0 : Int) ≤ 283 from by decide), trivial, trivial, am_of30, ⟨by decide, by decide⟩, trivial, ⟨by decide, Or.inl ⟨rfl, Or.inl am_w162⟩⟩, trivial, ⟨by decide, by decide⟩, ⟨am_oc28, am_ol26, am_w182, by decide +kernel, am_sl28, rfl⟩, (show 2 < 3 from by decide), (show (0 : Int) ≤ 218 from by decide), trivial, trivial⟩
set_option maxRecDepth 20000 in
theorem am_wk31 : am_AllW 31 ar_31 := ⟨⟨by decide, by decide⟩, (show 2 < 3 from by decide), trivial, am_of29, (show (0 : Int) ≤ 50 from by decide), trivial, am_of28, trivial, am_of30, trivial, ⟨by decide, by decide⟩, (show (0 : Int) ≤ 50 from by decide), trivial, trivial, (show (0 : Int) ≤ 34 from by decide), trivial, ⟨am_oc24, am_ol23, am_w173, by decide +kernel, am_sl24, rfl⟩, (show (0 : Int) ≤ 2 from by decide), trivial, trivial, am_of30, ⟨by decide, by decide⟩, trivial, ⟨by decide, Or.inl ⟨rfl, Or.inl am_w162⟩⟩, (show 2 < 3 from by decide), (show (0 : Int) ≤ 2 from by decide), trivial, trivial⟩
set_option maxRecDepth 20000 in
theorem am_wk32 : am_AllW 32 ar_32 := ⟨⟨by decide, by decide⟩, (show 1 < 3 from by decide), ⟨by decide, by decide⟩, (show 2 < 3 from by decide), trivial, (show (0 : Int) ≤ 80 from by decide), trivial, am_of29, (show (0 : Int) ≤ 80 from by decide), trivial, ⟨by decide, by decide⟩, (show (0 : Int) ≤ 25 from by decide), trivial, ⟨am_oc24, am_ol23, am_w173, by decide +kernel, am_sl24, rfl⟩, trivial, trivial, ⟨am_oc27, am_ol28, am_w188, by decide +kernel, am_sl27, rfl⟩, ⟨am_oc29, am_ol25, am_w179, by decide +kernel, am_sl29, rfl⟩, trivial, ⟨by decide, by decide⟩, ⟨am_oc31, am_ol29, am_w191, by decide +kernel, am_sl31, rfl⟩, (show 1 < 3 from by decide), trivial, am_of29, (show (0 : Int) ≤ 61 from by decide), trivial, ⟨by decide, by decide⟩, ⟨am_oc25, am_ol22, am_w170, by decide +kernel, am_sl25, rfl⟩, (show (0 : Int) ≤ 61 from by decide), ⟨by decide, by decide⟩, (show (0 : Int) ≤ 62 from by decide), ⟨by decide, by decide⟩, (show 2 < 3 from by decide), trivial, (show (0 : Int) ≤ 4 from by decide), trivial, trivial, am_of30, ⟨by decide, by decide⟩, trivial, ⟨by decide, Or.inl ⟨rfl, Or.inl am_w162⟩⟩, (show (0 : Int) ≤ 4 from by decide), trivial, trivial⟩
set_option maxRecDepth 20000 in
theorem am_wk33 : am_AllW 33 ar_33 := ⟨trivial, am_of28, trivial, am_of30, trivial, ⟨by decide, by decide⟩, (show (0 : Int) ≤ 85 from by decide), trivial, ⟨am_oc27, am_ol28, am_w188, by decide +kernel, am_sl27, rfl⟩, (show (0 : Int) ≤ 85 from by decide), trivial, ⟨by decide, by decide⟩, ⟨am_oc25, am_ol22, am_w170, by decide +kernel, am_sl25, rfl⟩, (show (0 : Int) ≤ 85 from by decide), trivial, (show (0 : Int) ≤ 45 from by decide), trivial, ⟨by decide, by decide⟩, ⟨am_oc25, am_ol22, am_w170, by decide +kernel, am_sl25, rfl⟩, (show (0 : Int) ≤ 89 from by decide), (show (0 : Int) ≤ 85 from by decide), trivial, am_of28, trivial, am_of30, trivial, ⟨by decide, by decide⟩, (show (0 : Int) ≤ 85 from by decide), trivial, ⟨by decide, by decide⟩, ⟨am_oc25, am_ol22, am_w170, by decide +kernel, am_sl25, rfl⟩, (show (0 : Int) ≤ 85 from by decide), trivial, ⟨by decide, by decide⟩, ⟨am_oc25, am_ol22, am_w170, by decide +kernel, am_sl25, rfl⟩, (show (0 : Int) ≤ 85 from by decide), trivial, ⟨by decide, by decide⟩, ⟨am_oc25, am_ol22, am_w170, by decide +kernel, am_sl25, rfl⟩, (show (0 : Int) ≤ 89 from by decide), ⟨by decide, by decide⟩, (show (0 : Int) ≤ 90 from by decide), ⟨by decide, by decide⟩, trivial, trivial⟩
set_option maxRecDepth 20000 in
theorem am_wk34 : am_AllW 34 ar_34 := ⟨trivial, ⟨by decide, by decide⟩, ⟨by decide, Or.inl ⟨rfl, Or.inl am_w197⟩⟩, ⟨by decide, by decide⟩, (show 2 < 4 from by decide), ⟨by decide, by decide⟩, (show 3 < 4 from by decide), trivial, (show (0 : Int) ≤ 101 from by decide), trivial, am_of29, (show (0 : Int) ≤ 101 from by decide), trivial, trivial, ⟨am_oc33, am_ol31, am_w200, by decide +kernel, am_sl33, rfl⟩, (show (0 : Int) ≤ 44 from by decide), trivial, am_of31, (show (0 : Int) ≤ 44 from by decide), trivial, (show (0 : Int) ≤ 44 from by decide), ⟨by decide, by decide⟩, (show 2 < 4 from by decide), (show (0 : Int) ≤ 9 from by decide), trivial, (show (0 : Int) ≤ 91 from by decide), trivial, am_of31, (show (0 : Int) ≤ 91 from by decide), trivial, ⟨by decide, by decide⟩, ⟨am_oc25, am_ol22, am_w170, by decide +kernel, am_sl25, rfl⟩, (show (0 : Int) ≤ 91 from by decide), trivial, trivial, am_of30, ⟨by decide, by decide⟩, trivial, ⟨by decide, Or.inl ⟨rfl, Or.inl am_w162⟩⟩, trivial, trivial, am_of31, ⟨by decide, by decide⟩, trivial, ⟨by decide, Or.inl ⟨rfl, Or.inl am_w197⟩⟩, trivial, ⟨am_oc35, am_ol32, am_w203, by decide +kernel, am_sl35, rfl⟩, (show (0 : Int) ≤ 9 from by decide), trivial, trivial, ⟨am_oc36, am_ol33, am_w206, by decide +kernel, am_sl36, rfl⟩, ⟨by decide, by decide⟩, (show 3 < 4 from by decide), (show (0 : Int) ≤ 9 from by decide), trivial, trivial⟩
set_option maxRecDepth 20000 in
theorem am_wk35 : am_AllW 35 ar_35 := ⟨trivial, am_of31, (show (0 : Int) ≤ 35 from by decide), trivial, am_of32, trivial, am_of31, ⟨by decide, by decide⟩, trivial, trivial, ⟨by decide, by decide⟩, (show (0 : Int) ≤ 35 from by decide), trivial, trivial, am_of31, ⟨by decide, by decide⟩, trivial, ⟨by decide, Or.inl ⟨rfl, Or.inl am_w197⟩⟩, (show (0 : Int) ≤ 0 from by decide), trivial, trivial⟩
set_option maxRecDepth 20000 in
theorem am_wk36 : am_AllW 36 ar_36 := ⟨trivial, trivial, ⟨am_oc33, am_ol31, am_w200, by decide +kernel, am_sl33, rfl⟩, (show (0 : Int) ≤ 26 from by decide), trivial, am_of33, ⟨by decide, by decide⟩, (show (0 : Int) ≤ 26 from by decide), trivial, am_of31, ⟨by decide, by decide⟩, (show (0 : Int) ≤ 31 from by decide), trivial, ⟨am_oc24, am_ol23, am_w173, by decide +kernel, am_sl24, rfl⟩, trivial, trivial, trivial, am_of33, ⟨by decide, by decide⟩, trivial, ⟨by decide, Or.inl ⟨rfl, Or.inl am_w193⟩⟩, trivial, ⟨by decide, by decide⟩, ⟨am_oc25, am_ol22, am_w170, by decide +kernel, am_sl25, rfl⟩, (show (0 : Int) ≤ 106 from by decide), trivial, ⟨by decide, by decide⟩, ⟨am_oc25, am_ol22, am_w170, by decide +kernel, am_sl25, rfl⟩, (show (0 : Int) ≤ 106 from by decide), trivial, am_of28, trivial, am_of30, trivial, ⟨by decide, by decide⟩, (show (0 : Int) ≤ 110 from by decide), trivial, am_of28, trivial, am_of30, ⟨by decide, by decide⟩, trivial, trivial, ⟨by decide, by decide⟩, (show (0 : Int) ≤ 110 from by decide), trivial, am_of27, trivial, am_of30, ⟨by decide, by decide⟩, trivial, trivial, ⟨⟨by decide, by decide⟩, am_w207⟩, trivial, (show (0 : Int) ≤ 110 from by decide), ⟨by decide, by decide⟩, (show (0 : Int) ≤ 111 from by decide), ⟨by decide, by decide⟩, (show 2 < 3 from by decide), trivial, (show (0 : Int) ≤ 171 from by decide), trivial, trivial, am_of30, trivial, am_of28, trivial, am_of30, trivial, ⟨by decide, by decide⟩, (show (0 : Int) ≤ 138 from by decide), ⟨by decide, by decide⟩, (show (0 : Int) ≤ 139 from by decide), ⟨by decide, by decide⟩, trivial, ⟨by decide, Or.inl ⟨rfl, Or.inl am_w162⟩⟩, trivial, am_of32, trivial, am_of31, ⟨by decide, by decide⟩, trivial, trivial, trivial, am_of31, ⟨by decide, by decide⟩, trivial, ⟨by decide, Or.inl ⟨rfl, Or.inl am_w197⟩⟩, trivial, trivial, ⟨am_oc37, am_ol34, am_w210, by decide +kernel, am_sl37, rfl⟩, (show (0 : Int) ≤ 247 from by decide), trivial, ⟨by decide, by decide⟩, ⟨am_oc25, am_ol22, am_w170, by decide +kernel, am_sl25, rfl⟩, (show (0 : Int) ≤ 233 from by decide), trivial, trivial, am_of30, ⟨by decide, by decide⟩, trivial, ⟨by decide, Or.inl ⟨rfl, Or.inl am_w162⟩⟩, trivial, trivial, ⟨am_oc27, am_ol28, am_w188, by decide +kernel, am_sl27, rfl⟩, ⟨am_oc29, am_ol25, am_w179, by decide +kernel, am_sl29, rfl⟩, trivial, am_of29, (show (0 : Int) ≤ 247 from by decide), trivial, am_of32, trivial, am_of31, ⟨by decide, by decide⟩, trivial, trivial, trivial, am_of31, ⟨by decide, by decide⟩, trivial, ⟨by decide, Or.inl ⟨rfl, Or.inl am_w197⟩⟩, trivial, trivial, ⟨am_oc37, am_ol34, am_w210, by decide +kernel, am_sl37, rfl⟩, (show (0 : Int) ≤ 247 from by decide), trivial, trivial, am_of30, ⟨by decide, by decide⟩, trivial, ⟨by decide, Or.inl ⟨rfl, Or.inl am_w162⟩⟩, trivial, ⟨am_oc35, am_ol32, am_w203, by decide +kernel, am_sl35, rfl⟩, trivial, trivial⟩
set_option maxRecDepth 20000 in
theorem am_wk37 : am_AllW 37 ar_37 := ⟨trivial, trivial, ⟨am_oc33, am_ol31, am_w200, by decide +kernel, am_sl33, rfl⟩, (show (0 : Int) ≤ 12 from by decide), trivial, ⟨am_oc24, am_ol23, am_w173, by decide +kernel, am_sl24, rfl⟩, trivial, trivial⟩
set_option maxRecDepth 20000 in
theorem am_wk38 : am_AllW 38 ar_38 := ⟨⟨by decide, by decide⟩, (show 4 < 5 from by decide), trivial, trivial, am_of34, trivial, trivial, (show (0 : Int) ≤ 40 from by decide), trivial, am_of35, ⟨by decide, by decide⟩, trivial, trivial, trivial, trivial, trivial, trivial, trivial, (show (0 : Int) ≤ 34 from by decide), trivial, trivial, (show 4 < 5 from by decide), (show (0 : Int) ≤ 3 from by decide), ⟨by decide, by decide⟩, trivial, trivial⟩
set_option maxRecDepth 20000 in
theorem am_wk39 : am_AllW 39 ar_39 := ⟨⟨by decide, by decide⟩, (show 2 < 4 from by decide), trivial, ⟨by decide, by decide⟩, (show (0 : Int) ≤ 36 from by decide), trivial, am_of36, ⟨by decide, by decide⟩, trivial, trivial, trivial, trivial, trivial, ⟨by decide, by decide⟩, (show (0 : Int) ≤ 28 from by decide), ⟨by decide, by decide⟩, (show (0 : Int) ≤ 29 from by decide), ⟨by decide, by decide⟩, trivial, (show 2 < 4 from by decide), (show (0 : Int) ≤ 2 from by decide), trivial, am_of37, trivial, ⟨by decide, by decide⟩, trivial, trivial, am_of34, trivial, ⟨by decide, by decide⟩, trivial, trivial, am_of38, trivial, ⟨by decide, by decide⟩, trivial, trivial, am_of39, trivial, ⟨by decide, by decide⟩, trivial, trivial, am_of40, trivial, trivial, am_of33, trivial, ⟨by decide, by decide⟩, (show 2 < 4 from by decide), trivial, ⟨by decide, by decide⟩, trivial, trivial, am_of41, (show (0 : Int) ≤ 202 from by decide), trivial, am_of28, trivial, trivial, ⟨by decide, by decide⟩, (show (0 : Int) ≤ 196 from by decide), trivial, am_of27, trivial, trivial, ⟨⟨by decide, by decide⟩, am_w164⟩, trivial, (show (0 : Int) ≤ 122 from by decide), trivial, am_of27, trivial, trivial, ⟨⟨by decide, by decide⟩, am_w165⟩, trivial, (show (0 : Int) ≤ 196 from by decide), trivial, am_of27, trivial, ⟨by decide, by decide⟩, trivial, trivial, ⟨⟨by decide, by decide⟩, am_w211⟩, trivial, (show (0 : Int) ≤ 196 from by decide), trivial, am_of36, ⟨by decide, by decide⟩, trivial, trivial, trivial, am_of27, trivial, ⟨by decide, by decide⟩, trivial, trivial, trivial, trivial, trivial, (show (0 : Int) ≤ 196 from by decide), trivial, am_of36, ⟨by decide, by decide⟩, trivial, trivial, trivial, am_of27, trivial, ⟨by decide, by decide⟩, trivial, trivial, trivial, trivial, trivial, am_of27, trivial, trivial, ⟨⟨by decide, by decide⟩, am_w164⟩, trivial, (show (0 : Int) ≤ 194 from by decide), ⟨by decide, by decide⟩, (show (0 : Int) ≤ 195 from by decide), ⟨by decide, by decide⟩, trivial, (show 2 < 4 from by decide), (show (0 : Int) ≤ 76 from by decide), trivial, ⟨by decide, by decide⟩, ⟨by decide, Or.inl ⟨rfl, Or.inl am_w162⟩⟩, ⟨by decide, by decide⟩, (show 2 < 4 from by decide), trivial, am_of29, (show (0 : Int) ≤ 301 from by decide), trivial, ⟨⟨by decide, by decide⟩, am_w166⟩, ⟨am_oc26, am_ol24, am_w176, by decide +kernel, am_sl26, rfl⟩, (show (0 : Int) ≤ 301 from by decide), trivial, trivial, am_of30, ⟨by decide, by decide⟩, trivial, ⟨by decide, Or.inl ⟨rfl, Or.inl am_w162⟩⟩, trivial, am_of27, trivial, am_of30, trivial, trivial, (show 3 < 4 from by decide), trivial, ⟨by decide, by decide⟩, (show (0 : Int) ≤ 262 from by decide), trivial, trivial, trivial, ⟨by decide, by decide⟩, trivial, ⟨by decide, by decide⟩, (show (0 : Int) ≤ 266 from by decide), trivial, ⟨am_oc24, am_ol23, am_w173, by decide +kernel, am_sl24, rfl⟩, trivial, ⟨by decide, by decide⟩, trivial, trivial, trivial, (show 2 < 4 from by decide), trivial, am_of37, trivial, trivial, trivial, ⟨by decide, by decide⟩, trivial, trivial, trivial, trivial, am_of30, ⟨by decide, by decide⟩, trivial, ⟨by decide, Or.inl ⟨rfl, Or.inl am_w162⟩⟩, trivial, trivial, trivial, ⟨am_oc41, am_ol35, am_w214, by decide +kernel, am_sl41, rfl⟩, (show (0 : Int) ≤ 209 from by decide), trivial, trivial, am_of30, trivial, am_of29, (show (0 : Int) ≤ 317 from by decide), ⟨by decide, by decide⟩, (show (0 : Int) ≤ 318 from by decide), ⟨by decide, by decide⟩, trivial, ⟨by decide, Or.inl ⟨rfl, Or.inl am_w162⟩⟩, trivial, am_of29, (show (0 : Int) ≤ 381 from by decide), trivial, ⟨by decide, by decide⟩, ⟨am_oc25, am_ol22, am_w170, by decide +kernel, am_sl25, rfl⟩, (show (0 : Int) ≤ 381 from by decide), trivial, am_of42, ⟨by decide, by decide⟩, trivial, trivial, trivial, am_of38, trivial, trivial, trivial, trivial, am_of27, trivial, am_of30, trivial, trivial, trivial, trivial, am_of38, trivial, trivial, trivial, ⟨by decide, by decide⟩, trivial, trivial, trivial, trivial, ⟨am_oc40, am_ol36, am_w217, by decide +kernel, am_sl40, rfl⟩, (show (0 : Int) ≤ 322 from by decide), trivial, trivial, am_of30, ⟨by decide, by decide⟩, trivial, ⟨by decide, Or.inl ⟨rfl, Or.inl am_w162⟩⟩, trivial, am_of29, (show (0 : Int) ≤ 418 from by decide), trivial, am_of28, trivial, am_of30, trivial, (show (0 : Int) ≤ 418 from by decide), trivial, trivial, ⟨am_oc44, am_ol37, am_w220, by decide +kernel, am_sl44, rfl⟩, (show (0 : Int) ≤ 391 from by decide), trivial, trivial⟩
set_option maxRecDepth 20000 in
theorem am_wk40 : am_AllW 40 ar_40 := ⟨trivial, am_of36, ⟨by decide, by decide⟩, trivial, trivial, trivial, am_of27, trivial, am_of30, trivial, trivial, trivial, trivial, (show (0 : Int) ≤ 27 from by decide), trivial, ⟨am_oc24, am_ol23, am_w173, by decide +kernel, am_sl24, rfl⟩, trivial, trivial, am_of30, trivial, am_of29, (show (0 : Int) ≤ 43 from by decide), ⟨by decide, by decide⟩, (show (0 : Int) ≤ 44 from by decide), ⟨by decide, by decide⟩, trivial, ⟨by decide, Or.inl ⟨rfl, Or.inl am_w162⟩⟩, trivial, trivial⟩
set_option maxRecDepth 20000 in
theorem am_wk41 : am_AllW 41 ar_41 := ⟨trivial, am_of29, (show (0 : Int) ≤ 186 from by decide), trivial, ⟨by decide, by decide⟩, ⟨am_oc25, am_ol22, am_w170, by decide +kernel, am_sl25, rfl⟩, (show (0 : Int) ≤ 186 from by decide), trivial, ⟨by decide, by decide⟩, ⟨am_oc25, am_ol22, am_w170, by decide +kernel, am_sl25, rfl⟩, (show (0 : Int) ≤ 38 from by decide), trivial, trivial, am_of30, ⟨by decide, by decide⟩, trivial, ⟨by decide, Or.inl ⟨rfl, Or.inl am_w162⟩⟩, (show (0 : Int) ≤ 0 from by decide), ⟨by decide, by decide⟩, trivial, trivial, trivial, am_of34, trivial, trivial, trivial, (show 3 < 4 from by decide), trivial, trivial, trivial, am_of27, trivial, am_of30, trivial, ⟨am_oc38, am_ol38, am_w223, by decide +kernel, am_sl38, rfl⟩, (show (0 : Int) ≤ 71 from by decide), trivial, ⟨am_oc24, am_ol23, am_w173, by decide +kernel, am_sl24, rfl⟩, trivial, am_of35, trivial, trivial, am_of27, trivial, am_of30, trivial, trivial, trivial, am_of43, trivial, trivial, trivial, trivial, am_of44, trivial, ⟨by decide, by decide⟩, trivial, trivial, am_of34, trivial, trivial, trivial, ⟨by decide, by decide⟩, trivial, trivial, trivial, trivial, am_of30, ⟨by decide, by decide⟩, trivial, ⟨by decide, Or.inl ⟨rfl, Or.inl am_w162⟩⟩, trivial, am_of29, (show (0 : Int) ≤ 183 from by decide), trivial, am_of28, trivial, am_of30, trivial, ⟨by decide, by decide⟩, (show (0 : Int) ≤ 183 from by decide), trivial, am_of45, ⟨by decide, by decide⟩, trivial, trivial, trivial, am_of44, trivial, trivial, trivial, trivial, am_of27, trivial, am_of30, trivial, trivial, trivial, trivial, am_of44, trivial, trivial, trivial, ⟨by decide, by decide⟩, trivial, trivial, trivial, trivial, ⟨am_oc40, am_ol36, am_w217, by decide +kernel, am_sl40, rfl⟩, (show (0 : Int) ≤ 120 from by decide), (show (0 : Int) ≤ 0 from by decide), trivial, trivial, am_of30, trivial, am_of29, (show (0 : Int) ≤ 202 from by decide), ⟨by decide, by decide⟩, (show (0 : Int) ≤ 203 from by decide), ⟨by decide, by decide⟩, trivial, ⟨by decide, Or.inl ⟨rfl, Or.inl am_w162⟩⟩, trivial, trivial⟩
set_option maxRecDepth 20000 in
theorem am_wk42 : am_AllW 42 ar_42 := ⟨trivial, am_of46, (show (0 : Int) ≤ 58 from by decide), trivial, trivial, trivial, am_of38, trivial, trivial, (show (0 : Int) ≤ 31 from by decide), trivial, am_of42, ⟨by decide, by decide⟩, trivial, trivial, trivial, trivial, trivial, (show (0 : Int) ≤ 32 from by decide), ⟨by decide, by decide⟩, ⟨by decide, Or.inl ⟨rfl, Or.inl am_w225⟩⟩, trivial, trivial, ⟨by decide, by decide⟩, trivial, ⟨by decide, Or.inl ⟨rfl, Or.inl am_w226⟩⟩, trivial, trivial, am_of38, trivial, trivial, (show (0 : Int) ≤ 56 from by decide), ⟨by decide, by decide⟩, (show (0 : Int) ≤ 57 from by decide), ⟨by decide, by decide⟩, trivial, trivial, am_of46, ⟨by decide, by decide⟩, trivial, (show 3 < 6 from by decide), ⟨by decide, by decide⟩, trivial, trivial, trivial, am_of47, trivial, trivial, trivial, (show 4 < 6 from by decide), trivial, am_of48, trivial, trivial, (show 5 < 6 from by decide), trivial, trivial, am_of44, trivial, trivial, (show (0 : Int) ≤ 100 from by decide), ⟨by decide, by decide⟩, trivial, trivial, trivial, am_of45, ⟨by decide, by decide⟩, trivial, trivial, trivial, trivial, trivial, ⟨by decide, Or.inl ⟨rfl, Or.inl am_w225⟩⟩, trivial, trivial, am_of36, ⟨by decide, by decide⟩, trivial, trivial, trivial, am_of43, trivial, trivial, trivial, trivial, ⟨by decide, by decide⟩, (show (0 : Int) ≤ 147 from by decide), trivial, am_of49, trivial, trivial, (show (0 : Int) ≤ 160 from by decide), ⟨by decide, by decide⟩, trivial, am_of49, trivial, trivial, trivial, trivial, trivial, ⟨by decide, by decide⟩, trivial, ⟨by decide, Or.inl ⟨rfl, Or.inl am_w226⟩⟩, ⟨by decide, by decide⟩, trivial, trivial⟩
set_option maxRecDepth 20000 in
theorem am_wk43 : am_AllW 43 ar_43 := ⟨⟨by decide, by decide⟩, trivial, trivial, trivial, trivial, (show 5 < 6 from by decide), trivial, am_of50, ⟨by decide, by decide⟩, trivial, trivial, trivial, am_of51, trivial, trivial, trivial, trivial, trivial, trivial, am_of52, ⟨by decide, by decide⟩, trivial, trivial, trivial, am_of51, trivial, trivial, trivial, trivial, trivial, trivial, am_of51, trivial, trivial, trivial, ⟨by decide, by decide⟩, trivial, trivial, trivial, trivial⟩
set_option maxRecDepth 20000 in
theorem am_wk44 : am_AllW 44 ar_44 := ⟨trivial, am_of39, trivial, trivial, (show 2 < 6 from by decide), trivial, am_of51, ⟨by decide, by decide⟩, trivial, trivial, trivial, trivial, ⟨by decide, by decide⟩, trivial, trivial, am_of53, ⟨by decide, by decide⟩, trivial, trivial, trivial, trivial, ⟨by decide, by decide⟩, trivial, trivial, ⟨by decide, by decide⟩, ⟨by decide, Or.inl ⟨rfl, Or.inl am_w224⟩⟩, trivial, ⟨by decide, by decide⟩, ⟨by decide, Or.inl ⟨rfl, Or.inl am_w227⟩⟩, ⟨by decide, by decide⟩, (show 3 < 6 from by decide), ⟨by decide, by decide⟩, (show 4 < 6 from by decide), trivial, (show (0 : Int) ≤ 265 from by decide), trivial, am_of29, (show (0 : Int) ≤ 265 from by decide), trivial, am_of46, (show (0 : Int) ≤ 90 from by decide), trivial, ⟨by decide, by decide⟩, ⟨am_oc25, am_ol22, am_w170, by decide +kernel, am_sl25, rfl⟩, (show (0 : Int) ≤ 84 from by decide), trivial, ⟨⟨by decide, by decide⟩, am_w167⟩, ⟨am_oc26, am_ol24, am_w176, by decide +kernel, am_sl26, rfl⟩, (show (0 : Int) ≤ 90 from by decide), ⟨by decide, by decide⟩, (show 4 < 6 from by decide), (show (0 : Int) ≤ 46 from by decide), trivial, ⟨by decide, by decide⟩, ⟨am_oc25, am_ol22, am_w170, by decide +kernel, am_sl25, rfl⟩, (show (0 : Int) ≤ 237 from by decide), ⟨by decide, by decide⟩, trivial, trivial, trivial, am_of47, trivial, am_of46, ⟨by decide, by decide⟩, trivial, trivial, trivial, (show 5 < 6 from by decide), trivial, am_of48, trivial, am_of46, ⟨by decide, by decide⟩, trivial, trivial, trivial, am_of44, trivial, trivial, (show (0 : Int) ≤ 142 from by decide), trivial, ⟨am_oc24, am_ol23, am_w173, by decide +kernel, am_sl24, rfl⟩, trivial, trivial, am_of46, ⟨by decide, by decide⟩, trivial, ⟨by decide, Or.inl ⟨rfl, Or.inl am_w224⟩⟩, trivial, trivial, am_of54, (show (0 : Int) ≤ 175 from by decide), trivial, am_of55, trivial, am_of46, (show (0 : Int) ≤ 175 from by decide), ⟨by decide, by decide⟩, (show (0 : Int) ≤ 176 from by decide), ⟨by decide, by decide⟩, ⟨by decide, Or.inl ⟨rfl, Or.inl am_w227⟩⟩, trivial, trivial, ⟨am_oc45, am_ol39, am_w231, by decide +kernel, am_sl45, rfl⟩, trivial, (show 3 < 6 from by decide), trivial, trivial, am_of30, trivial, am_of29, (show (0 : Int) ≤ 202 from by decide), ⟨by decide, by decide⟩, (show (0 : Int) ≤ 203 from by decide), ⟨by decide, by decide⟩, trivial, ⟨by decide, Or.inl ⟨rfl, Or.inl am_w162⟩⟩, trivial, trivial, am_of54, (show (0 : Int) ≤ 230 from by decide), trivial, am_of55, trivial, am_of46, (show (0 : Int) ≤ 230 from by decide), ⟨by decide, by decide⟩, (show (0 : Int) ≤ 231 from by decide), ⟨by decide, by decide⟩, ⟨by decide, Or.inl ⟨rfl, Or.inl am_w227⟩⟩, (show (0 : Int) ≤ 46 from by decide), trivial, trivial, trivial, ⟨am_oc42, am_ol40, am_w234, by decide +kernel, am_sl42, rfl⟩, (show (0 : Int) ≤ 253 from by decide), trivial, ⟨am_oc24, am_ol23, am_w173, by decide +kernel, am_sl24, rfl⟩, (show (0 : Int) ≤ 46 from by decide), trivial, trivial, trivial, trivial, ⟨am_oc46, am_ol41, am_w237, by decide +kernel, am_sl46, rfl⟩, trivial, (show 3 < 6 from by decide), (show (0 : Int) ≤ 46 from by decide), trivial, am_of29, (show (0 : Int) ≤ 286 from by decide), trivial, trivial, am_of38, trivial, trivial, (show (0 : Int) ≤ 286 from by decide), trivial, ⟨am_oc24, am_ol23, am_w173, by decide +kernel, am_sl24, rfl⟩, trivial, am_of29, (show (0 : Int) ≤ 325 from by decide), trivial, ⟨⟨by decide, by decide⟩, am_w167⟩, ⟨am_oc26, am_ol24, am_w176, by decide +kernel, am_sl26, rfl⟩, (show (0 : Int) ≤ 325 from by decide), trivial, am_of53, ⟨by decide, by decide⟩, trivial, trivial, trivial, trivial, ⟨by decide, by decide⟩, trivial, trivial, trivial, am_of30, ⟨by decide, by decide⟩, trivial, ⟨by decide, Or.inl ⟨rfl, Or.inl am_w162⟩⟩, trivial, trivial, am_of30, trivial, am_of29, (show (0 : Int) ≤ 341 from by decide), ⟨by decide, by decide⟩, (show (0 : Int) ≤ 342 from by decide), ⟨by decide, by decide⟩, trivial, ⟨by decide, Or.inl ⟨rfl, Or.inl am_w162⟩⟩, trivial, am_of39, trivial, trivial, trivial, ⟨by decide, by decide⟩, trivial, trivial, trivial, trivial⟩
set_option maxRecDepth 20000 in
theorem am_wk45 : am_AllW 45 ar_45 := ⟨trivial, am_of46, (show (0 : Int) ≤ 9 from by decide), ⟨by decide, by decide⟩, trivial, trivial, am_of48, trivial, am_of46, ⟨by decide, by decide⟩, trivial, trivial, trivial, ⟨by decide, by decide⟩, trivial, trivial, ⟨by decide, by decide⟩, trivial, trivial⟩
set_option maxRecDepth 20000 in
theorem am_wk46 : am_AllW 46 ar_46 := ⟨⟨by decide, by decide⟩, (show 3 < 7 from by decide), trivial, am_of54, (show 4 < 7 from by decide), trivial, (show (0 : Int) ≤ 159 from by decide), trivial, ⟨by decide, by decide⟩, ⟨am_oc25, am_ol22, am_w170, by decide +kernel, am_sl25, rfl⟩, (show (0 : Int) ≤ 52 from by decide), trivial, am_of54, (show (0 : Int) ≤ 39 from by decide), trivial, trivial, trivial, trivial, am_of56, ⟨by decide, by decide⟩, ⟨am_oc43, am_ol42, am_w240, by decide +kernel, am_sl43, rfl⟩, trivial, trivial, am_of30, ⟨by decide, by decide⟩, trivial, ⟨by decide, Or.inl ⟨rfl, Or.inl am_w162⟩⟩, (show (0 : Int) ≤ 8 from by decide), trivial, ⟨by decide, by decide⟩, ⟨am_oc25, am_ol22, am_w170, by decide +kernel, am_sl25, rfl⟩, (show (0 : Int) ≤ 94 from by decide), trivial, am_of54, (show (0 : Int) ≤ 81 from by decide), trivial, ⟨by decide, by decide⟩, ⟨by decide, Or.inl ⟨rfl, Or.inl am_w227⟩⟩, trivial, trivial, am_of46, ⟨by decide, Or.inl ⟨rfl, Or.inl am_w228⟩⟩, trivial, trivial, am_of30, ⟨by decide, by decide⟩, trivial, ⟨by decide, Or.inl ⟨rfl, Or.inl am_w162⟩⟩, (show (0 : Int) ≤ 8 from by decide), trivial, am_of28, trivial, am_of30, trivial, ⟨by decide, by decide⟩, (show (0 : Int) ≤ 154 from by decide), trivial, am_of28, trivial, am_of30, ⟨by decide, by decide⟩, trivial, trivial, ⟨by decide, by decide⟩, (show (0 : Int) ≤ 154 from by decide), trivial, am_of27, trivial, am_of30, ⟨by decide, by decide⟩, trivial, trivial, ⟨⟨by decide, by decide⟩, am_w207⟩, trivial, (show (0 : Int) ≤ 154 from by decide), trivial, trivial, am_of30, ⟨by decide, by decide⟩, trivial, ⟨by decide, Or.inl ⟨rfl, Or.inl am_w162⟩⟩, (show (0 : Int) ≤ 8 from by decide), ⟨by decide, by decide⟩, (show 3 < 7 from by decide), (show (0 : Int) ≤ 8 from by decide), ⟨by decide, by decide⟩, (show 5 < 7 from by decide), trivial, am_of28, trivial, am_of30, trivial, ⟨by decide, by decide⟩, (show (0 : Int) ≤ 262 from by decide), trivial, am_of57, ⟨by decide, by decide⟩, (show (0 : Int) ≤ 191 from by decide), trivial, ⟨am_oc24, am_ol23, am_w173, by decide +kernel, am_sl24, rfl⟩, (show (0 : Int) ≤ 221 from by decide), trivial, am_of54, (show (0 : Int) ≤ 221 from by decide), trivial, trivial, trivial, trivial, am_of56, ⟨by decide, by decide⟩, trivial, am_of27, trivial, am_of30, trivial, trivial, trivial, ⟨am_oc43, am_ol42, am_w240, by decide +kernel, am_sl43, rfl⟩, trivial, am_of29, (show (0 : Int) ≤ 232 from by decide), ⟨by decide, by decide⟩, (show (0 : Int) ≤ 236 from by decide), trivial, ⟨am_oc45, am_ol39, am_w231, by decide +kernel, am_sl45, rfl⟩, (show 5 < 7 from by decide), trivial, trivial, am_of30, trivial, am_of29, (show (0 : Int) ≤ 254 from by decide), ⟨by decide, by decide⟩, (show (0 : Int) ≤ 255 from by decide), ⟨by decide, by decide⟩, trivial, ⟨by decide, Or.inl ⟨rfl, Or.inl am_w162⟩⟩, (show (0 : Int) ≤ 452 from by decide), trivial, ⟨am_oc27, am_ol28, am_w188, by decide +kernel, am_sl27, rfl⟩, (show (0 : Int) ≤ 336 from by decide), trivial, trivial, ⟨am_oc47, am_ol43, am_w243, by decide +kernel, am_sl47, rfl⟩, (show 6 < 7 from by decide), trivial, am_of29, (show (0 : Int) ≤ 302 from by decide), trivial, am_of44, ⟨by decide, by decide⟩, trivial, trivial, trivial, trivial, trivial, (show (0 : Int) ≤ 302 from by decide), trivial, ⟨am_oc24, am_ol23, am_w173, by decide +kernel, am_sl24, rfl⟩, trivial, am_of29, (show (0 : Int) ≤ 333 from by decide), trivial, trivial, trivial, trivial, ⟨am_oc48, am_ol44, am_w246, by decide +kernel, am_sl48, rfl⟩, trivial, ⟨am_oc45, am_ol39, am_w231, by decide +kernel, am_sl45, rfl⟩, (show 5 < 7 from by decide), trivial, trivial, am_of30, ⟨by decide, by decide⟩, trivial, ⟨by decide, Or.inl ⟨rfl, Or.inl am_w162⟩⟩, (show (0 : Int) ≤ 452 from by decide), trivial, ⟨by decide, by decide⟩, ⟨am_oc25, am_ol22, am_w170, by decide +kernel, am_sl25, rfl⟩, (show (0 : Int) ≤ 436 from by decide), trivial, trivial, am_of30, ⟨by decide, by decide⟩, trivial, ⟨by decide, Or.inl ⟨rfl, Or.inl am_w162⟩⟩, trivial, trivial, ⟨am_oc47, am_ol43, am_w243, by decide +kernel, am_sl47, rfl⟩, (show 6 < 7 from by decide), trivial, am_of29, (show (0 : Int) ≤ 433 from by decide), trivial, trivial, trivial, trivial, ⟨am_oc48, am_ol44, am_w246, by decide +kernel, am_sl48, rfl⟩, trivial, trivial, am_of30, ⟨by decide, by decide⟩, trivial, ⟨by decide, Or.inl ⟨rfl, Or.inl am_w162⟩⟩, trivial, am_of47, trivial, am_of46, trivial, trivial, trivial, am_of48, trivial, am_of46, ⟨by decide, by decide⟩, trivial, trivial, am_of49, trivial, am_of46, trivial, am_of56, trivial, trivial, trivial, am_of46, ⟨by decide, by decide⟩, trivial, ⟨by decide, Or.inl ⟨rfl, Or.inl am_w224⟩⟩, ⟨by decide, by decide⟩, trivial, (show (0 : Int) ≤ 452 from by decide), trivial, ⟨am_oc45, am_ol39, am_w231, by decide +kernel, am_sl45, rfl⟩, (show 5 < 7 from by decide), trivial, trivial, am_of30, ⟨by decide, by decide⟩, trivial, ⟨by decide, Or.inl ⟨rfl, Or.inl am_w162⟩⟩, trivial, trivial, ⟨by decide, Or.inl ⟨rfl, Or.inl am_w227⟩⟩, trivial, trivial, trivial⟩
set_option maxRecDepth 20000 in
theorem am_wk47 : am_AllW 47 ar_47 := ⟨trivial, trivial, trivial, am_of27, trivial, am_of30, trivial, ⟨am_oc38, am_ol38, am_w223, by decide +kernel, am_sl38, rfl⟩, (show 2 < 3 from by decide), trivial, (show (0 : Int) ≤ 37 from by decide), trivial, am_of43, ⟨by decide, by decide⟩, trivial, trivial, trivial, trivial, trivial, trivial, am_of57, (show (0 : Int) ≤ 41 from by decide), trivial, ⟨am_oc24, am_ol23, am_w173, by decide +kernel, am_sl24, rfl⟩, trivial, trivial, trivial⟩
set_option maxRecDepth 20000 in
theorem am_wk48 : am_AllW 48 ar_48 := ⟨trivial, am_of54, (show (0 : Int) ≤ 36 from by decide), trivial, am_of36, ⟨by decide, by decide⟩, trivial, trivial, trivial, am_of57, trivial, trivial, ⟨by decide, by decide⟩, (show (0 : Int) ≤ 36 from by decide), trivial, trivial, trivial, trivial, am_of56, trivial, ⟨am_oc43, am_ol42, am_w240, by decide +kernel, am_sl43, rfl⟩, trivial, trivial⟩
set_option maxRecDepth 20000 in
theorem am_wk49 : am_AllW 49 ar_49 := ⟨trivial, am_of23, ⟨by decide, by decide⟩, trivial, ⟨by decide, by decide⟩, (show (0 : Int) ≤ 15 from by decide), ⟨by decide, by decide⟩, trivial, ⟨by decide, by decide⟩, (show 6 < 9 from by decide), trivial, ⟨by decide, by decide⟩, (show (0 : Int) ≤ 114 from by decide), trivial, ⟨by decide, by decide⟩, trivial, (show 7 < 9 from by decide), trivial, (show (0 : Int) ≤ 40 from by decide), trivial, (show (0 : Int) ≤ 73 from by decide), trivial, ⟨by decide, by decide⟩, (show (0 : Int) ≤ 50 from by decide), trivial, (show (0 : Int) ≤ 73 from by decide), trivial, ⟨by decide, by decide⟩, (show (0 : Int) ≤ 60 from by decide), trivial, (show (0 : Int) ≤ 73 from by decide), trivial, ⟨by decide, by decide⟩, (show (0 : Int) ≤ 71 from by decide), trivial, (show (0 : Int) ≤ 73 from by decide), trivial, (show 8 < 9 from by decide), trivial, am_of24, trivial, am_of23, trivial, ⟨by decide, by decide⟩, ⟨by decide, by decide⟩, trivial, ⟨by decide, by decide⟩, trivial, trivial, trivial, trivial, trivial, trivial, trivial, trivial, am_of23, ⟨by decide, by decide⟩, trivial, ⟨by decide, Or.inl ⟨rfl, Or.inl am_w140⟩⟩, (show 6 < 9 from by decide), (show (0 : Int) ≤ 18 from by decide), trivial, am_of23, trivial, trivial⟩
set_option maxRecDepth 20000 in
theorem am_wk50 : am_AllW 50 ar_50 := ⟨trivial, (show (0 : Int) ≤ 19 from by decide), trivial, ⟨by decide, by decide⟩, (show (0 : Int) ≤ 19 from by decide), trivial, am_of23, ⟨by decide, by decide⟩, (show (0 : Int) ≤ 21 from by decide), ⟨by decide, by decide⟩, trivial, trivial, trivial, am_of23, ⟨by decide, by decide⟩, trivial, trivial, trivial, ⟨by decide, Or.inl ⟨rfl, Or.inl am_w140⟩⟩, trivial, am_of23, trivial, trivial⟩
set_option maxRecDepth 20000 in
theorem am_wk51 : am_AllW 51 ar_51 := ⟨trivial, ⟨am_oc22, am_ol45, am_w249, by decide +kernel, am_sl22, rfl⟩, trivial, ⟨by decide, by decide⟩, ⟨by decide, Or.inl ⟨rfl, Or.inl am_w140⟩⟩, trivial, ⟨by decide, by decide⟩, ⟨by decide, Or.inl ⟨rfl, Or.inl am_w162⟩⟩, trivial, ⟨by decide, by decide⟩, ⟨by decide, Or.inl ⟨rfl, Or.inl am_w161⟩⟩, trivial, ⟨by decide, by decide⟩, ⟨by decide, Or.inl ⟨rfl, Or.inl am_w99⟩⟩, trivial, ⟨am_oc30, am_ol46, am_w252, by decide +kernel, am_sl30, rfl⟩, trivial, am_of29, (show (0 : Int) ≤ 46 from by decide), trivial, trivial, am_of58, ⟨by decide, Or.inl ⟨rfl, Or.inl am_w99⟩⟩, ⟨by decide, by decide⟩, trivial, trivial, am_of59, (show (0 : Int) ≤ 57 from by decide), ⟨by decide, by decide⟩, (show (0 : Int) ≤ 58 from by decide), ⟨by decide, by decide⟩, (show 1 < 3 from by decide), trivial, trivial, ⟨am_oc39, am_ol47, am_w255, by decide +kernel, am_sl39, rfl⟩, trivial, am_of29, (show (0 : Int) ≤ 82 from by decide), trivial, trivial, am_of58, ⟨by decide, Or.inl ⟨rfl, Or.inl am_w99⟩⟩, ⟨by decide, by decide⟩, trivial, trivial, trivial, ⟨by decide, Or.inl ⟨rfl, Or.inl am_w106⟩⟩, trivial, ⟨by decide, by decide⟩, ⟨by decide, Or.inl ⟨rfl, Or.inl am_w256⟩⟩, ⟨by decide, by decide⟩, (show 2 < 3 from by decide), trivial, ⟨by decide, by decide⟩, (show (0 : Int) ≤ 113 from by decide), trivial, am_of60, trivial, ⟨by decide, by decide⟩, trivial, (show 2 < 3 from by decide), (show (0 : Int) ≤ 94 from by decide), trivial, ⟨am_oc69, am_ol48, am_w259, by decide +kernel, am_sl69, rfl⟩, trivial, am_of39, trivial, trivial, trivial, trivial⟩
set_option maxRecDepth 20000 in
theorem am_wk52 : am_AllW 52 ar_52 := ⟨trivial, am_of61, trivial, trivial⟩
set_option maxRecDepth 20000 in
theorem am_wk53 : am_AllW 53 ar_53 := ⟨trivial, am_of59, (show (0 : Int) ≤ 9 from by decide), ⟨by decide, by decide⟩, trivial, trivial, (show (0 : Int) ≤ 25 from by decide), trivial, am_of37, trivial, am_of59, trivial, (show (0 : Int) ≤ 94 from by decide), trivial, ⟨by decide, by decide⟩, (show (0 : Int) ≤ 42 from by decide), trivial, am_of34, trivial, am_of59, trivial, (show (0 : Int) ≤ 94 from by decide), trivial, ⟨by decide, by decide⟩, (show (0 : Int) ≤ 59 from by decide), trivial, am_of38, trivial, am_of59, trivial, (show (0 : Int) ≤ 94 from by decide), trivial, ⟨by decide, by decide⟩, (show (0 : Int) ≤ 76 from by decide), trivial, am_of39, trivial, am_of59, trivial, (show (0 : Int) ≤ 94 from by decide), trivial, ⟨by decide, by decide⟩, (show (0 : Int) ≤ 93 from by decide), trivial, am_of40, trivial, am_of59, trivial, (show (0 : Int) ≤ 94 from by decide), ⟨by decide, by decide⟩, trivial, trivial⟩
set_option maxRecDepth 20000 in
theorem am_wk54 : am_AllW 54 ar_54 := ⟨trivial, ⟨by decide, by decide⟩, ⟨by decide, Or.inl ⟨rfl, Or.inl am_w162⟩⟩, trivial, ⟨by decide, by decide⟩, ⟨by decide, Or.inl ⟨rfl, Or.inl am_w224⟩⟩, ⟨by decide, by decide⟩, (show 2 < 5 from by decide), trivial, am_of29, (show (0 : Int) ≤ 404 from by decide), trivial, am_of28, trivial, am_of30, trivial, (show (0 : Int) ≤ 404 from by decide), trivial, ⟨by decide, by decide⟩, ⟨am_oc25, am_ol22, am_w170, by decide +kernel, am_sl25, rfl⟩, (show (0 : Int) ≤ 111 from by decide), ⟨by decide, by decide⟩, trivial, trivial, trivial, am_of47, trivial, am_of46, ⟨by decide, by decide⟩, trivial, trivial, trivial, (show 3 < 5 from by decide), trivial, am_of48, trivial, am_of46, ⟨by decide, by decide⟩, trivial, trivial, trivial, am_of44, trivial, trivial, (show (0 : Int) ≤ 81 from by decide), trivial, ⟨am_oc24, am_ol23, am_w173, by decide +kernel, am_sl24, rfl⟩, trivial, trivial, am_of46, ⟨by decide, by decide⟩, trivial, ⟨by decide, Or.inl ⟨rfl, Or.inl am_w224⟩⟩, trivial, trivial, ⟨am_oc45, am_ol39, am_w231, by decide +kernel, am_sl45, rfl⟩, trivial, (show 2 < 5 from by decide), trivial, trivial, am_of30, ⟨by decide, by decide⟩, trivial, ⟨by decide, Or.inl ⟨rfl, Or.inl am_w162⟩⟩, (show (0 : Int) ≤ 12 from by decide), trivial, trivial, trivial, ⟨am_oc42, am_ol40, am_w234, by decide +kernel, am_sl42, rfl⟩, (show (0 : Int) ≤ 127 from by decide), trivial, ⟨am_oc24, am_ol23, am_w173, by decide +kernel, am_sl24, rfl⟩, (show (0 : Int) ≤ 12 from by decide), trivial, ⟨by decide, by decide⟩, ⟨am_oc25, am_ol22, am_w170, by decide +kernel, am_sl25, rfl⟩, (show (0 : Int) ≤ 167 from by decide), trivial, am_of62, trivial, am_of56, ⟨by decide, by decide⟩, trivial, trivial, trivial, ⟨am_oc45, am_ol39, am_w231, by decide +kernel, am_sl45, rfl⟩, trivial, (show 2 < 5 from by decide), trivial, trivial, am_of30, ⟨by decide, by decide⟩, trivial, ⟨by decide, Or.inl ⟨rfl, Or.inl am_w162⟩⟩, (show (0 : Int) ≤ 12 from by decide), trivial, am_of28, trivial, am_of30, trivial, ⟨by decide, by decide⟩, (show (0 : Int) ≤ 235 from by decide), trivial, am_of57, ⟨by decide, by decide⟩, (show (0 : Int) ≤ 193 from by decide), trivial, ⟨am_oc24, am_ol23, am_w173, by decide +kernel, am_sl24, rfl⟩, trivial, am_of62, trivial, am_of56, ⟨by decide, by decide⟩, trivial, am_of27, trivial, am_of30, trivial, trivial, trivial, trivial, trivial, trivial, ⟨am_oc45, am_ol39, am_w231, by decide +kernel, am_sl45, rfl⟩, trivial, (show 2 < 5 from by decide), trivial, trivial, am_of30, ⟨by decide, by decide⟩, trivial, ⟨by decide, Or.inl ⟨rfl, Or.inl am_w162⟩⟩, (show (0 : Int) ≤ 12 from by decide), trivial, ⟨by decide, by decide⟩, ⟨am_oc25, am_ol22, am_w170, by decide +kernel, am_sl25, rfl⟩, (show 3 < 5 from by decide), trivial, trivial, am_of30, trivial, (show (0 : Int) ≤ 255 from by decide), ⟨by decide, by decide⟩, (show (0 : Int) ≤ 256 from by decide), ⟨by decide, by decide⟩, trivial, ⟨by decide, Or.inl ⟨rfl, Or.inl am_w162⟩⟩, trivial, trivial, ⟨am_oc47, am_ol43, am_w243, by decide +kernel, am_sl47, rfl⟩, (show 4 < 5 from by decide), trivial, am_of29, (show (0 : Int) ≤ 297 from by decide), trivial, (show (0 : Int) ≤ 297 from by decide), trivial, am_of44, ⟨by decide, by decide⟩, trivial, trivial, trivial, trivial, trivial, (show (0 : Int) ≤ 297 from by decide), trivial, ⟨am_oc24, am_ol23, am_w173, by decide +kernel, am_sl24, rfl⟩, trivial, am_of29, (show (0 : Int) ≤ 401 from by decide), trivial, am_of36, ⟨by decide, by decide⟩, trivial, trivial, trivial, am_of57, trivial, trivial, ⟨by decide, by decide⟩, (show (0 : Int) ≤ 333 from by decide), trivial, am_of62, trivial, am_of56, trivial, trivial, trivial, trivial, am_of30, ⟨by decide, by decide⟩, trivial, ⟨by decide, Or.inl ⟨rfl, Or.inl am_w162⟩⟩, trivial, (show (0 : Int) ≤ 394 from by decide), trivial, am_of47, trivial, am_of46, trivial, trivial, trivial, am_of48, trivial, am_of46, ⟨by decide, by decide⟩, trivial, trivial, am_of49, trivial, am_of46, trivial, am_of56, trivial, trivial, trivial, am_of46, ⟨by decide, by decide⟩, trivial, ⟨by decide, Or.inl ⟨rfl, Or.inl am_w224⟩⟩, (show (0 : Int) ≤ 401 from by decide), trivial, trivial, ⟨am_oc45, am_ol39, am_w231, by decide +kernel, am_sl45, rfl⟩, trivial, (show 2 < 5 from by decide), (show (0 : Int) ≤ 12 from by decide), trivial, trivial, am_of38, trivial, trivial, (show (0 : Int) ≤ 418 from by decide), trivial, ⟨am_oc24, am_ol23, am_w173, by decide +kernel, am_sl24, rfl⟩, trivial, trivial⟩
set_option maxRecDepth 20000 in
theorem am_wk55 : am_AllW 55 ar_55 := ⟨⟨by decide, by decide⟩, (show 2 < 3 from by decide), trivial, trivial, am_of63, (show (0 : Int) ≤ 27 from by decide), trivial, am_of64, trivial, trivial, trivial, (show (0 : Int) ≤ 21 from by decide), trivial, (show 2 < 3 from by decide), (show (0 : Int) ≤ 2 from by decide), trivial, am_of64, trivial, am_of63, trivial, trivial, trivial, trivial, am_of63, ⟨by decide, by decide⟩, trivial, ⟨by decide, Or.inl ⟨rfl, Or.inl am_w256⟩⟩, trivial, trivial⟩
set_option maxRecDepth 20000 in
theorem am_wk56 : am_AllW 56 ar_56 := ⟨trivial, am_of59, (show (0 : Int) ≤ 9 from by decide), ⟨by decide, by decide⟩, trivial, trivial, ⟨am_oc22, am_ol45, am_w249, by decide +kernel, am_sl22, rfl⟩, trivial, ⟨by decide, by decide⟩, ⟨by decide, Or.inl ⟨rfl, Or.inl am_w140⟩⟩, trivial, ⟨by decide, by decide⟩, ⟨by decide, Or.inl ⟨rfl, Or.inl am_w162⟩⟩, trivial, ⟨by decide, by decide⟩, ⟨by decide, Or.inl ⟨rfl, Or.inl am_w161⟩⟩, trivial, ⟨by decide, by decide⟩, ⟨by decide, Or.inl ⟨rfl, Or.inl am_w256⟩⟩, trivial, ⟨by decide, by decide⟩, ⟨by decide, Or.inl ⟨rfl, Or.inl am_w193⟩⟩, trivial, ⟨by decide, by decide⟩, ⟨am_oc34, am_ol30, am_w196, by decide +kernel, am_sl34, rfl⟩, trivial, am_of29, (show (0 : Int) ≤ 66 from by decide), trivial, am_of28, trivial, am_of30, trivial, (show (0 : Int) ≤ 66 from by decide), trivial, ⟨am_oc24, am_ol23, am_w173, by decide +kernel, am_sl24, rfl⟩, trivial, am_of29, (show (0 : Int) ≤ 76 from by decide), ⟨by decide, by decide⟩, trivial, trivial, trivial, am_of59, ⟨am_oc54, am_ol49, am_w262, by decide +kernel, am_sl54, rfl⟩, trivial, am_of29, (show (0 : Int) ≤ 94 from by decide), ⟨by decide, by decide⟩, trivial, ⟨by decide, by decide⟩, (show 2 < 5 from by decide), trivial, trivial, am_of39, trivial, am_of59, trivial, (show (0 : Int) ≤ 168 from by decide), ⟨by decide, by decide⟩, trivial, am_of59, trivial, trivial, trivial, (show 3 < 5 from by decide), trivial, trivial, ⟨am_oc57, am_ol50, am_w265, by decide +kernel, am_sl57, rfl⟩, (show 4 < 5 from by decide), trivial, ⟨by decide, by decide⟩, (show (0 : Int) ≤ 136 from by decide), ⟨by decide, by decide⟩, trivial, trivial, ⟨by decide, by decide⟩, (show (0 : Int) ≤ 162 from by decide), trivial, am_of53, trivial, trivial, (show (0 : Int) ≤ 160 from by decide), trivial, trivial, trivial, ⟨by decide, by decide⟩, trivial, ⟨by decide, by decide⟩, (show (0 : Int) ≤ 162 from by decide), trivial, trivial, (show 2 < 5 from by decide), (show (0 : Int) ≤ 96 from by decide), ⟨by decide, by decide⟩, trivial, trivial⟩
set_option maxRecDepth 20000 in
theorem am_wk57 : am_AllW 57 ar_57 := ⟨⟨by decide, by decide⟩, (show 2 < 5 from by decide), trivial, trivial, am_of51, trivial, trivial, (show (0 : Int) ≤ 83 from by decide), trivial, am_of50, ⟨by decide, by decide⟩, trivial, trivial, trivial, trivial, trivial, (show 3 < 5 from by decide), trivial, am_of52, ⟨by decide, by decide⟩, trivial, trivial, trivial, trivial, trivial, (show 4 < 5 from by decide), trivial, trivial, ⟨am_oc55, am_ol51, am_w268, by decide +kernel, am_sl55, rfl⟩, trivial, am_of62, trivial, trivial, ⟨by decide, by decide⟩, (show (0 : Int) ≤ 58 from by decide), ⟨by decide, by decide⟩, trivial, trivial, ⟨by decide, by decide⟩, (show (0 : Int) ≤ 77 from by decide), trivial, am_of62, trivial, trivial, trivial, (show (0 : Int) ≤ 77 from by decide), ⟨by decide, by decide⟩, trivial, (show 2 < 5 from by decide), (show (0 : Int) ≤ 2 from by decide), ⟨by decide, by decide⟩, trivial, trivial⟩
set_option maxRecDepth 20000 in
theorem am_wk58 : am_AllW 58 ar_58 := ⟨trivial, am_of59, (show (0 : Int) ≤ 11 from by decide), ⟨by decide, by decide⟩, (show (0 : Int) ≤ 15 from by decide), trivial, am_of63, trivial, trivial⟩
set_option maxRecDepth 20000 in
theorem am_wk59 : am_AllW 59 ar_59 := ⟨trivial, am_of59, (show (0 : Int) ≤ 19 from by decide), trivial, (show (0 : Int) ≤ 19 from by decide), trivial, trivial, am_of63, (show (0 : Int) ≤ 23 from by decide), ⟨by decide, by decide⟩, (show (0 : Int) ≤ 29 from by decide), trivial, am_of64, trivial, trivial, trivial, trivial⟩
set_option maxRecDepth 20000 in
theorem am_wk60 : am_AllW 60 ar_60 := ⟨⟨by decide, by decide⟩, (show 2 < 5 from by decide), trivial, trivial, am_of51, trivial, trivial, (show (0 : Int) ≤ 74 from by decide), trivial, am_of50, ⟨by decide, by decide⟩, trivial, trivial, trivial, trivial, trivial, (show 3 < 5 from by decide), trivial, am_of52, ⟨by decide, by decide⟩, trivial, trivial, trivial, trivial, trivial, (show 4 < 5 from by decide), trivial, ⟨by decide, by decide⟩, (show (0 : Int) ≤ 68 from by decide), trivial, am_of65, trivial, trivial, ⟨by decide, by decide⟩, (show (0 : Int) ≤ 68 from by decide), trivial, am_of65, trivial, trivial, trivial, (show (0 : Int) ≤ 68 from by decide), ⟨by decide, by decide⟩, trivial, (show 2 < 5 from by decide), (show (0 : Int) ≤ 2 from by decide), ⟨by decide, by decide⟩, trivial, trivial⟩
set_option maxRecDepth 20000 in
theorem am_wk61 : am_AllW 61 ar_61 := ⟨⟨by decide, by decide⟩, (show 1 < 2 from by decide), trivial, trivial, am_of66, (show (0 : Int) ≤ 59 from by decide), trivial, am_of53, ⟨by decide, by decide⟩, trivial, am_of59, trivial, trivial, trivial, trivial, (show (0 : Int) ≤ 53 from by decide), trivial, ⟨by decide, by decide⟩, trivial, am_of59, trivial, trivial, trivial, ⟨am_oc60, am_ol52, am_w272, by decide +kernel, am_sl60, rfl⟩, (show (0 : Int) ≤ 53 from by decide), ⟨by decide, by decide⟩, trivial, am_of59, trivial, trivial, trivial, trivial, (show 1 < 2 from by decide), (show (0 : Int) ≤ 2 from by decide), ⟨by decide, by decide⟩, trivial, trivial⟩
set_option maxRecDepth 20000 in
theorem am_wk62 : am_AllW 62 ar_62 := ⟨⟨by decide, by decide⟩, (show 2 < 3 from by decide), trivial, trivial, am_of51, trivial, trivial, (show (0 : Int) ≤ 63 from by decide), trivial, am_of52, ⟨by decide, by decide⟩, trivial, trivial, trivial, trivial, trivial, ⟨by decide, by decide⟩, (show (0 : Int) ≤ 57 from by decide), trivial, am_of65, trivial, am_of50, ⟨by decide, by decide⟩, trivial, trivial, trivial, trivial, trivial, trivial, ⟨by decide, by decide⟩, (show (0 : Int) ≤ 57 from by decide), ⟨by decide, by decide⟩, trivial, trivial, trivial, trivial, trivial, (show 2 < 3 from by decide), (show (0 : Int) ≤ 2 from by decide), ⟨by decide, by decide⟩, trivial, trivial⟩
set_option maxRecDepth 20000 in
theorem am_wk63 : am_AllW 63 ar_63 := ⟨trivial, (show 5 < 6 from by decide), trivial, trivial, am_of34, trivial, am_of59, trivial, (show (0 : Int) ≤ 75 from by decide), trivial, am_of43, ⟨by decide, by decide⟩, trivial, am_of59, trivial, trivial, trivial, trivial, trivial, (show (0 : Int) ≤ 75 from by decide), trivial, trivial, trivial, ⟨am_oc64, am_ol53, am_w275, by decide +kernel, am_sl64, rfl⟩, (show (0 : Int) ≤ 50 from by decide), trivial, trivial, trivial, am_of67, trivial, trivial, (show (0 : Int) ≤ 69 from by decide), trivial, am_of67, trivial, ⟨by decide, by decide⟩, trivial, trivial, trivial, (show 5 < 6 from by decide), (show (0 : Int) ≤ 4 from by decide), ⟨by decide, by decide⟩, trivial, trivial⟩
set_option maxRecDepth 20000 in
theorem am_wk64 : am_AllW 64 ar_64 := ⟨⟨by decide, by decide⟩, (show 3 < 6 from by decide), trivial, trivial, am_of66, (show (0 : Int) ≤ 105 from by decide), ⟨by decide, by decide⟩, trivial, am_of59, trivial, trivial, trivial, (show 4 < 6 from by decide), trivial, am_of53, trivial, trivial, (show (0 : Int) ≤ 99 from by decide), trivial, trivial, ⟨am_oc60, am_ol52, am_w272, by decide +kernel, am_sl60, rfl⟩, (show (0 : Int) ≤ 99 from by decide), ⟨by decide, by decide⟩, (show 5 < 6 from by decide), trivial, trivial, am_of51, trivial, trivial, (show (0 : Int) ≤ 99 from by decide), trivial, am_of50, ⟨by decide, by decide⟩, trivial, trivial, trivial, trivial, trivial, trivial, (show (0 : Int) ≤ 93 from by decide), trivial, am_of52, ⟨by decide, by decide⟩, trivial, trivial, trivial, trivial, trivial, trivial, (show (0 : Int) ≤ 93 from by decide), ⟨by decide, by decide⟩, trivial, (show 5 < 6 from by decide), (show (0 : Int) ≤ 43 from by decide), (show 3 < 6 from by decide), (show (0 : Int) ≤ 2 from by decide), ⟨by decide, by decide⟩, trivial, trivial⟩
set_option maxRecDepth 20000 in
theorem am_wk65 : am_AllW 65 ar_65 := ⟨trivial, ⟨by decide, by decide⟩, (show (0 : Int) ≤ 9 from by decide), ⟨by decide, by decide⟩, trivial, trivial, ⟨by decide, by decide⟩, trivial, (show 3 < 4 from by decide), trivial, ⟨by decide, by decide⟩, (show (0 : Int) ≤ 40 from by decide), trivial, trivial, ⟨by decide, by decide⟩, trivial, trivial, ⟨am_oc64, am_ol53, am_w275, by decide +kernel, am_sl64, rfl⟩, (show (0 : Int) ≤ 34 from by decide), trivial, trivial, (show 3 < 4 from by decide), (show (0 : Int) ≤ 13 from by decide), ⟨by decide, by decide⟩, (show 3 < 4 from by decide), trivial, ⟨by decide, by decide⟩, (show (0 : Int) ≤ 67 from by decide), trivial, trivial, ⟨by decide, by decide⟩, trivial, trivial, ⟨am_oc64, am_ol53, am_w275, by decide +kernel, am_sl64, rfl⟩, (show (0 : Int) ≤ 67 from by decide), (show 3 < 4 from by decide), (show (0 : Int) ≤ 42 from by decide), trivial, ⟨by decide, by decide⟩, (show (0 : Int) ≤ 82 from by decide), ⟨by decide, by decide⟩, trivial, trivial, (show (0 : Int) ≤ 83 from by decide), ⟨by decide, by decide⟩, trivial, trivial⟩
set_option maxRecDepth 20000 in
theorem am_wk66 : am_AllW 66 ar_66 := ⟨⟨by decide, by decide⟩, (show 2 < 3 from by decide), trivial, am_of43, ⟨by decide, by decide⟩, trivial, am_of59, trivial, trivial, trivial, trivial, trivial, (show (0 : Int) ≤ 26 from by decide), (show 2 < 3 from by decide), (show (0 : Int) ≤ 2 from by decide), trivial, trivial, trivial⟩
set_option maxRecDepth 20000 in
theorem am_wk67 : am_AllW 67 ar_67 := ⟨trivial, ⟨by decide, by decide⟩, ⟨by decide, Or.inl ⟨rfl, Or.inl am_w276⟩⟩, ⟨by decide, by decide⟩, (show 1 < 7 from by decide), trivial, (show (0 : Int) ≤ 134 from by decide), trivial, ⟨am_oc61, am_ol54, am_w279, by decide +kernel, am_sl61, rfl⟩, (show 2 < 7 from by decide), trivial, (show (0 : Int) ≤ 22 from by decide), ⟨by decide, by decide⟩, trivial, trivial, trivial, ⟨am_oc62, am_ol55, am_w282, by decide +kernel, am_sl62, rfl⟩, (show 3 < 7 from by decide), trivial, (show (0 : Int) ≤ 134 from by decide), trivial, am_of68, trivial, am_of69, trivial, am_of50, trivial, trivial, trivial, trivial, am_of52, trivial, trivial, (show 4 < 7 from by decide), trivial, am_of70, trivial, am_of69, trivial, ⟨by decide, by decide⟩, (show (0 : Int) ≤ 74 from by decide), ⟨by decide, by decide⟩, (show (0 : Int) ≤ 75 from by decide), ⟨by decide, by decide⟩, trivial, trivial, am_of67, trivial, am_of69, ⟨by decide, by decide⟩, trivial, trivial, am_of71, trivial, am_of69, trivial, ⟨by decide, by decide⟩, (show (0 : Int) ≤ 105 from by decide), ⟨by decide, by decide⟩, (show (0 : Int) ≤ 123 from by decide), trivial, am_of43, ⟨by decide, by decide⟩, trivial, am_of59, trivial, trivial, trivial, trivial, ⟨by decide, by decide⟩, trivial, trivial, trivial, trivial, am_of69, ⟨by decide, by decide⟩, trivial, ⟨by decide, Or.inl ⟨rfl, Or.inl am_w276⟩⟩, ⟨by decide, by decide⟩, (show 2 < 7 from by decide), trivial, am_of69, (show (0 : Int) ≤ 316 from by decide), trivial, (show (0 : Int) ≤ 316 from by decide), trivial, am_of69, ⟨by decide, by decide⟩, trivial, (show 3 < 7 from by decide), trivial, am_of68, trivial, trivial, (show 4 < 7 from by decide), trivial, am_of65, trivial, ⟨by decide, by decide⟩, trivial, trivial, am_of71, trivial, trivial, (show 5 < 7 from by decide), trivial, am_of70, trivial, trivial, (show (0 : Int) ≤ 198 from by decide), trivial, trivial, trivial, ⟨am_oc65, am_ol56, am_w285, by decide +kernel, am_sl65, rfl⟩, (show (0 : Int) ≤ 253 from by decide), trivial, (show (0 : Int) ≤ 227 from by decide), trivial, trivial, trivial, trivial, ⟨by decide, by decide⟩, trivial, trivial, trivial, ⟨by decide, by decide⟩, trivial, ⟨am_oc66, am_ol57, am_w288, by decide +kernel, am_sl66, rfl⟩, ⟨am_oc63, am_ol58, am_w291, by decide +kernel, am_sl63, rfl⟩, (show (0 : Int) ≤ 253 from by decide), trivial, trivial, trivial, trivial, am_of43, ⟨by decide, by decide⟩, trivial, am_of59, trivial, trivial, trivial, trivial, trivial, ⟨by decide, by decide⟩, trivial, ⟨am_oc63, am_ol58, am_w291, by decide +kernel, am_sl63, rfl⟩, (show 6 < 7 from by decide), trivial, (show (0 : Int) ≤ 273 from by decide), trivial, trivial, am_of69, ⟨by decide, by decide⟩, trivial, ⟨by decide, Or.inl ⟨rfl, Or.inl am_w276⟩⟩, (show (0 : Int) ≤ 313 from by decide), trivial, am_of71, trivial, trivial, trivial, trivial, am_of65, trivial, trivial, am_of70, trivial, trivial, (show (0 : Int) ≤ 308 from by decide), ⟨by decide, by decide⟩, trivial, ⟨by decide, by decide⟩, trivial, trivial, (show (0 : Int) ≤ 310 from by decide), trivial, trivial, ⟨by decide, by decide⟩, (show 2 < 7 from by decide), (show (0 : Int) ≤ 136 from by decide), trivial, (show (0 : Int) ≤ 322 from by decide), ⟨by decide, by decide⟩, trivial, ⟨by decide, by decide⟩, (show 1 < 7 from by decide), (show (0 : Int) ≤ 7 from by decide), trivial⟩
set_option maxRecDepth 20000 in
theorem am_wk68 : am_AllW 68 ar_68 := ⟨⟨by decide, by decide⟩, (show 1 < 2 from by decide), trivial, ⟨⟨by decide, by decide⟩, am_w126⟩, (show (0 : Int) ≤ 21 from by decide), trivial, am_of65, trivial, ⟨by decide, by decide⟩, trivial, (show 1 < 2 from by decide), (show (0 : Int) ≤ 2 from by decide), trivial, trivial⟩
set_option maxRecDepth 20000 in
theorem am_wk69 : am_AllW 69 ar_69 := ⟨trivial, ⟨am_oc68, am_ol59, am_w294, by decide +kernel, am_sl68, rfl⟩, trivial, trivial, am_of39, trivial, am_of59, trivial, ⟨by decide, Or.inl ⟨rfl, Or.inl am_w269⟩⟩, trivial, trivial, ⟨am_oc67, am_ol60, am_w297, by decide +kernel, am_sl67, rfl⟩, ⟨by decide, Or.inl ⟨rfl, Or.inl am_w298⟩⟩, trivial, ⟨by decide, by decide⟩, ⟨by decide, Or.inl ⟨rfl, Or.inl am_w299⟩⟩, ⟨by decide, by decide⟩, (show 1 < 2 from by decide), trivial, trivial, am_of38, trivial, am_of59, trivial, (show (0 : Int) ≤ 88 from by decide), trivial, am_of72, (show (0 : Int) ≤ 88 from by decide), trivial, (show (0 : Int) ≤ 62 from by decide), trivial, ⟨by decide, by decide⟩, ⟨am_oc70, am_ol61, am_w302, by decide +kernel, am_sl70, rfl⟩, trivial, trivial, ⟨by decide, by decide⟩, trivial, trivial, am_of42, ⟨by decide, by decide⟩, trivial, am_of59, trivial, trivial, trivial, trivial, ⟨am_oc73, am_ol62, am_w305, by decide +kernel, am_sl73, rfl⟩, (show 1 < 2 from by decide), (show (0 : Int) ≤ 32 from by decide), trivial, trivial⟩
set_option maxRecDepth 20000 in
theorem am_wk70 : am_AllW 70 ar_70 := ⟨trivial, am_of73, trivial, am_of74, trivial, trivial, trivial, trivial, trivial, am_of74, ⟨by decide, by decide⟩, trivial, ⟨by decide, Or.inl ⟨rfl, Or.inl am_w299⟩⟩, trivial, trivial⟩
set_option maxRecDepth 20000 in
theorem am_wk71 : am_AllW 71 ar_71 := ⟨trivial, am_of35, ⟨by decide, by decide⟩, trivial, am_of59, trivial, trivial, trivial, trivial, (show 2 + 1 < 5 from by decide), ⟨by decide, by decide⟩, (show 4 < 5 from by decide), trivial, (show (0 : Int) ≤ 56 from by decide), trivial, trivial, trivial, ⟨⟨by decide, by decide⟩, am_w306⟩, trivial, trivial, trivial, (show (0 : Int) ≤ 50 from by decide), trivial, trivial, trivial, trivial, ⟨⟨by decide, by decide⟩, am_w306⟩, trivial, trivial, ⟨am_oc70, am_ol61, am_w302, by decide +kernel, am_sl70, rfl⟩, (show 4 < 5 from by decide), (show (0 : Int) ≤ 19 from by decide), trivial, trivial⟩
set_option maxRecDepth 20000 in
theorem am_wk72 : am_AllW 72 ar_72 := ⟨trivial, am_of75, trivial, am_of76, trivial, trivial, trivial, am_of77, trivial, am_of76, trivial, trivial, trivial, trivial, am_of76, ⟨by decide, by decide⟩, trivial, ⟨by decide, Or.inl ⟨rfl, Or.inl am_w307⟩⟩, trivial, trivial⟩
set_option maxRecDepth 20000 in
theorem am_wk73 : am_AllW 73 ar_73 := ⟨trivial, ⟨by decide, by decide⟩, ⟨by decide, Or.inl ⟨rfl, Or.inl am_w307⟩⟩, trivial, trivial, trivial, ⟨am_oc72, am_ol63, am_w310, by decide +kernel, am_sl72, rfl⟩, trivial, am_of76, (show (0 : Int) ≤ 274 from by decide), trivial, trivial, am_of76, ⟨by decide, by decide⟩, trivial, ⟨by decide, Or.inl ⟨rfl, Or.inl am_w307⟩⟩, trivial, am_of75, trivial, am_of76, trivial, (show 3 < 9 from by decide), trivial, am_of77, trivial, am_of76, trivial, (show 4 < 9 from by decide), trivial, ⟨by decide, by decide⟩, (show (0 : Int) ≤ 63 from by decide), trivial, trivial, ⟨am_oc70, am_ol61, am_w302, by decide +kernel, am_sl70, rfl⟩, (show (0 : Int) ≤ 271 from by decide), trivial, am_of65, trivial, trivial, ⟨by decide, by decide⟩, (show (0 : Int) ≤ 82 from by decide), trivial, ⟨by decide, by decide⟩, ⟨am_oc70, am_ol61, am_w302, by decide +kernel, am_sl70, rfl⟩, (show (0 : Int) ≤ 271 from by decide), trivial, am_of36, ⟨by decide, by decide⟩, trivial, am_of59, trivial, trivial, trivial, trivial, ⟨by decide, by decide⟩, (show (0 : Int) ≤ 117 from by decide), trivial, trivial, am_of65, trivial, trivial, ⟨by decide, by decide⟩, trivial, ⟨am_oc74, am_ol64, am_w313, by decide +kernel, am_sl74, rfl⟩, (show (0 : Int) ≤ 271 from by decide), trivial, am_of36, ⟨by decide, by decide⟩, trivial, am_of59, trivial, trivial, trivial, trivial, ⟨by decide, by decide⟩, (show (0 : Int) ≤ 140 from by decide), ⟨by decide, by decide⟩, (show (0 : Int) ≤ 141 from by decide), ⟨by decide, by decide⟩, (show 5 < 9 from by decide), trivial, (show (0 : Int) ≤ 157 from by decide), trivial, trivial, ⟨am_oc66, am_ol57, am_w288, by decide +kernel, am_sl66, rfl⟩, (show (0 : Int) ≤ 163 from by decide), trivial, am_of65, trivial, trivial, (show 6 < 9 from by decide), trivial, am_of44, ⟨by decide, by decide⟩, trivial, am_of59, trivial, trivial, trivial, trivial, (show 7 < 9 from by decide), trivial, (show (0 : Int) ≤ 265 from by decide), trivial, ⟨by decide, by decide⟩, ⟨am_oc70, am_ol61, am_w302, by decide +kernel, am_sl70, rfl⟩, trivial, ⟨by decide, by decide⟩, ⟨by decide, by decide⟩, ⟨am_oc72, am_ol63, am_w310, by decide +kernel, am_sl72, rfl⟩, trivial, ⟨by decide, by decide⟩, trivial, (show 8 < 9 from by decide), trivial, (show (0 : Int) ≤ 265 from by decide), trivial, trivial, (show (0 : Int) ≤ 221 from by decide), trivial, (show (0 : Int) ≤ 229 from by decide), ⟨by decide, by decide⟩, trivial, trivial, trivial, trivial, ⟨by decide, by decide⟩, trivial, trivial, am_of45, ⟨by decide, by decide⟩, ⟨by decide, by decide⟩, trivial, am_of59, trivial, trivial, trivial, trivial, trivial, trivial, trivial, ⟨am_oc72, am_ol63, am_w310, by decide +kernel, am_sl72, rfl⟩, trivial, ⟨by decide, by decide⟩, ⟨by decide, by decide⟩, ⟨am_oc72, am_ol63, am_w310, by decide +kernel, am_sl72, rfl⟩, (show 8 < 9 from by decide), (show (0 : Int) ≤ 206 from by decide), trivial, trivial, ⟨am_oc71, am_ol65, am_w316, by decide +kernel, am_sl71, rfl⟩, (show (0 : Int) ≤ 11 from by decide), trivial, trivial⟩
set_option maxRecDepth 20000 in
theorem am_wk74 : am_AllW 74 ar_74 := ⟨trivial, ⟨by decide, by decide⟩, (show (0 : Int) ≤ 17 from by decide), trivial, ⟨by decide, by decide⟩, trivial, ⟨by decide, by decide⟩, trivial, trivial, ⟨am_oc70, am_ol61, am_w302, by decide +kernel, am_sl70, rfl⟩, trivial, ⟨by decide, by decide⟩, (show (0 : Int) ≤ 37 from by decide), trivial, ⟨by decide, by decide⟩, trivial, ⟨by decide, by decide⟩, trivial, ⟨by decide, by decide⟩, trivial, trivial, ⟨am_oc70, am_ol61, am_w302, by decide +kernel, am_sl70, rfl⟩, trivial, ⟨by decide, by decide⟩, trivial, ⟨by decide, by decide⟩, trivial, trivial, ⟨am_oc70, am_ol61, am_w302, by decide +kernel, am_sl70, rfl⟩, trivial, trivial⟩
set_option maxRecDepth 20000 in
theorem am_wk75 : am_AllW 75 ar_75 := ⟨trivial, am_of59, (show (0 : Int) ≤ 11 from by decide), ⟨by decide, by decide⟩, (show (0 : Int) ≤ 23 from by decide), trivial, am_of72, (show (0 : Int) ≤ 22 from by decide), ⟨by decide, by decide⟩, (show (0 : Int) ≤ 23 from by decide), ⟨by decide, by decide⟩, trivial, trivial⟩
set_option maxRecDepth 20000 in
theorem am_wk76 : am_AllW 76 ar_76 := ⟨trivial, am_of59, (show (0 : Int) ≤ 26 from by decide), trivial, am_of72, (show (0 : Int) ≤ 26 from by decide), trivial, (show (0 : Int) ≤ 26 from by decide), trivial, trivial, am_of74, (show (0 : Int) ≤ 30 from by decide), ⟨by decide, by decide⟩, (show (0 : Int) ≤ 36 from by decide), trivial, am_of73, trivial, trivial, trivial, trivial⟩
set_option maxRecDepth 20000 in
theorem am_wk77 : am_AllW 77 ar_77 := ⟨trivial, am_of59, (show (0 : Int) ≤ 24 from by decide), trivial, (show (0 : Int) ≤ 24 from by decide), trivial, trivial, am_of39, trivial, am_of59, trivial, (show (0 : Int) ≤ 26 from by decide), ⟨by decide, by decide⟩, trivial, trivial, am_of60, trivial, trivial, (show (0 : Int) ≤ 42 from by decide), trivial, am_of60, trivial, trivial, trivial, trivial, ⟨am_oc68, am_ol59, am_w294, by decide +kernel, am_sl68, rfl⟩, ⟨by decide, by decide⟩, trivial, am_of59, trivial, trivial, trivial, (show 2 < 4 from by decide), ⟨by decide, by decide⟩, (show 3 < 4 from by decide), trivial, trivial, am_of51, trivial, trivial, (show (0 : Int) ≤ 119 from by decide), trivial, am_of52, ⟨by decide, by decide⟩, trivial, trivial, trivial, trivial, trivial, ⟨by decide, by decide⟩, (show (0 : Int) ≤ 113 from by decide), trivial, am_of65, trivial, am_of50, ⟨by decide, by decide⟩, trivial, trivial, trivial, trivial, trivial, trivial, am_of52, ⟨by decide, by decide⟩, trivial, trivial, trivial, trivial, trivial, trivial, (show 3 < 4 from by decide), (show (0 : Int) ≤ 58 from by decide), trivial, trivial, ⟨by decide, Or.inl ⟨rfl, Or.inl am_w269⟩⟩, trivial, am_of60, trivial, trivial, ⟨am_oc67, am_ol60, am_w297, by decide +kernel, am_sl67, rfl⟩, (show (0 : Int) ≤ 140 from by decide), ⟨by decide, by decide⟩, (show (0 : Int) ≤ 141 from by decide), ⟨by decide, by decide⟩, trivial, trivial, am_of60, trivial, trivial, trivial, trivial⟩
set_option maxRecDepth 20000 in
theorem am_wk78 : am_AllW 78 ar_78 := ⟨trivial, ⟨am_w317, am_w1, am_w2⟩, trivial, ⟨by decide, by decide⟩, ⟨by decide, Or.inl ⟨rfl, Or.inl am_w318⟩⟩, trivial, ⟨by decide, by decide⟩, ⟨by decide, Or.inl ⟨rfl, Or.inl am_w319⟩⟩, trivial, ⟨by decide, by decide⟩, am_w100, ⟨by decide, Or.inr ⟨rfl, rfl, rfl, am_w320⟩⟩, trivial, ⟨by decide, by decide⟩, am_w100, ⟨by decide, Or.inr ⟨rfl, rfl, rfl, am_w321⟩⟩, trivial, ⟨by decide, by decide⟩, am_w100, ⟨by decide, Or.inr ⟨rfl, rfl, rfl, am_w322⟩⟩, trivial, ⟨by decide, by decide⟩, am_w100, ⟨by decide, Or.inr ⟨rfl, rfl, rfl, am_w323⟩⟩, trivial, ⟨by decide, by decide⟩, am_w100, ⟨by decide, Or.inr ⟨rfl, rfl, rfl, am_w324⟩⟩, trivial, trivial⟩
set_option maxRecDepth 20000 in
theorem am_wk79 : am_AllW 79 ar_79 := ⟨trivial, ⟨by decide, by decide⟩, ⟨by decide, Or.inl ⟨rfl, Or.inl am_w318⟩⟩, trivial, ⟨by decide, by decide⟩, ⟨by decide, Or.inl ⟨rfl, Or.inl am_w319⟩⟩, ⟨by decide, by decide⟩, (show 2 < 3 from by decide), trivial, trivial, am_of78, trivial, (show (0 : Int) ≤ 34 from by decide), trivial, am_of78, trivial, ⟨by decide, by decide⟩, trivial, (show 2 < 3 from by decide), (show (0 : Int) ≤ 12 from by decide), ⟨by decide, by decide⟩, (show 2 < 3 from by decide), trivial, trivial, am_of79, (show (0 : Int) ≤ 85 from by decide), trivial, am_of80, trivial, trivial, am_of81, trivial, trivial, trivial, trivial, trivial, am_of82, trivial, trivial, ⟨by decide, by decide⟩, ⟨am_oc82, am_ol66, am_w330, by decide +kernel, am_sl82, rfl⟩, trivial, am_of80, trivial, ⟨by decide, by decide⟩, trivial, trivial, am_of81, trivial, (show 2 < 3 from by decide), (show (0 : Int) ≤ 36 from by decide), trivial, trivial⟩
set_option maxRecDepth 20000 in
theorem am_wk80 : am_AllW 80 ar_80 := ⟨trivial, am_of78, trivial, ⟨by decide, by decide⟩, trivial, trivial, trivial, trivial, trivial, trivial⟩
set_option maxRecDepth 20000 in
theorem am_wk81 : am_AllW 81 ar_81 := ⟨⟨by decide, by decide⟩, (show 2 < 3 from by decide), trivial, trivial, am_of83, (show (0 : Int) ≤ 28 from by decide), trivial, am_of84, trivial, trivial, trivial, (show (0 : Int) ≤ 22 from by decide), trivial, trivial, (show 2 < 3 from by decide), (show (0 : Int) ≤ 2 from by decide), ⟨by decide, by decide⟩, trivial, trivial⟩
set_option maxRecDepth 20000 in
theorem am_wk82 : am_AllW 82 ar_82 := ⟨trivial, (show 5 < 7 from by decide), ⟨by decide, by decide⟩, (show 6 < 7 from by decide), trivial, ⟨by decide, by decide⟩, (show (0 : Int) ≤ 49 from by decide), trivial, ⟨by decide, by decide⟩, (show (0 : Int) ≤ 49 from by decide), trivial, trivial, trivial, trivial, trivial, trivial, trivial, ⟨am_oc83, am_ol67, am_w333, by decide +kernel, am_sl83, rfl⟩, trivial, am_of85, am_of86, trivial, trivial, (show 5 < 7 from by decide), (show 6 < 7 from by decide), (show (0 : Int) ≤ 6 from by decide), trivial, trivial⟩
set_option maxRecDepth 20000 in
theorem am_wk83 : am_AllW 83 ar_83 := ⟨trivial, am_of85, (show 5 < 8 from by decide), trivial, am_of87, trivial, trivial, (show 6 < 8 from by decide), trivial, am_of88, trivial, trivial, (show 7 < 8 from by decide), trivial, ⟨by decide, by decide⟩, (show (0 : Int) ≤ 50 from by decide), trivial, trivial, trivial, ⟨by decide, by decide⟩, trivial, am_of89, trivial, trivial, trivial, ⟨am_oc84, am_ol68, am_w341, by decide +kernel, am_sl84, rfl⟩, (show (0 : Int) ≤ 128 from by decide), trivial, ⟨by decide, by decide⟩, (show (0 : Int) ≤ 72 from by decide), trivial, ⟨by decide, by decide⟩, (show (0 : Int) ≤ 72 from by decide), trivial, trivial, trivial, ⟨am_oc115, am_ol69, am_w344, by decide +kernel, am_w345, rfl⟩, (show (0 : Int) ≤ 91 from by decide), trivial, ⟨by decide, by decide⟩, (show (0 : Int) ≤ 128 from by decide), trivial, trivial, trivial, trivial, trivial, ⟨am_oc83, am_ol67, am_w333, by decide +kernel, am_sl83, rfl⟩, (show (0 : Int) ≤ 128 from by decide), trivial, trivial, ⟨am_oc137, am_ol70, am_w348, by decide +kernel, am_w349, rfl⟩, (show (0 : Int) ≤ 128 from by decide), trivial, trivial, trivial, trivial, am_of90, trivial, trivial, ⟨am_oc84, am_ol68, am_w341, by decide +kernel, am_sl84, rfl⟩, trivial, trivial, trivial, trivial, ⟨by decide, by decide⟩, trivial, trivial, ⟨by decide, by decide⟩, trivial, ⟨am_oc82, am_ol66, am_w330, by decide +kernel, am_sl82, rfl⟩, trivial, trivial⟩
set_option maxRecDepth 20000 in
theorem am_wk84 : am_AllW 84 ar_84 := ⟨trivial, am_of81, ⟨by decide, by decide⟩, (show (0 : Int) ≤ 10 from by decide), trivial, trivial, trivial, ⟨am_oc81, am_ol71, am_w353, by decide +kernel, am_w354, rfl⟩, (show 4 < 5 from by decide), trivial, ⟨by decide, by decide⟩, (show (0 : Int) ≤ 49 from by decide), trivial, am_of83, (show 4 < 5 from by decide), trivial, am_of84, trivial, am_of83, trivial, trivial, trivial, trivial, am_of83, ⟨by decide, by decide⟩, trivial, ⟨by decide, Or.inl ⟨rfl, Or.inl am_w318⟩⟩, trivial, am_of91, trivial, am_of81, trivial, trivial, trivial, am_of92, trivial, am_of81, trivial, trivial, trivial, am_of78, trivial, ⟨by decide, by decide⟩, trivial, trivial, trivial, trivial, trivial, trivial, trivial, am_of81, ⟨by decide, by decide⟩, trivial, ⟨by decide, Or.inl ⟨rfl, Or.inl am_w319⟩⟩, trivial, trivial⟩
set_option maxRecDepth 20000 in
theorem am_wk85 : am_AllW 85 ar_85 := ⟨trivial, ⟨am_w355, am_w1, am_w2⟩, trivial, ⟨_, rfl, rfl, am_w356, am_w357, am_w39⟩, trivial, ⟨am_oc138, am_ol72, rfl, rfl, am_w359, by decide +kernel⟩, ⟨by decide, Or.inr ⟨rfl, rfl, rfl, am_w360⟩⟩, trivial, trivial⟩
set_option maxRecDepth 20000 in
theorem am_wk86 : am_AllW 86 ar_86 := ⟨trivial, ⟨am_oc107, am_ol73, am_w363, by decide +kernel, am_w364, rfl⟩, trivial, am_of93, ⟨am_oc145, am_ol74, am_w367, by decide +kernel, am_w368, rfl⟩, trivial, trivial, am_of94, ⟨am_oc88, am_ol75, am_w372, by decide +kernel, am_sl88, rfl⟩, (show (0 : Int) ≤ 42 from by decide), trivial, trivial, ⟨am_oc91, am_ol76, am_w375, by decide +kernel, am_sl91, rfl⟩, (show (0 : Int) ≤ 42 from by decide), trivial, trivial, ⟨am_oc92, am_ol77, am_w378, by decide +kernel, am_sl92, rfl⟩, (show (0 : Int) ≤ 42 from by decide), ⟨by decide, by decide⟩, (show (0 : Int) ≤ 43 from by decide), ⟨by decide, by decide⟩, trivial, trivial⟩
set_option maxRecDepth 20000 in
theorem am_wk87 : am_AllW 87 ar_87 := ⟨trivial, ⟨am_oc135, am_ol78, am_w381, by decide +kernel, am_w382, rfl⟩, trivial, am_of93, ⟨am_oc145, am_ol74, am_w367, by decide +kernel, am_w368, rfl⟩, trivial, trivial, trivial, ⟨by decide, by decide⟩, ⟨by decide, by decide⟩, ⟨am_oc94, am_ol79, am_w385, by decide +kernel, am_sl94, rfl⟩, ⟨by decide, Or.inl ⟨rfl, Or.inl am_w386⟩⟩, trivial, am_of95, ⟨by decide, by decide⟩, (show (0 : Int) ≤ 44 from by decide), trivial, am_of93, ⟨am_oc140, am_ol80, am_w389, by decide +kernel, am_w390, rfl⟩, (show (0 : Int) ≤ 44 from by decide), ⟨by decide, by decide⟩, (show (0 : Int) ≤ 45 from by decide), ⟨by decide, by decide⟩, trivial, trivial⟩
set_option maxRecDepth 20000 in
theorem am_wk88 : am_AllW 88 ar_88 := ⟨⟨by decide, by decide⟩, (show 2 < 4 from by decide), trivial, ⟨by decide, by decide⟩, (show (0 : Int) ≤ 80 from by decide), trivial, am_of93, ⟨am_oc140, am_ol80, am_w389, by decide +kernel, am_w390, rfl⟩, (show 3 < 4 from by decide), trivial, ⟨by decide, by decide⟩, (show (0 : Int) ≤ 32 from by decide), trivial, (show (0 : Int) ≤ 30 from by decide), ⟨by decide, by decide⟩, (show (0 : Int) ≤ 31 from by decide), ⟨by decide, by decide⟩, trivial, trivial, ⟨by decide, by decide⟩, (show (0 : Int) ≤ 46 from by decide), trivial, ⟨by decide, by decide⟩, (show (0 : Int) ≤ 46 from by decide), ⟨by decide, by decide⟩, trivial, trivial, am_of93, ⟨am_oc144, am_ol81, am_w393, by decide +kernel, am_w394, rfl⟩, trivial, trivial, trivial, ⟨by decide, by decide⟩, (show (0 : Int) ≤ 65 from by decide), ⟨by decide, by decide⟩, (show (0 : Int) ≤ 66 from by decide), ⟨by decide, by decide⟩, ⟨am_oc89, am_ol82, am_w397, by decide +kernel, am_sl89, rfl⟩, (show (0 : Int) ≤ 74 from by decide), ⟨by decide, by decide⟩, trivial, (show 2 < 4 from by decide), (show (0 : Int) ≤ 2 from by decide), ⟨by decide, by decide⟩, trivial, trivial⟩
set_option maxRecDepth 20000 in
theorem am_wk89 : am_AllW 89 ar_89 := ⟨trivial, am_of93, ⟨am_oc140, am_ol80, am_w389, by decide +kernel, am_w390, rfl⟩, ⟨by decide, by decide⟩, (show (0 : Int) ≤ 20 from by decide), trivial, am_of96, ⟨by decide, by decide⟩, (show (0 : Int) ≤ 22 from by decide), ⟨by decide, by decide⟩, trivial, trivial, trivial, am_of93, ⟨am_oc142, am_ol83, am_w401, by decide +kernel, am_w402, rfl⟩, trivial, am_of93, ⟨am_oc141, am_ol84, am_w53, by decide +kernel, am_w54, rfl⟩, trivial, ⟨am_oc164, am_ol85, am_w407, by decide +kernel, am_w408, rfl⟩, trivial, am_of93, ⟨am_oc144, am_ol81, am_w393, by decide +kernel, am_w394, rfl⟩, trivial, ⟨by decide, by decide⟩, ⟨am_oc93, am_ol86, am_w411, by decide +kernel, am_sl93, rfl⟩, (show (0 : Int) ≤ 59 from by decide), ⟨by decide, by decide⟩, trivial, ⟨by decide, by decide⟩, (show 3 < 4 from by decide), trivial, ⟨by decide, by decide⟩, (show (0 : Int) ≤ 110 from by decide), trivial, trivial, trivial, ⟨am_oc90, am_ol87, am_w414, by decide +kernel, am_sl90, rfl⟩, (show (0 : Int) ≤ 78 from by decide), ⟨by decide, by decide⟩, trivial, trivial, ⟨by decide, by decide⟩, ⟨am_oc93, am_ol86, am_w411, by decide +kernel, am_sl93, rfl⟩, (show (0 : Int) ≤ 89 from by decide), ⟨by decide, by decide⟩, trivial, trivial, (show (0 : Int) ≤ 102 from by decide), trivial, ⟨by decide, by decide⟩, ⟨am_oc93, am_ol86, am_w411, by decide +kernel, am_sl93, rfl⟩, (show (0 : Int) ≤ 104 from by decide), ⟨by decide, by decide⟩, trivial, (show 3 < 4 from by decide), (show (0 : Int) ≤ 61 from by decide), ⟨by decide, by decide⟩, trivial, trivial⟩
set_option maxRecDepth 20000 in
theorem am_wk90 : am_AllW 90 ar_90 := ⟨trivial, am_of93, ⟨am_oc140, am_ol80, am_w389, by decide +kernel, am_w390, rfl⟩, ⟨by decide, by decide⟩, (show (0 : Int) ≤ 13 from by decide), ⟨by decide, by decide⟩, trivial, trivial, trivial, am_of93, ⟨am_oc143, am_ol88, am_w417, by decide +kernel, am_w418, rfl⟩, trivial, am_of93, ⟨am_oc141, am_ol84, am_w53, by decide +kernel, am_w54, rfl⟩, ⟨am_oc165, am_ol89, am_w421, by decide +kernel, am_w422, rfl⟩, trivial, am_of93, ⟨am_oc144, am_ol81, am_w393, by decide +kernel, am_w394, rfl⟩, trivial, (show (0 : Int) ≤ 46 from by decide), ⟨by decide, by decide⟩, (show (0 : Int) ≤ 47 from by decide), ⟨by decide, by decide⟩, (show 3 < 5 from by decide), ⟨by decide, by decide⟩, (show 4 < 5 from by decide), trivial, trivial, (show (0 : Int) ≤ 99 from by decide), trivial, am_of93, ⟨am_oc140, am_ol80, am_w389, by decide +kernel, am_w390, rfl⟩, ⟨by decide, by decide⟩, (show (0 : Int) ≤ 99 from by decide), trivial, trivial, am_of93, ⟨am_oc142, am_ol83, am_w401, by decide +kernel, am_w402, rfl⟩, trivial, am_of93, ⟨am_oc141, am_ol84, am_w53, by decide +kernel, am_w54, rfl⟩, ⟨am_oc166, am_ol90, am_w425, by decide +kernel, am_w426, rfl⟩, trivial, am_of93, ⟨am_oc144, am_ol81, am_w393, by decide +kernel, am_w394, rfl⟩, (show 4 < 5 from by decide), (show (0 : Int) ≤ 51 from by decide), trivial, (show (0 : Int) ≤ 109 from by decide), trivial, ⟨by decide, by decide⟩, (show (0 : Int) ≤ 113 from by decide), ⟨by decide, by decide⟩, (show (0 : Int) ≤ 114 from by decide), ⟨by decide, by decide⟩, trivial, trivial⟩
set_option maxRecDepth 20000 in
theorem am_wk91 : am_AllW 91 ar_91 := ⟨trivial, am_of93, ⟨am_oc144, am_ol81, am_w393, by decide +kernel, am_w394, rfl⟩, ⟨by decide, by decide⟩, (show 2 < 3 from by decide), trivial, ⟨by decide, by decide⟩, (show (0 : Int) ≤ 56 from by decide), trivial, am_of93, ⟨am_oc140, am_ol80, am_w389, by decide +kernel, am_w390, rfl⟩, ⟨by decide, by decide⟩, (show (0 : Int) ≤ 56 from by decide), trivial, trivial, am_of93, ⟨am_oc142, am_ol83, am_w401, by decide +kernel, am_w402, rfl⟩, trivial, am_of93, ⟨am_oc141, am_ol84, am_w53, by decide +kernel, am_w54, rfl⟩, ⟨am_oc108, am_ol91, am_w429, by decide +kernel, am_w430, rfl⟩, trivial, am_of93, ⟨am_oc144, am_ol81, am_w393, by decide +kernel, am_w394, rfl⟩, (show 2 < 3 from by decide), (show (0 : Int) ≤ 9 from by decide), trivial, am_of97, (show (0 : Int) ≤ 76 from by decide), trivial, ⟨by decide, by decide⟩, ⟨am_oc93, am_ol86, am_w411, by decide +kernel, am_sl93, rfl⟩, (show (0 : Int) ≤ 76 from by decide), ⟨by decide, by decide⟩, (show (0 : Int) ≤ 77 from by decide), ⟨by decide, by decide⟩, trivial, trivial⟩
set_option maxRecDepth 20000 in
theorem am_wk92 : am_AllW 92 ar_92 := ⟨⟨by decide, by decide⟩, (show 2 < 6 from by decide), trivial, ⟨by decide, by decide⟩, (show (0 : Int) ≤ 90 from by decide), trivial, am_of93, ⟨am_oc140, am_ol80, am_w389, by decide +kernel, am_w390, rfl⟩, (show (0 : Int) ≤ 90 from by decide), trivial, trivial, am_of98, ⟨by decide, by decide⟩, ⟨by decide, by decide⟩, ⟨am_oc94, am_ol79, am_w385, by decide +kernel, am_sl94, rfl⟩, (show 3 < 6 from by decide), trivial, am_of93, ⟨am_oc141, am_ol84, am_w53, by decide +kernel, am_w54, rfl⟩, (show 4 < 6 from by decide), trivial, ⟨by decide, by decide⟩, (show (0 : Int) ≤ 56 from by decide), trivial, ⟨by decide, by decide⟩, ⟨am_oc93, am_ol86, am_w411, by decide +kernel, am_sl93, rfl⟩, (show (0 : Int) ≤ 56 from by decide), ⟨by decide, by decide⟩, (show (0 : Int) ≤ 57 from by decide), ⟨by decide, by decide⟩, (show 5 < 6 from by decide), trivial, ⟨by decide, by decide⟩, (show (0 : Int) ≤ 73 from by decide), trivial, ⟨by decide, by decide⟩, ⟨am_oc93, am_ol86, am_w411, by decide +kernel, am_sl93, rfl⟩, (show (0 : Int) ≤ 75 from by decide), ⟨by decide, by decide⟩, trivial, trivial, trivial, trivial, trivial, ⟨am_oc109, am_ol92, am_w435, by decide +kernel, am_w436, rfl⟩, (show 2 < 6 from by decide), (show (0 : Int) ≤ 2 from by decide), trivial, am_of99, (show (0 : Int) ≤ 111 from by decide), trivial, am_of93, ⟨am_oc140, am_ol80, am_w389, by decide +kernel, am_w390, rfl⟩, (show (0 : Int) ≤ 111 from by decide), ⟨by decide, by decide⟩, (show (0 : Int) ≤ 112 from by decide), ⟨by decide, by decide⟩, trivial, trivial⟩
set_option maxRecDepth 20000 in
theorem am_wk93 : am_AllW 93 ar_93 := ⟨trivial, am_of93, ⟨am_oc140, am_ol80, am_w389, by decide +kernel, am_w390, rfl⟩, trivial, (show (0 : Int) ≤ 13 from by decide), ⟨by decide, by decide⟩, trivial, trivial, am_of93, ⟨am_oc144, am_ol81, am_w393, by decide +kernel, am_w394, rfl⟩, ⟨by decide, by decide⟩, trivial, trivial⟩
set_option maxRecDepth 20000 in
theorem am_wk94 : am_AllW 94 ar_94 := ⟨trivial, trivial, trivial, trivial, ⟨am_oc96, am_ol93, am_w440, by decide +kernel, am_sl96, rfl⟩, (show 4 < 8 from by decide), trivial, (show 5 < 8 from by decide), ⟨by decide, by decide⟩, (show 6 < 8 from by decide), trivial, ⟨by decide, by decide⟩, (show (0 : Int) ≤ 64 from by decide), trivial, ⟨by decide, by decide⟩, (show (0 : Int) ≤ 64 from by decide), trivial, ⟨am_oc95, am_ol94, am_w443, by decide +kernel, am_sl95, rfl⟩, (show (0 : Int) ≤ 64 from by decide), trivial, trivial, trivial, trivial, ⟨am_oc96, am_ol93, am_w440, by decide +kernel, am_sl96, rfl⟩, (show 7 < 8 from by decide), trivial, am_of100, trivial, trivial, trivial, trivial, (show 5 < 8 from by decide), (show 6 < 8 from by decide), (show (0 : Int) ≤ 16 from by decide), trivial, ⟨by decide, by decide⟩, (show (0 : Int) ≤ 74 from by decide), ⟨by decide, by decide⟩, (show (0 : Int) ≤ 76 from by decide), trivial, trivial, trivial⟩
set_option maxRecDepth 20000 in
theorem am_wk95 : am_AllW 95 ar_95 := ⟨trivial, am_of93, ⟨am_oc140, am_ol80, am_w389, by decide +kernel, am_w390, rfl⟩, (show 1 < 2 from by decide), trivial, ⟨by decide, by decide⟩, (show (0 : Int) ≤ 30 from by decide), trivial, ⟨by decide, by decide⟩, (show (0 : Int) ≤ 30 from by decide), trivial, ⟨by decide, by decide⟩, (show (0 : Int) ≤ 30 from by decide), trivial, (show (0 : Int) ≤ 34 from by decide), ⟨by decide, by decide⟩, (show (0 : Int) ≤ 35 from by decide), ⟨by decide, by decide⟩, trivial, trivial⟩
set_option maxRecDepth 20000 in
theorem am_wk96 : am_AllW 96 ar_96 := ⟨trivial, ⟨by decide, by decide⟩, (show (0 : Int) ≤ 15 from by decide), trivial, am_of101, ⟨by decide, by decide⟩, (show (0 : Int) ≤ 17 from by decide), ⟨by decide, by decide⟩, trivial, trivial, am_of93, ⟨am_oc140, am_ol80, am_w389, by decide +kernel, am_w390, rfl⟩, (show 4 < 5 from by decide), trivial, ⟨by decide, by decide⟩, (show (0 : Int) ≤ 39 from by decide), trivial, trivial, ⟨by decide, by decide⟩, ⟨am_oc97, am_ol95, am_w448, by decide +kernel, am_sl97, rfl⟩, trivial, trivial, ⟨by decide, by decide⟩, (show (0 : Int) ≤ 52 from by decide), trivial, trivial, ⟨by decide, by decide⟩, ⟨am_oc97, am_ol95, am_w448, by decide +kernel, am_sl97, rfl⟩, trivial, trivial, ⟨by decide, by decide⟩, (show (0 : Int) ≤ 67 from by decide), trivial, trivial, trivial, trivial, ⟨am_oc100, am_ol96, am_w451, by decide +kernel, am_sl100, rfl⟩, trivial, trivial, (show (0 : Int) ≤ 90 from by decide), trivial, ⟨by decide, by decide⟩, (show (0 : Int) ≤ 88 from by decide), trivial, trivial, ⟨by decide, by decide⟩, ⟨am_oc97, am_ol95, am_w448, by decide +kernel, am_sl97, rfl⟩, (show (0 : Int) ≤ 89 from by decide), ⟨by decide, by decide⟩, trivial, trivial, ⟨by decide, by decide⟩, (show (0 : Int) ≤ 110 from by decide), trivial, trivial, trivial, trivial, ⟨by decide, by decide⟩, ⟨am_oc97, am_ol95, am_w448, by decide +kernel, am_sl97, rfl⟩, trivial, ⟨am_oc99, am_ol97, am_w454, by decide +kernel, am_sl99, rfl⟩, trivial, trivial, ⟨by decide, by decide⟩, (show (0 : Int) ≤ 130 from by decide), trivial, trivial, trivial, trivial, ⟨by decide, by decide⟩, ⟨am_oc97, am_ol95, am_w448, by decide +kernel, am_sl97, rfl⟩, trivial, ⟨am_oc99, am_ol97, am_w454, by decide +kernel, am_sl99, rfl⟩, trivial, trivial, ⟨by decide, by decide⟩, (show (0 : Int) ≤ 143 from by decide), trivial, trivial, trivial, ⟨am_oc98, am_ol98, am_w457, by decide +kernel, am_sl98, rfl⟩, trivial, trivial, ⟨by decide, by decide⟩, (show (0 : Int) ≤ 159 from by decide), trivial, trivial, ⟨by decide, by decide⟩, ⟨am_oc97, am_ol95, am_w448, by decide +kernel, am_sl97, rfl⟩, (show (0 : Int) ≤ 160 from by decide), ⟨by decide, by decide⟩, trivial, trivial⟩
set_option maxRecDepth 20000 in
theorem am_wk97 : am_AllW 97 ar_97 := ⟨trivial, trivial, trivial, am_of93, ⟨am_oc141, am_ol84, am_w53, by decide +kernel, am_w54, rfl⟩, ⟨am_oc136, am_ol99, am_w460, by decide +kernel, am_w461, rfl⟩, (show 3 < 4 from by decide), trivial, am_of102, trivial, trivial, am_of93, ⟨am_oc142, am_ol83, am_w401, by decide +kernel, am_w402, rfl⟩, trivial, trivial, am_of103, trivial, trivial, am_of93, ⟨am_oc143, am_ol88, am_w417, by decide +kernel, am_w418, rfl⟩, trivial, trivial, am_of93, ⟨am_oc144, am_ol81, am_w393, by decide +kernel, am_w394, rfl⟩, trivial, trivial, trivial⟩
set_option maxRecDepth 20000 in
theorem am_wk98 : am_AllW 98 ar_98 := ⟨trivial, trivial, ⟨by decide, by decide⟩, ⟨am_oc97, am_ol95, am_w448, by decide +kernel, am_sl97, rfl⟩, (show 3 < 4 from by decide), trivial, ⟨by decide, by decide⟩, ⟨am_oc93, am_ol86, am_w411, by decide +kernel, am_sl93, rfl⟩, (show (0 : Int) ≤ 18 from by decide), trivial, trivial, trivial, am_of104, trivial, ⟨by decide, by decide⟩, trivial, trivial, trivial, trivial, trivial, ⟨am_oc99, am_ol97, am_w454, by decide +kernel, am_sl99, rfl⟩, trivial, trivial⟩
set_option maxRecDepth 20000 in
theorem am_wk99 : am_AllW 99 ar_99 := ⟨trivial, am_of105, trivial, trivial, trivial, ⟨by decide, by decide⟩, trivial, ⟨by decide, by decide⟩, trivial, ⟨am_oc96, am_ol93, am_w440, by decide +kernel, am_sl96, rfl⟩, trivial, trivial, am_of105, trivial, trivial, ⟨by decide, by decide⟩, (show (0 : Int) ≤ 29 from by decide), ⟨by decide, by decide⟩, (show (0 : Int) ≤ 30 from by decide), trivial, trivial, trivial⟩
set_option maxRecDepth 20000 in
theorem am_wk100 : am_AllW 100 ar_100 := ⟨trivial, trivial, ⟨by decide, by decide⟩, ⟨am_oc97, am_ol95, am_w448, by decide +kernel, am_sl97, rfl⟩, (show 4 < 5 from by decide), trivial, am_of93, ⟨am_oc140, am_ol80, am_w389, by decide +kernel, am_w390, rfl⟩, ⟨by decide, by decide⟩, (show (0 : Int) ≤ 22 from by decide), ⟨by decide, by decide⟩, trivial, trivial, am_of103, trivial, trivial, am_of93, ⟨am_oc143, am_ol88, am_w417, by decide +kernel, am_w418, rfl⟩, trivial, trivial, am_of106, trivial, trivial, am_of93, ⟨am_oc141, am_ol84, am_w53, by decide +kernel, am_w54, rfl⟩, trivial, trivial, am_of93, ⟨am_oc144, am_ol81, am_w393, by decide +kernel, am_w394, rfl⟩, trivial, am_of105, trivial, trivial, trivial, trivial, trivial, ⟨by decide, by decide⟩, trivial, ⟨am_oc94, am_ol79, am_w385, by decide +kernel, am_sl94, rfl⟩, trivial, trivial, am_of107, trivial, trivial, am_of93, ⟨am_oc141, am_ol84, am_w53, by decide +kernel, am_w54, rfl⟩, trivial, trivial, am_of105, trivial, trivial, ⟨by decide, by decide⟩, (show (0 : Int) ≤ 112 from by decide), trivial, ⟨by decide, by decide⟩, ⟨am_oc93, am_ol86, am_w411, by decide +kernel, am_sl93, rfl⟩, (show (0 : Int) ≤ 112 from by decide), trivial, (show (0 : Int) ≤ 113 from by decide), ⟨by decide, by decide⟩, trivial, trivial⟩
set_option maxRecDepth 20000 in
theorem am_wk101 : am_AllW 101 ar_101 := ⟨trivial, ⟨am_w468, am_w1, am_w2⟩, trivial, ⟨by decide, by decide⟩, ⟨by decide, Or.inl ⟨rfl, Or.inl am_w469⟩⟩, trivial, ⟨by decide, by decide⟩, am_w100, ⟨by decide, Or.inr ⟨rfl, rfl, rfl, am_w470⟩⟩, trivial, trivial⟩
set_option maxRecDepth 20000 in
theorem am_wk102 : am_AllW 102 ar_102 := ⟨trivial, ⟨by decide, by decide⟩, ⟨by decide, Or.inl ⟨rfl, Or.inl am_w469⟩⟩, trivial, trivial⟩
set_option maxRecDepth 20000 in
theorem am_wk103 : am_AllW 103 ar_103 := ⟨trivial, am_of108, ⟨by decide, by decide⟩, (show (0 : Int) ≤ 30 from by decide), trivial, am_of109, trivial, am_of108, trivial, trivial, trivial, trivial, am_of108, ⟨by decide, by decide⟩, trivial, ⟨by decide, Or.inl ⟨rfl, Or.inl am_w469⟩⟩, trivial, trivial⟩
set_option maxRecDepth 20000 in
theorem am_wk104 : am_AllW 104 ar_104 := ⟨trivial, ⟨by decide, by decide⟩, (show (0 : Int) ≤ 20 from by decide), trivial, ⟨by decide, by decide⟩, trivial, ⟨by decide, by decide⟩, trivial, ⟨by decide, by decide⟩, trivial, trivial, ⟨am_oc103, am_ol100, am_w474, by decide +kernel, am_w475, rfl⟩, trivial, ⟨by decide, by decide⟩, (show (0 : Int) ≤ 40 from by decide), trivial, ⟨by decide, by decide⟩, trivial, ⟨by decide, by decide⟩, trivial, ⟨by decide, by decide⟩, trivial, trivial, ⟨am_oc103, am_ol100, am_w474, by decide +kernel, am_w475, rfl⟩, trivial, ⟨by decide, by decide⟩, trivial, ⟨by decide, by decide⟩, trivial, trivial, ⟨am_oc103, am_ol100, am_w474, by decide +kernel, am_w475, rfl⟩, trivial, trivial⟩
set_option maxRecDepth 20000 in
theorem am_wk105 : am_AllW 105 ar_105 := ⟨⟨by decide, by decide⟩, (show 3 < 5 from by decide), trivial, (show (0 : Int) ≤ 39 from by decide), trivial, trivial, trivial, ⟨⟨by decide, by decide⟩, am_w476⟩, trivial, trivial, (show 4 < 5 from by decide), trivial, (show (0 : Int) ≤ 33 from by decide), trivial, ⟨by decide, by decide⟩, trivial, trivial, ⟨by decide, by decide⟩, trivial, ⟨am_oc103, am_ol100, am_w474, by decide +kernel, am_w475, rfl⟩, (show 3 < 5 from by decide), (show (0 : Int) ≤ 3 from by decide), trivial, trivial⟩
set_option maxRecDepth 20000 in
theorem am_wk106 : am_AllW 106 ar_106 := ⟨trivial, ⟨am_w477, am_w1, am_w2⟩, trivial, ⟨_, rfl, rfl, am_w478, am_w479, am_w405⟩, trivial, ⟨am_oc162, am_ol101, rfl, rfl, am_w481, by decide +kernel⟩, ⟨by decide, Or.inr ⟨rfl, rfl, rfl, am_w482⟩⟩, trivial, ⟨_, rfl, rfl, am_w483, am_w10, am_w11⟩, trivial, ⟨am_oc134, am_ol102, rfl, rfl, am_w13, by decide +kernel⟩, ⟨by decide, Or.inr ⟨rfl, rfl, rfl, am_w484⟩⟩, trivial, ⟨by decide, by decide⟩, ⟨by decide, Or.inl ⟨rfl, Or.inl am_w485⟩⟩, trivial, ⟨by decide, by decide⟩, ⟨by decide, Or.inl ⟨rfl, Or.inl am_w486⟩⟩, trivial, ⟨by decide, by decide⟩, ⟨by decide, Or.inl ⟨rfl, Or.inl am_w487⟩⟩, trivial, ⟨by decide, by decide⟩, am_w100, ⟨by decide, Or.inr ⟨rfl, rfl, rfl, am_w488⟩⟩, trivial, ⟨by decide, by decide⟩, am_w100, ⟨by decide, Or.inr ⟨rfl, rfl, rfl, am_w489⟩⟩, trivial, ⟨by decide, by decide⟩, am_w100, ⟨by decide, Or.inr ⟨rfl, rfl, rfl, am_w490⟩⟩, trivial, ⟨by decide, by decide⟩, am_w100, ⟨by decide, Or.inr ⟨rfl, rfl, rfl, am_w491⟩⟩, trivial, ⟨by decide, by decide⟩, am_w100, ⟨by decide, Or.inr ⟨rfl, rfl, rfl, am_w492⟩⟩, trivial, trivial⟩
set_option maxRecDepth 20000 in
theorem am_wk107 : am_AllW 107 ar_107 := ⟨trivial, am_of110, ⟨am_oc163, am_ol103, am_w495, by decide +kernel, am_w496, rfl⟩, trivial, am_of111, ⟨am_oc135, am_ol104, am_w381, by decide +kernel, am_w382, rfl⟩, trivial, ⟨by decide, by decide⟩, ⟨by decide, Or.inl ⟨rfl, Or.inl am_w485⟩⟩, trivial, ⟨by decide, by decide⟩, ⟨by decide, Or.inl ⟨rfl, Or.inl am_w486⟩⟩, trivial, ⟨by decide, by decide⟩, ⟨by decide, Or.inl ⟨rfl, Or.inl am_w487⟩⟩, trivial, trivial⟩
set_option maxRecDepth 20000 in
theorem am_wk108 : am_AllW 108 ar_108 := ⟨trivial, am_of112, ⟨by decide, by decide⟩, (show (0 : Int) ≤ 38 from by decide), trivial, am_of113, trivial, am_of112, trivial, trivial, trivial, am_of114, trivial, am_of112, trivial, trivial, trivial, trivial, am_of112, ⟨by decide, by decide⟩, trivial, ⟨by decide, Or.inl ⟨rfl, Or.inl am_w485⟩⟩, trivial, trivial⟩
set_option maxRecDepth 20000 in
theorem am_wk109 : am_AllW 109 ar_109 := ⟨trivial, am_of115, ⟨by decide, by decide⟩, (show (0 : Int) ≤ 62 from by decide), trivial, am_of116, trivial, am_of115, trivial, trivial, trivial, am_of117, trivial, am_of115, trivial, trivial, trivial, trivial, am_of118, trivial, (show (0 : Int) ≤ 42 from by decide), ⟨by decide, by decide⟩, (show (0 : Int) ≤ 48 from by decide), ⟨by decide, by decide⟩, trivial, am_of115, trivial, trivial, ⟨by decide, Or.inl ⟨rfl, Or.inl am_w487⟩⟩, trivial, trivial, am_of115, ⟨by decide, by decide⟩, trivial, ⟨by decide, Or.inl ⟨rfl, Or.inl am_w486⟩⟩, trivial, trivial⟩
set_option maxRecDepth 20000 in
theorem am_wk110 : am_AllW 110 ar_110 := ⟨trivial, am_of118, trivial, trivial, ⟨by decide, by decide⟩, trivial, ⟨by decide, by decide⟩, (show (0 : Int) ≤ 16 from by decide), ⟨by decide, by decide⟩, (show (0 : Int) ≤ 17 from by decide), ⟨by decide, by decide⟩, trivial, trivial⟩
set_option maxRecDepth 20000 in
theorem am_wk111 : am_AllW 111 ar_111 := ⟨trivial, am_of110, ⟨am_oc169, am_ol105, am_w500, by decide +kernel, am_w501, rfl⟩, (show 1 < 3 from by decide), ⟨by decide, by decide⟩, (show 2 < 3 from by decide), trivial, trivial, am_of112, (show (0 : Int) ≤ 69 from by decide), trivial, ⟨by decide, by decide⟩, (show (0 : Int) ≤ 69 from by decide), trivial, am_of119, trivial, trivial, am_of110, trivial, am_of113, trivial, trivial, ⟨am_oc167, am_ol106, am_w504, by decide +kernel, am_w505, rfl⟩, trivial, trivial, am_of119, trivial, trivial, ⟨by decide, by decide⟩, (show (0 : Int) ≤ 61 from by decide), trivial, am_of114, trivial, trivial, (show (0 : Int) ≤ 62 from by decide), ⟨by decide, by decide⟩, (show 1 < 3 from by decide), (show 2 < 3 from by decide), (show (0 : Int) ≤ 10 from by decide), ⟨by decide, by decide⟩, (show 2 < 3 from by decide), trivial, trivial, am_of115, (show (0 : Int) ≤ 111 from by decide), trivial, ⟨by decide, by decide⟩, (show (0 : Int) ≤ 111 from by decide), trivial, trivial, am_of111, trivial, am_of116, trivial, trivial, trivial, am_of117, trivial, trivial, ⟨am_oc112, am_ol107, am_w77, by decide +kernel, am_w78, rfl⟩, (show 1 < 3 from by decide), (show 2 < 3 from by decide), (show (0 : Int) ≤ 71 from by decide), trivial, trivial, trivial⟩
set_option maxRecDepth 20000 in
theorem am_wk112 : am_AllW 112 ar_112 := ⟨trivial, trivial, trivial, trivial, am_of119, ⟨by decide, by decide⟩, trivial, am_of112, trivial, ⟨am_oc113, am_ol108, am_w509, by decide +kernel, am_sl113, rfl⟩, trivial, trivial⟩
set_option maxRecDepth 20000 in
theorem am_wk113 : am_AllW 113 ar_113 := ⟨trivial, (show 7 < 10 from by decide), ⟨by decide, by decide⟩, (show 8 < 10 from by decide), trivial, trivial, (show (0 : Int) ≤ 62 from by decide), trivial, ⟨by decide, by decide⟩, (show (0 : Int) ≤ 22 from by decide), trivial, trivial, trivial, trivial, trivial, trivial, trivial, trivial, trivial, trivial, ⟨am_oc114, am_ol109, am_w512, by decide +kernel, am_sl114, rfl⟩, (show 9 < 10 from by decide), trivial, ⟨by decide, by decide⟩, (show (0 : Int) ≤ 47 from by decide), trivial, trivial, trivial, am_of120, trivial, trivial, (show 7 < 10 from by decide), (show 8 < 10 from by decide), (show (0 : Int) ≤ 6 from by decide), trivial, ⟨by decide, by decide⟩, (show (0 : Int) ≤ 72 from by decide), ⟨by decide, by decide⟩, (show (0 : Int) ≤ 79 from by decide), trivial, am_of121, trivial, trivial, trivial, trivial⟩
set_option maxRecDepth 20000 in
theorem am_wk114 : am_AllW 114 ar_114 := ⟨trivial, am_of122, trivial, trivial, ⟨by decide, by decide⟩, (show (0 : Int) ≤ 27 from by decide), trivial, ⟨by decide, by decide⟩, (show (0 : Int) ≤ 20 from by decide), ⟨by decide, by decide⟩, (show (0 : Int) ≤ 26 from by decide), trivial, am_of121, trivial, trivial, trivial, trivial, trivial, ⟨am_oc137, am_ol110, am_w348, by decide +kernel, am_w349, rfl⟩, (show (0 : Int) ≤ 62 from by decide), trivial, am_of123, trivial, trivial, (show 4 < 5 from by decide), trivial, ⟨by decide, by decide⟩, (show (0 : Int) ≤ 53 from by decide), ⟨by decide, by decide⟩, (show (0 : Int) ≤ 61 from by decide), trivial, trivial, trivial, trivial, ⟨am_oc114, am_ol109, am_w512, by decide +kernel, am_sl114, rfl⟩, trivial, trivial, am_of110, trivial, am_of124, trivial, trivial, ⟨am_oc168, am_ol111, am_w521, by decide +kernel, am_w522, rfl⟩, (show 4 < 5 from by decide), trivial, ⟨by decide, by decide⟩, (show (0 : Int) ≤ 97 from by decide), trivial, am_of110, am_of125, trivial, trivial, trivial, (show (0 : Int) ≤ 104 from by decide), trivial, am_of126, trivial, trivial, trivial, trivial, am_of127, trivial, trivial, trivial, trivial, am_of122, trivial, trivial, ⟨by decide, by decide⟩, (show (0 : Int) ≤ 146 from by decide), trivial, am_of110, am_of128, trivial, trivial, (show (0 : Int) ≤ 139 from by decide), ⟨by decide, by decide⟩, (show (0 : Int) ≤ 145 from by decide), trivial, am_of126, trivial, trivial, trivial, trivial, trivial, trivial, am_of123, trivial, trivial, trivial, am_of110, am_of129, trivial, ⟨by decide, by decide⟩, trivial, trivial, am_of110, am_of128, trivial, trivial, trivial, am_of130, trivial, trivial, ⟨am_oc113, am_ol108, am_w509, by decide +kernel, am_sl113, rfl⟩, trivial, trivial⟩
set_option maxRecDepth 20000 in
theorem am_wk115 : am_AllW 115 ar_115 := ⟨trivial, am_of127, trivial, trivial, (show 3 < 4 from by decide), trivial, trivial, ⟨am_oc137, am_ol110, am_w348, by decide +kernel, am_w349, rfl⟩, (show (0 : Int) ≤ 44 from by decide), trivial, ⟨by decide, by decide⟩, (show (0 : Int) ≤ 44 from by decide), trivial, am_of110, am_of131, trivial, am_of110, am_of125, trivial, trivial, trivial, (show (0 : Int) ≤ 44 from by decide), ⟨by decide, by decide⟩, (show (0 : Int) ≤ 45 from by decide), ⟨by decide, by decide⟩, trivial, trivial⟩
set_option maxRecDepth 20000 in
theorem am_wk116 : am_AllW 116 ar_116 := ⟨trivial, ⟨am_w530, am_w1, am_w2⟩, trivial, ⟨_, rfl, rfl, am_w531, am_w532, am_w472⟩, trivial, ⟨am_oc101, am_ol112, rfl, rfl, am_w534, by decide +kernel⟩, ⟨by decide, Or.inr ⟨rfl, rfl, rfl, am_w535⟩⟩, trivial, ⟨_, rfl, rfl, am_w536, am_w537, am_w328⟩, trivial, ⟨am_oc78, am_ol113, rfl, rfl, am_w539, by decide +kernel⟩, ⟨by decide, Or.inr ⟨rfl, rfl, rfl, am_w540⟩⟩, trivial, ⟨by decide, by decide⟩, am_w100, ⟨by decide, Or.inr ⟨rfl, rfl, rfl, am_w541⟩⟩, trivial, ⟨by decide, by decide⟩, ⟨by decide, Or.inl ⟨rfl, Or.inl am_w542⟩⟩, trivial, trivial⟩
set_option maxRecDepth 20000 in
theorem am_wk117 : am_AllW 117 ar_117 := ⟨trivial, am_of132, trivial, ⟨am_oc79, am_ol114, am_w545, by decide +kernel, am_w546, rfl⟩, trivial, am_of133, ⟨am_oc102, am_ol115, am_w549, by decide +kernel, am_w550, rfl⟩, trivial, ⟨by decide, by decide⟩, ⟨by decide, Or.inl ⟨rfl, Or.inl am_w542⟩⟩, trivial, trivial⟩
set_option maxRecDepth 20000 in
theorem am_wk118 : am_AllW 118 ar_118 := ⟨trivial, am_of134, (show (0 : Int) ≤ 8 from by decide), trivial, trivial, ⟨by decide, by decide⟩, ⟨by decide, Or.inl ⟨rfl, Or.inl am_w542⟩⟩, trivial, ⟨am_oc120, am_ol116, am_w553, by decide +kernel, am_sl120, rfl⟩, trivial, trivial, am_of135, trivial, am_of136, ⟨by decide, by decide⟩, ⟨am_oc122, am_ol117, am_w558, by decide +kernel, am_sl122, rfl⟩, (show (0 : Int) ≤ 50 from by decide), trivial, trivial, am_of135, trivial, am_of136, ⟨am_oc123, am_ol118, am_w561, by decide +kernel, am_sl123, rfl⟩, trivial, trivial, ⟨am_oc131, am_ol119, am_w564, by decide +kernel, am_sl131, rfl⟩, trivial, trivial⟩
set_option maxRecDepth 20000 in
theorem am_wk119 : am_AllW 119 ar_119 := ⟨trivial, ⟨am_oc120, am_ol116, am_w553, by decide +kernel, am_sl120, rfl⟩, trivial, am_of136, ⟨by decide, by decide⟩, trivial, trivial, ⟨by decide, by decide⟩, trivial, trivial, (show 3 < 5 from by decide), trivial, am_of132, am_of137, trivial, trivial, (show 4 < 5 from by decide), trivial, trivial, am_of132, am_of137, trivial, ⟨by decide, by decide⟩, trivial, trivial, (show (0 : Int) ≤ 74 from by decide), trivial, trivial, trivial, am_of132, am_of138, trivial, trivial, trivial, am_of132, am_of139, trivial, trivial, ⟨am_oc121, am_ol120, am_w570, by decide +kernel, am_sl121, rfl⟩, (show 3 < 5 from by decide), (show 4 < 5 from by decide), (show (0 : Int) ≤ 26 from by decide), trivial, trivial, am_of135, trivial, ⟨by decide, by decide⟩, ⟨am_oc122, am_ol117, am_w558, by decide +kernel, am_sl122, rfl⟩, trivial, trivial⟩
set_option maxRecDepth 20000 in
theorem am_wk120 : am_AllW 120 ar_120 := ⟨⟨by decide, by decide⟩, (show 1 < 2 from by decide), trivial, ⟨by decide, by decide⟩, (show (0 : Int) ≤ 21 from by decide), trivial, am_of140, trivial, ⟨by decide, by decide⟩, trivial, (show 1 < 2 from by decide), (show (0 : Int) ≤ 2 from by decide), trivial, trivial⟩
set_option maxRecDepth 20000 in
theorem am_wk121 : am_AllW 121 ar_121 := ⟨trivial, am_of140, trivial, trivial, trivial, ⟨by decide, by decide⟩, (show 4 < 8 from by decide), ⟨by decide, by decide⟩, (show 5 < 8 from by decide), trivial, ⟨by decide, by decide⟩, (show (0 : Int) ≤ 90 from by decide), trivial, trivial, trivial, ⟨by decide, by decide⟩, trivial, ⟨by decide, by decide⟩, (show (0 : Int) ≤ 34 from by decide), ⟨by decide, by decide⟩, (show (0 : Int) ≤ 35 from by decide), ⟨by decide, by decide⟩, (show 6 < 8 from by decide), trivial, (show (0 : Int) ≤ 55 from by decide), trivial, am_of132, trivial, trivial, ⟨am_oc80, am_ol121, am_w573, by decide +kernel, am_w574, rfl⟩, (show (0 : Int) ≤ 56 from by decide), ⟨by decide, by decide⟩, (show 7 < 8 from by decide), trivial, (show (0 : Int) ≤ 84 from by decide), trivial, ⟨by decide, by decide⟩, (show (0 : Int) ≤ 75 from by decide), trivial, trivial, (show (0 : Int) ≤ 84 from by decide), trivial, ⟨by decide, by decide⟩, trivial, trivial, trivial, (show 4 < 8 from by decide), (show 5 < 8 from by decide), (show (0 : Int) ≤ 13 from by decide), trivial, trivial, trivial⟩
set_option maxRecDepth 20000 in
theorem am_wk122 : am_AllW 122 ar_122 := ⟨trivial, (show (0 : Int) ≤ 6 from by decide), ⟨by decide, by decide⟩, trivial, trivial, ⟨by decide, by decide⟩, (show (0 : Int) ≤ 20 from by decide), trivial, trivial, ⟨am_oc125, am_ol122, am_w577, by decide +kernel, am_sl125, rfl⟩, (show (0 : Int) ≤ 21 from by decide), ⟨by decide, by decide⟩, (show 4 < 10 from by decide), trivial, ⟨by decide, by decide⟩, (show (0 : Int) ≤ 31 from by decide), ⟨by decide, by decide⟩, trivial, trivial, am_of132, am_of138, trivial, trivial, (show 5 < 10 from by decide), trivial, trivial, trivial, trivial, ⟨am_oc129, am_ol123, am_w580, by decide +kernel, am_sl129, rfl⟩, (show 6 < 10 from by decide), trivial, ⟨by decide, by decide⟩, (show (0 : Int) ≤ 70 from by decide), trivial, trivial, trivial, trivial, ⟨am_oc126, am_ol124, am_w583, by decide +kernel, am_sl126, rfl⟩, (show (0 : Int) ≤ 72 from by decide), trivial, (show 7 < 10 from by decide), ⟨by decide, by decide⟩, (show 8 < 10 from by decide), ⟨by decide, by decide⟩, (show 9 < 10 from by decide), trivial, ⟨by decide, by decide⟩, (show (0 : Int) ≤ 145 from by decide), trivial, ⟨by decide, by decide⟩, (show (0 : Int) ≤ 145 from by decide), trivial, (show (0 : Int) ≤ 145 from by decide), trivial, trivial, trivial, trivial, trivial, trivial, ⟨am_oc121, am_ol120, am_w570, by decide +kernel, am_sl121, rfl⟩, trivial, ⟨by decide, by decide⟩, trivial, ⟨am_oc122, am_ol117, am_w558, by decide +kernel, am_sl122, rfl⟩, (show 8 < 10 from by decide), trivial, ⟨by decide, by decide⟩, (show (0 : Int) ≤ 136 from by decide), trivial, trivial, trivial, trivial, trivial, ⟨am_oc127, am_ol125, am_w586, by decide +kernel, am_sl127, rfl⟩, (show (0 : Int) ≤ 137 from by decide), ⟨by decide, by decide⟩, (show 7 < 10 from by decide), (show 9 < 10 from by decide), (show (0 : Int) ≤ 80 from by decide), trivial, am_of140, trivial, ⟨by decide, by decide⟩, trivial, trivial, trivial, trivial⟩
set_option maxRecDepth 20000 in
theorem am_wk123 : am_AllW 123 ar_123 := ⟨trivial, (show 3 < 6 from by decide), trivial, trivial, ⟨am_oc125, am_ol122, am_w577, by decide +kernel, am_sl125, rfl⟩, (show 4 < 6 from by decide), ⟨by decide, by decide⟩, (show 5 < 6 from by decide), trivial, ⟨by decide, by decide⟩, (show (0 : Int) ≤ 49 from by decide), trivial, ⟨by decide, by decide⟩, (show (0 : Int) ≤ 49 from by decide), trivial, trivial, trivial, trivial, trivial, ⟨am_oc124, am_ol126, am_w589, by decide +kernel, am_sl124, rfl⟩, (show 3 < 6 from by decide), trivial, trivial, ⟨am_oc125, am_ol122, am_w577, by decide +kernel, am_sl125, rfl⟩, (show 4 < 6 from by decide), (show 5 < 6 from by decide), (show (0 : Int) ≤ 12 from by decide), trivial, trivial⟩
set_option maxRecDepth 20000 in
theorem am_wk124 : am_AllW 124 ar_124 := ⟨trivial, am_of132, am_of138, trivial, trivial, (show 5 < 9 from by decide), trivial, trivial, trivial, trivial, ⟨am_oc126, am_ol124, am_w583, by decide +kernel, am_sl126, rfl⟩, (show 6 < 9 from by decide), trivial, trivial, trivial, trivial, ⟨am_oc121, am_ol120, am_w570, by decide +kernel, am_sl121, rfl⟩, (show 7 < 9 from by decide), ⟨by decide, by decide⟩, (show 8 < 9 from by decide), trivial, ⟨by decide, by decide⟩, (show (0 : Int) ≤ 88 from by decide), trivial, ⟨by decide, by decide⟩, (show (0 : Int) ≤ 88 from by decide), trivial, trivial, trivial, trivial, ⟨am_oc122, am_ol117, am_w558, by decide +kernel, am_sl122, rfl⟩, (show (0 : Int) ≤ 88 from by decide), trivial, trivial, trivial, trivial, trivial, ⟨am_oc127, am_ol125, am_w586, by decide +kernel, am_sl127, rfl⟩, (show 6 < 9 from by decide), trivial, trivial, trivial, trivial, ⟨am_oc121, am_ol120, am_w570, by decide +kernel, am_sl121, rfl⟩, (show 7 < 9 from by decide), (show 8 < 9 from by decide), (show (0 : Int) ≤ 34 from by decide), trivial, trivial, trivial⟩
set_option maxRecDepth 20000 in
theorem am_wk125 : am_AllW 125 ar_125 := ⟨trivial, ⟨am_oc183, am_ol127, am_w593, by decide +kernel⟩, (show 2 < 4 from by decide), trivial, ⟨by decide, by decide⟩, (show (0 : Int) ≤ 13 from by decide), ⟨by decide, by decide⟩, trivial, trivial, am_of132, am_of137, trivial, trivial, (show 3 < 4 from by decide), trivial, trivial, am_of132, am_of137, trivial, ⟨by decide, by decide⟩, trivial, trivial, (show (0 : Int) ≤ 64 from by decide), trivial, am_of140, trivial, am_of132, am_of138, trivial, trivial, trivial, ⟨by decide, by decide⟩, (show (0 : Int) ≤ 58 from by decide), trivial, trivial, (show 3 < 4 from by decide), (show (0 : Int) ≤ 23 from by decide), ⟨by decide, by decide⟩, trivial, trivial⟩
set_option maxRecDepth 20000 in
theorem am_wk126 : am_AllW 126 ar_126 := ⟨trivial, am_of132, am_of139, trivial, trivial, (show 4 < 5 from by decide), trivial, ⟨by decide, by decide⟩, (show (0 : Int) ≤ 31 from by decide), trivial, am_of141, trivial, am_of142, trivial, trivial, trivial, trivial, trivial, trivial, trivial, am_of132, am_of138, trivial, trivial, ⟨by decide, by decide⟩, ⟨am_oc128, am_ol128, am_w598, by decide +kernel, am_sl128, rfl⟩, trivial, trivial⟩
set_option maxRecDepth 20000 in
theorem am_wk127 : am_AllW 127 ar_127 := ⟨trivial, ⟨by decide, by decide⟩, (show (0 : Int) ≤ 47 from by decide), trivial, am_of142, trivial, trivial, (show 5 < 6 from by decide), trivial, ⟨by decide, by decide⟩, trivial, trivial, am_of141, trivial, trivial, trivial, am_of143, trivial, trivial, trivial, (show (0 : Int) ≤ 45 from by decide), trivial, ⟨by decide, by decide⟩, trivial, (show (0 : Int) ≤ 46 from by decide), ⟨by decide, by decide⟩, trivial, trivial, trivial, trivial, trivial, ⟨am_oc128, am_ol128, am_w598, by decide +kernel, am_sl128, rfl⟩, trivial, (show (0 : Int) ≤ 62 from by decide), ⟨by decide, by decide⟩, trivial, trivial, trivial, trivial, trivial, ⟨by decide, by decide⟩, trivial, ⟨am_oc128, am_ol128, am_w598, by decide +kernel, am_sl128, rfl⟩, (show 5 < 6 from by decide), trivial, ⟨by decide, by decide⟩, (show (0 : Int) ≤ 91 from by decide), trivial, trivial, trivial, ⟨by decide, by decide⟩, ⟨am_oc130, am_ol129, am_w602, by decide +kernel, am_sl130, rfl⟩, (show (0 : Int) ≤ 93 from by decide), trivial, trivial, trivial⟩
set_option maxRecDepth 20000 in
theorem am_wk128 : am_AllW 128 ar_128 := ⟨⟨by decide, by decide⟩, (show 4 < 7 from by decide), ⟨by decide, by decide⟩, (show 5 < 7 from by decide), trivial, ⟨by decide, by decide⟩, (show (0 : Int) ≤ 68 from by decide), trivial, trivial, trivial, ⟨by decide, by decide⟩, trivial, ⟨by decide, by decide⟩, (show (0 : Int) ≤ 36 from by decide), trivial, am_of132, trivial, trivial, ⟨am_oc80, am_ol121, am_w573, by decide +kernel, am_w574, rfl⟩, (show (0 : Int) ≤ 37 from by decide), ⟨by decide, by decide⟩, (show 6 < 7 from by decide), trivial, trivial, (show (0 : Int) ≤ 62 from by decide), trivial, ⟨by decide, by decide⟩, (show (0 : Int) ≤ 58 from by decide), trivial, trivial, (show (0 : Int) ≤ 62 from by decide), trivial, (show 4 < 7 from by decide), (show 5 < 7 from by decide), (show (0 : Int) ≤ 6 from by decide), trivial, trivial, trivial⟩
set_option maxRecDepth 20000 in
theorem am_wk129 : am_AllW 129 ar_129 := ⟨trivial, am_of132, am_of138, trivial, trivial, (show 4 < 7 from by decide), trivial, am_of132, am_of139, trivial, trivial, ⟨by decide, by decide⟩, (show (0 : Int) ≤ 35 from by decide), trivial, trivial, trivial, ⟨by decide, by decide⟩, ⟨am_oc130, am_ol129, am_w602, by decide +kernel, am_sl130, rfl⟩, trivial, trivial, am_of142, trivial, am_of132, am_of139, trivial, trivial, trivial, (show 5 < 7 from by decide), trivial, trivial, trivial, trivial, am_of141, trivial, trivial, ⟨am_oc130, am_ol129, am_w602, by decide +kernel, am_sl130, rfl⟩, (show 6 < 7 from by decide), trivial, trivial, am_of141, trivial, trivial, trivial, am_of143, trivial, trivial, trivial, (show (0 : Int) ≤ 92 from by decide), trivial, (show (0 : Int) ≤ 93 from by decide), ⟨by decide, by decide⟩, trivial, trivial⟩
set_option maxRecDepth 20000 in
theorem am_wk130 : am_AllW 130 ar_130 := ⟨trivial, (show 4 < 6 from by decide), ⟨by decide, by decide⟩, (show 5 < 6 from by decide), trivial, ⟨by decide, by decide⟩, (show (0 : Int) ≤ 35 from by decide), trivial, trivial, trivial, trivial, ⟨am_oc128, am_ol128, am_w598, by decide +kernel, am_sl128, rfl⟩, trivial, (show (0 : Int) ≤ 35 from by decide), (show 4 < 6 from by decide), (show 5 < 6 from by decide), (show (0 : Int) ≤ 6 from by decide), trivial, trivial, trivial⟩
set_option maxRecDepth 20000 in
theorem am_wk131 : am_AllW 131 ar_131 := ⟨⟨by decide, by decide⟩, (show 2 < 3 from by decide), trivial, trivial, am_of144, (show (0 : Int) ≤ 47 from by decide), trivial, (show (0 : Int) ≤ 23 from by decide), trivial, am_of133, ⟨by decide, by decide⟩, ⟨am_oc103, am_ol130, am_w474, by decide +kernel, am_w475, rfl⟩, trivial, trivial, am_of135, trivial, am_of145, trivial, trivial, trivial, ⟨by decide, by decide⟩, trivial, ⟨by decide, by decide⟩, ⟨am_oc132, am_ol131, am_w608, by decide +kernel, am_sl132, rfl⟩, (show 2 < 3 from by decide), (show (0 : Int) ≤ 2 from by decide), trivial, trivial⟩
set_option maxRecDepth 20000 in
theorem am_wk132 : am_AllW 132 ar_132 := ⟨trivial, am_of132, trivial, ⟨am_oc81, am_ol132, am_w353, by decide +kernel, am_w354, rfl⟩, (show 5 < 7 from by decide), trivial, ⟨by decide, by decide⟩, (show (0 : Int) ≤ 20 from by decide), ⟨by decide, by decide⟩, (show (0 : Int) ≤ 27 from by decide), trivial, am_of140, trivial, trivial, (show 6 < 7 from by decide), trivial, ⟨by decide, by decide⟩, (show (0 : Int) ≤ 42 from by decide), trivial, ⟨by decide, by decide⟩, (show (0 : Int) ≤ 54 from by decide), trivial, am_of133, ⟨by decide, by decide⟩, ⟨am_oc103, am_ol130, am_w474, by decide +kernel, am_w475, rfl⟩, (show (0 : Int) ≤ 149 from by decide), trivial, ⟨by decide, by decide⟩, (show (0 : Int) ≤ 86 from by decide), trivial, am_of146, trivial, trivial, (show (0 : Int) ≤ 86 from by decide), trivial, trivial, trivial, am_of141, trivial, trivial, trivial, trivial, ⟨am_oc133, am_ol133, am_w613, by decide +kernel, am_sl133, rfl⟩, (show (0 : Int) ≤ 149 from by decide), trivial, ⟨by decide, by decide⟩, (show (0 : Int) ≤ 108 from by decide), trivial, am_of133, trivial, ⟨by decide, by decide⟩, trivial, ⟨am_oc104, am_ol134, am_w616, by decide +kernel, am_w617, rfl⟩, (show (0 : Int) ≤ 149 from by decide), trivial, am_of147, trivial, trivial, (show (0 : Int) ≤ 135 from by decide), trivial, am_of133, trivial, am_of148, trivial, trivial, ⟨am_oc105, am_ol135, am_w622, by decide +kernel, am_w623, rfl⟩, (show (0 : Int) ≤ 149 from by decide), trivial, trivial, trivial, ⟨by decide, by decide⟩, trivial, trivial, ⟨by decide, by decide⟩, trivial, trivial, ⟨am_oc133, am_ol133, am_w613, by decide +kernel, am_sl133, rfl⟩, trivial, trivial⟩
set_option maxRecDepth 20000 in
theorem am_wk133 : am_AllW 133 ar_133 := ⟨trivial, am_of133, ⟨by decide, by decide⟩, ⟨am_oc103, am_ol130, am_w474, by decide +kernel, am_w475, rfl⟩, trivial, am_of133, trivial, am_of148, trivial, trivial, ⟨am_oc105, am_ol135, am_w622, by decide +kernel, am_w623, rfl⟩, ⟨by decide, by decide⟩, (show 5 < 6 from by decide), trivial, trivial, am_of147, trivial, trivial, (show (0 : Int) ≤ 75 from by decide), trivial, am_of133, ⟨by decide, by decide⟩, ⟨am_oc103, am_ol130, am_w474, by decide +kernel, am_w475, rfl⟩, trivial, trivial, trivial, am_of149, trivial, ⟨by decide, by decide⟩, trivial, trivial, trivial, trivial, trivial, trivial, trivial, trivial, ⟨by decide, by decide⟩, trivial, ⟨am_oc132, am_ol131, am_w608, by decide +kernel, am_sl132, rfl⟩, (show 5 < 6 from by decide), (show (0 : Int) ≤ 25 from by decide), trivial, am_of133, ⟨by decide, by decide⟩, ⟨am_oc103, am_ol130, am_w474, by decide +kernel, am_w475, rfl⟩, trivial, trivial⟩
set_option maxRecDepth 20000 in
theorem am_wk134 : am_AllW 134 ar_134 := ⟨trivial, ⟨am_w625, am_w1, am_w2⟩, trivial, ⟨by decide, by decide⟩, ⟨by decide, Or.inl ⟨rfl, Or.inl am_w626⟩⟩, trivial, ⟨by decide, by decide⟩, ⟨by decide, Or.inl ⟨rfl, Or.inl am_w627⟩⟩, trivial, ⟨by decide, by decide⟩, am_w100, ⟨by decide, Or.inr ⟨rfl, rfl, rfl, am_w628⟩⟩, trivial, ⟨by decide, by decide⟩, am_w100, ⟨by decide, Or.inr ⟨rfl, rfl, rfl, am_w629⟩⟩, trivial, ⟨by decide, by decide⟩, am_w100, ⟨by decide, Or.inr ⟨rfl, rfl, rfl, am_w630⟩⟩, trivial, ⟨by decide, by decide⟩, am_w100, ⟨by decide, Or.inr ⟨rfl, rfl, rfl, am_w631⟩⟩, trivial, ⟨by decide, by decide⟩, am_w103, ⟨by decide, Or.inr ⟨rfl, rfl, rfl, am_w632⟩⟩, trivial, ⟨by decide, by decide⟩, am_w100, ⟨by decide, Or.inr ⟨rfl, rfl, rfl, am_w633⟩⟩, trivial, ⟨by decide, by decide⟩, am_w100, ⟨by decide, Or.inr ⟨rfl, rfl, rfl, am_w634⟩⟩, trivial, ⟨by decide, by decide⟩, am_w100, ⟨by decide, Or.inr ⟨rfl, rfl, rfl, am_w635⟩⟩, trivial, ⟨by decide, by decide⟩, am_w100, ⟨by decide, Or.inr ⟨rfl, rfl, rfl, am_w636⟩⟩, trivial, trivial⟩
set_option maxRecDepth 20000 in
theorem am_wk135 : am_AllW 135 ar_135 := ⟨trivial, ⟨by decide, by decide⟩, ⟨by decide, Or.inl ⟨rfl, Or.inl am_w626⟩⟩, trivial, ⟨by decide, by decide⟩, ⟨by decide, Or.inl ⟨rfl, Or.inl am_w627⟩⟩, trivial, trivial⟩
set_option maxRecDepth 20000 in
theorem am_wk136 : am_AllW 136 ar_136 := ⟨trivial, am_of150, ⟨by decide, by decide⟩, ⟨am_w637, am_w638, am_w639, am_w640⟩, (show 3 < 4 from by decide), trivial, am_of151, trivial, trivial, trivial, trivial, am_of152, trivial, trivial, trivial, trivial, am_of153, trivial, trivial, trivial, trivial, am_of154, trivial, trivial, trivial, trivial, am_of155, trivial, ⟨by decide, by decide⟩, trivial, trivial, am_of156, trivial, ⟨by decide, by decide⟩, trivial, trivial, am_of157, trivial, ⟨by decide, by decide⟩, trivial, trivial, trivial, ⟨by decide, by decide⟩, trivial, ⟨by decide, Or.inl ⟨rfl, Or.inl am_w626⟩⟩, trivial, trivial, trivial⟩
set_option maxRecDepth 20000 in
theorem am_wk137 : am_AllW 137 ar_137 := ⟨trivial, am_of151, trivial, trivial, ⟨by decide, by decide⟩, (show (0 : Int) ≤ 21 from by decide), trivial, am_of151, trivial, trivial, ⟨by decide, by decide⟩, (show (0 : Int) ≤ 25 from by decide), ⟨by decide, by decide⟩, (show (0 : Int) ≤ 26 from by decide), ⟨by decide, by decide⟩, trivial, trivial⟩
set_option maxRecDepth 20000 in
theorem am_wk138 : am_AllW 138 ar_138 := ⟨trivial, ⟨am_w641, am_w1, am_w2⟩, trivial, ⟨by decide, by decide⟩, am_w100, ⟨by decide, Or.inr ⟨rfl, rfl, rfl, am_w642⟩⟩, trivial, ⟨by decide, by decide⟩, ⟨by decide, Or.inl ⟨rfl, Or.inl am_w643⟩⟩, trivial, ⟨by decide, by decide⟩, am_w100, ⟨by decide, Or.inr ⟨rfl, rfl, rfl, am_w644⟩⟩, trivial, ⟨by decide, by decide⟩, am_w100, ⟨by decide, Or.inr ⟨rfl, rfl, rfl, am_w645⟩⟩, trivial, ⟨by decide, by decide⟩, am_w100, ⟨by decide, Or.inr ⟨rfl, rfl, rfl, am_w646⟩⟩, trivial, ⟨by decide, by decide⟩, am_w103, ⟨by decide, Or.inr ⟨rfl, rfl, rfl, am_w647⟩⟩, trivial, ⟨by decide, by decide⟩, ⟨by decide, Or.inl ⟨rfl, Or.inl am_w648⟩⟩, trivial, ⟨by decide, by decide⟩, ⟨by decide, Or.inl ⟨rfl, Or.inl am_w649⟩⟩, trivial, trivial⟩
set_option maxRecDepth 20000 in
theorem am_wk139 : am_AllW 139 ar_139 := ⟨⟨by decide, by decide⟩, (show 2 < 3 from by decide), trivial, (show (0 : Int) ≤ 49 from by decide), trivial, am_of158, ⟨by decide, by decide⟩, (show (0 : Int) ≤ 49 from by decide), trivial, am_of159, trivial, am_of158, trivial, trivial, trivial, ⟨by decide, by decide⟩, trivial, trivial, trivial, trivial, am_of158, ⟨by decide, by decide⟩, trivial, ⟨by decide, Or.inl ⟨rfl, Or.inl am_w643⟩⟩, (show 2 < 3 from by decide), (show (0 : Int) ≤ 3 from by decide), trivial, trivial⟩
set_option maxRecDepth 20000 in
theorem am_wk140 : am_AllW 140 ar_140 := ⟨trivial, am_of160, trivial, am_of161, trivial, trivial, trivial⟩
set_option maxRecDepth 20000 in
theorem am_wk141 : am_AllW 141 ar_141 := ⟨trivial, am_of162, trivial, am_of161, trivial, trivial, trivial⟩
set_option maxRecDepth 20000 in
theorem am_wk142 : am_AllW 142 ar_142 := ⟨trivial, am_of163, trivial, am_of161, trivial, trivial, trivial⟩
set_option maxRecDepth 20000 in
theorem am_wk143 : am_AllW 143 ar_143 := ⟨trivial, am_of164, trivial, am_of161, trivial, trivial, trivial⟩
set_option maxRecDepth 20000 in
theorem am_wk144 : am_AllW 144 ar_144 := ⟨trivial, am_of161, trivial, am_of165, ⟨by decide, by decide⟩, trivial, (show (0 : Int) ≤ 23 from by decide), trivial, trivial, am_of161, ⟨by decide, by decide⟩, trivial, ⟨by decide, Or.inl ⟨rfl, Or.inl am_w649⟩⟩, trivial, trivial⟩
set_option maxRecDepth 20000 in
theorem am_wk145 : am_AllW 145 ar_145 := ⟨trivial, ⟨by decide, by decide⟩, ⟨by decide, Or.inl ⟨rfl, Or.inl am_w648⟩⟩, trivial, ⟨by decide, by decide⟩, ⟨by decide, Or.inl ⟨rfl, Or.inl am_w649⟩⟩, trivial, ⟨by decide, by decide⟩, ⟨am_oc146, am_ol136, am_w652, by decide +kernel, am_sl146, rfl⟩, (show 1 < 3 from by decide), ⟨by decide, by decide⟩, (show 2 < 3 from by decide), trivial, ⟨by decide, by decide⟩, (show (0 : Int) ≤ 60 from by decide), trivial, trivial, am_of158, (show (0 : Int) ≤ 60 from by decide), trivial, trivial, trivial, ⟨am_oc147, am_ol137, am_w655, by decide +kernel, am_sl147, rfl⟩, ⟨am_oc146, am_ol136, am_w652, by decide +kernel, am_sl146, rfl⟩, (show 1 < 3 from by decide), trivial, am_of160, trivial, trivial, ⟨by decide, by decide⟩, (show (0 : Int) ≤ 54 from by decide), trivial, (show 2 < 3 from by decide), (show (0 : Int) ≤ 18 from by decide), trivial, ⟨by decide, by decide⟩, trivial, am_of158, ⟨by decide, by decide⟩, trivial, ⟨am_oc152, am_ol138, am_w658, by decide +kernel, am_sl152, rfl⟩, trivial, trivial⟩
set_option maxRecDepth 20000 in
theorem am_wk146 : am_AllW 146 ar_146 := ⟨trivial, (show 2 < 3 from by decide), trivial, trivial, am_of158, (show (0 : Int) ≤ 38 from by decide), trivial, am_of159, trivial, trivial, ⟨by decide, by decide⟩, (show (0 : Int) ≤ 32 from by decide), trivial, am_of159, trivial, trivial, ⟨by decide, by decide⟩, (show (0 : Int) ≤ 38 from by decide), (show 2 < 3 from by decide), (show (0 : Int) ≤ 2 from by decide), trivial, trivial, trivial⟩
set_option maxRecDepth 20000 in
theorem am_wk147 : am_AllW 147 ar_147 := ⟨trivial, am_of159, trivial, trivial, (show 2 < 3 from by decide), trivial, ⟨am_oc153, am_ol139, am_w661, by decide +kernel⟩, (show (0 : Int) ≤ 20 from by decide), trivial, trivial, ⟨am_oc148, am_ol140, am_w664, by decide +kernel, am_sl148, rfl⟩, trivial, trivial, ⟨am_oc154, am_ol141, am_w667, by decide +kernel⟩, (show (0 : Int) ≤ 33 from by decide), trivial, trivial, ⟨am_oc151, am_ol142, am_w670, by decide +kernel, am_sl151, rfl⟩, trivial, trivial, ⟨"=|;()_~!@?", List.mem_of_getElem? (i := 0) rfl⟩, trivial, trivial, ⟨am_oc175, am_ol143, am_w674, by decide +kernel, am_w675, rfl⟩, (show (0 : Int) ≤ 48 from by decide), trivial, (show (0 : Int) ≤ 49 from by decide), ⟨by decide, by decide⟩, trivial, ⟨by decide, by decide⟩, trivial, ⟨am_oc152, am_ol138, am_w658, by decide +kernel, am_sl152, rfl⟩, trivial, ⟨by decide, by decide⟩, trivial, trivial, trivial⟩
set_option maxRecDepth 20000 in
theorem am_wk148 : am_AllW 148 ar_148 := ⟨trivial, (show 2 < 6 from by decide), trivial, (show 3 + 1 < 6 from by decide), ⟨by decide, by decide⟩, (show 5 < 6 from by decide), trivial, trivial, am_of158, (show (0 : Int) ≤ 73 from by decide), trivial, am_of159, trivial, trivial, ⟨am_oc153, am_ol139, am_w661, by decide +kernel⟩, (show (0 : Int) ≤ 73 from by decide), trivial, (show (0 : Int) ≤ 47 from by decide), trivial, am_of159, trivial, trivial, ⟨by decide, by decide⟩, (show (0 : Int) ≤ 47 from by decide), ⟨by decide, by decide⟩, (show (0 : Int) ≤ 48 from by decide), ⟨by decide, by decide⟩, (show 5 < 6 from by decide), trivial, ⟨⟨by decide, by decide⟩, am_w676⟩, trivial, trivial, am_of159, trivial, trivial, ⟨by decide, by decide⟩, trivial, trivial, trivial, (show 3 + 1 < 6 from by decide), (show 2 < 6 from by decide), (show (0 : Int) ≤ 7 from by decide), trivial, trivial, trivial, trivial, trivial, trivial, trivial, ⟨am_oc149, am_ol144, am_w679, by decide +kernel, am_sl149, rfl⟩, trivial, trivial, am_of159, trivial, trivial, ⟨by decide, by decide⟩, trivial, trivial, ⟨am_oc152, am_ol138, am_w658, by decide +kernel, am_sl152, rfl⟩, trivial, trivial, trivial⟩
set_option maxRecDepth 20000 in
theorem am_wk149 : am_AllW 149 ar_149 := ⟨trivial, ⟨by decide, by decide⟩, (show (0 : Int) ≤ 15 from by decide), trivial, (show (0 : Int) ≤ 13 from by decide), ⟨by decide, by decide⟩, (show (0 : Int) ≤ 14 from by decide), ⟨by decide, by decide⟩, trivial, trivial, (show (0 : Int) ≤ 25 from by decide), trivial, ⟨by decide, by decide⟩, (show (0 : Int) ≤ 27 from by decide), ⟨by decide, by decide⟩, trivial, trivial, ⟨"data", List.mem_of_getElem? (i := 1) rfl⟩, trivial, trivial, ⟨am_oc150, am_ol145, am_w682, by decide +kernel, am_sl150, rfl⟩, (show (0 : Int) ≤ 41 from by decide), ⟨by decide, by decide⟩, trivial, trivial, ⟨"new", List.mem_of_getElem? (i := 2) rfl⟩, trivial, trivial, ⟨am_oc150, am_ol145, am_w682, by decide +kernel, am_sl150, rfl⟩, (show (0 : Int) ≤ 55 from by decide), ⟨by decide, by decide⟩, trivial, trivial, ⟨"match", List.mem_of_getElem? (i := 3) rfl⟩, trivial, trivial, ⟨am_oc150, am_ol145, am_w682, by decide +kernel, am_sl150, rfl⟩, (show (0 : Int) ≤ 69 from by decide), ⟨by decide, by decide⟩, trivial, trivial, ⟨"when", List.mem_of_getElem? (i := 4) rfl⟩, trivial, trivial, ⟨am_oc150, am_ol145, am_w682, by decide +kernel, am_sl150, rfl⟩, (show (0 : Int) ≤ 85 from by decide), ⟨by decide, by decide⟩, (show (0 : Int) ≤ 86 from by decide), ⟨by decide, by decide⟩, trivial, trivial⟩
set_option maxRecDepth 20000 in
theorem am_wk150 : am_AllW 150 ar_150 := ⟨trivial, ⟨am_oc173, am_ol146, am_w685, by decide +kernel, am_w686, rfl⟩, trivial, (show (0 : Int) ≤ 10 from by decide), ⟨by decide, by decide⟩, trivial, ⟨by decide, by decide⟩, (show 4 < 5 from by decide), trivial, trivial, (show (0 : Int) ≤ 45 from by decide), trivial, am_of159, trivial, trivial, trivial, trivial, trivial, trivial, ⟨am_oc174, am_ol147, am_w689, by decide +kernel, am_w690, rfl⟩, (show (0 : Int) ≤ 39 from by decide), ⟨by decide, by decide⟩, trivial, (show 4 < 5 from by decide), (show (0 : Int) ≤ 13 from by decide), ⟨by decide, by decide⟩, trivial, trivial⟩
set_option maxRecDepth 20000 in
theorem am_wk151 : am_AllW 151 ar_151 := ⟨trivial, (show 2 < 6 from by decide), ⟨by decide, by decide⟩, (show 3 < 6 from by decide), trivial, trivial, am_of158, (show (0 : Int) ≤ 45 from by decide), trivial, am_of159, trivial, trivial, ⟨am_oc154, am_ol141, am_w667, by decide +kernel⟩, (show (0 : Int) ≤ 45 from by decide), trivial, ⟨by decide, by decide⟩, trivial, trivial, am_of159, trivial, trivial, trivial, ⟨by decide, by decide⟩, trivial, (show 3 < 6 from by decide), (show 2 < 6 from by decide), (show (0 : Int) ≤ 4 from by decide), trivial, trivial, trivial, (show 4 < 6 from by decide), trivial, ⟨by decide, by decide⟩, (show (0 : Int) ≤ 73 from by decide), trivial, ⟨by decide, by decide⟩, (show (0 : Int) ≤ 77 from by decide), trivial, am_of159, trivial, trivial, ⟨by decide, by decide⟩, (show (0 : Int) ≤ 77 from by decide), ⟨by decide, by decide⟩, (show (0 : Int) ≤ 78 from by decide), ⟨by decide, by decide⟩, (show 5 < 6 from by decide), trivial, trivial, (show (0 : Int) ≤ 90 from by decide), ⟨by decide, by decide⟩, (show (0 : Int) ≤ 91 from by decide), ⟨by decide, by decide⟩, trivial, trivial, trivial, ⟨am_oc152, am_ol138, am_w658, by decide +kernel, am_sl152, rfl⟩, trivial, trivial, trivial⟩
set_option maxRecDepth 20000 in
theorem am_wk152 : am_AllW 152 ar_152 := ⟨trivial, am_of165, trivial, am_of160, trivial, (show (0 : Int) ≤ 63 from by decide), trivial, am_of160, trivial, am_of165, trivial, trivial, trivial, am_of162, trivial, am_of165, trivial, trivial, trivial, am_of163, trivial, am_of165, trivial, trivial, trivial, am_of164, trivial, am_of165, trivial, trivial, trivial, trivial, am_of165, ⟨by decide, by decide⟩, trivial, ⟨by decide, Or.inl ⟨rfl, Or.inl am_w648⟩⟩, trivial, trivial⟩
set_option maxRecDepth 20000 in
theorem am_wk153 : am_AllW 153 ar_153 := ⟨trivial, ⟨by decide, by decide⟩, (show (0 : Int) ≤ 12 from by decide), trivial, ⟨by decide, by decide⟩, (show (0 : Int) ≤ 24 from by decide), trivial, ⟨by decide, by decide⟩, (show (0 : Int) ≤ 28 from by decide), trivial, ⟨by decide, by decide⟩, (show (0 : Int) ≤ 28 from by decide), ⟨by decide, by decide⟩, (show (0 : Int) ≤ 29 from by decide), ⟨by decide, by decide⟩, trivial, trivial⟩
set_option maxRecDepth 20000 in
theorem am_wk154 : am_AllW 154 ar_154 := ⟨trivial, ⟨by decide, by decide⟩, (show (0 : Int) ≤ 16 from by decide), trivial, ⟨by decide, by decide⟩, (show (0 : Int) ≤ 16 from by decide), ⟨by decide, by decide⟩, (show (0 : Int) ≤ 17 from by decide), ⟨by decide, by decide⟩, trivial, trivial⟩
set_option maxRecDepth 20000 in
theorem am_wk155 : am_AllW 155 ar_155 := ⟨trivial, ⟨am_w691, am_w1, am_w2⟩, trivial, ⟨by decide, by decide⟩, ⟨by decide, Or.inl ⟨rfl, Or.inl am_w692⟩⟩, trivial, ⟨by decide, by decide⟩, am_w100, ⟨by decide, Or.inr ⟨rfl, rfl, rfl, am_w693⟩⟩, trivial, trivial⟩
set_option maxRecDepth 20000 in
theorem am_wk156 : am_AllW 156 ar_156 := ⟨trivial, ⟨by decide, by decide⟩, ⟨by decide, Or.inl ⟨rfl, Or.inl am_w692⟩⟩, trivial, trivial⟩
set_option maxRecDepth 20000 in
theorem am_wk157 : am_AllW 157 ar_157 := ⟨⟨by decide, by decide⟩, (show 4 < 7 from by decide), trivial, trivial, am_of166, (show (0 : Int) ≤ 87 from by decide), trivial, trivial, trivial, trivial, am_of167, trivial, trivial, trivial, am_of168, ⟨by decide, by decide⟩, ⟨am_oc158, am_ol148, am_w699, by decide +kernel, am_sl158, rfl⟩, (show 5 < 7 from by decide), trivial, ⟨by decide, by decide⟩, (show (0 : Int) ≤ 42 from by decide), ⟨by decide, by decide⟩, trivial, trivial, trivial, ⟨am_oc110, am_ol149, am_w702, by decide +kernel, am_w703, rfl⟩, (show (0 : Int) ≤ 61 from by decide), trivial, trivial, trivial, ⟨by decide, by decide⟩, trivial, ⟨by decide, by decide⟩, (show (0 : Int) ≤ 65 from by decide), ⟨by decide, by decide⟩, (show (0 : Int) ≤ 66 from by decide), ⟨by decide, by decide⟩, (show 6 < 7 from by decide), trivial, (show (0 : Int) ≤ 81 from by decide), trivial, (show (0 : Int) ≤ 81 from by decide), trivial, trivial, (show 4 < 7 from by decide), (show (0 : Int) ≤ 3 from by decide), ⟨by decide, by decide⟩, trivial, trivial⟩
set_option maxRecDepth 20000 in
theorem am_wk158 : am_AllW 158 ar_158 := ⟨trivial, (show 6 < 10 from by decide), trivial, (show 7 < 10 from by decide), ⟨by decide, by decide⟩, (show 8 < 10 from by decide), ⟨by decide, by decide⟩, (show 9 < 10 from by decide), trivial, ⟨by decide, by decide⟩, (show (0 : Int) ≤ 80 from by decide), trivial, ⟨by decide, by decide⟩, (show (0 : Int) ≤ 80 from by decide), trivial, ⟨by decide, by decide⟩, (show (0 : Int) ≤ 80 from by decide), trivial, (show (0 : Int) ≤ 80 from by decide), trivial, trivial, trivial, trivial, trivial, trivial, trivial, trivial, ⟨am_oc159, am_ol150, am_w706, by decide +kernel, am_sl159, rfl⟩, (show 8 < 10 from by decide), trivial, am_of169, am_of170, trivial, trivial, (show 6 < 10 from by decide), trivial, am_of170, trivial, trivial, (show 7 < 10 from by decide), (show 9 < 10 from by decide), (show (0 : Int) ≤ 13 from by decide), trivial, trivial, trivial⟩
set_option maxRecDepth 20000 in
theorem am_wk159 : am_AllW 159 ar_159 := ⟨trivial, am_of169, (show 6 < 10 from by decide), trivial, am_of171, trivial, trivial, (show 7 < 10 from by decide), trivial, am_of172, trivial, trivial, (show 8 < 10 from by decide), trivial, (show (0 : Int) ≤ 35 from by decide), trivial, ⟨by decide, by decide⟩, (show (0 : Int) ≤ 37 from by decide), ⟨by decide, by decide⟩, trivial, trivial, ⟨by decide, by decide⟩, (show (0 : Int) ≤ 66 from by decide), trivial, ⟨by decide, by decide⟩, (show (0 : Int) ≤ 53 from by decide), ⟨by decide, by decide⟩, (show (0 : Int) ≤ 65 from by decide), trivial, trivial, trivial, trivial, trivial, trivial, ⟨am_oc159, am_ol150, am_w706, by decide +kernel, am_sl159, rfl⟩, trivial, trivial, trivial, trivial, ⟨am_oc115, am_ol151, am_w344, by decide +kernel, am_w345, rfl⟩, (show (0 : Int) ≤ 129 from by decide), trivial, trivial, trivial, ⟨am_oc115, am_ol151, am_w344, by decide +kernel, am_w345, rfl⟩, (show (0 : Int) ≤ 96 from by decide), trivial, am_of172, trivial, trivial, (show (0 : Int) ≤ 98 from by decide), trivial, (show 9 < 10 from by decide), trivial, ⟨by decide, by decide⟩, (show (0 : Int) ≤ 112 from by decide), trivial, ⟨by decide, by decide⟩, (show (0 : Int) ≤ 116 from by decide), ⟨by decide, by decide⟩, (show (0 : Int) ≤ 128 from by decide), trivial, trivial, trivial, trivial, trivial, trivial, ⟨am_oc159, am_ol150, am_w706, by decide +kernel, am_sl159, rfl⟩, trivial, trivial, trivial, trivial, trivial, trivial, ⟨am_oc160, am_ol152, am_w714, by decide +kernel, am_sl160, rfl⟩, (show 9 < 10 from by decide), trivial, am_of171, trivial, trivial, ⟨by decide, by decide⟩, (show (0 : Int) ≤ 156 from by decide), ⟨by decide, by decide⟩, trivial, trivial, ⟨by decide, by decide⟩, (show (0 : Int) ≤ 185 from by decide), trivial, ⟨by decide, by decide⟩, (show (0 : Int) ≤ 172 from by decide), ⟨by decide, by decide⟩, (show (0 : Int) ≤ 184 from by decide), trivial, trivial, trivial, trivial, trivial, trivial, ⟨am_oc159, am_ol150, am_w706, by decide +kernel, am_sl159, rfl⟩, trivial, trivial, ⟨by decide, by decide⟩, (show (0 : Int) ≤ 215 from by decide), trivial, am_of173, trivial, trivial, trivial, am_of173, trivial, trivial, (show (0 : Int) ≤ 212 from by decide), ⟨by decide, by decide⟩, (show (0 : Int) ≤ 214 from by decide), ⟨by decide, by decide⟩, trivial, trivial, am_of174, trivial, trivial, trivial, am_of174, trivial, trivial, (show (0 : Int) ≤ 235 from by decide), ⟨by decide, by decide⟩, trivial, trivial, trivial, trivial, trivial, trivial, am_of172, trivial, trivial, ⟨by decide, by decide⟩, trivial, trivial, ⟨by decide, by decide⟩, trivial, ⟨am_oc158, am_ol148, am_w699, by decide +kernel, am_sl158, rfl⟩, trivial, trivial⟩
set_option maxRecDepth 20000 in
theorem am_wk160 : am_AllW 160 ar_160 := ⟨trivial, (show 5 < 7 from by decide), ⟨by decide, by decide⟩, (show 6 < 7 from by decide), trivial, ⟨by decide, by decide⟩, (show (0 : Int) ≤ 49 from by decide), trivial, trivial, trivial, ⟨am_oc115, am_ol151, am_w344, by decide +kernel, am_w345, rfl⟩, (show (0 : Int) ≤ 49 from by decide), trivial, am_of172, trivial, trivial, ⟨by decide, by decide⟩, (show (0 : Int) ≤ 49 from by decide), trivial, am_of172, trivial, trivial, (show 5 < 7 from by decide), (show 6 < 7 from by decide), (show (0 : Int) ≤ 6 from by decide), trivial, trivial, ⟨am_oc161, am_ol153, am_w719, by decide +kernel, am_sl161, rfl⟩, trivial, trivial, trivial⟩
set_option maxRecDepth 20000 in
theorem am_wk161 : am_AllW 161 ar_161 := ⟨⟨by decide, by decide⟩, (show 2 < 3 from by decide), trivial, trivial, am_of175, (show (0 : Int) ≤ 27 from by decide), trivial, am_of176, trivial, trivial, trivial, (show (0 : Int) ≤ 21 from by decide), trivial, (show 2 < 3 from by decide), (show (0 : Int) ≤ 2 from by decide), trivial, am_of175, ⟨by decide, by decide⟩, (show (0 : Int) ≤ 56 from by decide), trivial, am_of176, trivial, am_of175, trivial, trivial, trivial, trivial, am_of175, ⟨by decide, by decide⟩, trivial, ⟨by decide, Or.inl ⟨rfl, Or.inl am_w692⟩⟩, trivial, trivial⟩
set_option maxRecDepth 20000 in
theorem am_wk162 : am_AllW 162 ar_162 := ⟨trivial, ⟨am_w720, am_w1, am_w2⟩, trivial, ⟨by decide, by decide⟩, ⟨by decide, Or.inl ⟨rfl, Or.inl am_w721⟩⟩, trivial, ⟨by decide, by decide⟩, ⟨by decide, Or.inl ⟨rfl, Or.inl am_w722⟩⟩, trivial, ⟨by decide, by decide⟩, am_w118, ⟨by decide, Or.inr ⟨rfl, rfl, rfl, am_w723⟩⟩, trivial, ⟨by decide, by decide⟩, am_w100, ⟨by decide, Or.inr ⟨rfl, rfl, rfl, am_w724⟩⟩, trivial, ⟨by decide, by decide⟩, am_w100, ⟨by decide, Or.inr ⟨rfl, rfl, rfl, am_w725⟩⟩, trivial, ⟨by decide, by decide⟩, am_w100, ⟨by decide, Or.inr ⟨rfl, rfl, rfl, am_w726⟩⟩, trivial, ⟨by decide, by decide⟩, am_w100, ⟨by decide, Or.inr ⟨rfl, rfl, rfl, am_w727⟩⟩, trivial, ⟨by decide, by decide⟩, am_w103, ⟨by decide, Or.inr ⟨rfl, rfl, rfl, am_w728⟩⟩, trivial, ⟨by decide, by decide⟩, am_w100, ⟨by decide, Or.inr ⟨rfl, rfl, rfl, am_w729⟩⟩, trivial, ⟨by decide, by decide⟩, am_w100, ⟨by decide, Or.inr ⟨rfl, rfl, rfl, am_w730⟩⟩, trivial, ⟨by decide, by decide⟩, am_w100, ⟨by decide, Or.inr ⟨rfl, rfl, rfl, am_w731⟩⟩, trivial, ⟨by decide, by decide⟩, am_w100, ⟨by decide, Or.inr ⟨rfl, rfl, rfl, am_w732⟩⟩, trivial, ⟨by decide, by decide⟩, am_w100, ⟨by decide, Or.inr ⟨rfl, rfl, rfl, am_w733⟩⟩, trivial, ⟨by decide, by decide⟩, am_w100, ⟨by decide, Or.inr ⟨rfl, rfl, rfl, am_w734⟩⟩, trivial, ⟨by decide, by decide⟩, am_w100, ⟨by decide, Or.inr ⟨rfl, rfl, rfl, am_w735⟩⟩, trivial, trivial⟩
set_option maxRecDepth 20000 in
theorem am_wk163 : am_AllW 163 ar_163 := ⟨trivial, ⟨by decide, by decide⟩, ⟨by decide, Or.inl ⟨rfl, Or.inl am_w721⟩⟩, trivial, ⟨by decide, by decide⟩, ⟨by decide, Or.inl ⟨rfl, Or.inl am_w722⟩⟩, trivial, trivial⟩
set_option maxRecDepth 20000 in
theorem am_wk164 : am_AllW 164 ar_164 := ⟨trivial, am_of177, ⟨by decide, by decide⟩, (show (0 : Int) ≤ 72 from by decide), trivial, am_of178, trivial, am_of177, trivial, trivial, trivial, am_of179, trivial, am_of177, trivial, trivial, trivial, am_of180, trivial, am_of177, trivial, trivial, trivial, am_of181, trivial, am_of177, trivial, am_of182, trivial, trivial, am_of183, trivial, am_of177, ⟨by decide, by decide⟩, trivial, trivial, trivial, am_of177, ⟨by decide, by decide⟩, trivial, ⟨by decide, Or.inl ⟨rfl, Or.inl am_w721⟩⟩, trivial, trivial⟩
set_option maxRecDepth 20000 in
theorem am_wk165 : am_AllW 165 ar_165 := ⟨trivial, am_of177, (show (0 : Int) ≤ 86 from by decide), trivial, am_of182, ⟨by decide, by decide⟩, (show (0 : Int) ≤ 86 from by decide), trivial, am_of184, trivial, am_of182, trivial, trivial, trivial, am_of185, trivial, am_of182, trivial, trivial, trivial, am_of186, trivial, am_of182, trivial, am_of177, ⟨by decide, by decide⟩, trivial, trivial, trivial, am_of187, trivial, am_of182, ⟨by decide, by decide⟩, trivial, trivial, am_of183, trivial, am_of177, ⟨by decide, by decide⟩, trivial, trivial, trivial, ⟨by decide, by decide⟩, trivial, trivial, trivial, trivial, am_of182, ⟨by decide, by decide⟩, trivial, ⟨by decide, Or.inl ⟨rfl, Or.inl am_w722⟩⟩, trivial, trivial⟩
set_option maxRecDepth 20000 in
theorem am_wk166 : am_AllW 166 ar_166 := ⟨trivial, am_of182, ⟨by decide, by decide⟩, trivial, (show 3 < 5 from by decide), trivial, (show (0 : Int) ≤ 59 from by decide), trivial, am_of187, trivial, trivial, ⟨by decide, by decide⟩, (show (0 : Int) ≤ 59 from by decide), trivial, ⟨by decide, by decide⟩, trivial, trivial, am_of187, trivial, trivial, trivial, (show 4 < 5 from by decide), trivial, am_of188, trivial, trivial, trivial, trivial, am_of189, trivial, trivial, trivial, trivial, am_of187, trivial, trivial, trivial, ⟨by decide, by decide⟩, trivial, trivial, trivial, trivial⟩
set_option maxRecDepth 20000 in
theorem am_wk167 : am_AllW 167 ar_167 := ⟨trivial, (show (0 : Int) ≤ 19 from by decide), trivial, ⟨by decide, by decide⟩, (show (0 : Int) ≤ 19 from by decide), trivial, am_of190, trivial, trivial, (show (0 : Int) ≤ 20 from by decide), ⟨by decide, by decide⟩, trivial, trivial⟩
set_option maxRecDepth 20000 in
theorem am_wk168 : am_AllW 168 ar_168 := ⟨⟨by decide, by decide⟩, (show 3 < 4 from by decide), trivial, trivial, am_of182, (show (0 : Int) ≤ 29 from by decide), trivial, am_of184, trivial, trivial, trivial, trivial, (show (0 : Int) ≤ 23 from by decide), trivial, trivial, (show 3 < 4 from by decide), (show (0 : Int) ≤ 2 from by decide), ⟨by decide, by decide⟩, trivial, trivial⟩
set_option maxRecDepth 20000 in
theorem am_wk169 : am_AllW 169 ar_169 := ⟨trivial, ⟨am_oc170, am_ol154, am_w738, by decide +kernel, am_sl170, rfl⟩, ⟨by decide, by decide⟩, (show 1 < 5 from by decide), trivial, trivial, am_of177, (show (0 : Int) ≤ 112 from by decide), trivial, trivial, am_of178, trivial, trivial, ⟨am_oc167, am_ol155, am_w504, by decide +kernel, am_w505, rfl⟩, trivial, (show (0 : Int) ≤ 35 from by decide), trivial, am_of179, trivial, trivial, trivial, trivial, am_of181, trivial, trivial, trivial, am_of183, trivial, trivial, trivial, (show 2 < 5 from by decide), trivial, am_of181, trivial, trivial, (show 3 < 5 from by decide), trivial, trivial, (show (0 : Int) ≤ 106 from by decide), trivial, trivial, am_of184, trivial, trivial, ⟨am_oc168, am_ol156, am_w521, by decide +kernel, am_w522, rfl⟩, trivial, (show (0 : Int) ≤ 84 from by decide), trivial, am_of185, trivial, trivial, (show (0 : Int) ≤ 89 from by decide), trivial, trivial, ⟨am_oc171, am_ol157, am_w743, by decide +kernel, am_sl171, rfl⟩, (show 4 < 5 from by decide), trivial, ⟨by decide, by decide⟩, (show (0 : Int) ≤ 100 from by decide), trivial, trivial, (show 3 < 5 from by decide), (show (0 : Int) ≤ 56 from by decide), (show 1 < 5 from by decide), (show (0 : Int) ≤ 6 from by decide), ⟨by decide, by decide⟩, trivial, trivial⟩
set_option maxRecDepth 20000 in
theorem am_wk170 : am_AllW 170 ar_170 := ⟨⟨by decide, by decide⟩, (show 1 < 3 from by decide), trivial, ⟨by decide, by decide⟩, (show (0 : Int) ≤ 21 from by decide), trivial, am_of190, trivial, ⟨by decide, by decide⟩, trivial, (show 1 < 3 from by decide), (show (0 : Int) ≤ 2 from by decide), trivial, am_of190, ⟨by decide, by decide⟩, ⟨by decide, by decide⟩, trivial, ⟨by decide, by decide⟩, (show 1 < 3 from by decide), trivial, trivial, am_of177, (show (0 : Int) ≤ 80 from by decide), trivial, am_of178, trivial, trivial, (show 2 < 3 from by decide), trivial, (show (0 : Int) ≤ 74 from by decide), trivial, ⟨by decide, by decide⟩, (show (0 : Int) ≤ 74 from by decide), trivial, am_of190, trivial, trivial, ⟨by decide, by decide⟩, (show (0 : Int) ≤ 74 from by decide), trivial, am_of190, trivial, trivial, trivial, (show 1 < 3 from by decide), (show (0 : Int) ≤ 32 from by decide), trivial, trivial⟩
set_option maxRecDepth 20000 in
theorem am_wk171 : am_AllW 171 ar_171 := ⟨trivial, ⟨by decide, by decide⟩, trivial, (show 2 < 4 from by decide), trivial, (show 3 < 4 from by decide), trivial, trivial, trivial, am_of187, trivial, trivial, trivial, (show (0 : Int) ≤ 57 from by decide), trivial, am_of191, trivial, trivial, trivial, am_of188, trivial, trivial, ⟨am_oc167, am_ol155, am_w504, by decide +kernel, am_w505, rfl⟩, trivial, trivial, am_of191, trivial, trivial, ⟨by decide, by decide⟩, (show (0 : Int) ≤ 51 from by decide), trivial, am_of189, trivial, trivial, trivial, (show 3 < 4 from by decide), (show (0 : Int) ≤ 6 from by decide), ⟨by decide, by decide⟩, trivial, trivial⟩
set_option maxRecDepth 20000 in
theorem am_wk172 : am_AllW 172 ar_172 := ⟨⟨_, rfl, rfl, am_w744, am_w745, am_w746⟩, trivial, ⟨am_oc4, am_ol158, rfl, rfl, am_w749, by decide +kernel⟩, (show 1 < 4 from by decide), ⟨_, rfl, rfl, am_w750, am_w751, am_w143⟩, trivial, ⟨am_oc16, am_ol159, rfl, rfl, am_w754, by decide +kernel⟩, (show 2 < 4 from by decide), ⟨by decide, by decide⟩, (show 3 < 4 from by decide), trivial, trivial, trivial, ⟨by decide, by decide⟩, trivial, (show (0 : Int) ≤ 351 from by decide), trivial, trivial, trivial, ⟨by decide, by decide⟩, trivial, ⟨by decide, by decide, by decide, by decide, by decide⟩, trivial, trivial, trivial, ⟨by decide, by decide⟩, trivial, trivial, trivial, trivial, ⟨by decide, by decide⟩, trivial, trivial, trivial, trivial, ⟨by decide, by decide⟩, trivial, trivial, trivial, trivial, ⟨by decide, by decide⟩, trivial, trivial, trivial, trivial, ⟨by decide, by decide⟩, trivial, trivial, ⟨am_oc5, am_ol160, am_w757, by decide +kernel, am_w758, rfl⟩, trivial, trivial, trivial, ⟨by decide, by decide⟩, trivial, trivial, trivial, trivial, ⟨by decide, by decide⟩, trivial, trivial, trivial, trivial, ⟨by decide, by decide⟩, trivial, trivial, trivial, trivial, ⟨by decide, by decide⟩, trivial, trivial, trivial, trivial, ⟨by decide, by decide⟩, trivial, trivial, ⟨am_oc49, am_ol161, am_w761, by decide +kernel, am_w762, rfl⟩, (show (0 : Int) ≤ 345 from by decide), ⟨by decide, by decide⟩, trivial, trivial, trivial, trivial, ⟨by decide, by decide⟩, trivial, trivial, ⟨am_oc6, am_ol162, am_w765, by decide +kernel, am_w766, rfl⟩, trivial, trivial, trivial, ⟨by decide, by decide⟩, trivial, trivial, ⟨am_oc50, am_ol163, am_w769, by decide +kernel, am_w770, rfl⟩, (show (0 : Int) ≤ 345 from by decide), ⟨by decide, by decide⟩, trivial, trivial, ⟨am_oc7, am_ol164, am_w773, by decide +kernel, am_w774, rfl⟩, trivial, ⟨am_oc51, am_ol165, am_w777, by decide +kernel, am_w778, rfl⟩, (show (0 : Int) ≤ 345 from by decide), ⟨by decide, by decide⟩, trivial, trivial, ⟨am_oc8, am_ol166, am_w781, by decide +kernel, am_w782, rfl⟩, trivial, ⟨am_oc52, am_ol167, am_w785, by decide +kernel, am_w786, rfl⟩, (show (0 : Int) ≤ 345 from by decide), ⟨by decide, by decide⟩, trivial, trivial, trivial, trivial, ⟨by decide, by decide⟩, trivial, trivial, ⟨am_oc9, am_ol168, am_w789, by decide +kernel, am_w790, rfl⟩, trivial, trivial, trivial, ⟨by decide, by decide⟩, trivial, trivial, ⟨am_oc53, am_ol169, am_w793, by decide +kernel, am_w794, rfl⟩, (show (0 : Int) ≤ 345 from by decide), ⟨by decide, by decide⟩, trivial, trivial, trivial, trivial, ⟨by decide, by decide⟩, trivial, trivial, ⟨am_oc10, am_ol170, am_w797, by decide +kernel, am_w798, rfl⟩, trivial, trivial, trivial, ⟨by decide, by decide⟩, trivial, trivial, ⟨am_oc56, am_ol171, am_w801, by decide +kernel, am_w802, rfl⟩, (show (0 : Int) ≤ 345 from by decide), ⟨by decide, by decide⟩, trivial, trivial, ⟨am_oc11, am_ol172, am_w805, by decide +kernel, am_w806, rfl⟩, trivial, ⟨am_oc58, am_ol173, am_w809, by decide +kernel, am_w810, rfl⟩, (show (0 : Int) ≤ 345 from by decide), ⟨by decide, by decide⟩, trivial, trivial, trivial, trivial, ⟨by decide, by decide⟩, trivial, trivial, ⟨am_oc12, am_ol174, am_w813, by decide +kernel, am_w814, rfl⟩, trivial, trivial, trivial, ⟨by decide, by decide⟩, trivial, trivial, ⟨am_oc59, am_ol175, am_w817, by decide +kernel, am_w818, rfl⟩, (show (0 : Int) ≤ 345 from by decide), ⟨by decide, by decide⟩, trivial, trivial, ⟨am_oc13, am_ol176, am_w821, by decide +kernel, am_w822, rfl⟩, trivial, ⟨am_oc75, am_ol177, am_w825, by decide +kernel, am_w826, rfl⟩, (show (0 : Int) ≤ 345 from by decide), ⟨by decide, by decide⟩, trivial, trivial, trivial, trivial, ⟨by decide, by decide⟩, trivial, trivial, ⟨am_oc14, am_ol178, am_w829, by decide +kernel, am_w830, rfl⟩, trivial, trivial, trivial, ⟨by decide, by decide⟩, trivial, trivial, ⟨am_oc76, am_ol179, am_w833, by decide +kernel, am_w834, rfl⟩, (show (0 : Int) ≤ 345 from by decide), ⟨by decide, by decide⟩, trivial, trivial, trivial, trivial, ⟨by decide, by decide⟩, trivial, trivial, ⟨am_oc15, am_ol180, am_w837, by decide +kernel, am_w838, rfl⟩, trivial, trivial, trivial, ⟨by decide, by decide⟩, trivial, trivial, ⟨am_oc77, am_ol181, am_w841, by decide +kernel, am_w842, rfl⟩, (show (0 : Int) ≤ 345 from by decide), ⟨by decide, by decide⟩, trivial, (show 3 < 4 from by decide), (show (0 : Int) ≤ 18 from by decide), ⟨by decide, by decide⟩, trivial, trivial⟩
set_option maxRecDepth 20000 in
theorem am_wk173 : am_AllW 173 ar_173 := ⟨trivial, am_of192, trivial, trivial, ⟨am_oc177, am_ol182, am_w846, by decide +kernel, am_w847, rfl⟩, trivial, trivial, trivial⟩
set_option maxRecDepth 20000 in
theorem am_wk174 : am_AllW 174 ar_174 := ⟨trivial, ⟨am_oc178, am_ol183, am_w850, by decide +kernel, am_w851, rfl⟩, (show (0 : Int) ≤ 16 from by decide), trivial, am_of192, trivial, ⟨am_oc179, am_ol184, am_w855, by decide +kernel⟩, trivial, trivial, am_of192, trivial, trivial, trivial⟩
set_option maxRecDepth 20000 in
theorem am_wk175 : am_AllW 175 ar_175 := ⟨trivial, trivial, ⟨by decide, by decide⟩, ⟨am_oc176, am_ol185, am_w858, by decide +kernel, am_w859, rfl⟩, trivial, trivial⟩
set_option maxRecDepth 20000 in
theorem am_wk176 : am_AllW 176 ar_176 := ⟨trivial, ⟨am_oc178, am_ol183, am_w850, by decide +kernel, am_w851, rfl⟩, (show (0 : Int) ≤ 23 from by decide), trivial, am_of192, trivial, trivial, trivial, ⟨am_oc173, am_ol186, am_w685, by decide +kernel, am_w686, rfl⟩, ⟨am_oc181, am_ol187, am_w863, by decide +kernel⟩, (show (0 : Int) ≤ 36 from by decide), trivial, am_of192, trivial, trivial, trivial, ⟨am_oc173, am_ol186, am_w685, by decide +kernel, am_w686, rfl⟩, trivial, trivial⟩
set_option maxRecDepth 20000 in
theorem am_wk177 : am_AllW 177 ar_177 := ⟨⟨by decide, "java/lang/String", "COMPACT_STRINGS", "Z", List.mem_of_getElem? (i := 0) rfl, am_w864⟩, (show (0 : Int) ≤ 13 from by decide), trivial, am_of193, (show (0 : Int) ≤ 14 from by decide), ⟨by decide, by decide⟩, trivial, trivial⟩
set_option maxRecDepth 20000 in
theorem am_wk178 : am_AllW 178 ar_178 := ⟨⟨by decide, "java/lang/String", "COMPACT_STRINGS", "Z", List.mem_of_getElem? (i := 0) rfl, am_w864⟩, (show (0 : Int) ≤ 17 from by decide), trivial, am_of193, (show (0 : Int) ≤ 17 from by decide), ⟨by decide, by decide⟩, (show (0 : Int) ≤ 18 from by decide), ⟨by decide, by decide⟩, trivial, trivial⟩
set_option maxRecDepth 20000 in
theorem am_wk179 : am_AllW 179 ar_179 := ⟨trivial, trivial, trivial, am_ol188, trivial, trivial, trivial, ⟨by decide, by decide⟩, trivial, trivial, trivial, trivial⟩
set_option maxRecDepth 20000 in
theorem am_wk180 : am_AllW 180 ar_180 := ⟨trivial, (show (0 : Int) ≤ 15 from by decide), trivial, ⟨by decide, by decide⟩, (show (0 : Int) ≤ 15 from by decide), ⟨by decide, by decide⟩, (show (0 : Int) ≤ 16 from by decide), ⟨by decide, by decide⟩, trivial, trivial⟩
set_option maxRecDepth 20000 in
theorem am_wk181 : am_AllW 181 ar_181 := ⟨trivial, ⟨am_oc180, am_ol189, am_w869, by decide +kernel⟩, (show (0 : Int) ≤ 9 from by decide), ⟨by decide, by decide⟩, trivial, trivial, ⟨by decide, by decide⟩, ⟨am_w870, am_w871, am_w639, am_w872⟩, (show 2 < 4 from by decide), trivial, trivial, trivial, ⟨am_w873, am_w638, am_w639, am_w640⟩, (show 3 < 4 from by decide), trivial, trivial, (show (0 : Int) ≤ 29 from by decide), ⟨by decide, by decide⟩, trivial, trivial, trivial, trivial, trivial, ⟨am_oc182, am_ol190, am_w876, by decide +kernel⟩, trivial, trivial⟩
set_option maxRecDepth 20000 in
theorem am_wk182 : am_AllW 182 ar_182 := ⟨trivial, trivial, (show 4 < 6 from by decide), trivial, (show 5 < 6 from by decide), trivial, trivial, (show (0 : Int) ≤ 31 from by decide), trivial, trivial, trivial, trivial, (show (0 : Int) ≤ 25 from by decide), trivial, trivial, (show 5 < 6 from by decide), (show (0 : Int) ≤ 7 from by decide), ⟨by decide, by decide⟩, trivial, trivial⟩
set_option maxRecDepth 20000 in
theorem am_wk183 : am_AllW 183 ar_183 := ⟨trivial, ⟨by decide, by decide⟩, trivial, trivial, ⟨by decide, by decide⟩, trivial, trivial, (show 0 < 2 from by decide), trivial, (show (0 : Int) ≤ 17 from by decide), trivial, ⟨by decide, by decide⟩, trivial, trivial, ⟨by decide, by decide⟩, (show 1 < 2 from by decide), trivial, ⟨⟨by decide, by decide⟩, am_w877⟩, (show (0 : Int) ≤ 34 from by decide), (show 1 < 2 from by decide), trivial, ⟨by decide, by decide⟩, trivial, (show 0 < 2 from by decide), trivial, ⟨by decide, by decide⟩, (show (0 : Int) ≤ 49 from by decide), (show 1 < 2 from by decide), trivial, ⟨by decide, by decide⟩, trivial, (show 0 < 2 from by decide), trivial, ⟨by decide, by decide⟩, (show (0 : Int) ≤ 62 from by decide), (show 1 < 2 from by decide), trivial, ⟨by decide, by decide⟩, trivial, (show 0 < 2 from by decide), trivial, ⟨by decide, by decide⟩, (show (0 : Int) ≤ 74 from by decide), (show 1 < 2 from by decide), trivial, ⟨by decide, by decide⟩, trivial, (show 0 < 2 from by decide), trivial, trivial, ⟨by decide, by decide⟩, trivial, trivial, trivial, trivial⟩
end
section
def am_okQ (m : Nat) (q : Nat × Jvm.ClassFile.Instr × Nat × Nat) : Prop := am_okI m q.1 q.2.1 q.2.2.1 q.2.2.2
theorem am_okM {m : Nat} {l : List (Nat × Jvm.ClassFile.Instr × Nat × Nat)} (h1 : l.all (am_ckD m) = true) (h2 : am_AllW m l) : ∀ q ∈ l, am_okQ m q := by
  intro q hq
  have h := List.all_eq_true.mp h1 q hq
  unfold am_ckD at h
  rw [Bool.and_eq_true, decide_eq_true_eq] at h
  exact ⟨⟨h.1, Nat.eq_of_beq_eq_true h.2⟩, am_AllW_mem l h2 q hq⟩
theorem am_leaf {m k : Nat} {l : List (Nat × Jvm.ClassFile.Instr × Nat × Nat)} (h : ∀ q ∈ l, am_okQ k q) : ∀ q ∈ cond (Nat.beq m k) l [], am_okQ m q := by
  cases e : Nat.beq m k with
  | false => exact fun _ h => absurd h List.not_mem_nil
  | true =>
    have e1 := Nat.eq_of_beq_eq_true e
    subst e1
    exact h
theorem am_node {m : Nat} {b : Bool} {x y : List (Nat × Jvm.ClassFile.Instr × Nat × Nat)} (hx : ∀ q ∈ x, am_okQ m q) (hy : ∀ q ∈ y, am_okQ m q) : ∀ q ∈ cond b x y, am_okQ m q := by
  cases b
  · exact hy
  · exact hx
theorem am_lk_mem {α : Type} {pc : Nat} {v : α} : ∀ (l : List (Nat × α)), am_lk pc l = some v → (pc, v) ∈ l := by
  intro l
  induction l with
  | nil => intro h; cases h
  | cons a l ih =>
    intro h
    obtain ⟨q, u⟩ := a
    unfold am_lk at h
    cases e : Nat.beq pc q with
    | false => rw [e] at h; exact List.mem_cons_of_mem _ (ih h)
    | true =>
      rw [e] at h
      have e1 := Nat.eq_of_beq_eq_true e
      have e2 : u = v := Option.some.inj h
      rw [e1, e2]
      exact List.mem_cons_self
theorem am_okR (m : Nat) : ∀ q ∈ am_rows m, am_okQ m q := (am_node (am_node (am_node (am_node (am_node (am_node (am_node (am_leaf (fun _ h => absurd h List.not_mem_nil)) (am_leaf (fun _ h => absurd h List.not_mem_nil))) (am_node (am_leaf (fun _ h => absurd h List.not_mem_nil)) (am_node (am_leaf (fun _ h => absurd h List.not_mem_nil)) (am_leaf (am_okM am_dk4 am_wk4))))) (am_node (am_node (am_leaf (am_okM am_dk5 am_wk5)) (am_node (am_leaf (am_okM am_dk6 am_wk6)) (am_leaf (am_okM am_dk7 am_wk7)))) (am_node (am_leaf (am_okM am_dk8 am_wk8)) (am_node (am_leaf (am_okM am_dk9 am_wk9)) (am_leaf (am_okM am_dk10 am_wk10)))))) (am_node (am_node (am_node (am_leaf (am_okM am_dk11 am_wk11)) (am_node (am_leaf (am_okM am_dk12 am_wk12)) (am_leaf (am_okM am_dk13 am_wk13)))) (am_node (am_leaf (am_okM am_dk14 am_wk14)) (am_node (am_leaf (am_okM am_dk15 am_wk15)) (am_leaf (am_okM am_dk16 am_wk16))))) (am_node (am_node (am_leaf (am_okM am_dk17 am_wk17)) (am_node (am_leaf (am_okM am_dk18 am_wk18)) (am_leaf (am_okM am_dk19 am_wk19)))) (am_node (am_leaf (am_okM am_dk20 am_wk20)) (am_node (am_leaf (am_okM am_dk21 am_wk21)) (am_leaf (am_okM am_dk22 am_wk22))))))) (am_node (am_node (am_node (am_node (am_leaf (am_okM am_dk23 am_wk23)) (am_leaf (am_okM am_dk24 am_wk24))) (am_node (am_leaf (am_okM am_dk25 am_wk25)) (am_node (am_leaf (am_okM am_dk26 am_wk26)) (am_leaf (am_okM am_dk27 am_wk27))))) (am_node (am_node (am_leaf (am_okM am_dk28 am_wk28)) (am_node (am_leaf (am_okM am_dk29 am_wk29)) (am_leaf (am_okM am_dk30 am_wk30)))) (am_node (am_leaf (am_okM am_dk31 am_wk31)) (am_node (am_leaf (am_okM am_dk32 am_wk32)) (am_leaf (am_okM am_dk33 am_wk33)))))) (am_node (am_node (am_node (am_leaf (am_okM am_dk34 am_wk34)) (am_node (am_leaf (am_okM am_dk35 am_wk35)) (am_leaf (am_okM am_dk36 am_wk36)))) (am_node (am_leaf (am_okM am_dk37 am_wk37)) (am_node (am_leaf (am_okM am_dk38 am_wk38)) (am_leaf (am_okM am_dk39 am_wk39))))) (am_node (am_node (am_leaf (am_okM am_dk40 am_wk40)) (am_node (am_leaf (am_okM am_dk41 am_wk41)) (am_leaf (am_okM am_dk42 am_wk42)))) (am_node (am_leaf (am_okM am_dk43 am_wk43)) (am_node (am_leaf (am_okM am_dk44 am_wk44)) (am_leaf (am_okM am_dk45 am_wk45)))))))) (am_node (am_node (am_node (am_node (am_node (am_leaf (am_okM am_dk46 am_wk46)) (am_leaf (am_okM am_dk47 am_wk47))) (am_node (am_leaf (am_okM am_dk48 am_wk48)) (am_node (am_leaf (am_okM am_dk49 am_wk49)) (am_leaf (am_okM am_dk50 am_wk50))))) (am_node (am_node (am_leaf (am_okM am_dk51 am_wk51)) (am_node (am_leaf (am_okM am_dk52 am_wk52)) (am_leaf (am_okM am_dk53 am_wk53)))) (am_node (am_leaf (am_okM am_dk54 am_wk54)) (am_node (am_leaf (am_okM am_dk55 am_wk55)) (am_leaf (am_okM am_dk56 am_wk56)))))) (am_node (am_node (am_node (am_leaf (am_okM am_dk57 am_wk57)) (am_node (am_leaf (am_okM am_dk58 am_wk58)) (am_leaf (am_okM am_dk59 am_wk59)))) (am_node (am_leaf (am_okM am_dk60 am_wk60)) (am_node (am_leaf (am_okM am_dk61 am_wk61)) (am_leaf (am_okM am_dk62 am_wk62))))) (am_node (am_node (am_leaf (am_okM am_dk63 am_wk63)) (am_node (am_leaf (am_okM am_dk64 am_wk64)) (am_leaf (am_okM am_dk65 am_wk65)))) (am_node (am_leaf (am_okM am_dk66 am_wk66)) (am_node (am_leaf (am_okM am_dk67 am_wk67)) (am_leaf (am_okM am_dk68 am_wk68))))))) (am_node (am_node (am_node (am_node (am_leaf (am_okM am_dk69 am_wk69)) (am_leaf (am_okM am_dk70 am_wk70))) (am_node (am_leaf (am_okM am_dk71 am_wk71)) (am_node (am_leaf (am_okM am_dk72 am_wk72)) (am_leaf (am_okM am_dk73 am_wk73))))) (am_node (am_node (am_leaf (am_okM am_dk74 am_wk74)) (am_node (am_leaf (am_okM am_dk75 am_wk75)) (am_leaf (am_okM am_dk76 am_wk76)))) (am_node (am_leaf (am_okM am_dk77 am_wk77)) (am_node (am_leaf (am_okM am_dk78 am_wk78)) (am_leaf (am_okM am_dk79 am_wk79)))))) (am_node (am_node (am_node (am_leaf (am_okM am_dk80 am_wk80)) (am_node (am_leaf (am_okM am_dk81 am_wk81)) (am_leaf (am_okM am_dk82 am_wk82)))) (am_node (am_leaf (am_okM am_dk83 am_wk83)) (am_node (am_leaf (am_okM am_dk84 am_wk84)) (am_leaf (am_okM am_dk85 am_wk85))))) (am_node (am_node (am_leaf (am_okM am_dk86 am_wk86)) (am_node (am_leaf (am_okM am_dk87 am_wk87)) (am_leaf (am_okM am_dk88 am_wk88)))) (am_node (am_leaf (am_okM am_dk89 am_wk89)) (am_node (am_leaf (am_okM am_dk90 am_wk90)) (am_leaf (am_okM am_dk91 am_wk91))))))))) (am_node (am_node (am_node (am_node (am_node (am_node (am_leaf (am_okM am_dk92 am_wk92)) (am_leaf (am_okM am_dk93 am_wk93))) (am_node (am_leaf (am_okM am_dk94 am_wk94)) (am_node (am_leaf (am_okM am_dk95 am_wk95)) (am_leaf (am_okM am_dk96 am_wk96))))) (am_node (am_node (am_leaf (am_okM am_dk97 am_wk97)) (am_node (am_leaf (am_okM am_dk98 am_wk98)) (am_leaf (am_okM am_dk99 am_wk99)))) (am_node (am_leaf (am_okM am_dk100 am_wk100)) (am_node (am_leaf (am_okM am_dk101 am_wk101)) (am_leaf (am_okM am_dk102 am_wk102)))))) (am_node (am_node (am_node (am_leaf (am_okM am_dk103 am_wk103)) (am_node (am_leaf (am_okM am_dk104 am_wk104)) (am_leaf (am_okM am_dk105 am_wk105)))) (am_node (am_leaf (am_okM am_dk106 am_wk106)) (am_node (am_leaf (am_okM am_dk107 am_wk107)) (am_leaf (am_okM am_dk108 am_wk108))))) (am_node (am_node (am_leaf (am_okM am_dk109 am_wk109)) (am_node (am_leaf (am_okM am_dk110 am_wk110)) (am_leaf (am_okM am_dk111 am_wk111)))) (am_node (am_leaf (am_okM am_dk112 am_wk112)) (am_node (am_leaf (am_okM am_dk113 am_wk113)) (am_leaf (am_okM am_dk114 am_wk114))))))) (am_node (am_node (am_node (am_node (am_leaf (am_okM am_dk115 am_wk115)) (am_leaf (am_okM am_dk116 am_wk116))) (am_node (am_leaf (am_okM am_dk117 am_wk117)) (am_node (am_leaf (am_okM am_dk118 am_wk118)) (am_leaf (am_okM am_dk119 am_wk119))))) (am_node (am_node (am_leaf (am_okM am_dk120 am_wk120)) (am_node (am_leaf (am_okM am_dk121 am_wk121)) (am_leaf (am_okM am_dk122 am_wk122)))) (am_node (am_leaf (am_okM am_dk123 am_wk123)) (am_node (am_leaf (am_okM am_dk124 am_wk124)) (am_leaf (am_okM am_dk125 am_wk125)))))) (am_node (am_node (am_node (am_leaf (am_okM am_dk126 am_wk126)) (am_node (am_leaf (am_okM am_dk127 am_wk127)) (am_leaf (am_okM am_dk128 am_wk128)))) (am_node (am_leaf (am_okM am_dk129 am_wk129)) (am_node (am_leaf (am_okM am_dk130 am_wk130)) (am_leaf (am_okM am_dk131 am_wk131))))) (am_node (am_node (am_leaf (am_okM am_dk132 am_wk132)) (am_node (am_leaf (am_okM am_dk133 am_wk133)) (am_leaf (am_okM am_dk134 am_wk134)))) (am_node (am_leaf (am_okM am_dk135 am_wk135)) (am_node (am_leaf (am_okM am_dk136 am_wk136)) (am_leaf (am_okM am_dk137 am_wk137)))))))) (am_node (am_node (am_node (am_node (am_node (am_leaf (am_okM am_dk138 am_wk138)) (am_leaf (am_okM am_dk139 am_wk139))) (am_node (am_leaf (am_okM am_dk140 am_wk140)) (am_node (am_leaf (am_okM am_dk141 am_wk141)) (am_leaf (am_okM am_dk142 am_wk142))))) (am_node (am_node (am_leaf (am_okM am_dk143 am_wk143)) (am_node (am_leaf (am_okM am_dk144 am_wk144)) (am_leaf (am_okM am_dk145 am_wk145)))) (am_node (am_leaf (am_okM am_dk146 am_wk146)) (am_node (am_leaf (am_okM am_dk147 am_wk147)) (am_leaf (am_okM am_dk148 am_wk148)))))) (am_node (am_node (am_node (am_leaf (am_okM am_dk149 am_wk149)) (am_node (am_leaf (am_okM am_dk150 am_wk150)) (am_leaf (am_okM am_dk151 am_wk151)))) (am_node (am_leaf (am_okM am_dk152 am_wk152)) (am_node (am_leaf (am_okM am_dk153 am_wk153)) (am_leaf (am_okM am_dk154 am_wk154))))) (am_node (am_node (am_leaf (am_okM am_dk155 am_wk155)) (am_node (am_leaf (am_okM am_dk156 am_wk156)) (am_leaf (am_okM am_dk157 am_wk157)))) (am_node (am_leaf (am_okM am_dk158 am_wk158)) (am_node (am_leaf (am_okM am_dk159 am_wk159)) (am_leaf (am_okM am_dk160 am_wk160))))))) (am_node (am_node (am_node (am_node (am_leaf (am_okM am_dk161 am_wk161)) (am_leaf (am_okM am_dk162 am_wk162))) (am_node (am_leaf (am_okM am_dk163 am_wk163)) (am_node (am_leaf (am_okM am_dk164 am_wk164)) (am_leaf (am_okM am_dk165 am_wk165))))) (am_node (am_node (am_leaf (am_okM am_dk166 am_wk166)) (am_node (am_leaf (am_okM am_dk167 am_wk167)) (am_leaf (am_okM am_dk168 am_wk168)))) (am_node (am_leaf (am_okM am_dk169 am_wk169)) (am_node (am_leaf (am_okM am_dk170 am_wk170)) (am_leaf (am_okM am_dk171 am_wk171)))))) (am_node (am_node (am_node (am_leaf (am_okM am_dk172 am_wk172)) (am_node (am_leaf (am_okM am_dk173 am_wk173)) (am_leaf (am_okM am_dk174 am_wk174)))) (am_node (am_leaf (am_okM am_dk175 am_wk175)) (am_node (am_leaf (am_okM am_dk176 am_wk176)) (am_leaf (am_okM am_dk177 am_wk177))))) (am_node (am_node (am_leaf (am_okM am_dk178 am_wk178)) (am_node (am_leaf (am_okM am_dk179 am_wk179)) (am_leaf (am_okM am_dk180 am_wk180)))) (am_node (am_leaf (am_okM am_dk181 am_wk181)) (am_node (am_leaf (am_okM am_dk182 am_wk182)) (am_leaf (am_okM am_dk183 am_wk183))))))))))
theorem am_hok : ∀ m pc i nx ix, am_code m pc = some (i, nx, ix) → am_okI m pc i nx ix := by
  intro m pc i nx ix h
  have h1 : am_lk pc (am_rows m) = some (i, nx, ix) := h
  have h2 : (pc, i, nx, ix) ∈ am_rows m := am_lk_mem (am_rows m) h1
  have h3 : am_okQ m (pc, i, nx, ix) := am_okR m (pc, i, nx, ix) h2
  exact h3
end
section
abbrev am_yP : MethodName := ⟨"jdk/internal/util/Preconditions", "checkIndex", "(IILjava/util/function/BiFunction;)I"⟩
abbrev am_y1 : MethodName := ⟨"java/lang/String", "checkIndex", "(II)V"⟩
abbrev am_bP : ByteArray := prog_19_method_11_code
abbrev am_b1 : ByteArray := prog_16_method_155_code
theorem am_q1 : am_gw (Cond.code ⟨"jdk/internal/util/Preconditions", "checkIndex", "(IILjava/util/function/BiFunction;)I"⟩ prog_19_method_11_code 3 (Option.some Jvm.ClassFile.FieldType.int)) := am_g2 221 rfl rfl
theorem am_q2 : am_gw (Cond.static ⟨"jdk/internal/util/Preconditions", "checkIndex", "(IILjava/util/function/BiFunction;)I"⟩) := am_g2 220 rfl rfl
theorem am_q3 : am_gw (Cond.initialized "jdk/internal/util/Preconditions") := am_g1 14 rfl rfl
theorem am_q4 : am_gw (Cond.methodLink "java/lang/String" 1059 ⟨"jdk/internal/util/Preconditions", "checkIndex", "(IILjava/util/function/BiFunction;)I"⟩) := am_g2 219 rfl rfl
theorem am_q5 : am_gw (Cond.fieldLink "java/lang/String" 1053 "jdk/internal/util/Preconditions" "SIOOBE_FORMATTER" "Ljava/util/function/BiFunction;") := am_g2 217 rfl rfl
theorem am_q6 : am_gw (Cond.code ⟨"java/lang/String", "checkIndex", "(II)V"⟩ prog_16_method_155_code 2 (Option.none : Option Jvm.ClassFile.FieldType)) := am_g2 216 rfl rfl
theorem am_q7 : am_gw (Cond.static ⟨"java/lang/String", "checkIndex", "(II)V"⟩) := am_g2 215 rfl rfl
theorem am_q8 : am_gw (Cond.initialized "java/lang/String") := am_g1 12 rfl rfl
theorem am_dP_0 : decode am_bP 0 = .ok (.iload_n 0, 1) := by decide +kernel
theorem am_dP_1 : decode am_bP 1 = .ok (.ifCond .lt 8, 3) := by decide +kernel
theorem am_dP_4 : decode am_bP 4 = .ok (.iload_n 0, 1) := by decide +kernel
theorem am_dP_5 : decode am_bP 5 = .ok (.iload_n 1, 1) := by decide +kernel
theorem am_dP_6 : decode am_bP 6 = .ok (.if_icmp .lt 10, 3) := by decide +kernel
theorem am_dP_16 : decode am_bP 16 = .ok (.iload_n 0, 1) := by decide +kernel
theorem am_dP_17 : decode am_bP 17 = .ok (.ireturn, 1) := by decide +kernel
theorem am_d1_0 : decode am_b1 0 = .ok (.iload_n 0, 1) := by decide +kernel
theorem am_d1_1 : decode am_b1 1 = .ok (.iload_n 1, 1) := by decide +kernel
theorem am_d1_2 : decode am_b1 2 = .ok (.getstatic 1053, 3) := by decide +kernel
theorem am_d1_5 : decode am_b1 5 = .ok (.invokestatic 1059, 3) := by decide +kernel
theorem am_d1_8 : decode am_b1 8 = .ok (.pop, 1) := by decide +kernel
theorem am_d1_9 : decode am_b1 9 = .ok (.return_, 1) := by decide +kernel
def am_QP (v : Option Value) : Array Value → State → Outcome → State → Prop := fun _ st oc t => oc = .returned v ∧ t.heap = st.heap
abbrev am_wsP : List Cond := Cond.code am_yP am_bP 3 (some .int) :: lw_tbl.filter goodWord
abbrev am_ws1 : List Cond := Cond.code am_y1 am_b1 2 none :: lw_tbl.filter goodWord
theorem am_gnP : GoodIn (lw_tbl.filter goodWord) am_wsP := by
  intro w hw
  rcases List.mem_cons.mp hw with rfl | h
  · exact ⟨am_q1, am_good am_q1⟩
  · exact ⟨h, am_good h⟩
theorem am_gn1 : GoodIn (lw_tbl.filter goodWord) am_ws1 := by
  intro w hw
  rcases List.mem_cons.mp hw with rfl | h
  · exact ⟨am_q6, am_good am_q6⟩
  · exact ⟨h, am_good h⟩
section CHK
variable {l : Launch}
theorem am_callP {p : Program} {e : Env} {R : Room} {s : State} {m : MethodId} {args : Array Value} {below : List Frame} {meth : Method} {c : Code} {H : Heap} {locs : List Loc} {cells slots : Nat} {Z : State → Prop} {pc : Nat} {ls : Array Slot} {rest st0 : List Value} {a : Array Value} {v : Option Value}
    (hr : va_Run p l e R s m args below meth c H locs cells slots 0 0 (F0 m pc ls st0) rest (am_QP v a) (fun _ => False))
    (kk : W p l e R s m args below meth c H locs cells slots Z (F0 m (pc + 3) ls (v.toList ++ rest))) : W p l e R s m args below meth c H locs cells slots Z (F0 m pc ls st0) := by
  intro T hT X
  obtain ⟨v', st₀, t, T', L, h0, X', hL, e1, e2, ⟨hv, hz⟩, st⟩ := hr T hT X
  have hL0 : L = [] := List.eq_nil_iff_forall_not_mem.mpr hL
  subst hL0
  cases hv
  rw [List.append_nil] at X'
  obtain ⟨t2, a1, b1⟩ := kk T' (e1.trans (hz.trans h0)) X'
  exact ⟨t2, st t2 a1, b1⟩
theorem am_metP {x y : Int32} {v : Value} (h0 : ¬ x < 0) (h1 : x < y) (hv : v = .null ∨ ∃ t, v = .ref t) : Met l am_yP am_wsP { frames := 0, cells := 0, slots := 0, locals := 0 } (va_Pc [.int x, .int y, v] (fun _ => True)) (am_QP (some (.int x))) 0 0 (fun _ => False) := by
  refine Met.ofW (cc := am_bP) (maxL := 3) (ret := some .int) (by decide) rfl ?_
  intro p e s m args below meth c s₁ B hml hv'
  obtain ⟨rfl, -⟩ := hv'
  have hx := B.exec
  have hb := B.bytes
  have hr := B.returns
  have hc1 : v.category = 1 := by rcases hv with rfl | ⟨t, rfl⟩ <;> rfl
  have hl := lv_entry ([.int x, .int y, v]) (n := 3) (by rcases hv with rfl | ⟨t, rfl⟩ <;> simp [lg_sl, Value.category])
  rw [lg_entry_eq]
  generalize (lg_sl ([.int x, .int y, v]) ++ List.replicate (3 - (lg_sl ([.int x, .int y, v])).length) Slot.unset).toArray = ls at hl ⊢
  have hl0 : ls[0]? = some (.val (.int x)) := hl.2.2 (0, .int x) List.mem_cons_self
  have hl1 : ls[1]? = some (.val (.int y)) := hl.2.2 (1, .int y) (List.mem_cons_of_mem _ List.mem_cons_self)
  refine lv_iload_n hx hb am_dP_0 rfl hl0 ?_
  refine lv_if_lt (tgt := 9) hx hb am_dP_1 rfl (fun q => absurd q h0) (fun _ => ?_)
  refine lv_iload_n hx hb am_dP_4 rfl hl0 ?_
  refine lv_iload_n hx hb am_dP_5 rfl hl1 ?_
  refine lv_icmp_lt (tgt := 16) hx hb am_dP_6 rfl (fun _ => ?_) (fun q => absurd h1 q)
  refine lv_iload_n hx hb am_dP_16 rfl hl0 ?_
  exact W.iret hx hb hr (fun t ht _ => ⟨rfl, ht⟩) (fun _ h => absurd h List.not_mem_nil) am_dP_17
theorem am_met1 {G : am_G} {Zc : am_Z} {x y : Int32} (h0 : ¬ x < 0) (h1 : x < y) : Met l am_y1 am_ws1 { frames := 1, cells := 0, slots := 0, locals := 30 } (va_Pc [.int x, .int y] (fun U => am_Cst G Zc U)) (am_QP none) 0 0 (fun _ => False) := by
  refine Met.ofW (cc := am_b1) (maxL := 2) (ret := none) (by decide) rfl ?_
  intro p e s m args below meth c s₁ B hml hv'
  obtain ⟨rfl, hCs⟩ := hv'
  have hx := B.exec
  have hb := B.bytes
  have hr := B.returns
  have hts1 := atoms_spec (ws := am_ws1) B.pre
  have hts : ∀ w ∈ lw_tbl.filter goodWord, w.before _ s = true := fun w hw => hts1 w (List.mem_cons_of_mem _ hw)
  have hown : s.vm.findClass "java/lang/String" = some m.cls := findClass_of_methodNamed B.named
  have hl := lv_entry ([.int x, .int y]) (n := 2) (Nat.le_of_ble_eq_true rfl)
  rw [lg_entry_eq]
  generalize (lg_sl ([.int x, .int y]) ++ List.replicate (2 - (lg_sl ([.int x, .int y])).length) Slot.unset).toArray = ls at hl ⊢
  have hl0 : ls[0]? = some (.val (.int x)) := hl.2.2 (0, .int x) List.mem_cons_self
  have hl1 : ls[1]? = some (.val (.int y)) := hl.2.2 (1, .int y) (List.mem_cons_of_mem _ List.mem_cons_self)
  refine lv_iload_n hx hb am_d1_0 rfl hl0 ?_
  refine lv_iload_n hx hb am_d1_1 rfl hl1 ?_
  obtain ⟨v, hv, hZ⟩ : ∃ v : Value, (v = .null ∨ ∃ t, v = .ref t) ∧ va_Z "jdk/internal/util/Preconditions" "SIOOBE_FORMATTER" "Ljava/util/function/BiFunction;" v (am_A G) s s.heap := by
    rcases hCs.2.2.2.1 with h | ⟨t, h⟩
    · exact ⟨_, Or.inl rfl, h⟩
    · exact ⟨_, Or.inr ⟨t, rfl⟩, h⟩
  refine va_gets hx hb hZ va_S.rf hown (hts _ am_q5) (fun _ h9 => h9) am_d1_2 ?_
  refine am_callP (va_runS (As := [.int x, .int y, v]) (rest := []) ⟨hx, hb, hml, hown, hts⟩ (am_metP h0 h1 hv) ⟨callB_of 3 hts am_gnP rfl rfl rfl (hts _ am_q3) (hts _ am_q4) ⟨by decide +kernel, by decide +kernel, by decide +kernel⟩ ⟨by decide, by decide⟩, hts _ am_q2⟩ ⟨fun _ _ _ _ q => q, fun U _ _ => ⟨rfl, trivial⟩⟩ rfl rfl hl.1 rfl (lv_room (by decide)) am_d1_5 ⟨by decide, by decide⟩) ?_
  refine lv_pop hx hb am_d1_8 rfl ?_
  exact W.vret hx hb hr (fun t ht _ => ⟨rfl, ht⟩) (fun _ h => absurd h List.not_mem_nil) am_d1_9
theorem am_chk {G : am_G} {Zc : am_Z} : am_Chk G Zc l := by
  intro d m pc ix p e R s mid args below meth c H locs lsA Z x y rest cells slots hX hS hsz hd hw hxy hrx hry hc hs hL hdg kk
  have hX' := hX
  obtain ⟨hx, hb, hml, hown, hnm, hts, hK, hCs, hB, hfr, hlo, hbc, hbs⟩ := hX
  have h0 : ¬ Int32.ofInt x < 0 := by
    rw [am_zI, am_ltI hrx ⟨by decide, by decide⟩]
    omega
  have h1 : Int32.ofInt x < Int32.ofInt y := (am_ltI hrx hry).mpr hxy.2
  have hM := am_met1 (l := l) (G := G) (Zc := Zc) h0 h1
  have hp : PreS s H (va_Pc [.int (Int32.ofInt x), .int (Int32.ofInt y)] (fun U => am_Cst G Zc U)) [.int (Int32.ofInt x), .int (Int32.ofInt y)] := by
    refine ⟨?_, fun U hU hW => ⟨rfl, am_Cst.warm hW (fun a q1 q2 => by rw [hU]; exact hS.2.1 a q1 q2) hCs⟩⟩
    intro a U g mk q
    exact ⟨q.1, am_Cst.warm (s := U) (U := U.calling g mk a) (State.WarmedH.refl U) (fun _ _ _ => rfl) q.2⟩
  have hroom : (1 : Nat) + 1 ≤ R.frames ∧ 8 + (2 + 11) + 30 ≤ R.locals := ⟨by omega, by omega⟩
  rcases hL with hL | hL
  · exact am_callP (va_runS (rest := rest) ⟨hx, hb, hml, hown, hts⟩ hM ⟨callB_of 2 hts am_gn1 rfl rfl rfl (hts _ am_q8) (hts _ hL) ⟨by decide +kernel, by decide +kernel, by decide +kernel⟩ hroom, hts _ am_q7⟩ hp rfl rfl hsz rfl (lv_room hw) hdg ⟨by omega, by omega⟩) kk
  · exact am_callP (va_runSN (rest := rest) ⟨hx, hb, hml, hown, hts⟩ hM ⟨va_cnB 2 hts am_gn1 rfl rfl rfl (hCs.2.2.2.2 _ hL) (hts _ am_q8) ⟨by decide +kernel, by decide +kernel, by decide +kernel⟩ hroom, hts _ am_q7, trivial⟩ hp rfl rfl hsz rfl (lv_room hw) hdg ⟨by omega, by omega⟩) kk
end CHK
end
section
theorem am_y0_0 : am_gw (Cond.laysFinal "PatternTrees" "PatternTrees" "form" "LPatternTrees$Form;") := am_g2 115 rfl rfl
theorem am_y0_1 : am_gw (Cond.laysFinal "PatternTrees" "PatternTrees" "values" "LPatternTrees$Terms;") := am_g2 117 rfl rfl
theorem am_y0_2 : am_gw (Cond.laysFinal "PatternTrees" "PatternTrees" "trial" "LPatternTrees$Trial;") := am_g2 119 rfl rfl
theorem am_y0_3 : am_gw (Cond.laysFinal "PatternTrees" "PatternTrees" "search" "LPatternTrees$Search;") := am_g2 121 rfl rfl
theorem am_y0_4 : am_gw (Cond.lays "PatternTrees" "PatternTrees" "rules" "LPatternTrees$Rules;") := am_g2 123 rfl rfl
theorem am_y0_5 : am_gw (Cond.lays "PatternTrees" "PatternTrees" "spare" "LPatternTrees$Rules;") := am_g2 125 rfl rfl
theorem am_y0_6 : am_gw (Cond.lays "PatternTrees" "PatternTrees" "hasSet" "Z") := am_g2 127 rfl rfl
theorem am_y0_7 : am_gw (Cond.lays "PatternTrees" "PatternTrees" "fault" "I") := am_g2 129 rfl rfl
set_option maxRecDepth 20000 in
theorem am_kw0 : ∀ k, k < 8 → am_gw (u_lay "PatternTrees" am_T0 k) := fun k hk => match k, hk with
  | 0, _ => am_y0_0
  | 1, _ => am_y0_1
  | 2, _ => am_y0_2
  | 3, _ => am_y0_3
  | 4, _ => am_y0_4
  | 5, _ => am_y0_5
  | 6, _ => am_y0_6
  | 7, _ => am_y0_7
  | k + 8, hk => absurd hk (by omega)
set_option maxRecDepth 20000 in
theorem am_kr0 : ∀ k, k < 8 → am_rcT (match am_fty 0 k with | 0 => 1 | 1 => 4 | t => t) (some (am_ft 0 k)) ∧ am_fty 0 k ≤ 3 := fun k hk => match k, hk with
  | 0, _ => ⟨⟨_, rfl, Or.inl ⟨_, rfl⟩⟩, by decide⟩
  | 1, _ => ⟨⟨_, rfl, Or.inl ⟨_, rfl⟩⟩, by decide⟩
  | 2, _ => ⟨⟨_, rfl, Or.inl ⟨_, rfl⟩⟩, by decide⟩
  | 3, _ => ⟨⟨_, rfl, Or.inl ⟨_, rfl⟩⟩, by decide⟩
  | 4, _ => ⟨⟨_, rfl, Or.inl ⟨_, rfl⟩⟩, by decide⟩
  | 5, _ => ⟨⟨_, rfl, Or.inl ⟨_, rfl⟩⟩, by decide⟩
  | 6, _ => ⟨rfl, by decide⟩
  | 7, _ => ⟨rfl, by decide⟩
  | k + 8, hk => absurd hk (by omega)
theorem am_kp0 : ∀ k, k < 8 → parseFieldDescriptor (am_T0 k).2.2.1 = some (am_ft 0 k) := by decide +kernel
theorem am_kd0 : ∀ a, a < 8 → ∀ b, b < 8 → a ≠ b → (am_T0 a).2.1 ≠ (am_T0 b).2.1 := by decide +kernel
theorem am_kc0 : am_okK 0 ("PatternTrees", am_T0, 8) := ⟨fun w hw => by
    obtain ⟨k, hk, rfl⟩ := List.mem_map.mp hw
    exact am_kw0 k (List.mem_range.mp hk), am_kp0, am_kd0, am_kr0⟩
theorem am_y1_0 : am_gw (Cond.laysFinal "PatternTreesModel" "PatternTreesModel" "tape" "[B") := am_g4 227 rfl rfl
theorem am_y1_1 : am_gw (Cond.lays "PatternTreesModel" "PatternTreesModel" "size" "I") := am_g4 229 rfl rfl
theorem am_y1_2 : am_gw (Cond.lays "PatternTreesModel" "PatternTreesModel" "place" "I") := am_g4 231 rfl rfl
theorem am_y1_3 : am_gw (Cond.lays "PatternTreesModel" "PatternTreesModel" "tokens" "I") := am_g4 233 rfl rfl
theorem am_y1_4 : am_gw (Cond.laysFinal "PatternTreesModel" "PatternTreesModel" "sorts" "[I") := am_g4 235 rfl rfl
theorem am_y1_5 : am_gw (Cond.laysFinal "PatternTreesModel" "PatternTreesModel" "places" "[I") := am_g4 237 rfl rfl
theorem am_y1_6 : am_gw (Cond.laysFinal "PatternTreesModel" "PatternTreesModel" "whats" "[J") := am_g4 239 rfl rfl
theorem am_y1_7 : am_gw (Cond.lays "PatternTreesModel" "PatternTreesModel" "at" "I") := am_g5 1 rfl rfl
theorem am_y1_8 : am_gw (Cond.lays "PatternTreesModel" "PatternTreesModel" "bad" "Z") := am_g5 3 rfl rfl
theorem am_y1_9 : am_gw (Cond.lays "PatternTreesModel" "PatternTreesModel" "badPlace" "I") := am_g5 5 rfl rfl
theorem am_y1_10 : am_gw (Cond.lays "PatternTreesModel" "PatternTreesModel" "formPats" "I") := am_g5 7 rfl rfl
theorem am_y1_11 : am_gw (Cond.lays "PatternTreesModel" "PatternTreesModel" "rowStart" "I") := am_g5 9 rfl rfl
theorem am_y1_12 : am_gw (Cond.laysFinal "PatternTreesModel" "PatternTreesModel" "open" "[I") := am_g5 11 rfl rfl
theorem am_y1_13 : am_gw (Cond.lays "PatternTreesModel" "PatternTreesModel" "opened" "I") := am_g5 13 rfl rfl
theorem am_y1_14 : am_gw (Cond.lays "PatternTreesModel" "PatternTreesModel" "set" "I") := am_g5 15 rfl rfl
theorem am_y1_15 : am_gw (Cond.laysFinal "PatternTreesModel" "PatternTreesModel" "typeKinds" "[I") := am_g5 17 rfl rfl
theorem am_y1_16 : am_gw (Cond.laysFinal "PatternTreesModel" "PatternTreesModel" "typeCounts" "[I") := am_g5 19 rfl rfl
theorem am_y1_17 : am_gw (Cond.laysFinal "PatternTreesModel" "PatternTreesModel" "conCounts" "[I") := am_g5 21 rfl rfl
theorem am_y1_18 : am_gw (Cond.laysFinal "PatternTreesModel" "PatternTreesModel" "conNames" "[J") := am_g5 23 rfl rfl
theorem am_y1_19 : am_gw (Cond.laysFinal "PatternTreesModel" "PatternTreesModel" "conTypes" "[I") := am_g5 25 rfl rfl
theorem am_y1_20 : am_gw (Cond.laysFinal "PatternTreesModel" "PatternTreesModel" "conWide" "[I") := am_g5 27 rfl rfl
theorem am_y1_21 : am_gw (Cond.laysFinal "PatternTreesModel" "PatternTreesModel" "conArgs" "[I") := am_g5 29 rfl rfl
theorem am_y1_22 : am_gw (Cond.laysFinal "PatternTreesModel" "PatternTreesModel" "columnCounts" "[I") := am_g5 31 rfl rfl
theorem am_y1_23 : am_gw (Cond.laysFinal "PatternTreesModel" "PatternTreesModel" "columns" "[I") := am_g5 33 rfl rfl
theorem am_y1_24 : am_gw (Cond.laysFinal "PatternTreesModel" "PatternTreesModel" "rowCounts" "[I") := am_g5 35 rfl rfl
theorem am_y1_25 : am_gw (Cond.laysFinal "PatternTreesModel" "PatternTreesModel" "patCounts" "[I") := am_g5 37 rfl rfl
theorem am_y1_26 : am_gw (Cond.laysFinal "PatternTreesModel" "PatternTreesModel" "guarded" "[Z") := am_g5 39 rfl rfl
theorem am_y1_27 : am_gw (Cond.laysFinal "PatternTreesModel" "PatternTreesModel" "actCounts" "[I") := am_g5 41 rfl rfl
theorem am_y1_28 : am_gw (Cond.laysFinal "PatternTreesModel" "PatternTreesModel" "actPlaces" "[I") := am_g5 43 rfl rfl
theorem am_y1_29 : am_gw (Cond.laysFinal "PatternTreesModel" "PatternTreesModel" "actWhats" "[I") := am_g5 45 rfl rfl
theorem am_y1_30 : am_gw (Cond.laysFinal "PatternTreesModel" "PatternTreesModel" "frameCons" "[I") := am_g5 47 rfl rfl
theorem am_y1_31 : am_gw (Cond.laysFinal "PatternTreesModel" "PatternTreesModel" "frameCounts" "[I") := am_g5 49 rfl rfl
theorem am_y1_32 : am_gw (Cond.laysFinal "PatternTreesModel" "PatternTreesModel" "framePlaces" "[I") := am_g5 51 rfl rfl
theorem am_y1_33 : am_gw (Cond.lays "PatternTreesModel" "PatternTreesModel" "frames" "I") := am_g5 53 rfl rfl
theorem am_y1_34 : am_gw (Cond.lays "PatternTreesModel" "PatternTreesModel" "wantedType" "I") := am_g5 55 rfl rfl
theorem am_y1_35 : am_gw (Cond.lays "PatternTreesModel" "PatternTreesModel" "wantedPlace" "I") := am_g5 57 rfl rfl
theorem am_y1_36 : am_gw (Cond.lays "PatternTreesModel" "PatternTreesModel" "lazy" "Z") := am_g5 59 rfl rfl
theorem am_y1_37 : am_gw (Cond.lays "PatternTreesModel" "PatternTreesModel" "lazyFrames" "I") := am_g5 61 rfl rfl
theorem am_y1_38 : am_gw (Cond.laysFinal "PatternTreesModel" "PatternTreesModel" "values" "[I") := am_g5 63 rfl rfl
theorem am_y1_39 : am_gw (Cond.laysFinal "PatternTreesModel" "PatternTreesModel" "wasLooked" "[Z") := am_g5 65 rfl rfl
theorem am_y1_40 : am_gw (Cond.lays "PatternTreesModel" "PatternTreesModel" "lookCount" "I") := am_g5 67 rfl rfl
theorem am_y1_41 : am_gw (Cond.laysFinal "PatternTreesModel" "PatternTreesModel" "looks" "[I") := am_g5 69 rfl rfl
theorem am_y1_42 : am_gw (Cond.laysFinal "PatternTreesModel" "PatternTreesModel" "known" "[I") := am_g5 71 rfl rfl
theorem am_y1_43 : am_gw (Cond.lays "PatternTreesModel" "PatternTreesModel" "found" "Z") := am_g5 73 rfl rfl
theorem am_y1_44 : am_gw (Cond.laysFinal "PatternTreesModel" "PatternTreesModel" "nevers" "[I") := am_g5 75 rfl rfl
theorem am_y1_45 : am_gw (Cond.laysFinal "PatternTreesModel" "PatternTreesModel" "asked" "[I") := am_g5 77 rfl rfl
theorem am_y1_46 : am_gw (Cond.laysFinal "PatternTreesModel" "PatternTreesModel" "askedWhats" "[I") := am_g5 79 rfl rfl
theorem am_y1_47 : am_gw (Cond.lays "PatternTreesModel" "PatternTreesModel" "askedCount" "I") := am_g5 81 rfl rfl
theorem am_y1_48 : am_gw (Cond.laysFinal "PatternTreesModel" "PatternTreesModel" "givens" "[I") := am_g5 83 rfl rfl
theorem am_y1_49 : am_gw (Cond.lays "PatternTreesModel" "PatternTreesModel" "givenCount" "I") := am_g5 85 rfl rfl
theorem am_y1_50 : am_gw (Cond.lays "PatternTreesModel" "PatternTreesModel" "ahead" "I") := am_g5 87 rfl rfl
theorem am_y1_51 : am_gw (Cond.laysFinal "PatternTreesModel" "PatternTreesModel" "askedNumbers" "[Z") := am_g5 89 rfl rfl
theorem am_y1_52 : am_gw (Cond.laysFinal "PatternTreesModel" "PatternTreesModel" "askedOther" "[Z") := am_g5 91 rfl rfl
theorem am_y1_53 : am_gw (Cond.laysFinal "PatternTreesModel" "PatternTreesModel" "example" "[B") := am_g5 93 rfl rfl
theorem am_y1_54 : am_gw (Cond.lays "PatternTreesModel" "PatternTreesModel" "exampleSize" "I") := am_g5 95 rfl rfl
theorem am_y1_55 : am_gw (Cond.laysFinal "PatternTreesModel" "PatternTreesModel" "todo" "[I") := am_g5 97 rfl rfl
theorem am_y1_56 : am_gw (Cond.laysFinal "PatternTreesModel" "PatternTreesModel" "todoTypes" "[I") := am_g5 99 rfl rfl
theorem am_y1_57 : am_gw (Cond.lays "PatternTreesModel" "PatternTreesModel" "todoCount" "I") := am_g5 101 rfl rfl
set_option maxRecDepth 20000 in
theorem am_kw1 : ∀ k, k < 58 → am_gw (u_lay "PatternTreesModel" am_T1 k) := fun k hk => match k, hk with
  | 0, _ => am_y1_0
  | 1, _ => am_y1_1
  | 2, _ => am_y1_2
  | 3, _ => am_y1_3
  | 4, _ => am_y1_4
  | 5, _ => am_y1_5
  | 6, _ => am_y1_6
  | 7, _ => am_y1_7
  | 8, _ => am_y1_8
  | 9, _ => am_y1_9
  | 10, _ => am_y1_10
  | 11, _ => am_y1_11
  | 12, _ => am_y1_12
  | 13, _ => am_y1_13
  | 14, _ => am_y1_14
  | 15, _ => am_y1_15
  | 16, _ => am_y1_16
  | 17, _ => am_y1_17
  | 18, _ => am_y1_18
  | 19, _ => am_y1_19
  | 20, _ => am_y1_20
  | 21, _ => am_y1_21
  | 22, _ => am_y1_22
  | 23, _ => am_y1_23
  | 24, _ => am_y1_24
  | 25, _ => am_y1_25
  | 26, _ => am_y1_26
  | 27, _ => am_y1_27
  | 28, _ => am_y1_28
  | 29, _ => am_y1_29
  | 30, _ => am_y1_30
  | 31, _ => am_y1_31
  | 32, _ => am_y1_32
  | 33, _ => am_y1_33
  | 34, _ => am_y1_34
  | 35, _ => am_y1_35
  | 36, _ => am_y1_36
  | 37, _ => am_y1_37
  | 38, _ => am_y1_38
  | 39, _ => am_y1_39
  | 40, _ => am_y1_40
  | 41, _ => am_y1_41
  | 42, _ => am_y1_42
  | 43, _ => am_y1_43
  | 44, _ => am_y1_44
  | 45, _ => am_y1_45
  | 46, _ => am_y1_46
  | 47, _ => am_y1_47
  | 48, _ => am_y1_48
  | 49, _ => am_y1_49
  | 50, _ => am_y1_50
  | 51, _ => am_y1_51
  | 52, _ => am_y1_52
  | 53, _ => am_y1_53
  | 54, _ => am_y1_54
  | 55, _ => am_y1_55
  | 56, _ => am_y1_56
  | 57, _ => am_y1_57
  | k + 58, hk => absurd hk (by omega)
set_option maxRecDepth 20000 in
theorem am_kr1 : ∀ k, k < 58 → am_rcT (match am_fty 1 k with | 0 => 1 | 1 => 4 | t => t) (some (am_ft 1 k)) ∧ am_fty 1 k ≤ 3 := fun k hk => match k, hk with
  | 0, _ => ⟨⟨_, rfl, Or.inr ⟨_, rfl⟩⟩, by decide⟩
  | 1, _ => ⟨rfl, by decide⟩
  | 2, _ => ⟨rfl, by decide⟩
  | 3, _ => ⟨rfl, by decide⟩
  | 4, _ => ⟨⟨_, rfl, Or.inr ⟨_, rfl⟩⟩, by decide⟩
  | 5, _ => ⟨⟨_, rfl, Or.inr ⟨_, rfl⟩⟩, by decide⟩
  | 6, _ => ⟨⟨_, rfl, Or.inr ⟨_, rfl⟩⟩, by decide⟩
  | 7, _ => ⟨rfl, by decide⟩
  | 8, _ => ⟨rfl, by decide⟩
  | 9, _ => ⟨rfl, by decide⟩
  | 10, _ => ⟨rfl, by decide⟩
  | 11, _ => ⟨rfl, by decide⟩
  | 12, _ => ⟨⟨_, rfl, Or.inr ⟨_, rfl⟩⟩, by decide⟩
  | 13, _ => ⟨rfl, by decide⟩
  | 14, _ => ⟨rfl, by decide⟩
  | 15, _ => ⟨⟨_, rfl, Or.inr ⟨_, rfl⟩⟩, by decide⟩
  | 16, _ => ⟨⟨_, rfl, Or.inr ⟨_, rfl⟩⟩, by decide⟩
  | 17, _ => ⟨⟨_, rfl, Or.inr ⟨_, rfl⟩⟩, by decide⟩
  | 18, _ => ⟨⟨_, rfl, Or.inr ⟨_, rfl⟩⟩, by decide⟩
  | 19, _ => ⟨⟨_, rfl, Or.inr ⟨_, rfl⟩⟩, by decide⟩
  | 20, _ => ⟨⟨_, rfl, Or.inr ⟨_, rfl⟩⟩, by decide⟩
  | 21, _ => ⟨⟨_, rfl, Or.inr ⟨_, rfl⟩⟩, by decide⟩
  | 22, _ => ⟨⟨_, rfl, Or.inr ⟨_, rfl⟩⟩, by decide⟩
  | 23, _ => ⟨⟨_, rfl, Or.inr ⟨_, rfl⟩⟩, by decide⟩
  | 24, _ => ⟨⟨_, rfl, Or.inr ⟨_, rfl⟩⟩, by decide⟩
  | 25, _ => ⟨⟨_, rfl, Or.inr ⟨_, rfl⟩⟩, by decide⟩
  | 26, _ => ⟨⟨_, rfl, Or.inr ⟨_, rfl⟩⟩, by decide⟩
  | 27, _ => ⟨⟨_, rfl, Or.inr ⟨_, rfl⟩⟩, by decide⟩
  | 28, _ => ⟨⟨_, rfl, Or.inr ⟨_, rfl⟩⟩, by decide⟩
  | 29, _ => ⟨⟨_, rfl, Or.inr ⟨_, rfl⟩⟩, by decide⟩
  | 30, _ => ⟨⟨_, rfl, Or.inr ⟨_, rfl⟩⟩, by decide⟩
  | 31, _ => ⟨⟨_, rfl, Or.inr ⟨_, rfl⟩⟩, by decide⟩
  | 32, _ => ⟨⟨_, rfl, Or.inr ⟨_, rfl⟩⟩, by decide⟩
  | 33, _ => ⟨rfl, by decide⟩
  | 34, _ => ⟨rfl, by decide⟩
  | 35, _ => ⟨rfl, by decide⟩
  | 36, _ => ⟨rfl, by decide⟩
  | 37, _ => ⟨rfl, by decide⟩
  | 38, _ => ⟨⟨_, rfl, Or.inr ⟨_, rfl⟩⟩, by decide⟩
  | 39, _ => ⟨⟨_, rfl, Or.inr ⟨_, rfl⟩⟩, by decide⟩
  | 40, _ => ⟨rfl, by decide⟩
  | 41, _ => ⟨⟨_, rfl, Or.inr ⟨_, rfl⟩⟩, by decide⟩
  | 42, _ => ⟨⟨_, rfl, Or.inr ⟨_, rfl⟩⟩, by decide⟩
  | 43, _ => ⟨rfl, by decide⟩
  | 44, _ => ⟨⟨_, rfl, Or.inr ⟨_, rfl⟩⟩, by decide⟩
  | 45, _ => ⟨⟨_, rfl, Or.inr ⟨_, rfl⟩⟩, by decide⟩
  | 46, _ => ⟨⟨_, rfl, Or.inr ⟨_, rfl⟩⟩, by decide⟩
  | 47, _ => ⟨rfl, by decide⟩
  | 48, _ => ⟨⟨_, rfl, Or.inr ⟨_, rfl⟩⟩, by decide⟩
  | 49, _ => ⟨rfl, by decide⟩
  | 50, _ => ⟨rfl, by decide⟩
  | 51, _ => ⟨⟨_, rfl, Or.inr ⟨_, rfl⟩⟩, by decide⟩
  | 52, _ => ⟨⟨_, rfl, Or.inr ⟨_, rfl⟩⟩, by decide⟩
  | 53, _ => ⟨⟨_, rfl, Or.inr ⟨_, rfl⟩⟩, by decide⟩
  | 54, _ => ⟨rfl, by decide⟩
  | 55, _ => ⟨⟨_, rfl, Or.inr ⟨_, rfl⟩⟩, by decide⟩
  | 56, _ => ⟨⟨_, rfl, Or.inr ⟨_, rfl⟩⟩, by decide⟩
  | 57, _ => ⟨rfl, by decide⟩
  | k + 58, hk => absurd hk (by omega)
theorem am_kp1 : ∀ k, k < 58 → parseFieldDescriptor (am_T1 k).2.2.1 = some (am_ft 1 k) := by decide +kernel
theorem am_kd1 : ∀ a, a < 58 → ∀ b, b < 58 → a ≠ b → (am_T1 a).2.1 ≠ (am_T1 b).2.1 := by decide +kernel
theorem am_kc1 : am_okK 1 ("PatternTreesModel", am_T1, 58) := ⟨fun w hw => by
    obtain ⟨k, hk, rfl⟩ := List.mem_map.mp hw
    exact am_kw1 k (List.mem_range.mp hk), am_kp1, am_kd1, am_kr1⟩
theorem am_y2_0 : am_gw (Cond.lays "PatternTrees$Asks" "PatternTrees$Asks" "spots" "I") := am_g1 194 rfl rfl
theorem am_y2_1 : am_gw (Cond.lays "PatternTrees$Asks" "PatternTrees$Asks" "count" "I") := am_g1 196 rfl rfl
theorem am_y2_2 : am_gw (Cond.laysFinal "PatternTrees$Asks" "PatternTrees$Asks" "spotPlace" "[I") := am_g1 198 rfl rfl
theorem am_y2_3 : am_gw (Cond.laysFinal "PatternTrees$Asks" "PatternTrees$Asks" "spot" "[I") := am_g1 200 rfl rfl
theorem am_y2_4 : am_gw (Cond.laysFinal "PatternTrees$Asks" "PatternTrees$Asks" "answer" "[I") := am_g1 202 rfl rfl
theorem am_y2_5 : am_gw (Cond.laysFinal "PatternTrees$Asks" "PatternTrees$Asks" "begin" "[I") := am_g1 204 rfl rfl
theorem am_y2_6 : am_gw (Cond.laysFinal "PatternTrees$Asks" "PatternTrees$Asks" "wanted" "[I") := am_g1 206 rfl rfl
set_option maxRecDepth 20000 in
theorem am_kw2 : ∀ k, k < 7 → am_gw (u_lay "PatternTrees$Asks" am_T2 k) := fun k hk => match k, hk with
  | 0, _ => am_y2_0
  | 1, _ => am_y2_1
  | 2, _ => am_y2_2
  | 3, _ => am_y2_3
  | 4, _ => am_y2_4
  | 5, _ => am_y2_5
  | 6, _ => am_y2_6
  | k + 7, hk => absurd hk (by omega)
set_option maxRecDepth 20000 in
theorem am_kr2 : ∀ k, k < 7 → am_rcT (match am_fty 2 k with | 0 => 1 | 1 => 4 | t => t) (some (am_ft 2 k)) ∧ am_fty 2 k ≤ 3 := fun k hk => match k, hk with
  | 0, _ => ⟨rfl, by decide⟩
  | 1, _ => ⟨rfl, by decide⟩
  | 2, _ => ⟨⟨_, rfl, Or.inr ⟨_, rfl⟩⟩, by decide⟩
  | 3, _ => ⟨⟨_, rfl, Or.inr ⟨_, rfl⟩⟩, by decide⟩
  | 4, _ => ⟨⟨_, rfl, Or.inr ⟨_, rfl⟩⟩, by decide⟩
  | 5, _ => ⟨⟨_, rfl, Or.inr ⟨_, rfl⟩⟩, by decide⟩
  | 6, _ => ⟨⟨_, rfl, Or.inr ⟨_, rfl⟩⟩, by decide⟩
  | k + 7, hk => absurd hk (by omega)
theorem am_kp2 : ∀ k, k < 7 → parseFieldDescriptor (am_T2 k).2.2.1 = some (am_ft 2 k) := by decide +kernel
theorem am_kd2 : ∀ a, a < 7 → ∀ b, b < 7 → a ≠ b → (am_T2 a).2.1 ≠ (am_T2 b).2.1 := by decide +kernel
theorem am_kc2 : am_okK 2 ("PatternTrees$Asks", am_T2, 7) := ⟨fun w hw => by
    obtain ⟨k, hk, rfl⟩ := List.mem_map.mp hw
    exact am_kw2 k (List.mem_range.mp hk), am_kp2, am_kd2, am_kr2⟩
theorem am_y3_0 : am_gw (Cond.laysFinal "PatternTrees$Form" "PatternTrees$Form" "tokens" "LPatternTrees$Tokens;") := am_g1 69 rfl rfl
set_option maxRecDepth 20000 in
theorem am_kw3 : ∀ k, k < 1 → am_gw (u_lay "PatternTrees$Form" am_T3 k) := fun k hk => match k, hk with
  | 0, _ => am_y3_0
  | k + 1, hk => absurd hk (by omega)
set_option maxRecDepth 20000 in
theorem am_kr3 : ∀ k, k < 1 → am_rcT (match am_fty 3 k with | 0 => 1 | 1 => 4 | t => t) (some (am_ft 3 k)) ∧ am_fty 3 k ≤ 3 := fun k hk => match k, hk with
  | 0, _ => ⟨⟨_, rfl, Or.inl ⟨_, rfl⟩⟩, by decide⟩
  | k + 1, hk => absurd hk (by omega)
theorem am_kp3 : ∀ k, k < 1 → parseFieldDescriptor (am_T3 k).2.2.1 = some (am_ft 3 k) := by decide +kernel
theorem am_kd3 : ∀ a, a < 1 → ∀ b, b < 1 → a ≠ b → (am_T3 a).2.1 ≠ (am_T3 b).2.1 := by decide +kernel
theorem am_kc3 : am_okK 3 ("PatternTrees$Form", am_T3, 1) := ⟨fun w hw => by
    obtain ⟨k, hk, rfl⟩ := List.mem_map.mp hw
    exact am_kw3 k (List.mem_range.mp hk), am_kp3, am_kd3, am_kr3⟩
theorem am_y4_0 : am_gw (Cond.lays "PatternTrees$Line" "PatternTrees$Line" "length" "I") := am_g1 173 rfl rfl
theorem am_y4_1 : am_gw (Cond.laysFinal "PatternTrees$Line" "PatternTrees$Line" "bytes" "[I") := am_g1 175 rfl rfl
set_option maxRecDepth 20000 in
theorem am_kw4 : ∀ k, k < 2 → am_gw (u_lay "PatternTrees$Line" am_T4 k) := fun k hk => match k, hk with
  | 0, _ => am_y4_0
  | 1, _ => am_y4_1
  | k + 2, hk => absurd hk (by omega)
set_option maxRecDepth 20000 in
theorem am_kr4 : ∀ k, k < 2 → am_rcT (match am_fty 4 k with | 0 => 1 | 1 => 4 | t => t) (some (am_ft 4 k)) ∧ am_fty 4 k ≤ 3 := fun k hk => match k, hk with
  | 0, _ => ⟨rfl, by decide⟩
  | 1, _ => ⟨⟨_, rfl, Or.inr ⟨_, rfl⟩⟩, by decide⟩
  | k + 2, hk => absurd hk (by omega)
theorem am_kp4 : ∀ k, k < 2 → parseFieldDescriptor (am_T4 k).2.2.1 = some (am_ft 4 k) := by decide +kernel
theorem am_kd4 : ∀ a, a < 2 → ∀ b, b < 2 → a ≠ b → (am_T4 a).2.1 ≠ (am_T4 b).2.1 := by decide +kernel
theorem am_kc4 : am_okK 4 ("PatternTrees$Line", am_T4, 2) := ⟨fun w hw => by
    obtain ⟨k, hk, rfl⟩ := List.mem_map.mp hw
    exact am_kw4 k (List.mem_range.mp hk), am_kp4, am_kd4, am_kr4⟩
theorem am_y5_0 : am_gw (Cond.laysFinal "PatternTrees$Rules" "PatternTrees$Rules" "types" "LPatternTrees$Types;") := am_g2 86 rfl rfl
theorem am_y5_1 : am_gw (Cond.laysFinal "PatternTrees$Rules" "PatternTrees$Rules" "pats" "LPatternTrees$Terms;") := am_g2 88 rfl rfl
theorem am_y5_2 : am_gw (Cond.lays "PatternTrees$Rules" "PatternTrees$Rules" "columns" "I") := am_g2 90 rfl rfl
theorem am_y5_3 : am_gw (Cond.lays "PatternTrees$Rules" "PatternTrees$Rules" "rows" "I") := am_g2 92 rfl rfl
theorem am_y5_4 : am_gw (Cond.lays "PatternTrees$Rules" "PatternTrees$Rules" "plainRows" "I") := am_g2 94 rfl rfl
theorem am_y5_5 : am_gw (Cond.laysFinal "PatternTrees$Rules" "PatternTrees$Rules" "head" "[I") := am_g2 96 rfl rfl
theorem am_y5_6 : am_gw (Cond.laysFinal "PatternTrees$Rules" "PatternTrees$Rules" "columnType" "[I") := am_g2 98 rfl rfl
theorem am_y5_7 : am_gw (Cond.laysFinal "PatternTrees$Rules" "PatternTrees$Rules" "columnLetter" "[I") := am_g2 100 rfl rfl
theorem am_y5_8 : am_gw (Cond.laysFinal "PatternTrees$Rules" "PatternTrees$Rules" "columnAt" "[I") := am_g2 102 rfl rfl
theorem am_y5_9 : am_gw (Cond.laysFinal "PatternTrees$Rules" "PatternTrees$Rules" "endAt" "[I") := am_g2 104 rfl rfl
set_option maxRecDepth 20000 in
theorem am_kw5 : ∀ k, k < 10 → am_gw (u_lay "PatternTrees$Rules" am_T5 k) := fun k hk => match k, hk with
  | 0, _ => am_y5_0
  | 1, _ => am_y5_1
  | 2, _ => am_y5_2
  | 3, _ => am_y5_3
  | 4, _ => am_y5_4
  | 5, _ => am_y5_5
  | 6, _ => am_y5_6
  | 7, _ => am_y5_7
  | 8, _ => am_y5_8
  | 9, _ => am_y5_9
  | k + 10, hk => absurd hk (by omega)
set_option maxRecDepth 20000 in
theorem am_kr5 : ∀ k, k < 10 → am_rcT (match am_fty 5 k with | 0 => 1 | 1 => 4 | t => t) (some (am_ft 5 k)) ∧ am_fty 5 k ≤ 3 := fun k hk => match k, hk with
  | 0, _ => ⟨⟨_, rfl, Or.inl ⟨_, rfl⟩⟩, by decide⟩
  | 1, _ => ⟨⟨_, rfl, Or.inl ⟨_, rfl⟩⟩, by decide⟩
  | 2, _ => ⟨rfl, by decide⟩
  | 3, _ => ⟨rfl, by decide⟩
  | 4, _ => ⟨rfl, by decide⟩
  | 5, _ => ⟨⟨_, rfl, Or.inr ⟨_, rfl⟩⟩, by decide⟩
  | 6, _ => ⟨⟨_, rfl, Or.inr ⟨_, rfl⟩⟩, by decide⟩
  | 7, _ => ⟨⟨_, rfl, Or.inr ⟨_, rfl⟩⟩, by decide⟩
  | 8, _ => ⟨⟨_, rfl, Or.inr ⟨_, rfl⟩⟩, by decide⟩
  | 9, _ => ⟨⟨_, rfl, Or.inr ⟨_, rfl⟩⟩, by decide⟩
  | k + 10, hk => absurd hk (by omega)
theorem am_kp5 : ∀ k, k < 10 → parseFieldDescriptor (am_T5 k).2.2.1 = some (am_ft 5 k) := by decide +kernel
theorem am_kd5 : ∀ a, a < 10 → ∀ b, b < 10 → a ≠ b → (am_T5 a).2.1 ≠ (am_T5 b).2.1 := by decide +kernel
theorem am_kc5 : am_okK 5 ("PatternTrees$Rules", am_T5, 10) := ⟨fun w hw => by
    obtain ⟨k, hk, rfl⟩ := List.mem_map.mp hw
    exact am_kw5 k (List.mem_range.mp hk), am_kp5, am_kd5, am_kr5⟩
theorem am_y6_0 : am_gw (Cond.laysFinal "PatternTrees$Search" "PatternTrees$Search" "line" "LPatternTrees$Line;") := am_g1 214 rfl rfl
theorem am_y6_1 : am_gw (Cond.laysFinal "PatternTrees$Search" "PatternTrees$Search" "asks" "LPatternTrees$Asks;") := am_g1 216 rfl rfl
theorem am_y6_2 : am_gw (Cond.laysFinal "PatternTrees$Search" "PatternTrees$Search" "settled" "[I") := am_g1 218 rfl rfl
theorem am_y6_3 : am_gw (Cond.lays "PatternTrees$Search" "PatternTrees$Search" "exampleSought" "Z") := am_g1 220 rfl rfl
set_option maxRecDepth 20000 in
theorem am_kw6 : ∀ k, k < 4 → am_gw (u_lay "PatternTrees$Search" am_T6 k) := fun k hk => match k, hk with
  | 0, _ => am_y6_0
  | 1, _ => am_y6_1
  | 2, _ => am_y6_2
  | 3, _ => am_y6_3
  | k + 4, hk => absurd hk (by omega)
set_option maxRecDepth 20000 in
theorem am_kr6 : ∀ k, k < 4 → am_rcT (match am_fty 6 k with | 0 => 1 | 1 => 4 | t => t) (some (am_ft 6 k)) ∧ am_fty 6 k ≤ 3 := fun k hk => match k, hk with
  | 0, _ => ⟨⟨_, rfl, Or.inl ⟨_, rfl⟩⟩, by decide⟩
  | 1, _ => ⟨⟨_, rfl, Or.inl ⟨_, rfl⟩⟩, by decide⟩
  | 2, _ => ⟨⟨_, rfl, Or.inr ⟨_, rfl⟩⟩, by decide⟩
  | 3, _ => ⟨rfl, by decide⟩
  | k + 4, hk => absurd hk (by omega)
theorem am_kp6 : ∀ k, k < 4 → parseFieldDescriptor (am_T6 k).2.2.1 = some (am_ft 6 k) := by decide +kernel
theorem am_kd6 : ∀ a, a < 4 → ∀ b, b < 4 → a ≠ b → (am_T6 a).2.1 ≠ (am_T6 b).2.1 := by decide +kernel
theorem am_kc6 : am_okK 6 ("PatternTrees$Search", am_T6, 4) := ⟨fun w hw => by
    obtain ⟨k, hk, rfl⟩ := List.mem_map.mp hw
    exact am_kw6 k (List.mem_range.mp hk), am_kp6, am_kd6, am_kr6⟩
theorem am_y7_0 : am_gw (Cond.lays "PatternTrees$Terms" "PatternTrees$Terms" "count" "I") := am_g1 119 rfl rfl
theorem am_y7_1 : am_gw (Cond.lays "PatternTrees$Terms" "PatternTrees$Terms" "head" "I") := am_g1 121 rfl rfl
theorem am_y7_2 : am_gw (Cond.laysFinal "PatternTrees$Terms" "PatternTrees$Terms" "kind" "[I") := am_g1 123 rfl rfl
theorem am_y7_3 : am_gw (Cond.laysFinal "PatternTrees$Terms" "PatternTrees$Terms" "at" "[I") := am_g1 125 rfl rfl
theorem am_y7_4 : am_gw (Cond.laysFinal "PatternTrees$Terms" "PatternTrees$Terms" "nameAt" "[I") := am_g1 127 rfl rfl
theorem am_y7_5 : am_gw (Cond.laysFinal "PatternTrees$Terms" "PatternTrees$Terms" "closeAt" "[I") := am_g1 129 rfl rfl
theorem am_y7_6 : am_gw (Cond.laysFinal "PatternTrees$Terms" "PatternTrees$Terms" "name" "[J") := am_g1 131 rfl rfl
theorem am_y7_7 : am_gw (Cond.laysFinal "PatternTrees$Terms" "PatternTrees$Terms" "number" "[I") := am_g1 133 rfl rfl
theorem am_y7_8 : am_gw (Cond.laysFinal "PatternTrees$Terms" "PatternTrees$Terms" "con" "[I") := am_g1 135 rfl rfl
theorem am_y7_9 : am_gw (Cond.laysFinal "PatternTrees$Terms" "PatternTrees$Terms" "first" "[I") := am_g1 137 rfl rfl
theorem am_y7_10 : am_gw (Cond.laysFinal "PatternTrees$Terms" "PatternTrees$Terms" "next" "[I") := am_g1 139 rfl rfl
set_option maxRecDepth 20000 in
theorem am_kw7 : ∀ k, k < 11 → am_gw (u_lay "PatternTrees$Terms" am_T7 k) := fun k hk => match k, hk with
  | 0, _ => am_y7_0
  | 1, _ => am_y7_1
  | 2, _ => am_y7_2
  | 3, _ => am_y7_3
  | 4, _ => am_y7_4
  | 5, _ => am_y7_5
  | 6, _ => am_y7_6
  | 7, _ => am_y7_7
  | 8, _ => am_y7_8
  | 9, _ => am_y7_9
  | 10, _ => am_y7_10
  | k + 11, hk => absurd hk (by omega)
set_option maxRecDepth 20000 in
theorem am_kr7 : ∀ k, k < 11 → am_rcT (match am_fty 7 k with | 0 => 1 | 1 => 4 | t => t) (some (am_ft 7 k)) ∧ am_fty 7 k ≤ 3 := fun k hk => match k, hk with
  | 0, _ => ⟨rfl, by decide⟩
  | 1, _ => ⟨rfl, by decide⟩
  | 2, _ => ⟨⟨_, rfl, Or.inr ⟨_, rfl⟩⟩, by decide⟩
  | 3, _ => ⟨⟨_, rfl, Or.inr ⟨_, rfl⟩⟩, by decide⟩
  | 4, _ => ⟨⟨_, rfl, Or.inr ⟨_, rfl⟩⟩, by decide⟩
  | 5, _ => ⟨⟨_, rfl, Or.inr ⟨_, rfl⟩⟩, by decide⟩
  | 6, _ => ⟨⟨_, rfl, Or.inr ⟨_, rfl⟩⟩, by decide⟩
  | 7, _ => ⟨⟨_, rfl, Or.inr ⟨_, rfl⟩⟩, by decide⟩
  | 8, _ => ⟨⟨_, rfl, Or.inr ⟨_, rfl⟩⟩, by decide⟩
  | 9, _ => ⟨⟨_, rfl, Or.inr ⟨_, rfl⟩⟩, by decide⟩
  | 10, _ => ⟨⟨_, rfl, Or.inr ⟨_, rfl⟩⟩, by decide⟩
  | k + 11, hk => absurd hk (by omega)
theorem am_kp7 : ∀ k, k < 11 → parseFieldDescriptor (am_T7 k).2.2.1 = some (am_ft 7 k) := by decide +kernel
theorem am_kd7 : ∀ a, a < 11 → ∀ b, b < 11 → a ≠ b → (am_T7 a).2.1 ≠ (am_T7 b).2.1 := by decide +kernel
theorem am_kc7 : am_okK 7 ("PatternTrees$Terms", am_T7, 11) := ⟨fun w hw => by
    obtain ⟨k, hk, rfl⟩ := List.mem_map.mp hw
    exact am_kw7 k (List.mem_range.mp hk), am_kp7, am_kd7, am_kr7⟩
theorem am_y8_0 : am_gw (Cond.laysFinal "PatternTrees$Tokens" "PatternTrees$Tokens" "bytes" "[I") := am_g1 48 rfl rfl
theorem am_y8_1 : am_gw (Cond.lays "PatternTrees$Tokens" "PatternTrees$Tokens" "length" "I") := am_g1 50 rfl rfl
theorem am_y8_2 : am_gw (Cond.laysFinal "PatternTrees$Tokens" "PatternTrees$Tokens" "kinds" "[I") := am_g1 52 rfl rfl
theorem am_y8_3 : am_gw (Cond.laysFinal "PatternTrees$Tokens" "PatternTrees$Tokens" "places" "[I") := am_g1 54 rfl rfl
theorem am_y8_4 : am_gw (Cond.laysFinal "PatternTrees$Tokens" "PatternTrees$Tokens" "numbers" "[I") := am_g1 56 rfl rfl
theorem am_y8_5 : am_gw (Cond.laysFinal "PatternTrees$Tokens" "PatternTrees$Tokens" "names" "[J") := am_g1 58 rfl rfl
theorem am_y8_6 : am_gw (Cond.lays "PatternTrees$Tokens" "PatternTrees$Tokens" "count" "I") := am_g1 60 rfl rfl
theorem am_y8_7 : am_gw (Cond.lays "PatternTrees$Tokens" "PatternTrees$Tokens" "current" "I") := am_g1 62 rfl rfl
set_option maxRecDepth 20000 in
theorem am_kw8 : ∀ k, k < 8 → am_gw (u_lay "PatternTrees$Tokens" am_T8 k) := fun k hk => match k, hk with
  | 0, _ => am_y8_0
  | 1, _ => am_y8_1
  | 2, _ => am_y8_2
  | 3, _ => am_y8_3
  | 4, _ => am_y8_4
  | 5, _ => am_y8_5
  | 6, _ => am_y8_6
  | 7, _ => am_y8_7
  | k + 8, hk => absurd hk (by omega)
set_option maxRecDepth 20000 in
theorem am_kr8 : ∀ k, k < 8 → am_rcT (match am_fty 8 k with | 0 => 1 | 1 => 4 | t => t) (some (am_ft 8 k)) ∧ am_fty 8 k ≤ 3 := fun k hk => match k, hk with
  | 0, _ => ⟨⟨_, rfl, Or.inr ⟨_, rfl⟩⟩, by decide⟩
  | 1, _ => ⟨rfl, by decide⟩
  | 2, _ => ⟨⟨_, rfl, Or.inr ⟨_, rfl⟩⟩, by decide⟩
  | 3, _ => ⟨⟨_, rfl, Or.inr ⟨_, rfl⟩⟩, by decide⟩
  | 4, _ => ⟨⟨_, rfl, Or.inr ⟨_, rfl⟩⟩, by decide⟩
  | 5, _ => ⟨⟨_, rfl, Or.inr ⟨_, rfl⟩⟩, by decide⟩
  | 6, _ => ⟨rfl, by decide⟩
  | 7, _ => ⟨rfl, by decide⟩
  | k + 8, hk => absurd hk (by omega)
theorem am_kp8 : ∀ k, k < 8 → parseFieldDescriptor (am_T8 k).2.2.1 = some (am_ft 8 k) := by decide +kernel
theorem am_kd8 : ∀ a, a < 8 → ∀ b, b < 8 → a ≠ b → (am_T8 a).2.1 ≠ (am_T8 b).2.1 := by decide +kernel
theorem am_kc8 : am_okK 8 ("PatternTrees$Tokens", am_T8, 8) := ⟨fun w hw => by
    obtain ⟨k, hk, rfl⟩ := List.mem_map.mp hw
    exact am_kw8 k (List.mem_range.mp hk), am_kp8, am_kd8, am_kr8⟩
theorem am_y9_0 : am_gw (Cond.lays "PatternTrees$Trial" "PatternTrees$Trial" "count" "I") := am_g1 152 rfl rfl
theorem am_y9_1 : am_gw (Cond.laysFinal "PatternTrees$Trial" "PatternTrees$Trial" "places" "[I") := am_g1 154 rfl rfl
set_option maxRecDepth 20000 in
theorem am_kw9 : ∀ k, k < 2 → am_gw (u_lay "PatternTrees$Trial" am_T9 k) := fun k hk => match k, hk with
  | 0, _ => am_y9_0
  | 1, _ => am_y9_1
  | k + 2, hk => absurd hk (by omega)
set_option maxRecDepth 20000 in
theorem am_kr9 : ∀ k, k < 2 → am_rcT (match am_fty 9 k with | 0 => 1 | 1 => 4 | t => t) (some (am_ft 9 k)) ∧ am_fty 9 k ≤ 3 := fun k hk => match k, hk with
  | 0, _ => ⟨rfl, by decide⟩
  | 1, _ => ⟨⟨_, rfl, Or.inr ⟨_, rfl⟩⟩, by decide⟩
  | k + 2, hk => absurd hk (by omega)
theorem am_kp9 : ∀ k, k < 2 → parseFieldDescriptor (am_T9 k).2.2.1 = some (am_ft 9 k) := by decide +kernel
theorem am_kd9 : ∀ a, a < 2 → ∀ b, b < 2 → a ≠ b → (am_T9 a).2.1 ≠ (am_T9 b).2.1 := by decide +kernel
theorem am_kc9 : am_okK 9 ("PatternTrees$Trial", am_T9, 2) := ⟨fun w hw => by
    obtain ⟨k, hk, rfl⟩ := List.mem_map.mp hw
    exact am_kw9 k (List.mem_range.mp hk), am_kp9, am_kd9, am_kr9⟩
theorem am_y10_0 : am_gw (Cond.lays "PatternTrees$Types" "PatternTrees$Types" "count" "I") := am_g2 24 rfl rfl
theorem am_y10_1 : am_gw (Cond.lays "PatternTrees$Types" "PatternTrees$Types" "conCount" "I") := am_g2 26 rfl rfl
theorem am_y10_2 : am_gw (Cond.laysFinal "PatternTrees$Types" "PatternTrees$Types" "isNew" "[Z") := am_g2 28 rfl rfl
theorem am_y10_3 : am_gw (Cond.laysFinal "PatternTrees$Types" "PatternTrees$Types" "firstCon" "[I") := am_g2 30 rfl rfl
theorem am_y10_4 : am_gw (Cond.laysFinal "PatternTrees$Types" "PatternTrees$Types" "consOf" "[I") := am_g2 32 rfl rfl
theorem am_y10_5 : am_gw (Cond.laysFinal "PatternTrees$Types" "PatternTrees$Types" "conType" "[I") := am_g2 34 rfl rfl
theorem am_y10_6 : am_gw (Cond.laysFinal "PatternTrees$Types" "PatternTrees$Types" "arity" "[I") := am_g2 36 rfl rfl
theorem am_y10_7 : am_gw (Cond.laysFinal "PatternTrees$Types" "PatternTrees$Types" "conName" "[J") := am_g2 38 rfl rfl
theorem am_y10_8 : am_gw (Cond.laysFinal "PatternTrees$Types" "PatternTrees$Types" "argType" "[I") := am_g2 40 rfl rfl
theorem am_y10_9 : am_gw (Cond.laysFinal "PatternTrees$Types" "PatternTrees$Types" "letter" "[I") := am_g2 42 rfl rfl
theorem am_y10_10 : am_gw (Cond.laysFinal "PatternTrees$Types" "PatternTrees$Types" "letterAt" "[I") := am_g2 44 rfl rfl
theorem am_y10_11 : am_gw (Cond.laysFinal "PatternTrees$Types" "PatternTrees$Types" "conAt" "[I") := am_g2 46 rfl rfl
theorem am_y10_12 : am_gw (Cond.laysFinal "PatternTrees$Types" "PatternTrees$Types" "argLetter" "[I") := am_g2 48 rfl rfl
theorem am_y10_13 : am_gw (Cond.laysFinal "PatternTrees$Types" "PatternTrees$Types" "argAt" "[I") := am_g2 50 rfl rfl
theorem am_y10_14 : am_gw (Cond.laysFinal "PatternTrees$Types" "PatternTrees$Types" "typeOfLetter" "[I") := am_g2 52 rfl rfl
set_option maxRecDepth 20000 in
theorem am_kw10 : ∀ k, k < 15 → am_gw (u_lay "PatternTrees$Types" am_T10 k) := fun k hk => match k, hk with
  | 0, _ => am_y10_0
  | 1, _ => am_y10_1
  | 2, _ => am_y10_2
  | 3, _ => am_y10_3
  | 4, _ => am_y10_4
  | 5, _ => am_y10_5
  | 6, _ => am_y10_6
  | 7, _ => am_y10_7
  | 8, _ => am_y10_8
  | 9, _ => am_y10_9
  | 10, _ => am_y10_10
  | 11, _ => am_y10_11
  | 12, _ => am_y10_12
  | 13, _ => am_y10_13
  | 14, _ => am_y10_14
  | k + 15, hk => absurd hk (by omega)
set_option maxRecDepth 20000 in
theorem am_kr10 : ∀ k, k < 15 → am_rcT (match am_fty 10 k with | 0 => 1 | 1 => 4 | t => t) (some (am_ft 10 k)) ∧ am_fty 10 k ≤ 3 := fun k hk => match k, hk with
  | 0, _ => ⟨rfl, by decide⟩
  | 1, _ => ⟨rfl, by decide⟩
  | 2, _ => ⟨⟨_, rfl, Or.inr ⟨_, rfl⟩⟩, by decide⟩
  | 3, _ => ⟨⟨_, rfl, Or.inr ⟨_, rfl⟩⟩, by decide⟩
  | 4, _ => ⟨⟨_, rfl, Or.inr ⟨_, rfl⟩⟩, by decide⟩
  | 5, _ => ⟨⟨_, rfl, Or.inr ⟨_, rfl⟩⟩, by decide⟩
  | 6, _ => ⟨⟨_, rfl, Or.inr ⟨_, rfl⟩⟩, by decide⟩
  | 7, _ => ⟨⟨_, rfl, Or.inr ⟨_, rfl⟩⟩, by decide⟩
  | 8, _ => ⟨⟨_, rfl, Or.inr ⟨_, rfl⟩⟩, by decide⟩
  | 9, _ => ⟨⟨_, rfl, Or.inr ⟨_, rfl⟩⟩, by decide⟩
  | 10, _ => ⟨⟨_, rfl, Or.inr ⟨_, rfl⟩⟩, by decide⟩
  | 11, _ => ⟨⟨_, rfl, Or.inr ⟨_, rfl⟩⟩, by decide⟩
  | 12, _ => ⟨⟨_, rfl, Or.inr ⟨_, rfl⟩⟩, by decide⟩
  | 13, _ => ⟨⟨_, rfl, Or.inr ⟨_, rfl⟩⟩, by decide⟩
  | 14, _ => ⟨⟨_, rfl, Or.inr ⟨_, rfl⟩⟩, by decide⟩
  | k + 15, hk => absurd hk (by omega)
theorem am_kp10 : ∀ k, k < 15 → parseFieldDescriptor (am_T10 k).2.2.1 = some (am_ft 10 k) := by decide +kernel
theorem am_kd10 : ∀ a, a < 15 → ∀ b, b < 15 → a ≠ b → (am_T10 a).2.1 ≠ (am_T10 b).2.1 := by decide +kernel
theorem am_kc10 : am_okK 10 ("PatternTrees$Types", am_T10, 15) := ⟨fun w hw => by
    obtain ⟨k, hk, rfl⟩ := List.mem_map.mp hw
    exact am_kw10 k (List.mem_range.mp hk), am_kp10, am_kd10, am_kr10⟩
theorem am_hOK : ∀ (ci : Nat) (q : vw_C), am_cls[ci]? = some q → am_okK ci q := by
  intro ci q h
  have hlt : ci < 11 := (List.getElem?_eq_some_iff.mp h).1
  match ci, hlt, h with
  | 0, _, h => cases h; exact am_kc0
  | 1, _, h => cases h; exact am_kc1
  | 2, _, h => cases h; exact am_kc2
  | 3, _, h => cases h; exact am_kc3
  | 4, _, h => cases h; exact am_kc4
  | 5, _, h => cases h; exact am_kc5
  | 6, _, h => cases h; exact am_kc6
  | 7, _, h => cases h; exact am_kc7
  | 8, _, h => cases h; exact am_kc8
  | 9, _, h => cases h; exact am_kc9
  | 10, _, h => cases h; exact am_kc10
  | ci + 11, hlt, _ => omega
theorem am_snd {G : am_G} {Zc : am_Z} {l : Launch} : am_pre (am_Sem G Zc l) := am_sound am_chk am_hok am_hOK
end
