-- ===== PART A: goes FIRST, ahead of the names: the tables' words, and 'selects' of the private methods out of them =====
/-- a private method of a class that the tables say can be made, by its rows of tables_1 -/
def lw_okq (q : MethodName × Nat) : Prop := (q.1.cls ≠ "java/lang/invoke/MethodHandle" ∧ q.1.cls ≠ "java/lang/invoke/VarHandle") ∧ Cond.instantiable q.1.cls q.2 ∈ tables_1 ∧ Cond.privateMethod q.1 ∈ tables_1 ∧ Cond.instanceMethod q.1 ∈ tables_1
theorem lw_p0 : lw_okq (⟨"HeavyFiles", "rowOf", "(I)LHeavyFiles$Row;"⟩, 17) := ⟨⟨by decide +kernel, by decide +kernel⟩, List.mem_of_getElem? (i := 19) (by decide +kernel), List.mem_of_getElem? (i := 366) (by decide +kernel), List.mem_of_getElem? (i := 367) (by decide +kernel)⟩
theorem lw_p1 : lw_okq (⟨"HeavyFiles", "refused", "(I)I"⟩, 17) := ⟨⟨by decide +kernel, by decide +kernel⟩, List.mem_of_getElem? (i := 19) (by decide +kernel), List.mem_of_getElem? (i := 370) (by decide +kernel), List.mem_of_getElem? (i := 371) (by decide +kernel)⟩
theorem lw_p2 : lw_okq (⟨"HeavyFiles", "told", "(I)I"⟩, 17) := ⟨⟨by decide +kernel, by decide +kernel⟩, List.mem_of_getElem? (i := 19) (by decide +kernel), List.mem_of_getElem? (i := 393) (by decide +kernel), List.mem_of_getElem? (i := 394) (by decide +kernel)⟩
theorem lw_p3 : lw_okq (⟨"HeavyFiles", "textOf", "(I)LHeavyFiles$Row;"⟩, 17) := ⟨⟨by decide +kernel, by decide +kernel⟩, List.mem_of_getElem? (i := 19) (by decide +kernel), List.mem_of_getElem? (i := 428) (by decide +kernel), List.mem_of_getElem? (i := 429) (by decide +kernel)⟩
theorem lw_p4 : lw_okq (⟨"HeavyFiles$Reader", "skipBlanks", "(LHeavyFiles$Row;)V"⟩, 6) := ⟨⟨by decide +kernel, by decide +kernel⟩, List.mem_of_getElem? (i := 104) (by decide +kernel), List.mem_of_getElem? (i := 444) (by decide +kernel), List.mem_of_getElem? (i := 445) (by decide +kernel)⟩
theorem lw_p5 : lw_okq (⟨"HeavyFiles$Reader", "sign", "(LHeavyFiles$Row;)I"⟩, 6) := ⟨⟨by decide +kernel, by decide +kernel⟩, List.mem_of_getElem? (i := 104) (by decide +kernel), List.mem_of_getElem? (i := 448) (by decide +kernel), List.mem_of_getElem? (i := 449) (by decide +kernel)⟩
theorem lw_p6 : lw_okq (⟨"HeavyFiles$Reader", "passes", "(LHeavyFiles$Row;I)Z"⟩, 6) := ⟨⟨by decide +kernel, by decide +kernel⟩, List.mem_of_getElem? (i := 104) (by decide +kernel), List.mem_of_getElem? (i := 453) (by decide +kernel), List.mem_of_getElem? (i := 454) (by decide +kernel)⟩
theorem lw_p7 : lw_okq (⟨"HeavyFiles$Reader", "passesStock", "(LHeavyFiles$Row;I)Z"⟩, 6) := ⟨⟨by decide +kernel, by decide +kernel⟩, List.mem_of_getElem? (i := 104) (by decide +kernel), List.mem_of_getElem? (i := 457) (by decide +kernel), List.mem_of_getElem? (i := 458) (by decide +kernel)⟩
theorem lw_p8 : lw_okq (⟨"HeavyFiles$Reader", "figure", "(LHeavyFiles$Row;)I"⟩, 6) := ⟨⟨by decide +kernel, by decide +kernel⟩, List.mem_of_getElem? (i := 104) (by decide +kernel), List.mem_of_getElem? (i := 461) (by decide +kernel), List.mem_of_getElem? (i := 462) (by decide +kernel)⟩
theorem lw_p9 : lw_okq (⟨"HeavyFiles$Reader", "passesSuit", "(LHeavyFiles$Row;)Z"⟩, 6) := ⟨⟨by decide +kernel, by decide +kernel⟩, List.mem_of_getElem? (i := 104) (by decide +kernel), List.mem_of_getElem? (i := 465) (by decide +kernel), List.mem_of_getElem? (i := 466) (by decide +kernel)⟩
theorem lw_p10 : lw_okq (⟨"HeavyFiles", "isWrong", "(LHeavyFiles$Row;ILHeavyFiles$Row;I)Z"⟩, 17) := ⟨⟨by decide +kernel, by decide +kernel⟩, List.mem_of_getElem? (i := 19) (by decide +kernel), List.mem_of_getElem? (i := 550) (by decide +kernel), List.mem_of_getElem? (i := 551) (by decide +kernel)⟩
theorem lw_p11 : lw_okq (⟨"HeavyFiles", "isRefused", "(ZZZ)Z"⟩, 17) := ⟨⟨by decide +kernel, by decide +kernel⟩, List.mem_of_getElem? (i := 19) (by decide +kernel), List.mem_of_getElem? (i := 563) (by decide +kernel), List.mem_of_getElem? (i := 564) (by decide +kernel)⟩
theorem lw_p12 : lw_okq (⟨"HeavyFiles$Suit", "least", "()I"⟩, 3) := ⟨⟨by decide +kernel, by decide +kernel⟩, List.mem_of_getElem? (i := 38) (by decide +kernel), List.mem_of_getElem? (i := 585) (by decide +kernel), List.mem_of_getElem? (i := 586) (by decide +kernel)⟩
theorem lw_p13 : lw_okq (⟨"HeavyFiles", "isWrong", "(LHeavyFiles$Row;I)Z"⟩, 17) := ⟨⟨by decide +kernel, by decide +kernel⟩, List.mem_of_getElem? (i := 19) (by decide +kernel), List.mem_of_getElem? (i := 606) (by decide +kernel), List.mem_of_getElem? (i := 607) (by decide +kernel)⟩
theorem lw_p14 : lw_okq (⟨"HeavyFiles$Search", "close", "(II)V"⟩, 8) := ⟨⟨by decide +kernel, by decide +kernel⟩, List.mem_of_getElem? (i := 177) (by decide +kernel), List.mem_of_getElem? (i := 620) (by decide +kernel), List.mem_of_getElem? (i := 621) (by decide +kernel)⟩
theorem lw_p15 : lw_okq (⟨"HeavyFiles$Search", "isEarlier", "()Z"⟩, 8) := ⟨⟨by decide +kernel, by decide +kernel⟩, List.mem_of_getElem? (i := 177) (by decide +kernel), List.mem_of_getElem? (i := 624) (by decide +kernel), List.mem_of_getElem? (i := 625) (by decide +kernel)⟩
def lw_privs_1 : List (MethodName × Nat) := [(⟨"HeavyFiles", "rowOf", "(I)LHeavyFiles$Row;"⟩, 17), (⟨"HeavyFiles", "refused", "(I)I"⟩, 17), (⟨"HeavyFiles", "told", "(I)I"⟩, 17), (⟨"HeavyFiles", "textOf", "(I)LHeavyFiles$Row;"⟩, 17), (⟨"HeavyFiles$Reader", "skipBlanks", "(LHeavyFiles$Row;)V"⟩, 6), (⟨"HeavyFiles$Reader", "sign", "(LHeavyFiles$Row;)I"⟩, 6), (⟨"HeavyFiles$Reader", "passes", "(LHeavyFiles$Row;I)Z"⟩, 6), (⟨"HeavyFiles$Reader", "passesStock", "(LHeavyFiles$Row;I)Z"⟩, 6), (⟨"HeavyFiles$Reader", "figure", "(LHeavyFiles$Row;)I"⟩, 6), (⟨"HeavyFiles$Reader", "passesSuit", "(LHeavyFiles$Row;)Z"⟩, 6), (⟨"HeavyFiles", "isWrong", "(LHeavyFiles$Row;ILHeavyFiles$Row;I)Z"⟩, 17), (⟨"HeavyFiles", "isRefused", "(ZZZ)Z"⟩, 17), (⟨"HeavyFiles$Suit", "least", "()I"⟩, 3), (⟨"HeavyFiles", "isWrong", "(LHeavyFiles$Row;I)Z"⟩, 17), (⟨"HeavyFiles$Search", "close", "(II)V"⟩, 8), (⟨"HeavyFiles$Search", "isEarlier", "()Z"⟩, 8)]
theorem lw_r1 : ∀ q ∈ lw_privs_1, lw_okq q := List.forall_mem_cons.mpr ⟨lw_p0, List.forall_mem_cons.mpr ⟨lw_p1, List.forall_mem_cons.mpr ⟨lw_p2, List.forall_mem_cons.mpr ⟨lw_p3, List.forall_mem_cons.mpr ⟨lw_p4, List.forall_mem_cons.mpr ⟨lw_p5, List.forall_mem_cons.mpr ⟨lw_p6, List.forall_mem_cons.mpr ⟨lw_p7, List.forall_mem_cons.mpr ⟨lw_p8, List.forall_mem_cons.mpr ⟨lw_p9, List.forall_mem_cons.mpr ⟨lw_p10, List.forall_mem_cons.mpr ⟨lw_p11, List.forall_mem_cons.mpr ⟨lw_p12, List.forall_mem_cons.mpr ⟨lw_p13, List.forall_mem_cons.mpr ⟨lw_p14, List.forall_mem_cons.mpr ⟨lw_p15, fun _ h => absurd h List.not_mem_nil⟩⟩⟩⟩⟩⟩⟩⟩⟩⟩⟩⟩⟩⟩⟩⟩
theorem lw_p16 : lw_okq (⟨"HeavyFiles", "fraction", "(JJ)V"⟩, 17) := ⟨⟨by decide +kernel, by decide +kernel⟩, List.mem_of_getElem? (i := 19) (by decide +kernel), List.mem_of_getElem? (i := 680) (by decide +kernel), List.mem_of_getElem? (i := 681) (by decide +kernel)⟩
theorem lw_p17 : lw_okq (⟨"HeavyFiles", "isTooMuch", "(I)Z"⟩, 17) := ⟨⟨by decide +kernel, by decide +kernel⟩, List.mem_of_getElem? (i := 19) (by decide +kernel), List.mem_of_getElem? (i := 706) (by decide +kernel), List.mem_of_getElem? (i := 707) (by decide +kernel)⟩
theorem lw_p18 : lw_okq (⟨"HeavyFiles$TurnTable", "fill", "(LHeavyFiles$Court;)V"⟩, 4) := ⟨⟨by decide +kernel, by decide +kernel⟩, List.mem_of_getElem? (i := 245) (by decide +kernel), List.mem_of_getElem? (i := 746) (by decide +kernel), List.mem_of_getElem? (i := 747) (by decide +kernel)⟩
theorem lw_p19 : lw_okq (⟨"HeavyFiles$TurnTable", "prepare", "(LHeavyFiles$Suit;I)V"⟩, 4) := ⟨⟨by decide +kernel, by decide +kernel⟩, List.mem_of_getElem? (i := 245) (by decide +kernel), List.mem_of_getElem? (i := 752) (by decide +kernel), List.mem_of_getElem? (i := 753) (by decide +kernel)⟩
theorem lw_p20 : lw_okq (⟨"HeavyFiles$TurnTable", "fillSuit", "(LHeavyFiles$Suit;I)V"⟩, 4) := ⟨⟨by decide +kernel, by decide +kernel⟩, List.mem_of_getElem? (i := 245) (by decide +kernel), List.mem_of_getElem? (i := 759) (by decide +kernel), List.mem_of_getElem? (i := 760) (by decide +kernel)⟩
theorem lw_p21 : lw_okq (⟨"HeavyFiles$TurnTable", "after", "(LHeavyFiles$Suit;IIII)I"⟩, 4) := ⟨⟨by decide +kernel, by decide +kernel⟩, List.mem_of_getElem? (i := 245) (by decide +kernel), List.mem_of_getElem? (i := 764) (by decide +kernel), List.mem_of_getElem? (i := 765) (by decide +kernel)⟩
theorem lw_p22 : lw_okq (⟨"HeavyFiles$TurnTable", "value", "(III)I"⟩, 4) := ⟨⟨by decide +kernel, by decide +kernel⟩, List.mem_of_getElem? (i := 245) (by decide +kernel), List.mem_of_getElem? (i := 770) (by decide +kernel), List.mem_of_getElem? (i := 771) (by decide +kernel)⟩
theorem lw_p23 : lw_okq (⟨"HeavyFiles", "worthOf", "(I)I"⟩, 17) := ⟨⟨by decide +kernel, by decide +kernel⟩, List.mem_of_getElem? (i := 19) (by decide +kernel), List.mem_of_getElem? (i := 809) (by decide +kernel), List.mem_of_getElem? (i := 810) (by decide +kernel)⟩
theorem lw_p24 : lw_okq (⟨"HeavyFiles", "areWrong", "(LHeavyFiles$Row;LHeavyFiles$Row;)Z"⟩, 17) := ⟨⟨by decide +kernel, by decide +kernel⟩, List.mem_of_getElem? (i := 19) (by decide +kernel), List.mem_of_getElem? (i := 817) (by decide +kernel), List.mem_of_getElem? (i := 818) (by decide +kernel)⟩
theorem lw_p25 : lw_okq (⟨"HeavyFiles$Guess", "layEven", "(II)V"⟩, 6) := ⟨⟨by decide +kernel, by decide +kernel⟩, List.mem_of_getElem? (i := 264) (by decide +kernel), List.mem_of_getElem? (i := 853) (by decide +kernel), List.mem_of_getElem? (i := 854) (by decide +kernel)⟩
theorem lw_p26 : lw_okq (⟨"HeavyFiles$Guess", "layByWorth", "(LHeavyFiles$Court;II)V"⟩, 6) := ⟨⟨by decide +kernel, by decide +kernel⟩, List.mem_of_getElem? (i := 264) (by decide +kernel), List.mem_of_getElem? (i := 857) (by decide +kernel), List.mem_of_getElem? (i := 858) (by decide +kernel)⟩
theorem lw_p27 : lw_okq (⟨"HeavyFiles$Guess", "layBack", "([III)V"⟩, 6) := ⟨⟨by decide +kernel, by decide +kernel⟩, List.mem_of_getElem? (i := 264) (by decide +kernel), List.mem_of_getElem? (i := 870) (by decide +kernel), List.mem_of_getElem? (i := 871) (by decide +kernel)⟩
theorem lw_p28 : lw_okq (⟨"HeavyFiles$Guess", "fits", "(LHeavyFiles$Court;I)Z"⟩, 6) := ⟨⟨by decide +kernel, by decide +kernel⟩, List.mem_of_getElem? (i := 264) (by decide +kernel), List.mem_of_getElem? (i := 895) (by decide +kernel), List.mem_of_getElem? (i := 896) (by decide +kernel)⟩
theorem lw_p29 : lw_okq (⟨"HeavyFiles$Guess", "firstLike", "(I)I"⟩, 6) := ⟨⟨by decide +kernel, by decide +kernel⟩, List.mem_of_getElem? (i := 264) (by decide +kernel), List.mem_of_getElem? (i := 918) (by decide +kernel), List.mem_of_getElem? (i := 919) (by decide +kernel)⟩
theorem lw_p30 : lw_okq (⟨"HeavyFiles$Guess", "unlikeOnes", "()I"⟩, 6) := ⟨⟨by decide +kernel, by decide +kernel⟩, List.mem_of_getElem? (i := 264) (by decide +kernel), List.mem_of_getElem? (i := 922) (by decide +kernel), List.mem_of_getElem? (i := 923) (by decide +kernel)⟩
theorem lw_p31 : lw_okq (⟨"HeavyFiles", "keptOf", "(I)LHeavyFiles$Court;"⟩, 17) := ⟨⟨by decide +kernel, by decide +kernel⟩, List.mem_of_getElem? (i := 19) (by decide +kernel), List.mem_of_getElem? (i := 946) (by decide +kernel), List.mem_of_getElem? (i := 947) (by decide +kernel)⟩
def lw_privs_2 : List (MethodName × Nat) := [(⟨"HeavyFiles", "fraction", "(JJ)V"⟩, 17), (⟨"HeavyFiles", "isTooMuch", "(I)Z"⟩, 17), (⟨"HeavyFiles$TurnTable", "fill", "(LHeavyFiles$Court;)V"⟩, 4), (⟨"HeavyFiles$TurnTable", "prepare", "(LHeavyFiles$Suit;I)V"⟩, 4), (⟨"HeavyFiles$TurnTable", "fillSuit", "(LHeavyFiles$Suit;I)V"⟩, 4), (⟨"HeavyFiles$TurnTable", "after", "(LHeavyFiles$Suit;IIII)I"⟩, 4), (⟨"HeavyFiles$TurnTable", "value", "(III)I"⟩, 4), (⟨"HeavyFiles", "worthOf", "(I)I"⟩, 17), (⟨"HeavyFiles", "areWrong", "(LHeavyFiles$Row;LHeavyFiles$Row;)Z"⟩, 17), (⟨"HeavyFiles$Guess", "layEven", "(II)V"⟩, 6), (⟨"HeavyFiles$Guess", "layByWorth", "(LHeavyFiles$Court;II)V"⟩, 6), (⟨"HeavyFiles$Guess", "layBack", "([III)V"⟩, 6), (⟨"HeavyFiles$Guess", "fits", "(LHeavyFiles$Court;I)Z"⟩, 6), (⟨"HeavyFiles$Guess", "firstLike", "(I)I"⟩, 6), (⟨"HeavyFiles$Guess", "unlikeOnes", "()I"⟩, 6), (⟨"HeavyFiles", "keptOf", "(I)LHeavyFiles$Court;"⟩, 17)]
theorem lw_r2 : ∀ q ∈ lw_privs_2, lw_okq q := List.forall_mem_cons.mpr ⟨lw_p16, List.forall_mem_cons.mpr ⟨lw_p17, List.forall_mem_cons.mpr ⟨lw_p18, List.forall_mem_cons.mpr ⟨lw_p19, List.forall_mem_cons.mpr ⟨lw_p20, List.forall_mem_cons.mpr ⟨lw_p21, List.forall_mem_cons.mpr ⟨lw_p22, List.forall_mem_cons.mpr ⟨lw_p23, List.forall_mem_cons.mpr ⟨lw_p24, List.forall_mem_cons.mpr ⟨lw_p25, List.forall_mem_cons.mpr ⟨lw_p26, List.forall_mem_cons.mpr ⟨lw_p27, List.forall_mem_cons.mpr ⟨lw_p28, List.forall_mem_cons.mpr ⟨lw_p29, List.forall_mem_cons.mpr ⟨lw_p30, List.forall_mem_cons.mpr ⟨lw_p31, fun _ h => absurd h List.not_mem_nil⟩⟩⟩⟩⟩⟩⟩⟩⟩⟩⟩⟩⟩⟩⟩⟩
theorem lw_p32 : lw_okq (⟨"HeavyFiles", "keptCourts", "()I"⟩, 17) := ⟨⟨by decide +kernel, by decide +kernel⟩, List.mem_of_getElem? (i := 19) (by decide +kernel), List.mem_of_getElem? (i := 974) (by decide +kernel), List.mem_of_getElem? (i := 975) (by decide +kernel)⟩
theorem lw_p33 : lw_okq (⟨"HeavyFilesModel", "meet", "(I)I"⟩, 42) := ⟨⟨by decide +kernel, by decide +kernel⟩, List.mem_of_getElem? (i := 1011) (by decide +kernel), List.mem_of_getElem? (i := 1154) (by decide +kernel), List.mem_of_getElem? (i := 1155) (by decide +kernel)⟩
theorem lw_p34 : lw_okq (⟨"HeavyFilesModel", "setRow", "(III)V"⟩, 42) := ⟨⟨by decide +kernel, by decide +kernel⟩, List.mem_of_getElem? (i := 1011) (by decide +kernel), List.mem_of_getElem? (i := 1158) (by decide +kernel), List.mem_of_getElem? (i := 1159) (by decide +kernel)⟩
theorem lw_p35 : lw_okq (⟨"HeavyFilesModel", "askedRow", "(I)I"⟩, 42) := ⟨⟨by decide +kernel, by decide +kernel⟩, List.mem_of_getElem? (i := 1011) (by decide +kernel), List.mem_of_getElem? (i := 1166) (by decide +kernel), List.mem_of_getElem? (i := 1167) (by decide +kernel)⟩
theorem lw_p36 : lw_okq (⟨"HeavyFilesModel", "rowAt", "(II)I"⟩, 42) := ⟨⟨by decide +kernel, by decide +kernel⟩, List.mem_of_getElem? (i := 1011) (by decide +kernel), List.mem_of_getElem? (i := 1170) (by decide +kernel), List.mem_of_getElem? (i := 1171) (by decide +kernel)⟩
theorem lw_p37 : lw_okq (⟨"HeavyFilesModel", "ask", "(II)I"⟩, 42) := ⟨⟨by decide +kernel, by decide +kernel⟩, List.mem_of_getElem? (i := 1011) (by decide +kernel), List.mem_of_getElem? (i := 1174) (by decide +kernel), List.mem_of_getElem? (i := 1175) (by decide +kernel)⟩
theorem lw_p38 : lw_okq (⟨"HeavyFilesModel", "askedText", "(I)I"⟩, 42) := ⟨⟨by decide +kernel, by decide +kernel⟩, List.mem_of_getElem? (i := 1011) (by decide +kernel), List.mem_of_getElem? (i := 1206) (by decide +kernel), List.mem_of_getElem? (i := 1207) (by decide +kernel)⟩
theorem lw_p39 : lw_okq (⟨"HeavyFilesModel", "goesOn", "(I)I"⟩, 42) := ⟨⟨by decide +kernel, by decide +kernel⟩, List.mem_of_getElem? (i := 1011) (by decide +kernel), List.mem_of_getElem? (i := 1214) (by decide +kernel), List.mem_of_getElem? (i := 1215) (by decide +kernel)⟩
theorem lw_p40 : lw_okq (⟨"HeavyFilesModel", "here", "(I)I"⟩, 42) := ⟨⟨by decide +kernel, by decide +kernel⟩, List.mem_of_getElem? (i := 1011) (by decide +kernel), List.mem_of_getElem? (i := 1218) (by decide +kernel), List.mem_of_getElem? (i := 1219) (by decide +kernel)⟩
theorem lw_p41 : lw_okq (⟨"HeavyFilesModel", "readsSuit", "(I)Z"⟩, 42) := ⟨⟨by decide +kernel, by decide +kernel⟩, List.mem_of_getElem? (i := 1011) (by decide +kernel), List.mem_of_getElem? (i := 1222) (by decide +kernel), List.mem_of_getElem? (i := 1223) (by decide +kernel)⟩
theorem lw_p42 : lw_okq (⟨"HeavyFilesModel", "readsFigure", "(III)Z"⟩, 42) := ⟨⟨by decide +kernel, by decide +kernel⟩, List.mem_of_getElem? (i := 1011) (by decide +kernel), List.mem_of_getElem? (i := 1229) (by decide +kernel), List.mem_of_getElem? (i := 1230) (by decide +kernel)⟩
theorem lw_p43 : lw_okq (⟨"HeavyFilesModel", "readsHead", "(I)Z"⟩, 42) := ⟨⟨by decide +kernel, by decide +kernel⟩, List.mem_of_getElem? (i := 1011) (by decide +kernel), List.mem_of_getElem? (i := 1233) (by decide +kernel), List.mem_of_getElem? (i := 1234) (by decide +kernel)⟩
theorem lw_p44 : lw_okq (⟨"HeavyFilesModel", "readsNumber", "(I)Z"⟩, 42) := ⟨⟨by decide +kernel, by decide +kernel⟩, List.mem_of_getElem? (i := 1011) (by decide +kernel), List.mem_of_getElem? (i := 1237) (by decide +kernel), List.mem_of_getElem? (i := 1238) (by decide +kernel)⟩
theorem lw_p45 : lw_okq (⟨"HeavyFilesModel", "isSuit", "(I)Z"⟩, 42) := ⟨⟨by decide +kernel, by decide +kernel⟩, List.mem_of_getElem? (i := 1011) (by decide +kernel), List.mem_of_getElem? (i := 1249) (by decide +kernel), List.mem_of_getElem? (i := 1250) (by decide +kernel)⟩
theorem lw_p46 : lw_okq (⟨"HeavyFilesModel", "of", "(II)I"⟩, 42) := ⟨⟨by decide +kernel, by decide +kernel⟩, List.mem_of_getElem? (i := 1011) (by decide +kernel), List.mem_of_getElem? (i := 1253) (by decide +kernel), List.mem_of_getElem? (i := 1254) (by decide +kernel)⟩
theorem lw_p47 : lw_okq (⟨"HeavyFilesModel", "isA", "(II)Z"⟩, 42) := ⟨⟨by decide +kernel, by decide +kernel⟩, List.mem_of_getElem? (i := 1011) (by decide +kernel), List.mem_of_getElem? (i := 1261) (by decide +kernel), List.mem_of_getElem? (i := 1262) (by decide +kernel)⟩
def lw_privs_3 : List (MethodName × Nat) := [(⟨"HeavyFiles", "keptCourts", "()I"⟩, 17), (⟨"HeavyFilesModel", "meet", "(I)I"⟩, 42), (⟨"HeavyFilesModel", "setRow", "(III)V"⟩, 42), (⟨"HeavyFilesModel", "askedRow", "(I)I"⟩, 42), (⟨"HeavyFilesModel", "rowAt", "(II)I"⟩, 42), (⟨"HeavyFilesModel", "ask", "(II)I"⟩, 42), (⟨"HeavyFilesModel", "askedText", "(I)I"⟩, 42), (⟨"HeavyFilesModel", "goesOn", "(I)I"⟩, 42), (⟨"HeavyFilesModel", "here", "(I)I"⟩, 42), (⟨"HeavyFilesModel", "readsSuit", "(I)Z"⟩, 42), (⟨"HeavyFilesModel", "readsFigure", "(III)Z"⟩, 42), (⟨"HeavyFilesModel", "readsHead", "(I)Z"⟩, 42), (⟨"HeavyFilesModel", "readsNumber", "(I)Z"⟩, 42), (⟨"HeavyFilesModel", "isSuit", "(I)Z"⟩, 42), (⟨"HeavyFilesModel", "of", "(II)I"⟩, 42), (⟨"HeavyFilesModel", "isA", "(II)Z"⟩, 42)]
theorem lw_r3 : ∀ q ∈ lw_privs_3, lw_okq q := List.forall_mem_cons.mpr ⟨lw_p32, List.forall_mem_cons.mpr ⟨lw_p33, List.forall_mem_cons.mpr ⟨lw_p34, List.forall_mem_cons.mpr ⟨lw_p35, List.forall_mem_cons.mpr ⟨lw_p36, List.forall_mem_cons.mpr ⟨lw_p37, List.forall_mem_cons.mpr ⟨lw_p38, List.forall_mem_cons.mpr ⟨lw_p39, List.forall_mem_cons.mpr ⟨lw_p40, List.forall_mem_cons.mpr ⟨lw_p41, List.forall_mem_cons.mpr ⟨lw_p42, List.forall_mem_cons.mpr ⟨lw_p43, List.forall_mem_cons.mpr ⟨lw_p44, List.forall_mem_cons.mpr ⟨lw_p45, List.forall_mem_cons.mpr ⟨lw_p46, List.forall_mem_cons.mpr ⟨lw_p47, fun _ h => absurd h List.not_mem_nil⟩⟩⟩⟩⟩⟩⟩⟩⟩⟩⟩⟩⟩⟩⟩⟩
theorem lw_p48 : lw_okq (⟨"HeavyFilesModel", "ofKind", "(I)I"⟩, 42) := ⟨⟨by decide +kernel, by decide +kernel⟩, List.mem_of_getElem? (i := 1011) (by decide +kernel), List.mem_of_getElem? (i := 1265) (by decide +kernel), List.mem_of_getElem? (i := 1266) (by decide +kernel)⟩
theorem lw_p49 : lw_okq (⟨"HeavyFilesModel", "askedTwo", "(IIII)I"⟩, 42) := ⟨⟨by decide +kernel, by decide +kernel⟩, List.mem_of_getElem? (i := 1011) (by decide +kernel), List.mem_of_getElem? (i := 1281) (by decide +kernel), List.mem_of_getElem? (i := 1282) (by decide +kernel)⟩
theorem lw_p50 : lw_okq (⟨"HeavyFilesModel", "askedNumbers", "(II)I"⟩, 42) := ⟨⟨by decide +kernel, by decide +kernel⟩, List.mem_of_getElem? (i := 1011) (by decide +kernel), List.mem_of_getElem? (i := 1285) (by decide +kernel), List.mem_of_getElem? (i := 1286) (by decide +kernel)⟩
theorem lw_p51 : lw_okq (⟨"HeavyFilesModel", "takes", "(II)V"⟩, 42) := ⟨⟨by decide +kernel, by decide +kernel⟩, List.mem_of_getElem? (i := 1011) (by decide +kernel), List.mem_of_getElem? (i := 1289) (by decide +kernel), List.mem_of_getElem? (i := 1290) (by decide +kernel)⟩
theorem lw_p52 : lw_okq (⟨"HeavyFilesModel", "setWinners", "()V"⟩, 42) := ⟨⟨by decide +kernel, by decide +kernel⟩, List.mem_of_getElem? (i := 1011) (by decide +kernel), List.mem_of_getElem? (i := 1293) (by decide +kernel), List.mem_of_getElem? (i := 1294) (by decide +kernel)⟩
theorem lw_p53 : lw_okq (⟨"HeavyFilesModel", "winnerOf", "(III)I"⟩, 42) := ⟨⟨by decide +kernel, by decide +kernel⟩, List.mem_of_getElem? (i := 1011) (by decide +kernel), List.mem_of_getElem? (i := 1297) (by decide +kernel), List.mem_of_getElem? (i := 1298) (by decide +kernel)⟩
theorem lw_p54 : lw_okq (⟨"HeavyFilesModel", "weight", "(III)I"⟩, 42) := ⟨⟨by decide +kernel, by decide +kernel⟩, List.mem_of_getElem? (i := 1011) (by decide +kernel), List.mem_of_getElem? (i := 1301) (by decide +kernel), List.mem_of_getElem? (i := 1302) (by decide +kernel)⟩
theorem lw_p55 : lw_okq (⟨"HeavyFilesModel", "scoreOf", "(I)I"⟩, 42) := ⟨⟨by decide +kernel, by decide +kernel⟩, List.mem_of_getElem? (i := 1011) (by decide +kernel), List.mem_of_getElem? (i := 1305) (by decide +kernel), List.mem_of_getElem? (i := 1306) (by decide +kernel)⟩
theorem lw_p56 : lw_okq (⟨"HeavyFilesModel", "worthOf", "(III)I"⟩, 42) := ⟨⟨by decide +kernel, by decide +kernel⟩, List.mem_of_getElem? (i := 1011) (by decide +kernel), List.mem_of_getElem? (i := 1309) (by decide +kernel), List.mem_of_getElem? (i := 1310) (by decide +kernel)⟩
theorem lw_p57 : lw_okq (⟨"HeavyFilesModel", "askedLaying", "(II)I"⟩, 42) := ⟨⟨by decide +kernel, by decide +kernel⟩, List.mem_of_getElem? (i := 1011) (by decide +kernel), List.mem_of_getElem? (i := 1321) (by decide +kernel), List.mem_of_getElem? (i := 1322) (by decide +kernel)⟩
theorem lw_p58 : lw_okq (⟨"HeavyFilesModel", "askedSize", "(I)I"⟩, 42) := ⟨⟨by decide +kernel, by decide +kernel⟩, List.mem_of_getElem? (i := 1011) (by decide +kernel), List.mem_of_getElem? (i := 1325) (by decide +kernel), List.mem_of_getElem? (i := 1326) (by decide +kernel)⟩
theorem lw_p59 : lw_okq (⟨"HeavyFilesModel", "setBest", "(I)V"⟩, 42) := ⟨⟨by decide +kernel, by decide +kernel⟩, List.mem_of_getElem? (i := 1011) (by decide +kernel), List.mem_of_getElem? (i := 1329) (by decide +kernel), List.mem_of_getElem? (i := 1330) (by decide +kernel)⟩
theorem lw_p60 : lw_okq (⟨"HeavyFilesModel", "bestOn", "(III)V"⟩, 42) := ⟨⟨by decide +kernel, by decide +kernel⟩, List.mem_of_getElem? (i := 1011) (by decide +kernel), List.mem_of_getElem? (i := 1333) (by decide +kernel), List.mem_of_getElem? (i := 1334) (by decide +kernel)⟩
theorem lw_p61 : lw_okq (⟨"HeavyFilesModel", "isAhead", "(II)Z"⟩, 42) := ⟨⟨by decide +kernel, by decide +kernel⟩, List.mem_of_getElem? (i := 1011) (by decide +kernel), List.mem_of_getElem? (i := 1337) (by decide +kernel), List.mem_of_getElem? (i := 1338) (by decide +kernel)⟩
theorem lw_p62 : lw_okq (⟨"HeavyFilesModel", "fewestFor", "(III)I"⟩, 42) := ⟨⟨by decide +kernel, by decide +kernel⟩, List.mem_of_getElem? (i := 1011) (by decide +kernel), List.mem_of_getElem? (i := 1341) (by decide +kernel), List.mem_of_getElem? (i := 1342) (by decide +kernel)⟩
theorem lw_p63 : lw_okq (⟨"HeavyFilesModel", "layBest", "(I)V"⟩, 42) := ⟨⟨by decide +kernel, by decide +kernel⟩, List.mem_of_getElem? (i := 1011) (by decide +kernel), List.mem_of_getElem? (i := 1345) (by decide +kernel), List.mem_of_getElem? (i := 1346) (by decide +kernel)⟩
def lw_privs_4 : List (MethodName × Nat) := [(⟨"HeavyFilesModel", "ofKind", "(I)I"⟩, 42), (⟨"HeavyFilesModel", "askedTwo", "(IIII)I"⟩, 42), (⟨"HeavyFilesModel", "askedNumbers", "(II)I"⟩, 42), (⟨"HeavyFilesModel", "takes", "(II)V"⟩, 42), (⟨"HeavyFilesModel", "setWinners", "()V"⟩, 42), (⟨"HeavyFilesModel", "winnerOf", "(III)I"⟩, 42), (⟨"HeavyFilesModel", "weight", "(III)I"⟩, 42), (⟨"HeavyFilesModel", "scoreOf", "(I)I"⟩, 42), (⟨"HeavyFilesModel", "worthOf", "(III)I"⟩, 42), (⟨"HeavyFilesModel", "askedLaying", "(II)I"⟩, 42), (⟨"HeavyFilesModel", "askedSize", "(I)I"⟩, 42), (⟨"HeavyFilesModel", "setBest", "(I)V"⟩, 42), (⟨"HeavyFilesModel", "bestOn", "(III)V"⟩, 42), (⟨"HeavyFilesModel", "isAhead", "(II)Z"⟩, 42), (⟨"HeavyFilesModel", "fewestFor", "(III)I"⟩, 42), (⟨"HeavyFilesModel", "layBest", "(I)V"⟩, 42)]
theorem lw_r4 : ∀ q ∈ lw_privs_4, lw_okq q := List.forall_mem_cons.mpr ⟨lw_p48, List.forall_mem_cons.mpr ⟨lw_p49, List.forall_mem_cons.mpr ⟨lw_p50, List.forall_mem_cons.mpr ⟨lw_p51, List.forall_mem_cons.mpr ⟨lw_p52, List.forall_mem_cons.mpr ⟨lw_p53, List.forall_mem_cons.mpr ⟨lw_p54, List.forall_mem_cons.mpr ⟨lw_p55, List.forall_mem_cons.mpr ⟨lw_p56, List.forall_mem_cons.mpr ⟨lw_p57, List.forall_mem_cons.mpr ⟨lw_p58, List.forall_mem_cons.mpr ⟨lw_p59, List.forall_mem_cons.mpr ⟨lw_p60, List.forall_mem_cons.mpr ⟨lw_p61, List.forall_mem_cons.mpr ⟨lw_p62, List.forall_mem_cons.mpr ⟨lw_p63, fun _ h => absurd h List.not_mem_nil⟩⟩⟩⟩⟩⟩⟩⟩⟩⟩⟩⟩⟩⟩⟩⟩
theorem lw_p64 : lw_okq (⟨"HeavyFilesModel", "fewestOn", "(III)V"⟩, 42) := ⟨⟨by decide +kernel, by decide +kernel⟩, List.mem_of_getElem? (i := 1011) (by decide +kernel), List.mem_of_getElem? (i := 1354) (by decide +kernel), List.mem_of_getElem? (i := 1355) (by decide +kernel)⟩
theorem lw_p65 : lw_okq (⟨"HeavyFilesModel", "firstStep", "()V"⟩, 42) := ⟨⟨by decide +kernel, by decide +kernel⟩, List.mem_of_getElem? (i := 1011) (by decide +kernel), List.mem_of_getElem? (i := 1362) (by decide +kernel), List.mem_of_getElem? (i := 1363) (by decide +kernel)⟩
theorem lw_p66 : lw_okq (⟨"HeavyFilesModel", "stepFor", "(I)V"⟩, 42) := ⟨⟨by decide +kernel, by decide +kernel⟩, List.mem_of_getElem? (i := 1011) (by decide +kernel), List.mem_of_getElem? (i := 1366) (by decide +kernel), List.mem_of_getElem? (i := 1367) (by decide +kernel)⟩
theorem lw_p67 : lw_okq (⟨"HeavyFilesModel", "nextStep", "(I)Z"⟩, 42) := ⟨⟨by decide +kernel, by decide +kernel⟩, List.mem_of_getElem? (i := 1011) (by decide +kernel), List.mem_of_getElem? (i := 1370) (by decide +kernel), List.mem_of_getElem? (i := 1371) (by decide +kernel)⟩
theorem lw_p68 : lw_okq (⟨"HeavyFilesModel", "part", "(JJI)I"⟩, 42) := ⟨⟨by decide +kernel, by decide +kernel⟩, List.mem_of_getElem? (i := 1011) (by decide +kernel), List.mem_of_getElem? (i := 1374) (by decide +kernel), List.mem_of_getElem? (i := 1375) (by decide +kernel)⟩
theorem lw_p69 : lw_okq (⟨"HeavyFilesModel", "sureOf", "()I"⟩, 42) := ⟨⟨by decide +kernel, by decide +kernel⟩, List.mem_of_getElem? (i := 1011) (by decide +kernel), List.mem_of_getElem? (i := 1382) (by decide +kernel), List.mem_of_getElem? (i := 1383) (by decide +kernel)⟩
theorem lw_p70 : lw_okq (⟨"HeavyFilesModel", "worstOn", "(III)V"⟩, 42) := ⟨⟨by decide +kernel, by decide +kernel⟩, List.mem_of_getElem? (i := 1011) (by decide +kernel), List.mem_of_getElem? (i := 1386) (by decide +kernel), List.mem_of_getElem? (i := 1387) (by decide +kernel)⟩
theorem lw_p71 : lw_okq (⟨"HeavyFilesModel", "askedMixed", "(II)I"⟩, 42) := ⟨⟨by decide +kernel, by decide +kernel⟩, List.mem_of_getElem? (i := 1011) (by decide +kernel), List.mem_of_getElem? (i := 1398) (by decide +kernel), List.mem_of_getElem? (i := 1399) (by decide +kernel)⟩
theorem lw_p72 : lw_okq (⟨"HeavyFilesModel", "mixedOf", "(IIII)I"⟩, 42) := ⟨⟨by decide +kernel, by decide +kernel⟩, List.mem_of_getElem? (i := 1011) (by decide +kernel), List.mem_of_getElem? (i := 1402) (by decide +kernel), List.mem_of_getElem? (i := 1403) (by decide +kernel)⟩
theorem lw_p73 : lw_okq (⟨"HeavyFilesModel", "setTurns", "()V"⟩, 42) := ⟨⟨by decide +kernel, by decide +kernel⟩, List.mem_of_getElem? (i := 1011) (by decide +kernel), List.mem_of_getElem? (i := 1416) (by decide +kernel), List.mem_of_getElem? (i := 1417) (by decide +kernel)⟩
theorem lw_p74 : lw_okq (⟨"HeavyFilesModel", "laidIn", "(III)I"⟩, 42) := ⟨⟨by decide +kernel, by decide +kernel⟩, List.mem_of_getElem? (i := 1011) (by decide +kernel), List.mem_of_getElem? (i := 1420) (by decide +kernel), List.mem_of_getElem? (i := 1421) (by decide +kernel)⟩
theorem lw_p75 : lw_okq (⟨"HeavyFilesModel", "answered", "(IIII)I"⟩, 42) := ⟨⟨by decide +kernel, by decide +kernel⟩, List.mem_of_getElem? (i := 1011) (by decide +kernel), List.mem_of_getElem? (i := 1424) (by decide +kernel), List.mem_of_getElem? (i := 1425) (by decide +kernel)⟩
theorem lw_p76 : lw_okq (⟨"HeavyFilesModel", "gives", "(III)I"⟩, 42) := ⟨⟨by decide +kernel, by decide +kernel⟩, List.mem_of_getElem? (i := 1011) (by decide +kernel), List.mem_of_getElem? (i := 1428) (by decide +kernel), List.mem_of_getElem? (i := 1429) (by decide +kernel)⟩
theorem lw_p77 : lw_okq (⟨"HeavyFilesModel", "turnAt", "(III)I"⟩, 42) := ⟨⟨by decide +kernel, by decide +kernel⟩, List.mem_of_getElem? (i := 1011) (by decide +kernel), List.mem_of_getElem? (i := 1432) (by decide +kernel), List.mem_of_getElem? (i := 1433) (by decide +kernel)⟩
theorem lw_p78 : lw_okq (⟨"HeavyFilesModel", "askedLend", "(II)I"⟩, 42) := ⟨⟨by decide +kernel, by decide +kernel⟩, List.mem_of_getElem? (i := 1011) (by decide +kernel), List.mem_of_getElem? (i := 1455) (by decide +kernel), List.mem_of_getElem? (i := 1456) (by decide +kernel)⟩
theorem lw_p79 : lw_okq (⟨"HeavyFilesModel", "stockWith", "(I)I"⟩, 42) := ⟨⟨by decide +kernel, by decide +kernel⟩, List.mem_of_getElem? (i := 1011) (by decide +kernel), List.mem_of_getElem? (i := 1459) (by decide +kernel), List.mem_of_getElem? (i := 1460) (by decide +kernel)⟩
def lw_privs_5 : List (MethodName × Nat) := [(⟨"HeavyFilesModel", "fewestOn", "(III)V"⟩, 42), (⟨"HeavyFilesModel", "firstStep", "()V"⟩, 42), (⟨"HeavyFilesModel", "stepFor", "(I)V"⟩, 42), (⟨"HeavyFilesModel", "nextStep", "(I)Z"⟩, 42), (⟨"HeavyFilesModel", "part", "(JJI)I"⟩, 42), (⟨"HeavyFilesModel", "sureOf", "()I"⟩, 42), (⟨"HeavyFilesModel", "worstOn", "(III)V"⟩, 42), (⟨"HeavyFilesModel", "askedMixed", "(II)I"⟩, 42), (⟨"HeavyFilesModel", "mixedOf", "(IIII)I"⟩, 42), (⟨"HeavyFilesModel", "setTurns", "()V"⟩, 42), (⟨"HeavyFilesModel", "laidIn", "(III)I"⟩, 42), (⟨"HeavyFilesModel", "answered", "(IIII)I"⟩, 42), (⟨"HeavyFilesModel", "gives", "(III)I"⟩, 42), (⟨"HeavyFilesModel", "turnAt", "(III)I"⟩, 42), (⟨"HeavyFilesModel", "askedLend", "(II)I"⟩, 42), (⟨"HeavyFilesModel", "stockWith", "(I)I"⟩, 42)]
theorem lw_r5 : ∀ q ∈ lw_privs_5, lw_okq q := List.forall_mem_cons.mpr ⟨lw_p64, List.forall_mem_cons.mpr ⟨lw_p65, List.forall_mem_cons.mpr ⟨lw_p66, List.forall_mem_cons.mpr ⟨lw_p67, List.forall_mem_cons.mpr ⟨lw_p68, List.forall_mem_cons.mpr ⟨lw_p69, List.forall_mem_cons.mpr ⟨lw_p70, List.forall_mem_cons.mpr ⟨lw_p71, List.forall_mem_cons.mpr ⟨lw_p72, List.forall_mem_cons.mpr ⟨lw_p73, List.forall_mem_cons.mpr ⟨lw_p74, List.forall_mem_cons.mpr ⟨lw_p75, List.forall_mem_cons.mpr ⟨lw_p76, List.forall_mem_cons.mpr ⟨lw_p77, List.forall_mem_cons.mpr ⟨lw_p78, List.forall_mem_cons.mpr ⟨lw_p79, fun _ h => absurd h List.not_mem_nil⟩⟩⟩⟩⟩⟩⟩⟩⟩⟩⟩⟩⟩⟩⟩⟩
theorem lw_p80 : lw_okq (⟨"HeavyFilesModel", "scoreWith", "(I)I"⟩, 42) := ⟨⟨by decide +kernel, by decide +kernel⟩, List.mem_of_getElem? (i := 1011) (by decide +kernel), List.mem_of_getElem? (i := 1463) (by decide +kernel), List.mem_of_getElem? (i := 1464) (by decide +kernel)⟩
theorem lw_p81 : lw_okq (⟨"HeavyFilesModel", "layRule", "(II)V"⟩, 42) := ⟨⟨by decide +kernel, by decide +kernel⟩, List.mem_of_getElem? (i := 1011) (by decide +kernel), List.mem_of_getElem? (i := 1484) (by decide +kernel), List.mem_of_getElem? (i := 1485) (by decide +kernel)⟩
theorem lw_p82 : lw_okq (⟨"HeavyFilesModel", "fitting", "()I"⟩, 42) := ⟨⟨by decide +kernel, by decide +kernel⟩, List.mem_of_getElem? (i := 1011) (by decide +kernel), List.mem_of_getElem? (i := 1500) (by decide +kernel), List.mem_of_getElem? (i := 1501) (by decide +kernel)⟩
theorem lw_p83 : lw_okq (⟨"HeavyFilesModel", "fits", "(I)Z"⟩, 42) := ⟨⟨by decide +kernel, by decide +kernel⟩, List.mem_of_getElem? (i := 1011) (by decide +kernel), List.mem_of_getElem? (i := 1504) (by decide +kernel), List.mem_of_getElem? (i := 1505) (by decide +kernel)⟩
theorem lw_p84 : lw_okq (⟨"HeavyFilesModel", "wonSet", "()I"⟩, 42) := ⟨⟨by decide +kernel, by decide +kernel⟩, List.mem_of_getElem? (i := 1011) (by decide +kernel), List.mem_of_getElem? (i := 1508) (by decide +kernel), List.mem_of_getElem? (i := 1509) (by decide +kernel)⟩
theorem lw_p85 : lw_okq (⟨"HeavyFilesModel", "setRuled", "()V"⟩, 42) := ⟨⟨by decide +kernel, by decide +kernel⟩, List.mem_of_getElem? (i := 1011) (by decide +kernel), List.mem_of_getElem? (i := 1512) (by decide +kernel), List.mem_of_getElem? (i := 1513) (by decide +kernel)⟩
theorem lw_p86 : lw_okq (⟨"HeavyFilesModel", "areAlike", "(II)Z"⟩, 42) := ⟨⟨by decide +kernel, by decide +kernel⟩, List.mem_of_getElem? (i := 1011) (by decide +kernel), List.mem_of_getElem? (i := 1516) (by decide +kernel), List.mem_of_getElem? (i := 1517) (by decide +kernel)⟩
theorem lw_p87 : lw_okq (⟨"HeavyFilesModel", "setsBy", "(I)I"⟩, 42) := ⟨⟨by decide +kernel, by decide +kernel⟩, List.mem_of_getElem? (i := 1011) (by decide +kernel), List.mem_of_getElem? (i := 1528) (by decide +kernel), List.mem_of_getElem? (i := 1529) (by decide +kernel)⟩
theorem lw_p88 : lw_okq (⟨"HeavyFilesModel", "counts", "(I)I"⟩, 42) := ⟨⟨by decide +kernel, by decide +kernel⟩, List.mem_of_getElem? (i := 1011) (by decide +kernel), List.mem_of_getElem? (i := 1556) (by decide +kernel), List.mem_of_getElem? (i := 1557) (by decide +kernel)⟩
theorem lw_p89 : lw_okq (⟨"HeavyFilesModel", "adding", "(I)V"⟩, 42) := ⟨⟨by decide +kernel, by decide +kernel⟩, List.mem_of_getElem? (i := 1011) (by decide +kernel), List.mem_of_getElem? (i := 1573) (by decide +kernel), List.mem_of_getElem? (i := 1574) (by decide +kernel)⟩
theorem lw_p90 : lw_okq (⟨"HeavyFilesModel", "mixCourt", "()V"⟩, 42) := ⟨⟨by decide +kernel, by decide +kernel⟩, List.mem_of_getElem? (i := 1011) (by decide +kernel), List.mem_of_getElem? (i := 1578) (by decide +kernel), List.mem_of_getElem? (i := 1579) (by decide +kernel)⟩
def lw_privs_6 : List (MethodName × Nat) := [(⟨"HeavyFilesModel", "scoreWith", "(I)I"⟩, 42), (⟨"HeavyFilesModel", "layRule", "(II)V"⟩, 42), (⟨"HeavyFilesModel", "fitting", "()I"⟩, 42), (⟨"HeavyFilesModel", "fits", "(I)Z"⟩, 42), (⟨"HeavyFilesModel", "wonSet", "()I"⟩, 42), (⟨"HeavyFilesModel", "setRuled", "()V"⟩, 42), (⟨"HeavyFilesModel", "areAlike", "(II)Z"⟩, 42), (⟨"HeavyFilesModel", "setsBy", "(I)I"⟩, 42), (⟨"HeavyFilesModel", "counts", "(I)I"⟩, 42), (⟨"HeavyFilesModel", "adding", "(I)V"⟩, 42), (⟨"HeavyFilesModel", "mixCourt", "()V"⟩, 42)]
theorem lw_r6 : ∀ q ∈ lw_privs_6, lw_okq q := List.forall_mem_cons.mpr ⟨lw_p80, List.forall_mem_cons.mpr ⟨lw_p81, List.forall_mem_cons.mpr ⟨lw_p82, List.forall_mem_cons.mpr ⟨lw_p83, List.forall_mem_cons.mpr ⟨lw_p84, List.forall_mem_cons.mpr ⟨lw_p85, List.forall_mem_cons.mpr ⟨lw_p86, List.forall_mem_cons.mpr ⟨lw_p87, List.forall_mem_cons.mpr ⟨lw_p88, List.forall_mem_cons.mpr ⟨lw_p89, List.forall_mem_cons.mpr ⟨lw_p90, fun _ h => absurd h List.not_mem_nil⟩⟩⟩⟩⟩⟩⟩⟩⟩⟩⟩
def lw_privs : List (MethodName × Nat) := lw_privs_1 ++ (lw_privs_2 ++ (lw_privs_3 ++ (lw_privs_4 ++ (lw_privs_5 ++ (lw_privs_6)))))
def lw_tbl : List Cond := k2_sels lw_privs ++ tables_1
theorem lw_privs_ok : ∀ q ∈ lw_privs, lw_okq q := by
  show ∀ q ∈ lw_privs_1 ++ (lw_privs_2 ++ (lw_privs_3 ++ (lw_privs_4 ++ (lw_privs_5 ++ (lw_privs_6))))), lw_okq q
  exact List.forall_mem_append.mpr ⟨lw_r1, List.forall_mem_append.mpr ⟨lw_r2, List.forall_mem_append.mpr ⟨lw_r3, List.forall_mem_append.mpr ⟨lw_r4, List.forall_mem_append.mpr ⟨lw_r5, lw_r6⟩⟩⟩⟩⟩
def RX0 : String := "HeavyFiles$Court"
def TX0 : u_T := fun k => match k with
  | 0 => ("HeavyFiles$Court", "suits", "[LHeavyFiles$Suit;", true)
  | 1 => ("HeavyFiles$Court", "stocks", "[I", true)
  | 2 => ("HeavyFiles$Court", "lent", "[I", true)
  | 3 => ("HeavyFiles$Court", "laid", "[[I", true)
  | 4 => ("HeavyFiles$Court", "won", "[I", true)
  | 5 => ("HeavyFiles$Court", "size", "I", false)
  | 6 => ("HeavyFiles$Court", "damp", "I", false)
  | 7 => ("HeavyFiles$Court", "notes", "I", false)
  | _ => ("HeavyFiles$Court", "isThere", "Z", false)
def tyX0 : Nat → FieldType := fun k => match k with
  | 0 => .array (.object "HeavyFiles$Suit")
  | 1 => .array .int
  | 2 => .array .int
  | 3 => .array (.array .int)
  | 4 => .array .int
  | 5 => .int
  | 6 => .int
  | 7 => .int
  | _ => .boolean
abbrev wsX00 : List Cond := u_ws RX0 TX0 9
theorem nmX0 : ∀ a, a < 9 → ∀ b, b < 9 → a ≠ b → (TX0 a).2.1 ≠ (TX0 b).2.1 := by decide +kernel
theorem tyX0_ok : ∀ k, k < 9 → parseFieldDescriptor (TX0 k).2.2.1 = some (tyX0 k) := by decide +kernel
abbrev cX0_init : ByteArray := prog_2_method_1_code
def yX0_init : MethodName := ⟨RX0, "<init>", "()V"⟩
abbrev cX0_open : ByteArray := prog_2_method_2_code
def yX0_open : MethodName := ⟨RX0, "open", "(LHeavyFiles$Reader;)V"⟩
abbrev cX0_take : ByteArray := prog_2_method_3_code
def yX0_take : MethodName := ⟨RX0, "take", "(LHeavyFiles$Court;)V"⟩
abbrev cX0_suitOf : ByteArray := prog_2_method_4_code
def yX0_suitOf : MethodName := ⟨RX0, "suitOf", "(I)LHeavyFiles$Suit;"⟩
abbrev cX0_worths : ByteArray := prog_2_method_5_code
def yX0_worths : MethodName := ⟨RX0, "worths", "()I"⟩
abbrev cX0_howMany : ByteArray := prog_2_method_6_code
def yX0_howMany : MethodName := ⟨RX0, "howMany", "(I)I"⟩
abbrev cX0_hangingOn : ByteArray := prog_2_method_7_code
def yX0_hangingOn : MethodName := ⟨RX0, "hangingOn", "(I)I"⟩
abbrev cX0_stockWith : ByteArray := prog_2_method_8_code
def yX0_stockWith : MethodName := ⟨RX0, "stockWith", "(I)I"⟩
abbrev cX0_allows : ByteArray := prog_2_method_9_code
def yX0_allows : MethodName := ⟨RX0, "allows", "(LHeavyFiles$Row;I)Z"⟩
abbrev cX0_need : ByteArray := prog_2_method_10_code
def yX0_need : MethodName := ⟨RX0, "need", "(IIIII[I)I"⟩
abbrev cX0_write : ByteArray := prog_2_method_11_code
def yX0_write : MethodName := ⟨RX0, "write", "([II)V"⟩
abbrev cX0_wonAt : ByteArray := prog_2_method_12_code
def yX0_wonAt : MethodName := ⟨RX0, "wonAt", "(I)I"⟩
abbrev cX0_laidAt : ByteArray := prog_2_method_13_code
def yX0_laidAt : MethodName := ⟨RX0, "laidAt", "(I)[I"⟩
abbrev cX0_joinedTo : ByteArray := prog_2_method_14_code
def yX0_joinedTo : MethodName := ⟨RX0, "joinedTo", "(J)J"⟩
def RX1 : String := "HeavyFiles$Dread"
def TX1 : u_T := fun k => match k with
  | 0 => ("HeavyFiles$Dread", "winners", "[I", true)
  | 1 => ("HeavyFiles$Dread", "least", "I", false)
  | _ => ("HeavyFiles$Dread", "enough", "I", false)
def tyX1 : Nat → FieldType := fun k => match k with
  | 0 => .array .int
  | 1 => .int
  | _ => .int
abbrev wsX10 : List Cond := u_ws RX1 TX1 3
theorem nmX1 : ∀ a, a < 3 → ∀ b, b < 3 → a ≠ b → (TX1 a).2.1 ≠ (TX1 b).2.1 := by decide +kernel
theorem tyX1_ok : ∀ k, k < 3 → parseFieldDescriptor (TX1 k).2.2.1 = some (tyX1 k) := by decide +kernel
abbrev cX1_init : ByteArray := prog_3_method_1_code
def yX1_init : MethodName := ⟨RX1, "<init>", "()V"⟩
abbrev cX1_leastFor : ByteArray := prog_3_method_2_code
def yX1_leastFor : MethodName := ⟨RX1, "leastFor", "(LHeavyFiles$Court;[II)I"⟩
abbrev cX1_branch : ByteArray := prog_3_method_3_code
def yX1_branch : MethodName := ⟨RX1, "branch", "(LHeavyFiles$Dread;LHeavyFiles$Court;[IIII)V"⟩
def RX2 : String := "HeavyFiles$Guess"
def TX2 : u_T := fun k => match k with
  | 0 => ("HeavyFiles$Guess", "laid", "[I", true)
  | 1 => ("HeavyFiles$Guess", "scale", "LHeavyFiles$Scale;", true)
  | 2 => ("HeavyFiles$Guess", "next", "[[I", true)
  | 3 => ("HeavyFiles$Guess", "scales", "[LHeavyFiles$Scale;", true)
  | 4 => ("HeavyFiles$Guess", "sets", "[I", true)
  | _ => ("HeavyFiles$Guess", "fitting", "I", false)
def tyX2 : Nat → FieldType := fun k => match k with
  | 0 => .array .int
  | 1 => .object "HeavyFiles$Scale"
  | 2 => .array (.array .int)
  | 3 => .array (.object "HeavyFiles$Scale")
  | 4 => .array .int
  | _ => .int
abbrev wsX20 : List Cond := u_ws RX2 TX2 6
theorem nmX2 : ∀ a, a < 6 → ∀ b, b < 6 → a ≠ b → (TX2 a).2.1 ≠ (TX2 b).2.1 := by decide +kernel
theorem tyX2_ok : ∀ k, k < 6 → parseFieldDescriptor (TX2 k).2.2.1 = some (tyX2 k) := by decide +kernel
abbrev cX2_init : ByteArray := prog_4_method_1_code
def yX2_init : MethodName := ⟨RX2, "<init>", "()V"⟩
abbrev cX2_layBy : ByteArray := prog_4_method_2_code
def yX2_layBy : MethodName := ⟨RX2, "layBy", "(LHeavyFiles$Court;II)V"⟩
abbrev cX2_layEven : ByteArray := prog_4_method_3_code
def yX2_layEven : MethodName := ⟨RX2, "layEven", "(II)V"⟩
abbrev cX2_layByWorth : ByteArray := prog_4_method_4_code
def yX2_layByWorth : MethodName := ⟨RX2, "layByWorth", "(LHeavyFiles$Court;II)V"⟩
abbrev cX2_greatestOf : ByteArray := prog_4_method_5_code
def yX2_greatestOf : MethodName := ⟨RX2, "greatestOf", "(LHeavyFiles$Court;I)I"⟩
abbrev cX2_layBack : ByteArray := prog_4_method_6_code
def yX2_layBack : MethodName := ⟨RX2, "layBack", "([III)V"⟩
abbrev cX2_fitting : ByteArray := prog_4_method_7_code
def yX2_fitting : MethodName := ⟨RX2, "fitting", "(LHeavyFiles$Court;)I"⟩
abbrev cX2_firstOf : ByteArray := prog_4_method_8_code
def yX2_firstOf : MethodName := ⟨RX2, "firstOf", "(I)I"⟩
abbrev cX2_fits : ByteArray := prog_4_method_9_code
def yX2_fits : MethodName := ⟨RX2, "fits", "(LHeavyFiles$Court;I)Z"⟩
abbrev cX2_prepare : ByteArray := prog_4_method_10_code
def yX2_prepare : MethodName := ⟨RX2, "prepare", "(LHeavyFiles$Court;I)V"⟩
abbrev cX2_unlikeLayings : ByteArray := prog_4_method_11_code
def yX2_unlikeLayings : MethodName := ⟨RX2, "unlikeLayings", "(LHeavyFiles$Court;I)I"⟩
abbrev cX2_firstLike : ByteArray := prog_4_method_12_code
def yX2_firstLike : MethodName := ⟨RX2, "firstLike", "(I)I"⟩
abbrev cX2_unlikeSets : ByteArray := prog_4_method_13_code
def yX2_unlikeSets : MethodName := ⟨RX2, "unlikeSets", "(LHeavyFiles$Court;[II)I"⟩
abbrev cX2_unlikeOnes : ByteArray := prog_4_method_14_code
def yX2_unlikeOnes : MethodName := ⟨RX2, "unlikeOnes", "()I"⟩
def RX3 : String := "HeavyFiles$Layings"
def TX3 : u_T := fun k => match k with
  | 0 => ("HeavyFiles$Layings", "laid", "[I", true)
  | 1 => ("HeavyFiles$Layings", "size", "I", false)
  | _ => ("HeavyFiles$Layings", "left", "I", false)
def tyX3 : Nat → FieldType := fun k => match k with
  | 0 => .array .int
  | 1 => .int
  | _ => .int
abbrev wsX30 : List Cond := u_ws RX3 TX3 3
theorem nmX3 : ∀ a, a < 3 → ∀ b, b < 3 → a ≠ b → (TX3 a).2.1 ≠ (TX3 b).2.1 := by decide +kernel
theorem tyX3_ok : ∀ k, k < 3 → parseFieldDescriptor (TX3 k).2.2.1 = some (tyX3 k) := by decide +kernel
abbrev cX3_init : ByteArray := prog_5_method_1_code
def yX3_init : MethodName := ⟨RX3, "<init>", "()V"⟩
abbrev cX3_begin : ByteArray := prog_5_method_2_code
def yX3_begin : MethodName := ⟨RX3, "begin", "(II)V"⟩
abbrev cX3_next : ByteArray := prog_5_method_3_code
def yX3_next : MethodName := ⟨RX3, "next", "()I"⟩
def RX4 : String := "HeavyFiles$Mixing"
def TX4 : u_T := fun k => match k with
  | 0 => ("HeavyFiles$Mixing", "first", "LHeavyFiles$Scale;", true)
  | 1 => ("HeavyFiles$Mixing", "second", "LHeavyFiles$Scale;", true)
  | _ => ("HeavyFiles$Mixing", "least", "[I", true)
def tyX4 : Nat → FieldType := fun k => match k with
  | 0 => .object "HeavyFiles$Scale"
  | 1 => .object "HeavyFiles$Scale"
  | _ => .array .int
abbrev wsX40 : List Cond := u_ws RX4 TX4 3
theorem nmX4 : ∀ a, a < 3 → ∀ b, b < 3 → a ≠ b → (TX4 a).2.1 ≠ (TX4 b).2.1 := by decide +kernel
theorem tyX4_ok : ∀ k, k < 3 → parseFieldDescriptor (TX4 k).2.2.1 = some (tyX4 k) := by decide +kernel
abbrev cX4_init : ByteArray := prog_6_method_1_code
def yX4_init : MethodName := ⟨RX4, "<init>", "()V"⟩
abbrev cX4_weighAll : ByteArray := prog_6_method_2_code
def yX4_weighAll : MethodName := ⟨RX4, "weighAll", "(LHeavyFiles$Court;LHeavyFiles$Layings;[I[I)V"⟩
abbrev cX4_leastBy : ByteArray := prog_6_method_3_code
def yX4_leastBy : MethodName := ⟨RX4, "leastBy", "(II)I"⟩
abbrev cX4_bestParts : ByteArray := prog_6_method_4_code
def yX4_bestParts : MethodName := ⟨RX4, "bestParts", "()I"⟩
def RX5 : String := "HeavyFiles$Reader"
def TX5 : u_T := fun k => match k with
  | 0 => ("HeavyFiles$Reader", "stocks", "[I", true)
  | 1 => ("HeavyFiles$Reader", "kinds", "[I", true)
  | 2 => ("HeavyFiles$Reader", "worths", "[I", true)
  | 3 => ("HeavyFiles$Reader", "figures", "[I", true)
  | 4 => ("HeavyFiles$Reader", "suits", "I", false)
  | _ => ("HeavyFiles$Reader", "place", "I", false)
def tyX5 : Nat → FieldType := fun k => match k with
  | 0 => .array .int
  | 1 => .array .int
  | 2 => .array .int
  | 3 => .array .int
  | 4 => .int
  | _ => .int
abbrev wsX50 : List Cond := u_ws RX5 TX5 6
theorem nmX5 : ∀ a, a < 6 → ∀ b, b < 6 → a ≠ b → (TX5 a).2.1 ≠ (TX5 b).2.1 := by decide +kernel
theorem tyX5_ok : ∀ k, k < 6 → parseFieldDescriptor (TX5 k).2.2.1 = some (tyX5 k) := by decide +kernel
abbrev cX5_init : ByteArray := prog_7_method_1_code
def yX5_init : MethodName := ⟨RX5, "<init>", "()V"⟩
abbrev cX5_read : ByteArray := prog_7_method_2_code
def yX5_read : MethodName := ⟨RX5, "read", "(LHeavyFiles$Row;)I"⟩
abbrev cX5_sign : ByteArray := prog_7_method_3_code
def yX5_sign : MethodName := ⟨RX5, "sign", "(LHeavyFiles$Row;)I"⟩
abbrev cX5_figure : ByteArray := prog_7_method_4_code
def yX5_figure : MethodName := ⟨RX5, "figure", "(LHeavyFiles$Row;)I"⟩
abbrev cX5_skipBlanks : ByteArray := prog_7_method_5_code
def yX5_skipBlanks : MethodName := ⟨RX5, "skipBlanks", "(LHeavyFiles$Row;)V"⟩
abbrev cX5_passes : ByteArray := prog_7_method_6_code
def yX5_passes : MethodName := ⟨RX5, "passes", "(LHeavyFiles$Row;I)Z"⟩
abbrev cX5_passesStock : ByteArray := prog_7_method_7_code
def yX5_passesStock : MethodName := ⟨RX5, "passesStock", "(LHeavyFiles$Row;I)Z"⟩
abbrev cX5_passesSuit : ByteArray := prog_7_method_8_code
def yX5_passesSuit : MethodName := ⟨RX5, "passesSuit", "(LHeavyFiles$Row;)Z"⟩
abbrev cX5_kindBy : ByteArray := prog_7_method_9_code
def yX5_kindBy : MethodName := ⟨RX5, "kindBy", "(I)I"⟩
def RX6 : String := "HeavyFiles$Row"
def TX6 : u_T := fun k => match k with
  | 0 => ("HeavyFiles$Row", "places", "[I", true)
  | _ => ("HeavyFiles$Row", "size", "I", false)
def tyX6 : Nat → FieldType := fun k => match k with
  | 0 => .array .int
  | _ => .int
abbrev wsX60 : List Cond := u_ws RX6 TX6 2
theorem nmX6 : ∀ a, a < 2 → ∀ b, b < 2 → a ≠ b → (TX6 a).2.1 ≠ (TX6 b).2.1 := by decide +kernel
theorem tyX6_ok : ∀ k, k < 2 → parseFieldDescriptor (TX6 k).2.2.1 = some (tyX6 k) := by decide +kernel
abbrev cX6_init : ByteArray := prog_8_method_1_code
def yX6_init : MethodName := ⟨RX6, "<init>", "(I)V"⟩
abbrev cX6_isMissing : ByteArray := prog_8_method_2_code
def yX6_isMissing : MethodName := ⟨RX6, "isMissing", "()Z"⟩
abbrev cX6_has : ByteArray := prog_8_method_3_code
def yX6_has : MethodName := ⟨RX6, "has", "(I)Z"⟩
abbrev cX6_hasAll : ByteArray := prog_8_method_4_code
def yX6_hasAll : MethodName := ⟨RX6, "hasAll", "(II)Z"⟩
abbrev cX6_isWithin : ByteArray := prog_8_method_5_code
def yX6_isWithin : MethodName := ⟨RX6, "isWithin", "(I)Z"⟩
abbrev cX6_renew : ByteArray := prog_8_method_6_code
def yX6_renew : MethodName := ⟨RX6, "renew", "(II)V"⟩
abbrev cX6_take : ByteArray := prog_8_method_7_code
def yX6_take : MethodName := ⟨RX6, "take", "([II)V"⟩
abbrev cX6_total : ByteArray := prog_8_method_8_code
def yX6_total : MethodName := ⟨RX6, "total", "()J"⟩
abbrev cX6_joinedTo : ByteArray := prog_8_method_9_code
def yX6_joinedTo : MethodName := ⟨RX6, "joinedTo", "(J)J"⟩
def RX7 : String := "HeavyFiles$Scale"
def TX7 : u_T := fun k => match k with
  | 0 => ("HeavyFiles$Scale", "winners", "[I", true)
  | 1 => ("HeavyFiles$Scale", "leads", "[I", true)
  | 2 => ("HeavyFiles$Scale", "ahead", "[I", true)
  | 3 => ("HeavyFiles$Scale", "score", "I", false)
  | _ => ("HeavyFiles$Scale", "won", "I", false)
def tyX7 : Nat → FieldType := fun k => match k with
  | 0 => .array .int
  | 1 => .array .int
  | 2 => .array .int
  | 3 => .int
  | _ => .int
abbrev wsX70 : List Cond := u_ws RX7 TX7 5
theorem nmX7 : ∀ a, a < 5 → ∀ b, b < 5 → a ≠ b → (TX7 a).2.1 ≠ (TX7 b).2.1 := by decide +kernel
theorem tyX7_ok : ∀ k, k < 5 → parseFieldDescriptor (TX7 k).2.2.1 = some (tyX7 k) := by decide +kernel
abbrev cX7_init : ByteArray := prog_9_method_1_code
def yX7_init : MethodName := ⟨RX7, "<init>", "()V"⟩
abbrev cX7_weigh : ByteArray := prog_9_method_2_code
def yX7_weigh : MethodName := ⟨RX7, "weigh", "(LHeavyFiles$Court;[I[II)V"⟩
abbrev cX7_wonOf : ByteArray := prog_9_method_3_code
def yX7_wonOf : MethodName := ⟨RX7, "wonOf", "(I)I"⟩
def RX8 : String := "HeavyFiles$Search"
def TX8 : u_T := fun k => match k with
  | 0 => ("HeavyFiles$Search", "laying", "[I", true)
  | 1 => ("HeavyFiles$Search", "score", "I", false)
  | 2 => ("HeavyFiles$Search", "sheets", "I", false)
  | 3 => ("HeavyFiles$Search", "greatest", "[I", true)
  | 4 => ("HeavyFiles$Search", "winners", "[I", true)
  | 5 => ("HeavyFiles$Search", "laid", "[I", true)
  | 6 => ("HeavyFiles$Search", "limit", "I", false)
  | _ => ("HeavyFiles$Search", "dampness", "I", false)
def tyX8 : Nat → FieldType := fun k => match k with
  | 0 => .array .int
  | 1 => .int
  | 2 => .int
  | 3 => .array .int
  | 4 => .array .int
  | 5 => .array .int
  | 6 => .int
  | _ => .int
abbrev wsX80 : List Cond := u_ws RX8 TX8 8
theorem nmX8 : ∀ a, a < 8 → ∀ b, b < 8 → a ≠ b → (TX8 a).2.1 ≠ (TX8 b).2.1 := by decide +kernel
theorem tyX8_ok : ∀ k, k < 8 → parseFieldDescriptor (TX8 k).2.2.1 = some (tyX8 k) := by decide +kernel
abbrev cX8_init : ByteArray := prog_10_method_1_code
def yX8_init : MethodName := ⟨RX8, "<init>", "()V"⟩
abbrev cX8_run : ByteArray := prog_10_method_2_code
def yX8_run : MethodName := ⟨RX8, "run", "(LHeavyFiles$Court;I[II)V"⟩
abbrev cX8_mostBy : ByteArray := prog_10_method_3_code
def yX8_mostBy : MethodName := ⟨RX8, "mostBy", "(I)I"⟩
abbrev cX8_fewestFor : ByteArray := prog_10_method_4_code
def yX8_fewestFor : MethodName := ⟨RX8, "fewestFor", "(I)I"⟩
abbrev cX8_branch : ByteArray := prog_10_method_5_code
def yX8_branch : MethodName := ⟨RX8, "branch", "(LHeavyFiles$Search;LHeavyFiles$Court;[IIII)V"⟩
abbrev cX8_close : ByteArray := prog_10_method_6_code
def yX8_close : MethodName := ⟨RX8, "close", "(II)V"⟩
abbrev cX8_isEarlier : ByteArray := prog_10_method_7_code
def yX8_isEarlier : MethodName := ⟨RX8, "isEarlier", "()Z"⟩
def RX9 : String := "HeavyFiles$Suit"
def TX9 : u_T := fun k => match k with
  | 0 => ("HeavyFiles$Suit", "kind", "I", false)
  | 1 => ("HeavyFiles$Suit", "worth", "I", false)
  | _ => ("HeavyFiles$Suit", "figure", "I", false)
def tyX9 : Nat → FieldType := fun k => match k with
  | 0 => .int
  | 1 => .int
  | _ => .int
abbrev wsX90 : List Cond := u_ws RX9 TX9 3
theorem nmX9 : ∀ a, a < 3 → ∀ b, b < 3 → a ≠ b → (TX9 a).2.1 ≠ (TX9 b).2.1 := by decide +kernel
theorem tyX9_ok : ∀ k, k < 3 → parseFieldDescriptor (TX9 k).2.2.1 = some (tyX9 k) := by decide +kernel
abbrev cX9_init : ByteArray := prog_11_method_1_code
def yX9_init : MethodName := ⟨RX9, "<init>", "()V"⟩
abbrev cX9_become : ByteArray := prog_11_method_2_code
def yX9_become : MethodName := ⟨RX9, "become", "(III)V"⟩
abbrev cX9_isA : ByteArray := prog_11_method_3_code
def yX9_isA : MethodName := ⟨RX9, "isA", "(I)Z"⟩
abbrev cX9_tells : ByteArray := prog_11_method_4_code
def yX9_tells : MethodName := ⟨RX9, "tells", "(I)I"⟩
abbrev cX9_pilesOf : ByteArray := prog_11_method_5_code
def yX9_pilesOf : MethodName := ⟨RX9, "pilesOf", "(I)I"⟩
abbrev cX9_aheadIn : ByteArray := prog_11_method_6_code
def yX9_aheadIn : MethodName := ⟨RX9, "aheadIn", "([I)I"⟩
abbrev cX9_extra : ByteArray := prog_11_method_7_code
def yX9_extra : MethodName := ⟨RX9, "extra", "(IZ)I"⟩
abbrev cX9_least : ByteArray := prog_11_method_8_code
def yX9_least : MethodName := ⟨RX9, "least", "()I"⟩
abbrev cX9_weight : ByteArray := prog_11_method_9_code
def yX9_weight : MethodName := ⟨RX9, "weight", "(II)I"⟩
abbrev cX9_winner : ByteArray := prog_11_method_10_code
def yX9_winner : MethodName := ⟨RX9, "winner", "(II)I"⟩
abbrev cX9_points : ByteArray := prog_11_method_11_code
def yX9_points : MethodName := ⟨RX9, "points", "(II)I"⟩
abbrev cX9_need : ByteArray := prog_11_method_12_code
def yX9_need : MethodName := ⟨RX9, "need", "(IIII)I"⟩
def RX10 : String := "HeavyFiles$TurnTable"
def TX10 : u_T := fun k => match k with
  | 0 => ("HeavyFiles$TurnTable", "values", "[I", true)
  | 1 => ("HeavyFiles$TurnTable", "needs", "[I", true)
  | 2 => ("HeavyFiles$TurnTable", "isFilled", "Z", false)
  | _ => ("HeavyFiles$TurnTable", "answered", "I", false)
def tyX10 : Nat → FieldType := fun k => match k with
  | 0 => .array .int
  | 1 => .array .int
  | 2 => .boolean
  | _ => .int
abbrev wsX100 : List Cond := u_ws RX10 TX10 4
theorem nmX10 : ∀ a, a < 4 → ∀ b, b < 4 → a ≠ b → (TX10 a).2.1 ≠ (TX10 b).2.1 := by decide +kernel
theorem tyX10_ok : ∀ k, k < 4 → parseFieldDescriptor (TX10 k).2.2.1 = some (tyX10 k) := by decide +kernel
abbrev cX10_init : ByteArray := prog_12_method_1_code
def yX10_init : MethodName := ⟨RX10, "<init>", "()V"⟩
abbrev cX10_forget : ByteArray := prog_12_method_2_code
def yX10_forget : MethodName := ⟨RX10, "forget", "()V"⟩
abbrev cX10_valueOf : ByteArray := prog_12_method_3_code
def yX10_valueOf : MethodName := ⟨RX10, "valueOf", "(LHeavyFiles$Court;III)I"⟩
abbrev cX10_firstLaid : ByteArray := prog_12_method_4_code
def yX10_firstLaid : MethodName := ⟨RX10, "firstLaid", "(LHeavyFiles$Court;II)I"⟩
abbrev cX10_answerTo : ByteArray := prog_12_method_5_code
def yX10_answerTo : MethodName := ⟨RX10, "answerTo", "(LHeavyFiles$Court;IIII)I"⟩
abbrev cX10_fill : ByteArray := prog_12_method_6_code
def yX10_fill : MethodName := ⟨RX10, "fill", "(LHeavyFiles$Court;)V"⟩
abbrev cX10_fillSuit : ByteArray := prog_12_method_7_code
def yX10_fillSuit : MethodName := ⟨RX10, "fillSuit", "(LHeavyFiles$Suit;I)V"⟩
abbrev cX10_prepare : ByteArray := prog_12_method_8_code
def yX10_prepare : MethodName := ⟨RX10, "prepare", "(LHeavyFiles$Suit;I)V"⟩
abbrev cX10_after : ByteArray := prog_12_method_9_code
def yX10_after : MethodName := ⟨RX10, "after", "(LHeavyFiles$Suit;IIII)I"⟩
abbrev cX10_value : ByteArray := prog_12_method_10_code
def yX10_value : MethodName := ⟨RX10, "value", "(III)I"⟩
abbrev cX10_placeOf : ByteArray := prog_12_method_11_code
def yX10_placeOf : MethodName := ⟨RX10, "placeOf", "(III)I"⟩
def RX11 : String := "HeavyFiles"
def TX11 : u_T := fun k => match k with
  | 0 => ("HeavyFiles", "rows", "[LHeavyFiles$Row;", true)
  | 1 => ("HeavyFiles", "texts", "[LHeavyFiles$Row;", true)
  | 2 => ("HeavyFiles", "court", "LHeavyFiles$Court;", true)
  | 3 => ("HeavyFiles", "kept", "[LHeavyFiles$Court;", true)
  | 4 => ("HeavyFiles", "reader", "LHeavyFiles$Reader;", true)
  | 5 => ("HeavyFiles", "scale", "LHeavyFiles$Scale;", true)
  | 6 => ("HeavyFiles", "layings", "LHeavyFiles$Layings;", true)
  | 7 => ("HeavyFiles", "search", "LHeavyFiles$Search;", true)
  | 8 => ("HeavyFiles", "dread", "LHeavyFiles$Dread;", true)
  | 9 => ("HeavyFiles", "mixing", "LHeavyFiles$Mixing;", true)
  | 10 => ("HeavyFiles", "turnTable", "LHeavyFiles$TurnTable;", true)
  | 11 => ("HeavyFiles", "guess", "LHeavyFiles$Guess;", true)
  | 12 => ("HeavyFiles", "found", "[I", true)
  | 13 => ("HeavyFiles", "latest", "I", false)
  | 14 => ("HeavyFiles", "asked", "I", false)
  | 15 => ("HeavyFiles", "upper", "J", false)
  | _ => ("HeavyFiles", "lower", "J", false)
def tyX11 : Nat → FieldType := fun k => match k with
  | 0 => .array (.object "HeavyFiles$Row")
  | 1 => .array (.object "HeavyFiles$Row")
  | 2 => .object "HeavyFiles$Court"
  | 3 => .array (.object "HeavyFiles$Court")
  | 4 => .object "HeavyFiles$Reader"
  | 5 => .object "HeavyFiles$Scale"
  | 6 => .object "HeavyFiles$Layings"
  | 7 => .object "HeavyFiles$Search"
  | 8 => .object "HeavyFiles$Dread"
  | 9 => .object "HeavyFiles$Mixing"
  | 10 => .object "HeavyFiles$TurnTable"
  | 11 => .object "HeavyFiles$Guess"
  | 12 => .array .int
  | 13 => .int
  | 14 => .int
  | 15 => .long
  | _ => .long
abbrev wsX110 : List Cond := u_ws RX11 TX11 17
theorem nmX11 : ∀ a, a < 17 → ∀ b, b < 17 → a ≠ b → (TX11 a).2.1 ≠ (TX11 b).2.1 := by decide +kernel
theorem tyX11_ok : ∀ k, k < 17 → parseFieldDescriptor (TX11 k).2.2.1 = some (tyX11 k) := by decide +kernel
abbrev cX11_init : ByteArray := prog_1_method_1_code
def yX11_init : MethodName := ⟨RX11, "<init>", "()V"⟩
abbrev cX11_row : ByteArray := prog_1_method_2_code
def yX11_row : MethodName := ⟨RX11, "row", "(II)I"⟩
abbrev cX11_lay : ByteArray := prog_1_method_3_code
def yX11_lay : MethodName := ⟨RX11, "lay", "(III)I"⟩
abbrev cX11_at : ByteArray := prog_1_method_4_code
def yX11_at : MethodName := ⟨RX11, "at", "(II)I"⟩
abbrev cX11_tear : ByteArray := prog_1_method_5_code
def yX11_tear : MethodName := ⟨RX11, "tear", "(I)I"⟩
abbrev cX11_copy : ByteArray := prog_1_method_6_code
def yX11_copy : MethodName := ⟨RX11, "copy", "(IIIII)I"⟩
abbrev cX11_mean : ByteArray := prog_1_method_7_code
def yX11_mean : MethodName := ⟨RX11, "mean", "(I)I"⟩
abbrev cX11_text : ByteArray := prog_1_method_8_code
def yX11_text : MethodName := ⟨RX11, "text", "(II)I"⟩
abbrev cX11_put : ByteArray := prog_1_method_9_code
def yX11_put : MethodName := ⟨RX11, "put", "(III)I"⟩
abbrev cX11_fault : ByteArray := prog_1_method_10_code
def yX11_fault : MethodName := ⟨RX11, "fault", "(I)I"⟩
abbrev cX11_court : ByteArray := prog_1_method_11_code
def yX11_court : MethodName := ⟨RX11, "court", "(I)I"⟩
abbrev cX11_suit : ByteArray := prog_1_method_12_code
def yX11_suit : MethodName := ⟨RX11, "suit", "(II)I"⟩
abbrev cX11_mark : ByteArray := prog_1_method_13_code
def yX11_mark : MethodName := ⟨RX11, "mark", "(II)I"⟩
abbrev cX11_stock : ByteArray := prog_1_method_14_code
def yX11_stock : MethodName := ⟨RX11, "stock", "(II)I"⟩
abbrev cX11_damp : ByteArray := prog_1_method_15_code
def yX11_damp : MethodName := ⟨RX11, "damp", "(I)I"⟩
abbrev cX11_judge : ByteArray := prog_1_method_16_code
def yX11_judge : MethodName := ⟨RX11, "judge", "(II)I"⟩
abbrev cX11_who : ByteArray := prog_1_method_17_code
def yX11_who : MethodName := ⟨RX11, "who", "(III)I"⟩
abbrev cX11_best : ByteArray := prog_1_method_18_code
def yX11_best : MethodName := ⟨RX11, "best", "(II)I"⟩
abbrev cX11_fewest : ByteArray := prog_1_method_19_code
def yX11_fewest : MethodName := ⟨RX11, "fewest", "(II)I"⟩
abbrev cX11_ways : ByteArray := prog_1_method_20_code
def yX11_ways : MethodName := ⟨RX11, "ways", "(II)I"⟩
abbrev cX11_sure : ByteArray := prog_1_method_21_code
def yX11_sure : MethodName := ⟨RX11, "sure", "(I)I"⟩
abbrev cX11_safe : ByteArray := prog_1_method_22_code
def yX11_safe : MethodName := ⟨RX11, "safe", "(I)I"⟩
abbrev cX11_mixed : ByteArray := prog_1_method_23_code
def yX11_mixed : MethodName := ⟨RX11, "mixed", "(IIII)I"⟩
abbrev cX11_mix : ByteArray := prog_1_method_24_code
def yX11_mix : MethodName := ⟨RX11, "mix", "(II)I"⟩
abbrev cX11_turns : ByteArray := prog_1_method_25_code
def yX11_turns : MethodName := ⟨RX11, "turns", "()I"⟩
abbrev cX11_from : ByteArray := prog_1_method_26_code
def yX11_from : MethodName := ⟨RX11, "from", "(III)I"⟩
abbrev cX11_answer : ByteArray := prog_1_method_27_code
def yX11_answer : MethodName := ⟨RX11, "answer", "(IIII)I"⟩
abbrev cX11_lender : ByteArray := prog_1_method_28_code
def yX11_lender : MethodName := ⟨RX11, "lender", "(II)I"⟩
abbrev cX11_lend : ByteArray := prog_1_method_29_code
def yX11_lend : MethodName := ⟨RX11, "lend", "(II)I"⟩
abbrev cX11_leaves : ByteArray := prog_1_method_30_code
def yX11_leaves : MethodName := ⟨RX11, "leaves", "(II)I"⟩
abbrev cX11_adds : ByteArray := prog_1_method_31_code
def yX11_adds : MethodName := ⟨RX11, "adds", "(II)I"⟩
abbrev cX11_when : ByteArray := prog_1_method_32_code
def yX11_when : MethodName := ⟨RX11, "when", "(I)I"⟩
abbrev cX11_rule : ByteArray := prog_1_method_33_code
def yX11_rule : MethodName := ⟨RX11, "rule", "(II)I"⟩
abbrev cX11_note : ByteArray := prog_1_method_34_code
def yX11_note : MethodName := ⟨RX11, "note", "(II)I"⟩
abbrev cX11_back : ByteArray := prog_1_method_35_code
def yX11_back : MethodName := ⟨RX11, "back", "(I)I"⟩
abbrev cX11_rules : ByteArray := prog_1_method_36_code
def yX11_rules : MethodName := ⟨RX11, "rules", "()I"⟩
abbrev cX11_reply : ByteArray := prog_1_method_37_code
def yX11_reply : MethodName := ⟨RX11, "reply", "(I)I"⟩
abbrev cX11_tell : ByteArray := prog_1_method_38_code
def yX11_tell : MethodName := ⟨RX11, "tell", "(I)I"⟩
abbrev cX11_keep : ByteArray := prog_1_method_39_code
def yX11_keep : MethodName := ⟨RX11, "keep", "(I)I"⟩
abbrev cX11_on : ByteArray := prog_1_method_40_code
def yX11_on : MethodName := ⟨RX11, "on", "(I)I"⟩
abbrev cX11_asked : ByteArray := prog_1_method_41_code
def yX11_asked : MethodName := ⟨RX11, "asked", "()I"⟩
abbrev cX11_upper : ByteArray := prog_1_method_42_code
def yX11_upper : MethodName := ⟨RX11, "upper", "()J"⟩
abbrev cX11_lower : ByteArray := prog_1_method_43_code
def yX11_lower : MethodName := ⟨RX11, "lower", "()J"⟩
abbrev cX11_count : ByteArray := prog_1_method_44_code
def yX11_count : MethodName := ⟨RX11, "count", "(I)I"⟩
abbrev cX11_finding : ByteArray := prog_1_method_45_code
def yX11_finding : MethodName := ⟨RX11, "finding", "()I"⟩
abbrev cX11_findings : ByteArray := prog_1_method_46_code
def yX11_findings : MethodName := ⟨RX11, "findings", "(I)I"⟩
abbrev cX11_digest : ByteArray := prog_1_method_47_code
def yX11_digest : MethodName := ⟨RX11, "digest", "()J"⟩
abbrev cX11_rowOf : ByteArray := prog_1_method_48_code
def yX11_rowOf : MethodName := ⟨RX11, "rowOf", "(I)LHeavyFiles$Row;"⟩
abbrev cX11_textOf : ByteArray := prog_1_method_49_code
def yX11_textOf : MethodName := ⟨RX11, "textOf", "(I)LHeavyFiles$Row;"⟩
abbrev cX11_keptOf : ByteArray := prog_1_method_50_code
def yX11_keptOf : MethodName := ⟨RX11, "keptOf", "(I)LHeavyFiles$Court;"⟩
abbrev cX11_keptCourts : ByteArray := prog_1_method_51_code
def yX11_keptCourts : MethodName := ⟨RX11, "keptCourts", "()I"⟩
abbrev cX11_there : ByteArray := prog_1_method_52_code
def yX11_there : MethodName := ⟨RX11, "there", "([LHeavyFiles$Row;)I"⟩
abbrev cX11_isInTurn : ByteArray := prog_1_method_53_code
def yX11_isInTurn : MethodName := ⟨RX11, "isInTurn", "(I)Z"⟩
abbrev cX11_isTooMuch : ByteArray := prog_1_method_54_code
def yX11_isTooMuch : MethodName := ⟨RX11, "isTooMuch", "(I)Z"⟩
abbrev cX11_refused : ByteArray := prog_1_method_55_code
def yX11_refused : MethodName := ⟨RX11, "refused", "(I)I"⟩
abbrev cX11_told : ByteArray := prog_1_method_56_code
def yX11_told : MethodName := ⟨RX11, "told", "(I)I"⟩
abbrev cX11_fraction : ByteArray := prog_1_method_57_code
def yX11_fraction : MethodName := ⟨RX11, "fraction", "(JJ)V"⟩
abbrev cX11_joined : ByteArray := prog_1_method_58_code
def yX11_joined : MethodName := ⟨RX11, "joined", "(JJ)J"⟩
abbrev cX11_isWrong : ByteArray := prog_1_method_59_code
def yX11_isWrong : MethodName := ⟨RX11, "isWrong", "(LHeavyFiles$Row;I)Z"⟩
abbrev cX11_isWrong_ : ByteArray := prog_1_method_60_code
def yX11_isWrong_ : MethodName := ⟨RX11, "isWrong", "(LHeavyFiles$Row;ILHeavyFiles$Row;I)Z"⟩
abbrev cX11_areWrong : ByteArray := prog_1_method_61_code
def yX11_areWrong : MethodName := ⟨RX11, "areWrong", "(LHeavyFiles$Row;LHeavyFiles$Row;)Z"⟩
abbrev cX11_isRefused : ByteArray := prog_1_method_62_code
def yX11_isRefused : MethodName := ⟨RX11, "isRefused", "(ZZZ)Z"⟩
abbrev cX11_worthOf : ByteArray := prog_1_method_63_code
def yX11_worthOf : MethodName := ⟨RX11, "worthOf", "(I)I"⟩
abbrev cX11_shareOf : ByteArray := prog_1_method_64_code
def yX11_shareOf : MethodName := ⟨RX11, "shareOf", "(LHeavyFiles$Row;I)I"⟩
abbrev cX11_ordersAround : ByteArray := prog_1_method_65_code
def yX11_ordersAround : MethodName := ⟨RX11, "ordersAround", "(I)I"⟩
def RX12 : String := "HeavyFilesModel"
def TX12 : u_T := fun k => match k with
  | 0 => ("HeavyFilesModel", "finding", "I", false)
  | 1 => ("HeavyFilesModel", "findings", "[I", true)
  | 2 => ("HeavyFilesModel", "asked", "I", false)
  | 3 => ("HeavyFilesModel", "upper", "J", false)
  | 4 => ("HeavyFilesModel", "lower", "J", false)
  | 5 => ("HeavyFilesModel", "sizes", "[I", true)
  | 6 => ("HeavyFilesModel", "rows", "[I", true)
  | 7 => ("HeavyFilesModel", "moving", "[I", true)
  | 8 => ("HeavyFilesModel", "lengths", "[I", true)
  | 9 => ("HeavyFilesModel", "texts", "[I", true)
  | 10 => ("HeavyFilesModel", "many", "I", false)
  | 11 => ("HeavyFilesModel", "suits", "[I", true)
  | 12 => ("HeavyFilesModel", "stocks", "[I", true)
  | 13 => ("HeavyFilesModel", "damp", "I", false)
  | 14 => ("HeavyFilesModel", "readAt", "I", false)
  | 15 => ("HeavyFilesModel", "readNumber", "I", false)
  | 16 => ("HeavyFilesModel", "readMany", "I", false)
  | 17 => ("HeavyFilesModel", "readHead", "Z", false)
  | 18 => ("HeavyFilesModel", "readStocks", "[I", true)
  | 19 => ("HeavyFilesModel", "mine", "[I", true)
  | 20 => ("HeavyFilesModel", "theirs", "[I", true)
  | 21 => ("HeavyFilesModel", "winner", "[I", true)
  | 22 => ("HeavyFilesModel", "limit", "I", false)
  | 23 => ("HeavyFilesModel", "goal", "I", false)
  | 24 => ("HeavyFilesModel", "bestScore", "I", false)
  | 25 => ("HeavyFilesModel", "bestSheets", "I", false)
  | 26 => ("HeavyFilesModel", "laid", "[I", true)
  | 27 => ("HeavyFilesModel", "bestLaid", "[I", true)
  | 28 => ("HeavyFilesModel", "leastSheets", "I", false)
  | 29 => ("HeavyFilesModel", "scoreThen", "I", false)
  | 30 => ("HeavyFilesModel", "step", "[I", true)
  | 31 => ("HeavyFilesModel", "leastScore", "I", false)
  | 32 => ("HeavyFilesModel", "turn", "[I", true)
  | 33 => ("HeavyFilesModel", "bestAnswer", "I", false)
  | 34 => ("HeavyFilesModel", "bestTurn", "I", false)
  | 35 => ("HeavyFilesModel", "lenders", "[I", true)
  | 36 => ("HeavyFilesModel", "notes", "[I", true)
  | 37 => ("HeavyFilesModel", "noteMany", "I", false)
  | 38 => ("HeavyFilesModel", "ruled", "[I", true)
  | 39 => ("HeavyFilesModel", "wons", "[I", true)
  | 40 => ("HeavyFilesModel", "kept", "[I", true)
  | _ => ("HeavyFilesModel", "h0", "J", false)
def tyX12 : Nat → FieldType := fun k => match k with
  | 0 => .int
  | 1 => .array .int
  | 2 => .int
  | 3 => .long
  | 4 => .long
  | 5 => .array .int
  | 6 => .array .int
  | 7 => .array .int
  | 8 => .array .int
  | 9 => .array .int
  | 10 => .int
  | 11 => .array .int
  | 12 => .array .int
  | 13 => .int
  | 14 => .int
  | 15 => .int
  | 16 => .int
  | 17 => .boolean
  | 18 => .array .int
  | 19 => .array .int
  | 20 => .array .int
  | 21 => .array .int
  | 22 => .int
  | 23 => .int
  | 24 => .int
  | 25 => .int
  | 26 => .array .int
  | 27 => .array .int
  | 28 => .int
  | 29 => .int
  | 30 => .array .int
  | 31 => .int
  | 32 => .array .int
  | 33 => .int
  | 34 => .int
  | 35 => .array .int
  | 36 => .array .int
  | 37 => .int
  | 38 => .array .int
  | 39 => .array .int
  | 40 => .array .int
  | _ => .long
abbrev wsX120 : List Cond := u_ws RX12 TX12 42
theorem nmX12 : ∀ a, a < 42 → ∀ b, b < 42 → a ≠ b → (TX12 a).2.1 ≠ (TX12 b).2.1 := by decide +kernel
theorem tyX12_ok : ∀ k, k < 42 → parseFieldDescriptor (TX12 k).2.2.1 = some (tyX12 k) := by decide +kernel
abbrev cX12_init : ByteArray := prog_14_method_1_code
def yX12_init : MethodName := ⟨RX12, "<init>", "()V"⟩
abbrev cX12_in : ByteArray := prog_14_method_3_code
def yX12_in : MethodName := ⟨RX12, "in", "(III)Z"⟩
abbrev cX12_meet : ByteArray := prog_14_method_4_code
def yX12_meet : MethodName := ⟨RX12, "meet", "(I)I"⟩
abbrev cX12_ask : ByteArray := prog_14_method_5_code
def yX12_ask : MethodName := ⟨RX12, "ask", "(II)I"⟩
abbrev cX12_part : ByteArray := prog_14_method_6_code
def yX12_part : MethodName := ⟨RX12, "part", "(JJI)I"⟩
abbrev cX12_isRow : ByteArray := prog_14_method_7_code
def yX12_isRow : MethodName := ⟨RX12, "isRow", "(I)Z"⟩
abbrev cX12_isText : ByteArray := prog_14_method_8_code
def yX12_isText : MethodName := ⟨RX12, "isText", "(I)Z"⟩
abbrev cX12_askedRow : ByteArray := prog_14_method_9_code
def yX12_askedRow : MethodName := ⟨RX12, "askedRow", "(I)I"⟩
abbrev cX12_askedText : ByteArray := prog_14_method_10_code
def yX12_askedText : MethodName := ⟨RX12, "askedText", "(I)I"⟩
abbrev cX12_rowAt : ByteArray := prog_14_method_11_code
def yX12_rowAt : MethodName := ⟨RX12, "rowAt", "(II)I"⟩
abbrev cX12_setRow : ByteArray := prog_14_method_12_code
def yX12_setRow : MethodName := ⟨RX12, "setRow", "(III)V"⟩
abbrev cX12_row : ByteArray := prog_14_method_13_code
def yX12_row : MethodName := ⟨RX12, "row", "(II)I"⟩
abbrev cX12_at : ByteArray := prog_14_method_14_code
def yX12_at : MethodName := ⟨RX12, "at", "(II)I"⟩
abbrev cX12_lay : ByteArray := prog_14_method_15_code
def yX12_lay : MethodName := ⟨RX12, "lay", "(III)I"⟩
abbrev cX12_tear : ByteArray := prog_14_method_16_code
def yX12_tear : MethodName := ⟨RX12, "tear", "(I)I"⟩
abbrev cX12_copy : ByteArray := prog_14_method_17_code
def yX12_copy : MethodName := ⟨RX12, "copy", "(IIIII)I"⟩
abbrev cX12_mean : ByteArray := prog_14_method_18_code
def yX12_mean : MethodName := ⟨RX12, "mean", "(I)I"⟩
abbrev cX12_text : ByteArray := prog_14_method_19_code
def yX12_text : MethodName := ⟨RX12, "text", "(II)I"⟩
abbrev cX12_put : ByteArray := prog_14_method_20_code
def yX12_put : MethodName := ⟨RX12, "put", "(III)I"⟩
abbrev cX12_here : ByteArray := prog_14_method_21_code
def yX12_here : MethodName := ⟨RX12, "here", "(I)I"⟩
abbrev cX12_readsNumber : ByteArray := prog_14_method_22_code
def yX12_readsNumber : MethodName := ⟨RX12, "readsNumber", "(I)Z"⟩
abbrev cX12_readsFigure : ByteArray := prog_14_method_23_code
def yX12_readsFigure : MethodName := ⟨RX12, "readsFigure", "(III)Z"⟩
abbrev cX12_kindOf : ByteArray := prog_14_method_24_code
def yX12_kindOf : MethodName := ⟨RX12, "kindOf", "(I)I"⟩
abbrev cX12_readsHead : ByteArray := prog_14_method_25_code
def yX12_readsHead : MethodName := ⟨RX12, "readsHead", "(I)Z"⟩
abbrev cX12_readsSuit : ByteArray := prog_14_method_26_code
def yX12_readsSuit : MethodName := ⟨RX12, "readsSuit", "(I)Z"⟩
abbrev cX12_goesOn : ByteArray := prog_14_method_27_code
def yX12_goesOn : MethodName := ⟨RX12, "goesOn", "(I)I"⟩
abbrev cX12_fault : ByteArray := prog_14_method_28_code
def yX12_fault : MethodName := ⟨RX12, "fault", "(I)I"⟩
abbrev cX12_court : ByteArray := prog_14_method_29_code
def yX12_court : MethodName := ⟨RX12, "court", "(I)I"⟩
abbrev cX12_isSuit : ByteArray := prog_14_method_30_code
def yX12_isSuit : MethodName := ⟨RX12, "isSuit", "(I)Z"⟩
abbrev cX12_of : ByteArray := prog_14_method_31_code
def yX12_of : MethodName := ⟨RX12, "of", "(II)I"⟩
abbrev cX12_suit : ByteArray := prog_14_method_32_code
def yX12_suit : MethodName := ⟨RX12, "suit", "(II)I"⟩
abbrev cX12_isA : ByteArray := prog_14_method_33_code
def yX12_isA : MethodName := ⟨RX12, "isA", "(II)Z"⟩
abbrev cX12_ofKind : ByteArray := prog_14_method_34_code
def yX12_ofKind : MethodName := ⟨RX12, "ofKind", "(I)I"⟩
abbrev cX12_mark : ByteArray := prog_14_method_35_code
def yX12_mark : MethodName := ⟨RX12, "mark", "(II)I"⟩
abbrev cX12_stock : ByteArray := prog_14_method_36_code
def yX12_stock : MethodName := ⟨RX12, "stock", "(II)I"⟩
abbrev cX12_damp : ByteArray := prog_14_method_37_code
def yX12_damp : MethodName := ⟨RX12, "damp", "(I)I"⟩
abbrev cX12_weight : ByteArray := prog_14_method_38_code
def yX12_weight : MethodName := ⟨RX12, "weight", "(III)I"⟩
abbrev cX12_winnerOf : ByteArray := prog_14_method_39_code
def yX12_winnerOf : MethodName := ⟨RX12, "winnerOf", "(III)I"⟩
abbrev cX12_worthOf : ByteArray := prog_14_method_40_code
def yX12_worthOf : MethodName := ⟨RX12, "worthOf", "(III)I"⟩
abbrev cX12_setWinners : ByteArray := prog_14_method_41_code
def yX12_setWinners : MethodName := ⟨RX12, "setWinners", "()V"⟩
abbrev cX12_scoreOf : ByteArray := prog_14_method_42_code
def yX12_scoreOf : MethodName := ⟨RX12, "scoreOf", "(I)I"⟩
abbrev cX12_wonSet : ByteArray := prog_14_method_43_code
def yX12_wonSet : MethodName := ⟨RX12, "wonSet", "()I"⟩
abbrev cX12_askedSize : ByteArray := prog_14_method_44_code
def yX12_askedSize : MethodName := ⟨RX12, "askedSize", "(I)I"⟩
abbrev cX12_askedNumbers : ByteArray := prog_14_method_45_code
def yX12_askedNumbers : MethodName := ⟨RX12, "askedNumbers", "(II)I"⟩
abbrev cX12_askedLaying : ByteArray := prog_14_method_46_code
def yX12_askedLaying : MethodName := ⟨RX12, "askedLaying", "(II)I"⟩
abbrev cX12_askedTwo : ByteArray := prog_14_method_47_code
def yX12_askedTwo : MethodName := ⟨RX12, "askedTwo", "(IIII)I"⟩
abbrev cX12_takes : ByteArray := prog_14_method_48_code
def yX12_takes : MethodName := ⟨RX12, "takes", "(II)V"⟩
abbrev cX12_judge : ByteArray := prog_14_method_49_code
def yX12_judge : MethodName := ⟨RX12, "judge", "(II)I"⟩
abbrev cX12_who : ByteArray := prog_14_method_50_code
def yX12_who : MethodName := ⟨RX12, "who", "(III)I"⟩
abbrev cX12_fewestFor : ByteArray := prog_14_method_51_code
def yX12_fewestFor : MethodName := ⟨RX12, "fewestFor", "(III)I"⟩
abbrev cX12_isAhead : ByteArray := prog_14_method_52_code
def yX12_isAhead : MethodName := ⟨RX12, "isAhead", "(II)Z"⟩
abbrev cX12_bestOn : ByteArray := prog_14_method_53_code
def yX12_bestOn : MethodName := ⟨RX12, "bestOn", "(III)V"⟩
abbrev cX12_setBest : ByteArray := prog_14_method_54_code
def yX12_setBest : MethodName := ⟨RX12, "setBest", "(I)V"⟩
abbrev cX12_layBest : ByteArray := prog_14_method_55_code
def yX12_layBest : MethodName := ⟨RX12, "layBest", "(I)V"⟩
abbrev cX12_best : ByteArray := prog_14_method_56_code
def yX12_best : MethodName := ⟨RX12, "best", "(II)I"⟩
abbrev cX12_fewestOn : ByteArray := prog_14_method_57_code
def yX12_fewestOn : MethodName := ⟨RX12, "fewestOn", "(III)V"⟩
abbrev cX12_fewest : ByteArray := prog_14_method_58_code
def yX12_fewest : MethodName := ⟨RX12, "fewest", "(II)I"⟩
abbrev cX12_firstStep : ByteArray := prog_14_method_59_code
def yX12_firstStep : MethodName := ⟨RX12, "firstStep", "()V"⟩
abbrev cX12_nextStep : ByteArray := prog_14_method_60_code
def yX12_nextStep : MethodName := ⟨RX12, "nextStep", "(I)Z"⟩
abbrev cX12_stepFor : ByteArray := prog_14_method_61_code
def yX12_stepFor : MethodName := ⟨RX12, "stepFor", "(I)V"⟩
abbrev cX12_ways : ByteArray := prog_14_method_62_code
def yX12_ways : MethodName := ⟨RX12, "ways", "(II)I"⟩
abbrev cX12_worstOn : ByteArray := prog_14_method_63_code
def yX12_worstOn : MethodName := ⟨RX12, "worstOn", "(III)V"⟩
abbrev cX12_sureOf : ByteArray := prog_14_method_64_code
def yX12_sureOf : MethodName := ⟨RX12, "sureOf", "()I"⟩
abbrev cX12_sure : ByteArray := prog_14_method_65_code
def yX12_sure : MethodName := ⟨RX12, "sure", "(I)I"⟩
abbrev cX12_safe : ByteArray := prog_14_method_66_code
def yX12_safe : MethodName := ⟨RX12, "safe", "(I)I"⟩
abbrev cX12_askedMixed : ByteArray := prog_14_method_67_code
def yX12_askedMixed : MethodName := ⟨RX12, "askedMixed", "(II)I"⟩
abbrev cX12_mixedOf : ByteArray := prog_14_method_68_code
def yX12_mixedOf : MethodName := ⟨RX12, "mixedOf", "(IIII)I"⟩
abbrev cX12_mixed : ByteArray := prog_14_method_69_code
def yX12_mixed : MethodName := ⟨RX12, "mixed", "(IIII)I"⟩
abbrev cX12_mix : ByteArray := prog_14_method_70_code
def yX12_mix : MethodName := ⟨RX12, "mix", "(II)I"⟩
abbrev cX12_turnAt : ByteArray := prog_14_method_71_code
def yX12_turnAt : MethodName := ⟨RX12, "turnAt", "(III)I"⟩
abbrev cX12_gives : ByteArray := prog_14_method_72_code
def yX12_gives : MethodName := ⟨RX12, "gives", "(III)I"⟩
abbrev cX12_answered : ByteArray := prog_14_method_73_code
def yX12_answered : MethodName := ⟨RX12, "answered", "(IIII)I"⟩
abbrev cX12_laidIn : ByteArray := prog_14_method_74_code
def yX12_laidIn : MethodName := ⟨RX12, "laidIn", "(III)I"⟩
abbrev cX12_setTurns : ByteArray := prog_14_method_75_code
def yX12_setTurns : MethodName := ⟨RX12, "setTurns", "()V"⟩
abbrev cX12_turns : ByteArray := prog_14_method_76_code
def yX12_turns : MethodName := ⟨RX12, "turns", "()I"⟩
abbrev cX12_areYet : ByteArray := prog_14_method_77_code
def yX12_areYet : MethodName := ⟨RX12, "areYet", "(II)Z"⟩
abbrev cX12_from : ByteArray := prog_14_method_78_code
def yX12_from : MethodName := ⟨RX12, "from", "(III)I"⟩
abbrev cX12_answer : ByteArray := prog_14_method_79_code
def yX12_answer : MethodName := ⟨RX12, "answer", "(IIII)I"⟩
abbrev cX12_lender : ByteArray := prog_14_method_80_code
def yX12_lender : MethodName := ⟨RX12, "lender", "(II)I"⟩
abbrev cX12_stockWith : ByteArray := prog_14_method_81_code
def yX12_stockWith : MethodName := ⟨RX12, "stockWith", "(I)I"⟩
abbrev cX12_scoreWith : ByteArray := prog_14_method_82_code
def yX12_scoreWith : MethodName := ⟨RX12, "scoreWith", "(I)I"⟩
abbrev cX12_askedLend : ByteArray := prog_14_method_83_code
def yX12_askedLend : MethodName := ⟨RX12, "askedLend", "(II)I"⟩
abbrev cX12_lend : ByteArray := prog_14_method_84_code
def yX12_lend : MethodName := ⟨RX12, "lend", "(II)I"⟩
abbrev cX12_leaves : ByteArray := prog_14_method_85_code
def yX12_leaves : MethodName := ⟨RX12, "leaves", "(II)I"⟩
abbrev cX12_adds : ByteArray := prog_14_method_86_code
def yX12_adds : MethodName := ⟨RX12, "adds", "(II)I"⟩
abbrev cX12_when : ByteArray := prog_14_method_87_code
def yX12_when : MethodName := ⟨RX12, "when", "(I)I"⟩
abbrev cX12_layRule : ByteArray := prog_14_method_88_code
def yX12_layRule : MethodName := ⟨RX12, "layRule", "(II)V"⟩
abbrev cX12_rule : ByteArray := prog_14_method_89_code
def yX12_rule : MethodName := ⟨RX12, "rule", "(II)I"⟩
abbrev cX12_note : ByteArray := prog_14_method_90_code
def yX12_note : MethodName := ⟨RX12, "note", "(II)I"⟩
abbrev cX12_back : ByteArray := prog_14_method_91_code
def yX12_back : MethodName := ⟨RX12, "back", "(I)I"⟩
abbrev cX12_fits : ByteArray := prog_14_method_92_code
def yX12_fits : MethodName := ⟨RX12, "fits", "(I)Z"⟩
abbrev cX12_fitting : ByteArray := prog_14_method_93_code
def yX12_fitting : MethodName := ⟨RX12, "fitting", "()I"⟩
abbrev cX12_setRuled : ByteArray := prog_14_method_94_code
def yX12_setRuled : MethodName := ⟨RX12, "setRuled", "()V"⟩
abbrev cX12_areAlike : ByteArray := prog_14_method_95_code
def yX12_areAlike : MethodName := ⟨RX12, "areAlike", "(II)Z"⟩
abbrev cX12_rules : ByteArray := prog_14_method_96_code
def yX12_rules : MethodName := ⟨RX12, "rules", "()I"⟩
abbrev cX12_reply : ByteArray := prog_14_method_97_code
def yX12_reply : MethodName := ⟨RX12, "reply", "(I)I"⟩
abbrev cX12_setsBy : ByteArray := prog_14_method_98_code
def yX12_setsBy : MethodName := ⟨RX12, "setsBy", "(I)I"⟩
abbrev cX12_tell : ByteArray := prog_14_method_99_code
def yX12_tell : MethodName := ⟨RX12, "tell", "(I)I"⟩
abbrev cX12_keep : ByteArray := prog_14_method_100_code
def yX12_keep : MethodName := ⟨RX12, "keep", "(I)I"⟩
abbrev cX12_on : ByteArray := prog_14_method_101_code
def yX12_on : MethodName := ⟨RX12, "on", "(I)I"⟩
abbrev cX12_asked : ByteArray := prog_14_method_102_code
def yX12_asked : MethodName := ⟨RX12, "asked", "()I"⟩
abbrev cX12_upper : ByteArray := prog_14_method_103_code
def yX12_upper : MethodName := ⟨RX12, "upper", "()J"⟩
abbrev cX12_lower : ByteArray := prog_14_method_104_code
def yX12_lower : MethodName := ⟨RX12, "lower", "()J"⟩
abbrev cX12_counts : ByteArray := prog_14_method_105_code
def yX12_counts : MethodName := ⟨RX12, "counts", "(I)I"⟩
abbrev cX12_count : ByteArray := prog_14_method_106_code
def yX12_count : MethodName := ⟨RX12, "count", "(I)I"⟩
abbrev cX12_finding : ByteArray := prog_14_method_107_code
def yX12_finding : MethodName := ⟨RX12, "finding", "()I"⟩
abbrev cX12_findings : ByteArray := prog_14_method_108_code
def yX12_findings : MethodName := ⟨RX12, "findings", "(I)I"⟩
abbrev cX12_adding : ByteArray := prog_14_method_109_code
def yX12_adding : MethodName := ⟨RX12, "adding", "(I)V"⟩
abbrev cX12_mixCourt : ByteArray := prog_14_method_110_code
def yX12_mixCourt : MethodName := ⟨RX12, "mixCourt", "()V"⟩
abbrev cX12_digest : ByteArray := prog_14_method_111_code
def yX12_digest : MethodName := ⟨RX12, "digest", "()J"⟩
def RJ6 : String := "java/lang/Integer"
def TJ6 : u_T := fun k => match k with
  | _ => ("", "", "", false)
def tyJ6 : Nat → FieldType := fun k => match k with
  | _ => .int
abbrev wsJ60 : List Cond := u_ws RJ6 TJ6 0
theorem nmJ6 : ∀ a, a < 0 → ∀ b, b < 0 → a ≠ b → (TJ6 a).2.1 ≠ (TJ6 b).2.1 := by decide +kernel
theorem tyJ6_ok : ∀ k, k < 0 → parseFieldDescriptor (TJ6 k).2.2.1 = some (tyJ6 k) := by decide +kernel
abbrev cJ6_bitCount_0f7a4 : ByteArray := prog_15_method_49_code
def yJ6_bitCount_0f7a4 : MethodName := ⟨RJ6, "bitCount", "(I)I"⟩
def RJ9 : String := "java/lang/Math"
def TJ9 : u_T := fun k => match k with
  | _ => ("", "", "", false)
def tyJ9 : Nat → FieldType := fun k => match k with
  | _ => .int
abbrev wsJ90 : List Cond := u_ws RJ9 TJ9 0
theorem nmJ9 : ∀ a, a < 0 → ∀ b, b < 0 → a ≠ b → (TJ9 a).2.1 ≠ (TJ9 b).2.1 := by decide +kernel
theorem tyJ9_ok : ∀ k, k < 0 → parseFieldDescriptor (TJ9 k).2.2.1 = some (tyJ9 k) := by decide +kernel
abbrev cJ9_abs_0f7a4 : ByteArray := prog_16_method_59_code
def yJ9_abs_0f7a4 : MethodName := ⟨RJ9, "abs", "(I)I"⟩
abbrev cJ9_abs_067f4 : ByteArray := prog_16_method_61_code
def yJ9_abs_067f4 : MethodName := ⟨RJ9, "abs", "(J)J"⟩
abbrev cJ9_max_7cf53 : ByteArray := prog_16_method_65_code
def yJ9_max_7cf53 : MethodName := ⟨RJ9, "max", "(II)I"⟩
abbrev cJ9_min_7cf53 : ByteArray := prog_16_method_69_code
def yJ9_min_7cf53 : MethodName := ⟨RJ9, "min", "(II)I"⟩
def RJ10 : String := "java/lang/System"
def TJ10 : u_T := fun k => match k with
  | _ => ("", "", "", false)
def tyJ10 : Nat → FieldType := fun k => match k with
  | _ => .int
abbrev wsJ100 : List Cond := u_ws RJ10 TJ10 0
theorem nmJ10 : ∀ a, a < 0 → ∀ b, b < 0 → a ≠ b → (TJ10 a).2.1 ≠ (TJ10 b).2.1 := by decide +kernel
theorem tyJ10_ok : ∀ k, k < 0 → parseFieldDescriptor (TJ10 k).2.2.1 = some (tyJ10 k) := by decide +kernel
def RJ7 : String := "java/util/Arrays"
def TJ7 : u_T := fun k => match k with
  | _ => ("", "", "", false)
def tyJ7 : Nat → FieldType := fun k => match k with
  | _ => .int
abbrev wsJ70 : List Cond := u_ws RJ7 TJ7 0
theorem nmJ7 : ∀ a, a < 0 → ∀ b, b < 0 → a ≠ b → (TJ7 a).2.1 ≠ (TJ7 b).2.1 := by decide +kernel
theorem tyJ7_ok : ∀ k, k < 0 → parseFieldDescriptor (TJ7 k).2.2.1 = some (tyJ7 k) := by decide +kernel
abbrev cJ7_fill_53178 : ByteArray := prog_18_method_103_code
def yJ7_fill_53178 : MethodName := ⟨RJ7, "fill", "([II)V"⟩
def RL : String := "HeavyFilesLaw"
abbrev cL_law : ByteArray := code
def yL_law : MethodName := ⟨RL, "law", "([I)Z"⟩
abbrev vwCl : List vw_C := [(RX0, TX0, 9), (RX1, TX1, 3), (RX2, TX2, 6), (RX3, TX3, 3), (RX4, TX4, 3), (RX5, TX5, 6), (RX6, TX6, 2), (RX7, TX7, 5), (RX8, TX8, 8), (RX9, TX9, 3), (RX10, TX10, 4), (RX11, TX11, 17), (RX12, TX12, 42)]
