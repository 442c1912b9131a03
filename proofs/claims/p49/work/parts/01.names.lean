-- ===== PART A: goes FIRST, ahead of the names: the tables' words, and 'selects' of the private methods out of them =====
/-- a private method of a class that the tables say can be made, by its rows of tables_1 -/
def lw_okq (q : MethodName × Nat) : Prop := (q.1.cls ≠ "java/lang/invoke/MethodHandle" ∧ q.1.cls ≠ "java/lang/invoke/VarHandle") ∧ Cond.instantiable q.1.cls q.2 ∈ tables_1 ∧ Cond.privateMethod q.1 ∈ tables_1 ∧ Cond.instanceMethod q.1 ∈ tables_1
theorem lw_p0 : lw_okq (⟨"HeavyFiles", "rowOf", "(I)LHeavyFiles$Row;"⟩, 17) := ⟨⟨by decide +kernel, by decide +kernel⟩, List.mem_of_getElem? (i := 18) (by decide +kernel), List.mem_of_getElem? (i := 365) (by decide +kernel), List.mem_of_getElem? (i := 366) (by decide +kernel)⟩
theorem lw_p1 : lw_okq (⟨"HeavyFiles", "refused", "(I)I"⟩, 17) := ⟨⟨by decide +kernel, by decide +kernel⟩, List.mem_of_getElem? (i := 18) (by decide +kernel), List.mem_of_getElem? (i := 373) (by decide +kernel), List.mem_of_getElem? (i := 374) (by decide +kernel)⟩
theorem lw_p2 : lw_okq (⟨"HeavyFiles", "told", "(I)I"⟩, 17) := ⟨⟨by decide +kernel, by decide +kernel⟩, List.mem_of_getElem? (i := 18) (by decide +kernel), List.mem_of_getElem? (i := 381) (by decide +kernel), List.mem_of_getElem? (i := 382) (by decide +kernel)⟩
theorem lw_p3 : lw_okq (⟨"HeavyFiles", "isWrong", "(LHeavyFiles$Row;ILHeavyFiles$Row;I)Z"⟩, 17) := ⟨⟨by decide +kernel, by decide +kernel⟩, List.mem_of_getElem? (i := 18) (by decide +kernel), List.mem_of_getElem? (i := 397) (by decide +kernel), List.mem_of_getElem? (i := 398) (by decide +kernel)⟩
theorem lw_p4 : lw_okq (⟨"HeavyFiles", "isRefused", "(ZZZ)Z"⟩, 17) := ⟨⟨by decide +kernel, by decide +kernel⟩, List.mem_of_getElem? (i := 18) (by decide +kernel), List.mem_of_getElem? (i := 413) (by decide +kernel), List.mem_of_getElem? (i := 414) (by decide +kernel)⟩
theorem lw_p5 : lw_okq (⟨"HeavyFiles$Suit", "least", "()I"⟩, 3) := ⟨⟨by decide +kernel, by decide +kernel⟩, List.mem_of_getElem? (i := 37) (by decide +kernel), List.mem_of_getElem? (i := 443) (by decide +kernel), List.mem_of_getElem? (i := 444) (by decide +kernel)⟩
theorem lw_p6 : lw_okq (⟨"HeavyFiles", "isWrong", "(LHeavyFiles$Row;I)Z"⟩, 17) := ⟨⟨by decide +kernel, by decide +kernel⟩, List.mem_of_getElem? (i := 18) (by decide +kernel), List.mem_of_getElem? (i := 471) (by decide +kernel), List.mem_of_getElem? (i := 472) (by decide +kernel)⟩
theorem lw_p7 : lw_okq (⟨"HeavyFiles$Search", "close", "(II)V"⟩, 8) := ⟨⟨by decide +kernel, by decide +kernel⟩, List.mem_of_getElem? (i := 176) (by decide +kernel), List.mem_of_getElem? (i := 487) (by decide +kernel), List.mem_of_getElem? (i := 488) (by decide +kernel)⟩
theorem lw_p8 : lw_okq (⟨"HeavyFiles$Search", "isEarlier", "()Z"⟩, 8) := ⟨⟨by decide +kernel, by decide +kernel⟩, List.mem_of_getElem? (i := 176) (by decide +kernel), List.mem_of_getElem? (i := 491) (by decide +kernel), List.mem_of_getElem? (i := 492) (by decide +kernel)⟩
theorem lw_p9 : lw_okq (⟨"HeavyFiles", "fraction", "(JJ)V"⟩, 17) := ⟨⟨by decide +kernel, by decide +kernel⟩, List.mem_of_getElem? (i := 18) (by decide +kernel), List.mem_of_getElem? (i := 549) (by decide +kernel), List.mem_of_getElem? (i := 550) (by decide +kernel)⟩
theorem lw_p10 : lw_okq (⟨"HeavyFiles", "isTooMuch", "(I)Z"⟩, 17) := ⟨⟨by decide +kernel, by decide +kernel⟩, List.mem_of_getElem? (i := 18) (by decide +kernel), List.mem_of_getElem? (i := 575) (by decide +kernel), List.mem_of_getElem? (i := 576) (by decide +kernel)⟩
theorem lw_p11 : lw_okq (⟨"HeavyFiles$TurnTable", "fill", "(LHeavyFiles$Court;)V"⟩, 4) := ⟨⟨by decide +kernel, by decide +kernel⟩, List.mem_of_getElem? (i := 244) (by decide +kernel), List.mem_of_getElem? (i := 618) (by decide +kernel), List.mem_of_getElem? (i := 619) (by decide +kernel)⟩
theorem lw_p12 : lw_okq (⟨"HeavyFiles$TurnTable", "prepare", "(LHeavyFiles$Suit;I)V"⟩, 4) := ⟨⟨by decide +kernel, by decide +kernel⟩, List.mem_of_getElem? (i := 244) (by decide +kernel), List.mem_of_getElem? (i := 624) (by decide +kernel), List.mem_of_getElem? (i := 625) (by decide +kernel)⟩
theorem lw_p13 : lw_okq (⟨"HeavyFiles$TurnTable", "fillSuit", "(LHeavyFiles$Suit;I)V"⟩, 4) := ⟨⟨by decide +kernel, by decide +kernel⟩, List.mem_of_getElem? (i := 244) (by decide +kernel), List.mem_of_getElem? (i := 631) (by decide +kernel), List.mem_of_getElem? (i := 632) (by decide +kernel)⟩
theorem lw_p14 : lw_okq (⟨"HeavyFiles$TurnTable", "after", "(LHeavyFiles$Suit;IIII)I"⟩, 4) := ⟨⟨by decide +kernel, by decide +kernel⟩, List.mem_of_getElem? (i := 244) (by decide +kernel), List.mem_of_getElem? (i := 636) (by decide +kernel), List.mem_of_getElem? (i := 637) (by decide +kernel)⟩
theorem lw_p15 : lw_okq (⟨"HeavyFiles$TurnTable", "value", "(III)I"⟩, 4) := ⟨⟨by decide +kernel, by decide +kernel⟩, List.mem_of_getElem? (i := 244) (by decide +kernel), List.mem_of_getElem? (i := 642) (by decide +kernel), List.mem_of_getElem? (i := 643) (by decide +kernel)⟩
def lw_privs_1 : List (MethodName × Nat) := [(⟨"HeavyFiles", "rowOf", "(I)LHeavyFiles$Row;"⟩, 17), (⟨"HeavyFiles", "refused", "(I)I"⟩, 17), (⟨"HeavyFiles", "told", "(I)I"⟩, 17), (⟨"HeavyFiles", "isWrong", "(LHeavyFiles$Row;ILHeavyFiles$Row;I)Z"⟩, 17), (⟨"HeavyFiles", "isRefused", "(ZZZ)Z"⟩, 17), (⟨"HeavyFiles$Suit", "least", "()I"⟩, 3), (⟨"HeavyFiles", "isWrong", "(LHeavyFiles$Row;I)Z"⟩, 17), (⟨"HeavyFiles$Search", "close", "(II)V"⟩, 8), (⟨"HeavyFiles$Search", "isEarlier", "()Z"⟩, 8), (⟨"HeavyFiles", "fraction", "(JJ)V"⟩, 17), (⟨"HeavyFiles", "isTooMuch", "(I)Z"⟩, 17), (⟨"HeavyFiles$TurnTable", "fill", "(LHeavyFiles$Court;)V"⟩, 4), (⟨"HeavyFiles$TurnTable", "prepare", "(LHeavyFiles$Suit;I)V"⟩, 4), (⟨"HeavyFiles$TurnTable", "fillSuit", "(LHeavyFiles$Suit;I)V"⟩, 4), (⟨"HeavyFiles$TurnTable", "after", "(LHeavyFiles$Suit;IIII)I"⟩, 4), (⟨"HeavyFiles$TurnTable", "value", "(III)I"⟩, 4)]
theorem lw_r1 : ∀ q ∈ lw_privs_1, lw_okq q := List.forall_mem_cons.mpr ⟨lw_p0, List.forall_mem_cons.mpr ⟨lw_p1, List.forall_mem_cons.mpr ⟨lw_p2, List.forall_mem_cons.mpr ⟨lw_p3, List.forall_mem_cons.mpr ⟨lw_p4, List.forall_mem_cons.mpr ⟨lw_p5, List.forall_mem_cons.mpr ⟨lw_p6, List.forall_mem_cons.mpr ⟨lw_p7, List.forall_mem_cons.mpr ⟨lw_p8, List.forall_mem_cons.mpr ⟨lw_p9, List.forall_mem_cons.mpr ⟨lw_p10, List.forall_mem_cons.mpr ⟨lw_p11, List.forall_mem_cons.mpr ⟨lw_p12, List.forall_mem_cons.mpr ⟨lw_p13, List.forall_mem_cons.mpr ⟨lw_p14, List.forall_mem_cons.mpr ⟨lw_p15, fun _ h => absurd h List.not_mem_nil⟩⟩⟩⟩⟩⟩⟩⟩⟩⟩⟩⟩⟩⟩⟩⟩
theorem lw_p16 : lw_okq (⟨"HeavyFiles", "worthOf", "(I)I"⟩, 17) := ⟨⟨by decide +kernel, by decide +kernel⟩, List.mem_of_getElem? (i := 18) (by decide +kernel), List.mem_of_getElem? (i := 662) (by decide +kernel), List.mem_of_getElem? (i := 663) (by decide +kernel)⟩
theorem lw_p17 : lw_okq (⟨"HeavyFiles$Guess", "layEven", "(II)V"⟩, 6) := ⟨⟨by decide +kernel, by decide +kernel⟩, List.mem_of_getElem? (i := 263) (by decide +kernel), List.mem_of_getElem? (i := 694) (by decide +kernel), List.mem_of_getElem? (i := 695) (by decide +kernel)⟩
theorem lw_p18 : lw_okq (⟨"HeavyFiles$Guess", "layByWorth", "(LHeavyFiles$Court;II)V"⟩, 6) := ⟨⟨by decide +kernel, by decide +kernel⟩, List.mem_of_getElem? (i := 263) (by decide +kernel), List.mem_of_getElem? (i := 698) (by decide +kernel), List.mem_of_getElem? (i := 699) (by decide +kernel)⟩
theorem lw_p19 : lw_okq (⟨"HeavyFiles$Guess", "layBack", "([III)V"⟩, 6) := ⟨⟨by decide +kernel, by decide +kernel⟩, List.mem_of_getElem? (i := 263) (by decide +kernel), List.mem_of_getElem? (i := 711) (by decide +kernel), List.mem_of_getElem? (i := 712) (by decide +kernel)⟩
theorem lw_p20 : lw_okq (⟨"HeavyFiles$Guess", "fits", "(LHeavyFiles$Court;I)Z"⟩, 6) := ⟨⟨by decide +kernel, by decide +kernel⟩, List.mem_of_getElem? (i := 263) (by decide +kernel), List.mem_of_getElem? (i := 734) (by decide +kernel), List.mem_of_getElem? (i := 735) (by decide +kernel)⟩
theorem lw_p21 : lw_okq (⟨"HeavyFiles$Guess", "firstLike", "(I)I"⟩, 6) := ⟨⟨by decide +kernel, by decide +kernel⟩, List.mem_of_getElem? (i := 263) (by decide +kernel), List.mem_of_getElem? (i := 757) (by decide +kernel), List.mem_of_getElem? (i := 758) (by decide +kernel)⟩
theorem lw_p22 : lw_okq (⟨"HeavyFiles$Guess", "unlikeOnes", "()I"⟩, 6) := ⟨⟨by decide +kernel, by decide +kernel⟩, List.mem_of_getElem? (i := 263) (by decide +kernel), List.mem_of_getElem? (i := 761) (by decide +kernel), List.mem_of_getElem? (i := 762) (by decide +kernel)⟩
theorem lw_p23 : lw_okq (⟨"HeavyFiles", "keptOf", "(I)LHeavyFiles$Court;"⟩, 17) := ⟨⟨by decide +kernel, by decide +kernel⟩, List.mem_of_getElem? (i := 18) (by decide +kernel), List.mem_of_getElem? (i := 785) (by decide +kernel), List.mem_of_getElem? (i := 786) (by decide +kernel)⟩
theorem lw_p24 : lw_okq (⟨"HeavyFiles", "keptCourts", "()I"⟩, 17) := ⟨⟨by decide +kernel, by decide +kernel⟩, List.mem_of_getElem? (i := 18) (by decide +kernel), List.mem_of_getElem? (i := 825) (by decide +kernel), List.mem_of_getElem? (i := 826) (by decide +kernel)⟩
theorem lw_p25 : lw_okq (⟨"HeavyFiles", "textOf", "(I)LHeavyFiles$Row;"⟩, 17) := ⟨⟨by decide +kernel, by decide +kernel⟩, List.mem_of_getElem? (i := 18) (by decide +kernel), List.mem_of_getElem? (i := 853) (by decide +kernel), List.mem_of_getElem? (i := 854) (by decide +kernel)⟩
theorem lw_p26 : lw_okq (⟨"HeavyFiles$Reader", "skipBlanks", "(LHeavyFiles$Row;)V"⟩, 6) := ⟨⟨by decide +kernel, by decide +kernel⟩, List.mem_of_getElem? (i := 103) (by decide +kernel), List.mem_of_getElem? (i := 874) (by decide +kernel), List.mem_of_getElem? (i := 875) (by decide +kernel)⟩
theorem lw_p27 : lw_okq (⟨"HeavyFiles$Reader", "sign", "(LHeavyFiles$Row;)I"⟩, 6) := ⟨⟨by decide +kernel, by decide +kernel⟩, List.mem_of_getElem? (i := 103) (by decide +kernel), List.mem_of_getElem? (i := 878) (by decide +kernel), List.mem_of_getElem? (i := 879) (by decide +kernel)⟩
theorem lw_p28 : lw_okq (⟨"HeavyFiles$Reader", "passes", "(LHeavyFiles$Row;I)Z"⟩, 6) := ⟨⟨by decide +kernel, by decide +kernel⟩, List.mem_of_getElem? (i := 103) (by decide +kernel), List.mem_of_getElem? (i := 883) (by decide +kernel), List.mem_of_getElem? (i := 884) (by decide +kernel)⟩
theorem lw_p29 : lw_okq (⟨"HeavyFiles$Reader", "passesStock", "(LHeavyFiles$Row;I)Z"⟩, 6) := ⟨⟨by decide +kernel, by decide +kernel⟩, List.mem_of_getElem? (i := 103) (by decide +kernel), List.mem_of_getElem? (i := 887) (by decide +kernel), List.mem_of_getElem? (i := 888) (by decide +kernel)⟩
theorem lw_p30 : lw_okq (⟨"HeavyFiles$Reader", "figure", "(LHeavyFiles$Row;)I"⟩, 6) := ⟨⟨by decide +kernel, by decide +kernel⟩, List.mem_of_getElem? (i := 103) (by decide +kernel), List.mem_of_getElem? (i := 891) (by decide +kernel), List.mem_of_getElem? (i := 892) (by decide +kernel)⟩
theorem lw_p31 : lw_okq (⟨"HeavyFiles$Reader", "passesSuit", "(LHeavyFiles$Row;)Z"⟩, 6) := ⟨⟨by decide +kernel, by decide +kernel⟩, List.mem_of_getElem? (i := 103) (by decide +kernel), List.mem_of_getElem? (i := 895) (by decide +kernel), List.mem_of_getElem? (i := 896) (by decide +kernel)⟩
def lw_privs_2 : List (MethodName × Nat) := [(⟨"HeavyFiles", "worthOf", "(I)I"⟩, 17), (⟨"HeavyFiles$Guess", "layEven", "(II)V"⟩, 6), (⟨"HeavyFiles$Guess", "layByWorth", "(LHeavyFiles$Court;II)V"⟩, 6), (⟨"HeavyFiles$Guess", "layBack", "([III)V"⟩, 6), (⟨"HeavyFiles$Guess", "fits", "(LHeavyFiles$Court;I)Z"⟩, 6), (⟨"HeavyFiles$Guess", "firstLike", "(I)I"⟩, 6), (⟨"HeavyFiles$Guess", "unlikeOnes", "()I"⟩, 6), (⟨"HeavyFiles", "keptOf", "(I)LHeavyFiles$Court;"⟩, 17), (⟨"HeavyFiles", "keptCourts", "()I"⟩, 17), (⟨"HeavyFiles", "textOf", "(I)LHeavyFiles$Row;"⟩, 17), (⟨"HeavyFiles$Reader", "skipBlanks", "(LHeavyFiles$Row;)V"⟩, 6), (⟨"HeavyFiles$Reader", "sign", "(LHeavyFiles$Row;)I"⟩, 6), (⟨"HeavyFiles$Reader", "passes", "(LHeavyFiles$Row;I)Z"⟩, 6), (⟨"HeavyFiles$Reader", "passesStock", "(LHeavyFiles$Row;I)Z"⟩, 6), (⟨"HeavyFiles$Reader", "figure", "(LHeavyFiles$Row;)I"⟩, 6), (⟨"HeavyFiles$Reader", "passesSuit", "(LHeavyFiles$Row;)Z"⟩, 6)]
theorem lw_r2 : ∀ q ∈ lw_privs_2, lw_okq q := List.forall_mem_cons.mpr ⟨lw_p16, List.forall_mem_cons.mpr ⟨lw_p17, List.forall_mem_cons.mpr ⟨lw_p18, List.forall_mem_cons.mpr ⟨lw_p19, List.forall_mem_cons.mpr ⟨lw_p20, List.forall_mem_cons.mpr ⟨lw_p21, List.forall_mem_cons.mpr ⟨lw_p22, List.forall_mem_cons.mpr ⟨lw_p23, List.forall_mem_cons.mpr ⟨lw_p24, List.forall_mem_cons.mpr ⟨lw_p25, List.forall_mem_cons.mpr ⟨lw_p26, List.forall_mem_cons.mpr ⟨lw_p27, List.forall_mem_cons.mpr ⟨lw_p28, List.forall_mem_cons.mpr ⟨lw_p29, List.forall_mem_cons.mpr ⟨lw_p30, List.forall_mem_cons.mpr ⟨lw_p31, fun _ h => absurd h List.not_mem_nil⟩⟩⟩⟩⟩⟩⟩⟩⟩⟩⟩⟩⟩⟩⟩⟩
def lw_privs : List (MethodName × Nat) := lw_privs_1 ++ (lw_privs_2)
def lw_tbl : List Cond := k2_sels lw_privs ++ tables_1
theorem lw_privs_ok : ∀ q ∈ lw_privs, lw_okq q := by
  show ∀ q ∈ lw_privs_1 ++ (lw_privs_2), lw_okq q
  exact List.forall_mem_append.mpr ⟨lw_r1, lw_r2⟩
def RX0 : String := "HeavyFiles$Court"
def TX0 : u_T := fun k => match k with
  | 0 => ("HeavyFiles$Court", "suits", "[LHeavyFiles$Suit;", true)
  | 1 => ("HeavyFiles$Court", "stocks", "[I", true)
  | 2 => ("HeavyFiles$Court", "lent", "[I", true)
  | 3 => ("HeavyFiles$Court", "laid", "[[I", true)
  | 4 => ("HeavyFiles$Court", "won", "[I", true)
  | 5 => ("HeavyFiles$Court", "size", "I", false)
  | 6 => ("HeavyFiles$Court", "damp", "I", false)
  | 7 => ("HeavyFiles$Court", "notes", "I", false)
  | _ => ("HeavyFiles$Court", "isThere", "Z", false)
def tyX0 : Nat → FieldType := fun k => match k with
  | 0 => .array (.object "HeavyFiles$Suit")
  | 1 => .array .int
  | 2 => .array .int
  | 3 => .array (.array .int)
  | 4 => .array .int
  | 5 => .int
  | 6 => .int
  | 7 => .int
  | _ => .boolean
abbrev wsX00 : List Cond := u_ws RX0 TX0 9
theorem nmX0 : ∀ a, a < 9 → ∀ b, b < 9 → a ≠ b → (TX0 a).2.1 ≠ (TX0 b).2.1 := by decide +kernel
theorem tyX0_ok : ∀ k, k < 9 → parseFieldDescriptor (TX0 k).2.2.1 = some (tyX0 k) := by decide +kernel
abbrev cX0_init : ByteArray := prog_2_method_1_code
def yX0_init : MethodName := ⟨RX0, "<init>", "()V"⟩
abbrev cX0_open : ByteArray := prog_2_method_2_code
def yX0_open : MethodName := ⟨RX0, "open", "(LHeavyFiles$Reader;)V"⟩
abbrev cX0_take : ByteArray := prog_2_method_3_code
def yX0_take : MethodName := ⟨RX0, "take", "(LHeavyFiles$Court;)V"⟩
abbrev cX0_suitOf : ByteArray := prog_2_method_4_code
def yX0_suitOf : MethodName := ⟨RX0, "suitOf", "(I)LHeavyFiles$Suit;"⟩
abbrev cX0_worths : ByteArray := prog_2_method_5_code
def yX0_worths : MethodName := ⟨RX0, "worths", "()I"⟩
abbrev cX0_howMany : ByteArray := prog_2_method_6_code
def yX0_howMany : MethodName := ⟨RX0, "howMany", "(I)I"⟩
abbrev cX0_stockWith : ByteArray := prog_2_method_8_code
def yX0_stockWith : MethodName := ⟨RX0, "stockWith", "(I)I"⟩
abbrev cX0_allows : ByteArray := prog_2_method_9_code
def yX0_allows : MethodName := ⟨RX0, "allows", "(LHeavyFiles$Row;I)Z"⟩
abbrev cX0_need : ByteArray := prog_2_method_10_code
def yX0_need : MethodName := ⟨RX0, "need", "(IIIII[I)I"⟩
abbrev cX0_write : ByteArray := prog_2_method_11_code
def yX0_write : MethodName := ⟨RX0, "write", "([II)V"⟩
abbrev cX0_wonAt : ByteArray := prog_2_method_12_code
def yX0_wonAt : MethodName := ⟨RX0, "wonAt", "(I)I"⟩
abbrev cX0_laidAt : ByteArray := prog_2_method_13_code
def yX0_laidAt : MethodName := ⟨RX0, "laidAt", "(I)[I"⟩
def RX1 : String := "HeavyFiles$Dread"
def TX1 : u_T := fun k => match k with
  | 0 => ("HeavyFiles$Dread", "winners", "[I", true)
  | 1 => ("HeavyFiles$Dread", "least", "I", false)
  | _ => ("HeavyFiles$Dread", "enough", "I", false)
def tyX1 : Nat → FieldType := fun k => match k with
  | 0 => .array .int
  | 1 => .int
  | _ => .int
abbrev wsX10 : List Cond := u_ws RX1 TX1 3
theorem nmX1 : ∀ a, a < 3 → ∀ b, b < 3 → a ≠ b → (TX1 a).2.1 ≠ (TX1 b).2.1 := by decide +kernel
theorem tyX1_ok : ∀ k, k < 3 → parseFieldDescriptor (TX1 k).2.2.1 = some (tyX1 k) := by decide +kernel
abbrev cX1_init : ByteArray := prog_3_method_1_code
def yX1_init : MethodName := ⟨RX1, "<init>", "()V"⟩
abbrev cX1_leastFor : ByteArray := prog_3_method_2_code
def yX1_leastFor : MethodName := ⟨RX1, "leastFor", "(LHeavyFiles$Court;[II)I"⟩
abbrev cX1_branch : ByteArray := prog_3_method_3_code
def yX1_branch : MethodName := ⟨RX1, "branch", "(LHeavyFiles$Dread;LHeavyFiles$Court;[IIII)V"⟩
def RX2 : String := "HeavyFiles$Guess"
def TX2 : u_T := fun k => match k with
  | 0 => ("HeavyFiles$Guess", "laid", "[I", true)
  | 1 => ("HeavyFiles$Guess", "scale", "LHeavyFiles$Scale;", true)
  | 2 => ("HeavyFiles$Guess", "next", "[[I", true)
  | 3 => ("HeavyFiles$Guess", "scales", "[LHeavyFiles$Scale;", true)
  | 4 => ("HeavyFiles$Guess", "sets", "[I", true)
  | _ => ("HeavyFiles$Guess", "fitting", "I", false)
def tyX2 : Nat → FieldType := fun k => match k with
  | 0 => .array .int
  | 1 => .object "HeavyFiles$Scale"
  | 2 => .array (.array .int)
  | 3 => .array (.object "HeavyFiles$Scale")
  | 4 => .array .int
  | _ => .int
abbrev wsX20 : List Cond := u_ws RX2 TX2 6
theorem nmX2 : ∀ a, a < 6 → ∀ b, b < 6 → a ≠ b → (TX2 a).2.1 ≠ (TX2 b).2.1 := by decide +kernel
theorem tyX2_ok : ∀ k, k < 6 → parseFieldDescriptor (TX2 k).2.2.1 = some (tyX2 k) := by decide +kernel
abbrev cX2_init : ByteArray := prog_4_method_1_code
def yX2_init : MethodName := ⟨RX2, "<init>", "()V"⟩
abbrev cX2_layBy : ByteArray := prog_4_method_2_code
def yX2_layBy : MethodName := ⟨RX2, "layBy", "(LHeavyFiles$Court;II)V"⟩
abbrev cX2_layEven : ByteArray := prog_4_method_3_code
def yX2_layEven : MethodName := ⟨RX2, "layEven", "(II)V"⟩
abbrev cX2_layByWorth : ByteArray := prog_4_method_4_code
def yX2_layByWorth : MethodName := ⟨RX2, "layByWorth", "(LHeavyFiles$Court;II)V"⟩
abbrev cX2_greatestOf : ByteArray := prog_4_method_5_code
def yX2_greatestOf : MethodName := ⟨RX2, "greatestOf", "(LHeavyFiles$Court;I)I"⟩
abbrev cX2_layBack : ByteArray := prog_4_method_6_code
def yX2_layBack : MethodName := ⟨RX2, "layBack", "([III)V"⟩
abbrev cX2_fitting : ByteArray := prog_4_method_7_code
def yX2_fitting : MethodName := ⟨RX2, "fitting", "(LHeavyFiles$Court;)I"⟩
abbrev cX2_firstOf : ByteArray := prog_4_method_8_code
def yX2_firstOf : MethodName := ⟨RX2, "firstOf", "(I)I"⟩
abbrev cX2_fits : ByteArray := prog_4_method_9_code
def yX2_fits : MethodName := ⟨RX2, "fits", "(LHeavyFiles$Court;I)Z"⟩
abbrev cX2_prepare : ByteArray := prog_4_method_10_code
def yX2_prepare : MethodName := ⟨RX2, "prepare", "(LHeavyFiles$Court;I)V"⟩
abbrev cX2_unlikeLayings : ByteArray := prog_4_method_11_code
def yX2_unlikeLayings : MethodName := ⟨RX2, "unlikeLayings", "(LHeavyFiles$Court;I)I"⟩
abbrev cX2_firstLike : ByteArray := prog_4_method_12_code
def yX2_firstLike : MethodName := ⟨RX2, "firstLike", "(I)I"⟩
abbrev cX2_unlikeSets : ByteArray := prog_4_method_13_code
def yX2_unlikeSets : MethodName := ⟨RX2, "unlikeSets", "(LHeavyFiles$Court;[II)I"⟩
abbrev cX2_unlikeOnes : ByteArray := prog_4_method_14_code
def yX2_unlikeOnes : MethodName := ⟨RX2, "unlikeOnes", "()I"⟩
def RX3 : String := "HeavyFiles$Layings"
def TX3 : u_T := fun k => match k with
  | 0 => ("HeavyFiles$Layings", "laid", "[I", true)
  | 1 => ("HeavyFiles$Layings", "size", "I", false)
  | _ => ("HeavyFiles$Layings", "left", "I", false)
def tyX3 : Nat → FieldType := fun k => match k with
  | 0 => .array .int
  | 1 => .int
  | _ => .int
abbrev wsX30 : List Cond := u_ws RX3 TX3 3
theorem nmX3 : ∀ a, a < 3 → ∀ b, b < 3 → a ≠ b → (TX3 a).2.1 ≠ (TX3 b).2.1 := by decide +kernel
theorem tyX3_ok : ∀ k, k < 3 → parseFieldDescriptor (TX3 k).2.2.1 = some (tyX3 k) := by decide +kernel
abbrev cX3_init : ByteArray := prog_5_method_1_code
def yX3_init : MethodName := ⟨RX3, "<init>", "()V"⟩
abbrev cX3_begin : ByteArray := prog_5_method_2_code
def yX3_begin : MethodName := ⟨RX3, "begin", "(II)V"⟩
abbrev cX3_next : ByteArray := prog_5_method_3_code
def yX3_next : MethodName := ⟨RX3, "next", "()I"⟩
def RX4 : String := "HeavyFiles$Mixing"
def TX4 : u_T := fun k => match k with
  | 0 => ("HeavyFiles$Mixing", "first", "LHeavyFiles$Scale;", true)
  | 1 => ("HeavyFiles$Mixing", "second", "LHeavyFiles$Scale;", true)
  | _ => ("HeavyFiles$Mixing", "least", "[I", true)
def tyX4 : Nat → FieldType := fun k => match k with
  | 0 => .object "HeavyFiles$Scale"
  | 1 => .object "HeavyFiles$Scale"
  | _ => .array .int
abbrev wsX40 : List Cond := u_ws RX4 TX4 3
theorem nmX4 : ∀ a, a < 3 → ∀ b, b < 3 → a ≠ b → (TX4 a).2.1 ≠ (TX4 b).2.1 := by decide +kernel
theorem tyX4_ok : ∀ k, k < 3 → parseFieldDescriptor (TX4 k).2.2.1 = some (tyX4 k) := by decide +kernel
abbrev cX4_init : ByteArray := prog_6_method_1_code
def yX4_init : MethodName := ⟨RX4, "<init>", "()V"⟩
abbrev cX4_weighAll : ByteArray := prog_6_method_2_code
def yX4_weighAll : MethodName := ⟨RX4, "weighAll", "(LHeavyFiles$Court;LHeavyFiles$Layings;[I[I)V"⟩
abbrev cX4_leastBy : ByteArray := prog_6_method_3_code
def yX4_leastBy : MethodName := ⟨RX4, "leastBy", "(II)I"⟩
abbrev cX4_bestParts : ByteArray := prog_6_method_4_code
def yX4_bestParts : MethodName := ⟨RX4, "bestParts", "()I"⟩
def RX5 : String := "HeavyFiles$Reader"
def TX5 : u_T := fun k => match k with
  | 0 => ("HeavyFiles$Reader", "stocks", "[I", true)
  | 1 => ("HeavyFiles$Reader", "kinds", "[I", true)
  | 2 => ("HeavyFiles$Reader", "worths", "[I", true)
  | 3 => ("HeavyFiles$Reader", "figures", "[I", true)
  | 4 => ("HeavyFiles$Reader", "suits", "I", false)
  | _ => ("HeavyFiles$Reader", "place", "I", false)
def tyX5 : Nat → FieldType := fun k => match k with
  | 0 => .array .int
  | 1 => .array .int
  | 2 => .array .int
  | 3 => .array .int
  | 4 => .int
  | _ => .int
abbrev wsX50 : List Cond := u_ws RX5 TX5 6
theorem nmX5 : ∀ a, a < 6 → ∀ b, b < 6 → a ≠ b → (TX5 a).2.1 ≠ (TX5 b).2.1 := by decide +kernel
theorem tyX5_ok : ∀ k, k < 6 → parseFieldDescriptor (TX5 k).2.2.1 = some (tyX5 k) := by decide +kernel
abbrev cX5_init : ByteArray := prog_7_method_1_code
def yX5_init : MethodName := ⟨RX5, "<init>", "()V"⟩
abbrev cX5_read : ByteArray := prog_7_method_2_code
def yX5_read : MethodName := ⟨RX5, "read", "(LHeavyFiles$Row;)I"⟩
abbrev cX5_sign : ByteArray := prog_7_method_3_code
def yX5_sign : MethodName := ⟨RX5, "sign", "(LHeavyFiles$Row;)I"⟩
abbrev cX5_figure : ByteArray := prog_7_method_4_code
def yX5_figure : MethodName := ⟨RX5, "figure", "(LHeavyFiles$Row;)I"⟩
abbrev cX5_skipBlanks : ByteArray := prog_7_method_5_code
def yX5_skipBlanks : MethodName := ⟨RX5, "skipBlanks", "(LHeavyFiles$Row;)V"⟩
abbrev cX5_passes : ByteArray := prog_7_method_6_code
def yX5_passes : MethodName := ⟨RX5, "passes", "(LHeavyFiles$Row;I)Z"⟩
abbrev cX5_passesStock : ByteArray := prog_7_method_7_code
def yX5_passesStock : MethodName := ⟨RX5, "passesStock", "(LHeavyFiles$Row;I)Z"⟩
abbrev cX5_passesSuit : ByteArray := prog_7_method_8_code
def yX5_passesSuit : MethodName := ⟨RX5, "passesSuit", "(LHeavyFiles$Row;)Z"⟩
abbrev cX5_kindBy : ByteArray := prog_7_method_9_code
def yX5_kindBy : MethodName := ⟨RX5, "kindBy", "(I)I"⟩
def RX6 : String := "HeavyFiles$Row"
def TX6 : u_T := fun k => match k with
  | 0 => ("HeavyFiles$Row", "places", "[I", true)
  | _ => ("HeavyFiles$Row", "size", "I", false)
def tyX6 : Nat → FieldType := fun k => match k with
  | 0 => .array .int
  | _ => .int
abbrev wsX60 : List Cond := u_ws RX6 TX6 2
theorem nmX6 : ∀ a, a < 2 → ∀ b, b < 2 → a ≠ b → (TX6 a).2.1 ≠ (TX6 b).2.1 := by decide +kernel
theorem tyX6_ok : ∀ k, k < 2 → parseFieldDescriptor (TX6 k).2.2.1 = some (tyX6 k) := by decide +kernel
abbrev cX6_init : ByteArray := prog_8_method_1_code
def yX6_init : MethodName := ⟨RX6, "<init>", "(I)V"⟩
abbrev cX6_isMissing : ByteArray := prog_8_method_2_code
def yX6_isMissing : MethodName := ⟨RX6, "isMissing", "()Z"⟩
abbrev cX6_has : ByteArray := prog_8_method_3_code
def yX6_has : MethodName := ⟨RX6, "has", "(I)Z"⟩
abbrev cX6_isWithin : ByteArray := prog_8_method_5_code
def yX6_isWithin : MethodName := ⟨RX6, "isWithin", "(I)Z"⟩
abbrev cX6_renew : ByteArray := prog_8_method_6_code
def yX6_renew : MethodName := ⟨RX6, "renew", "(II)V"⟩
abbrev cX6_take : ByteArray := prog_8_method_7_code
def yX6_take : MethodName := ⟨RX6, "take", "([II)V"⟩
abbrev cX6_total : ByteArray := prog_8_method_8_code
def yX6_total : MethodName := ⟨RX6, "total", "()J"⟩
def RX7 : String := "HeavyFiles$Scale"
def TX7 : u_T := fun k => match k with
  | 0 => ("HeavyFiles$Scale", "winners", "[I", true)
  | 1 => ("HeavyFiles$Scale", "leads", "[I", true)
  | 2 => ("HeavyFiles$Scale", "ahead", "[I", true)
  | 3 => ("HeavyFiles$Scale", "score", "I", false)
  | _ => ("HeavyFiles$Scale", "won", "I", false)
def tyX7 : Nat → FieldType := fun k => match k with
  | 0 => .array .int
  | 1 => .array .int
  | 2 => .array .int
  | 3 => .int
  | _ => .int
abbrev wsX70 : List Cond := u_ws RX7 TX7 5
theorem nmX7 : ∀ a, a < 5 → ∀ b, b < 5 → a ≠ b → (TX7 a).2.1 ≠ (TX7 b).2.1 := by decide +kernel
theorem tyX7_ok : ∀ k, k < 5 → parseFieldDescriptor (TX7 k).2.2.1 = some (tyX7 k) := by decide +kernel
abbrev cX7_init : ByteArray := prog_9_method_1_code
def yX7_init : MethodName := ⟨RX7, "<init>", "()V"⟩
abbrev cX7_weigh : ByteArray := prog_9_method_2_code
def yX7_weigh : MethodName := ⟨RX7, "weigh", "(LHeavyFiles$Court;[I[II)V"⟩
abbrev cX7_wonOf : ByteArray := prog_9_method_3_code
def yX7_wonOf : MethodName := ⟨RX7, "wonOf", "(I)I"⟩
def RX8 : String := "HeavyFiles$Search"
def TX8 : u_T := fun k => match k with
  | 0 => ("HeavyFiles$Search", "laying", "[I", true)
  | 1 => ("HeavyFiles$Search", "score", "I", false)
  | 2 => ("HeavyFiles$Search", "sheets", "I", false)
  | 3 => ("HeavyFiles$Search", "greatest", "[I", true)
  | 4 => ("HeavyFiles$Search", "winners", "[I", true)
  | 5 => ("HeavyFiles$Search", "laid", "[I", true)
  | 6 => ("HeavyFiles$Search", "limit", "I", false)
  | _ => ("HeavyFiles$Search", "dampness", "I", false)
def tyX8 : Nat → FieldType := fun k => match k with
  | 0 => .array .int
  | 1 => .int
  | 2 => .int
  | 3 => .array .int
  | 4 => .array .int
  | 5 => .array .int
  | 6 => .int
  | _ => .int
abbrev wsX80 : List Cond := u_ws RX8 TX8 8
theorem nmX8 : ∀ a, a < 8 → ∀ b, b < 8 → a ≠ b → (TX8 a).2.1 ≠ (TX8 b).2.1 := by decide +kernel
theorem tyX8_ok : ∀ k, k < 8 → parseFieldDescriptor (TX8 k).2.2.1 = some (tyX8 k) := by decide +kernel
abbrev cX8_init : ByteArray := prog_10_method_1_code
def yX8_init : MethodName := ⟨RX8, "<init>", "()V"⟩
abbrev cX8_run : ByteArray := prog_10_method_2_code
def yX8_run : MethodName := ⟨RX8, "run", "(LHeavyFiles$Court;I[II)V"⟩
abbrev cX8_mostBy : ByteArray := prog_10_method_3_code
def yX8_mostBy : MethodName := ⟨RX8, "mostBy", "(I)I"⟩
abbrev cX8_fewestFor : ByteArray := prog_10_method_4_code
def yX8_fewestFor : MethodName := ⟨RX8, "fewestFor", "(I)I"⟩
abbrev cX8_branch : ByteArray := prog_10_method_5_code
def yX8_branch : MethodName := ⟨RX8, "branch", "(LHeavyFiles$Search;LHeavyFiles$Court;[IIII)V"⟩
abbrev cX8_close : ByteArray := prog_10_method_6_code
def yX8_close : MethodName := ⟨RX8, "close", "(II)V"⟩
abbrev cX8_isEarlier : ByteArray := prog_10_method_7_code
def yX8_isEarlier : MethodName := ⟨RX8, "isEarlier", "()Z"⟩
def RX9 : String := "HeavyFiles$Suit"
def TX9 : u_T := fun k => match k with
  | 0 => ("HeavyFiles$Suit", "kind", "I", false)
  | 1 => ("HeavyFiles$Suit", "worth", "I", false)
  | _ => ("HeavyFiles$Suit", "figure", "I", false)
def tyX9 : Nat → FieldType := fun k => match k with
  | 0 => .int
  | 1 => .int
  | _ => .int
abbrev wsX90 : List Cond := u_ws RX9 TX9 3
theorem nmX9 : ∀ a, a < 3 → ∀ b, b < 3 → a ≠ b → (TX9 a).2.1 ≠ (TX9 b).2.1 := by decide +kernel
theorem tyX9_ok : ∀ k, k < 3 → parseFieldDescriptor (TX9 k).2.2.1 = some (tyX9 k) := by decide +kernel
abbrev cX9_init : ByteArray := prog_11_method_1_code
def yX9_init : MethodName := ⟨RX9, "<init>", "()V"⟩
abbrev cX9_become : ByteArray := prog_11_method_2_code
def yX9_become : MethodName := ⟨RX9, "become", "(III)V"⟩
abbrev cX9_isA : ByteArray := prog_11_method_3_code
def yX9_isA : MethodName := ⟨RX9, "isA", "(I)Z"⟩
abbrev cX9_aheadIn : ByteArray := prog_11_method_6_code
def yX9_aheadIn : MethodName := ⟨RX9, "aheadIn", "([I)I"⟩
abbrev cX9_extra : ByteArray := prog_11_method_7_code
def yX9_extra : MethodName := ⟨RX9, "extra", "(IZ)I"⟩
abbrev cX9_least : ByteArray := prog_11_method_8_code
def yX9_least : MethodName := ⟨RX9, "least", "()I"⟩
abbrev cX9_weight : ByteArray := prog_11_method_9_code
def yX9_weight : MethodName := ⟨RX9, "weight", "(II)I"⟩
abbrev cX9_winner : ByteArray := prog_11_method_10_code
def yX9_winner : MethodName := ⟨RX9, "winner", "(II)I"⟩
abbrev cX9_points : ByteArray := prog_11_method_11_code
def yX9_points : MethodName := ⟨RX9, "points", "(II)I"⟩
abbrev cX9_need : ByteArray := prog_11_method_12_code
def yX9_need : MethodName := ⟨RX9, "need", "(IIII)I"⟩
def RX10 : String := "HeavyFiles$TurnTable"
def TX10 : u_T := fun k => match k with
  | 0 => ("HeavyFiles$TurnTable", "values", "[I", true)
  | 1 => ("HeavyFiles$TurnTable", "needs", "[I", true)
  | 2 => ("HeavyFiles$TurnTable", "isFilled", "Z", false)
  | _ => ("HeavyFiles$TurnTable", "answered", "I", false)
def tyX10 : Nat → FieldType := fun k => match k with
  | 0 => .array .int
  | 1 => .array .int
  | 2 => .boolean
  | _ => .int
abbrev wsX100 : List Cond := u_ws RX10 TX10 4
theorem nmX10 : ∀ a, a < 4 → ∀ b, b < 4 → a ≠ b → (TX10 a).2.1 ≠ (TX10 b).2.1 := by decide +kernel
theorem tyX10_ok : ∀ k, k < 4 → parseFieldDescriptor (TX10 k).2.2.1 = some (tyX10 k) := by decide +kernel
abbrev cX10_init : ByteArray := prog_12_method_1_code
def yX10_init : MethodName := ⟨RX10, "<init>", "()V"⟩
abbrev cX10_forget : ByteArray := prog_12_method_2_code
def yX10_forget : MethodName := ⟨RX10, "forget", "()V"⟩
abbrev cX10_valueOf : ByteArray := prog_12_method_3_code
def yX10_valueOf : MethodName := ⟨RX10, "valueOf", "(LHeavyFiles$Court;III)I"⟩
abbrev cX10_fill : ByteArray := prog_12_method_6_code
def yX10_fill : MethodName := ⟨RX10, "fill", "(LHeavyFiles$Court;)V"⟩
abbrev cX10_fillSuit : ByteArray := prog_12_method_7_code
def yX10_fillSuit : MethodName := ⟨RX10, "fillSuit", "(LHeavyFiles$Suit;I)V"⟩
abbrev cX10_prepare : ByteArray := prog_12_method_8_code
def yX10_prepare : MethodName := ⟨RX10, "prepare", "(LHeavyFiles$Suit;I)V"⟩
abbrev cX10_after : ByteArray := prog_12_method_9_code
def yX10_after : MethodName := ⟨RX10, "after", "(LHeavyFiles$Suit;IIII)I"⟩
abbrev cX10_value : ByteArray := prog_12_method_10_code
def yX10_value : MethodName := ⟨RX10, "value", "(III)I"⟩
abbrev cX10_placeOf : ByteArray := prog_12_method_11_code
def yX10_placeOf : MethodName := ⟨RX10, "placeOf", "(III)I"⟩
def RX11 : String := "HeavyFiles"
def TX11 : u_T := fun k => match k with
  | 0 => ("HeavyFiles", "rows", "[LHeavyFiles$Row;", true)
  | 1 => ("HeavyFiles", "texts", "[LHeavyFiles$Row;", true)
  | 2 => ("HeavyFiles", "court", "LHeavyFiles$Court;", true)
  | 3 => ("HeavyFiles", "kept", "[LHeavyFiles$Court;", true)
  | 4 => ("HeavyFiles", "reader", "LHeavyFiles$Reader;", true)
  | 5 => ("HeavyFiles", "scale", "LHeavyFiles$Scale;", true)
  | 6 => ("HeavyFiles", "layings", "LHeavyFiles$Layings;", true)
  | 7 => ("HeavyFiles", "search", "LHeavyFiles$Search;", true)
  | 8 => ("HeavyFiles", "dread", "LHeavyFiles$Dread;", true)
  | 9 => ("HeavyFiles", "mixing", "LHeavyFiles$Mixing;", true)
  | 10 => ("HeavyFiles", "turnTable", "LHeavyFiles$TurnTable;", true)
  | 11 => ("HeavyFiles", "guess", "LHeavyFiles$Guess;", true)
  | 12 => ("HeavyFiles", "found", "[I", true)
  | 13 => ("HeavyFiles", "latest", "I", false)
  | 14 => ("HeavyFiles", "asked", "I", false)
  | 15 => ("HeavyFiles", "upper", "J", false)
  | _ => ("HeavyFiles", "lower", "J", false)
def tyX11 : Nat → FieldType := fun k => match k with
  | 0 => .array (.object "HeavyFiles$Row")
  | 1 => .array (.object "HeavyFiles$Row")
  | 2 => .object "HeavyFiles$Court"
  | 3 => .array (.object "HeavyFiles$Court")
  | 4 => .object "HeavyFiles$Reader"
  | 5 => .object "HeavyFiles$Scale"
  | 6 => .object "HeavyFiles$Layings"
  | 7 => .object "HeavyFiles$Search"
  | 8 => .object "HeavyFiles$Dread"
  | 9 => .object "HeavyFiles$Mixing"
  | 10 => .object "HeavyFiles$TurnTable"
  | 11 => .object "HeavyFiles$Guess"
  | 12 => .array .int
  | 13 => .int
  | 14 => .int
  | 15 => .long
  | _ => .long
abbrev wsX110 : List Cond := u_ws RX11 TX11 17
theorem nmX11 : ∀ a, a < 17 → ∀ b, b < 17 → a ≠ b → (TX11 a).2.1 ≠ (TX11 b).2.1 := by decide +kernel
theorem tyX11_ok : ∀ k, k < 17 → parseFieldDescriptor (TX11 k).2.2.1 = some (tyX11 k) := by decide +kernel
abbrev cX11_init : ByteArray := prog_1_method_1_code
def yX11_init : MethodName := ⟨RX11, "<init>", "()V"⟩
abbrev cX11_row : ByteArray := prog_1_method_2_code
def yX11_row : MethodName := ⟨RX11, "row", "(II)I"⟩
abbrev cX11_lay : ByteArray := prog_1_method_3_code
def yX11_lay : MethodName := ⟨RX11, "lay", "(III)I"⟩
abbrev cX11_at : ByteArray := prog_1_method_4_code
def yX11_at : MethodName := ⟨RX11, "at", "(II)I"⟩
abbrev cX11_text : ByteArray := prog_1_method_8_code
def yX11_text : MethodName := ⟨RX11, "text", "(II)I"⟩
abbrev cX11_put : ByteArray := prog_1_method_9_code
def yX11_put : MethodName := ⟨RX11, "put", "(III)I"⟩
abbrev cX11_fault : ByteArray := prog_1_method_10_code
def yX11_fault : MethodName := ⟨RX11, "fault", "(I)I"⟩
abbrev cX11_court : ByteArray := prog_1_method_11_code
def yX11_court : MethodName := ⟨RX11, "court", "(I)I"⟩
abbrev cX11_damp : ByteArray := prog_1_method_15_code
def yX11_damp : MethodName := ⟨RX11, "damp", "(I)I"⟩
abbrev cX11_judge : ByteArray := prog_1_method_16_code
def yX11_judge : MethodName := ⟨RX11, "judge", "(II)I"⟩
abbrev cX11_who : ByteArray := prog_1_method_17_code
def yX11_who : MethodName := ⟨RX11, "who", "(III)I"⟩
abbrev cX11_best : ByteArray := prog_1_method_18_code
def yX11_best : MethodName := ⟨RX11, "best", "(II)I"⟩
abbrev cX11_fewest : ByteArray := prog_1_method_19_code
def yX11_fewest : MethodName := ⟨RX11, "fewest", "(II)I"⟩
abbrev cX11_ways : ByteArray := prog_1_method_20_code
def yX11_ways : MethodName := ⟨RX11, "ways", "(II)I"⟩
abbrev cX11_sure : ByteArray := prog_1_method_21_code
def yX11_sure : MethodName := ⟨RX11, "sure", "(I)I"⟩
abbrev cX11_safe : ByteArray := prog_1_method_22_code
def yX11_safe : MethodName := ⟨RX11, "safe", "(I)I"⟩
abbrev cX11_mixed : ByteArray := prog_1_method_23_code
def yX11_mixed : MethodName := ⟨RX11, "mixed", "(IIII)I"⟩
abbrev cX11_mix : ByteArray := prog_1_method_24_code
def yX11_mix : MethodName := ⟨RX11, "mix", "(II)I"⟩
abbrev cX11_from : ByteArray := prog_1_method_26_code
def yX11_from : MethodName := ⟨RX11, "from", "(III)I"⟩
abbrev cX11_lender : ByteArray := prog_1_method_28_code
def yX11_lender : MethodName := ⟨RX11, "lender", "(II)I"⟩
abbrev cX11_lend : ByteArray := prog_1_method_29_code
def yX11_lend : MethodName := ⟨RX11, "lend", "(II)I"⟩
abbrev cX11_adds : ByteArray := prog_1_method_31_code
def yX11_adds : MethodName := ⟨RX11, "adds", "(II)I"⟩
abbrev cX11_when : ByteArray := prog_1_method_32_code
def yX11_when : MethodName := ⟨RX11, "when", "(I)I"⟩
abbrev cX11_rule : ByteArray := prog_1_method_33_code
def yX11_rule : MethodName := ⟨RX11, "rule", "(II)I"⟩
abbrev cX11_note : ByteArray := prog_1_method_34_code
def yX11_note : MethodName := ⟨RX11, "note", "(II)I"⟩
abbrev cX11_rules : ByteArray := prog_1_method_36_code
def yX11_rules : MethodName := ⟨RX11, "rules", "()I"⟩
abbrev cX11_reply : ByteArray := prog_1_method_37_code
def yX11_reply : MethodName := ⟨RX11, "reply", "(I)I"⟩
abbrev cX11_tell : ByteArray := prog_1_method_38_code
def yX11_tell : MethodName := ⟨RX11, "tell", "(I)I"⟩
abbrev cX11_keep : ByteArray := prog_1_method_39_code
def yX11_keep : MethodName := ⟨RX11, "keep", "(I)I"⟩
abbrev cX11_on : ByteArray := prog_1_method_40_code
def yX11_on : MethodName := ⟨RX11, "on", "(I)I"⟩
abbrev cX11_asked : ByteArray := prog_1_method_41_code
def yX11_asked : MethodName := ⟨RX11, "asked", "()I"⟩
abbrev cX11_upper : ByteArray := prog_1_method_42_code
def yX11_upper : MethodName := ⟨RX11, "upper", "()J"⟩
abbrev cX11_lower : ByteArray := prog_1_method_43_code
def yX11_lower : MethodName := ⟨RX11, "lower", "()J"⟩
abbrev cX11_count : ByteArray := prog_1_method_44_code
def yX11_count : MethodName := ⟨RX11, "count", "(I)I"⟩
abbrev cX11_rowOf : ByteArray := prog_1_method_48_code
def yX11_rowOf : MethodName := ⟨RX11, "rowOf", "(I)LHeavyFiles$Row;"⟩
abbrev cX11_textOf : ByteArray := prog_1_method_49_code
def yX11_textOf : MethodName := ⟨RX11, "textOf", "(I)LHeavyFiles$Row;"⟩
abbrev cX11_keptOf : ByteArray := prog_1_method_50_code
def yX11_keptOf : MethodName := ⟨RX11, "keptOf", "(I)LHeavyFiles$Court;"⟩
abbrev cX11_keptCourts : ByteArray := prog_1_method_51_code
def yX11_keptCourts : MethodName := ⟨RX11, "keptCourts", "()I"⟩
abbrev cX11_there : ByteArray := prog_1_method_52_code
def yX11_there : MethodName := ⟨RX11, "there", "([LHeavyFiles$Row;)I"⟩
abbrev cX11_isInTurn : ByteArray := prog_1_method_53_code
def yX11_isInTurn : MethodName := ⟨RX11, "isInTurn", "(I)Z"⟩
abbrev cX11_isTooMuch : ByteArray := prog_1_method_54_code
def yX11_isTooMuch : MethodName := ⟨RX11, "isTooMuch", "(I)Z"⟩
abbrev cX11_refused : ByteArray := prog_1_method_55_code
def yX11_refused : MethodName := ⟨RX11, "refused", "(I)I"⟩
abbrev cX11_told : ByteArray := prog_1_method_56_code
def yX11_told : MethodName := ⟨RX11, "told", "(I)I"⟩
abbrev cX11_fraction : ByteArray := prog_1_method_57_code
def yX11_fraction : MethodName := ⟨RX11, "fraction", "(JJ)V"⟩
abbrev cX11_isWrong : ByteArray := prog_1_method_59_code
def yX11_isWrong : MethodName := ⟨RX11, "isWrong", "(LHeavyFiles$Row;I)Z"⟩
abbrev cX11_isWrong_ : ByteArray := prog_1_method_60_code
def yX11_isWrong_ : MethodName := ⟨RX11, "isWrong", "(LHeavyFiles$Row;ILHeavyFiles$Row;I)Z"⟩
abbrev cX11_isRefused : ByteArray := prog_1_method_62_code
def yX11_isRefused : MethodName := ⟨RX11, "isRefused", "(ZZZ)Z"⟩
abbrev cX11_worthOf : ByteArray := prog_1_method_63_code
def yX11_worthOf : MethodName := ⟨RX11, "worthOf", "(I)I"⟩
abbrev cX11_ordersAround : ByteArray := prog_1_method_65_code
def yX11_ordersAround : MethodName := ⟨RX11, "ordersAround", "(I)I"⟩
def RX12 : String := "HeavyFilesModel"
def TX12 : u_T := fun k => match k with
  | _ => ("", "", "", false)
def tyX12 : Nat → FieldType := fun k => match k with
  | _ => .int
abbrev wsX120 : List Cond := u_ws RX12 TX12 0
theorem nmX12 : ∀ a, a < 0 → ∀ b, b < 0 → a ≠ b → (TX12 a).2.1 ≠ (TX12 b).2.1 := by decide +kernel
theorem tyX12_ok : ∀ k, k < 0 → parseFieldDescriptor (TX12 k).2.2.1 = some (tyX12 k) := by decide +kernel
def RJ6 : String := "java/lang/Integer"
def TJ6 : u_T := fun k => match k with
  | _ => ("", "", "", false)
def tyJ6 : Nat → FieldType := fun k => match k with
  | _ => .int
abbrev wsJ60 : List Cond := u_ws RJ6 TJ6 0
theorem nmJ6 : ∀ a, a < 0 → ∀ b, b < 0 → a ≠ b → (TJ6 a).2.1 ≠ (TJ6 b).2.1 := by decide +kernel
theorem tyJ6_ok : ∀ k, k < 0 → parseFieldDescriptor (TJ6 k).2.2.1 = some (tyJ6 k) := by decide +kernel
abbrev cJ6_bitCount_0f7a4 : ByteArray := prog_15_method_49_code
def yJ6_bitCount_0f7a4 : MethodName := ⟨RJ6, "bitCount", "(I)I"⟩
def RJ9 : String := "java/lang/Math"
def TJ9 : u_T := fun k => match k with
  | _ => ("", "", "", false)
def tyJ9 : Nat → FieldType := fun k => match k with
  | _ => .int
abbrev wsJ90 : List Cond := u_ws RJ9 TJ9 0
theorem nmJ9 : ∀ a, a < 0 → ∀ b, b < 0 → a ≠ b → (TJ9 a).2.1 ≠ (TJ9 b).2.1 := by decide +kernel
theorem tyJ9_ok : ∀ k, k < 0 → parseFieldDescriptor (TJ9 k).2.2.1 = some (tyJ9 k) := by decide +kernel
abbrev cJ9_abs_0f7a4 : ByteArray := prog_16_method_59_code
def yJ9_abs_0f7a4 : MethodName := ⟨RJ9, "abs", "(I)I"⟩
abbrev cJ9_abs_067f4 : ByteArray := prog_16_method_61_code
def yJ9_abs_067f4 : MethodName := ⟨RJ9, "abs", "(J)J"⟩
abbrev cJ9_max_7cf53 : ByteArray := prog_16_method_65_code
def yJ9_max_7cf53 : MethodName := ⟨RJ9, "max", "(II)I"⟩
abbrev cJ9_min_7cf53 : ByteArray := prog_16_method_69_code
def yJ9_min_7cf53 : MethodName := ⟨RJ9, "min", "(II)I"⟩
def RJ10 : String := "java/lang/System"
def TJ10 : u_T := fun k => match k with
  | _ => ("", "", "", false)
def tyJ10 : Nat → FieldType := fun k => match k with
  | _ => .int
abbrev wsJ100 : List Cond := u_ws RJ10 TJ10 0
theorem nmJ10 : ∀ a, a < 0 → ∀ b, b < 0 → a ≠ b → (TJ10 a).2.1 ≠ (TJ10 b).2.1 := by decide +kernel
theorem tyJ10_ok : ∀ k, k < 0 → parseFieldDescriptor (TJ10 k).2.2.1 = some (tyJ10 k) := by decide +kernel
def RJ7 : String := "java/util/Arrays"
def TJ7 : u_T := fun k => match k with
  | _ => ("", "", "", false)
def tyJ7 : Nat → FieldType := fun k => match k with
  | _ => .int
abbrev wsJ70 : List Cond := u_ws RJ7 TJ7 0
theorem nmJ7 : ∀ a, a < 0 → ∀ b, b < 0 → a ≠ b → (TJ7 a).2.1 ≠ (TJ7 b).2.1 := by decide +kernel
theorem tyJ7_ok : ∀ k, k < 0 → parseFieldDescriptor (TJ7 k).2.2.1 = some (tyJ7 k) := by decide +kernel
abbrev cJ7_fill_53178 : ByteArray := prog_18_method_103_code
def yJ7_fill_53178 : MethodName := ⟨RJ7, "fill", "([II)V"⟩
def RL : String := "HeavyFilesLaw"
abbrev cL_low : ByteArray := method_2_code
def yL_low : MethodName := ⟨RL, "low", "(II)I"⟩
abbrev cL_cell : ByteArray := method_3_code
def yL_cell : MethodName := ⟨RL, "cell", "([II)I"⟩
abbrev cL_told : ByteArray := method_4_code
def yL_told : MethodName := ⟨RL, "told", "(LHeavyFiles;I)I"⟩
abbrev cL_number : ByteArray := method_5_code
def yL_number : MethodName := ⟨RL, "number", "([III)I"⟩
abbrev cL_court : ByteArray := method_6_code
def yL_court : MethodName := ⟨RL, "court", "(LHeavyFiles;[IIII[I)Z"⟩
abbrev cL_laying : ByteArray := method_7_code
def yL_laying : MethodName := ⟨RL, "laying", "(LHeavyFiles;IIII[I)Z"⟩
abbrev cL_law : ByteArray := code
def yL_law : MethodName := ⟨RL, "law", "([I)Z"⟩
abbrev vwCl : List vw_C := [(RX0, TX0, 9), (RX1, TX1, 3), (RX2, TX2, 6), (RX3, TX3, 3), (RX4, TX4, 3), (RX5, TX5, 6), (RX6, TX6, 2), (RX7, TX7, 5), (RX8, TX8, 8), (RX9, TX9, 3), (RX10, TX10, 4), (RX11, TX11, 17)]
