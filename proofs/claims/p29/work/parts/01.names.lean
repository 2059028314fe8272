/-! part 01: the tables (kit/laws/SKELETON, PART A) and names, field tables, words, decode rows as claim/NAMES.whole prints them -/
/-- a private method of a class that the tables say can be made, by its rows of tables_1 -/
def lw_okq (q : MethodName × Nat) : Prop := (q.1.cls ≠ "java/lang/invoke/MethodHandle" ∧ q.1.cls ≠ "java/lang/invoke/VarHandle") ∧ Cond.instantiable q.1.cls q.2 ∈ tables_1 ∧ Cond.privateMethod q.1 ∈ tables_1 ∧ Cond.instanceMethod q.1 ∈ tables_1
theorem lw_p0 : lw_okq (⟨"DobbyLoom$History", "stateAt", "(I)LDobbyLoom$State;"⟩, 3) := ⟨⟨by decide +kernel, by decide +kernel⟩, List.mem_of_getElem? (i := 187) (by decide +kernel), List.mem_of_getElem? (i := 271) (by decide +kernel), List.mem_of_getElem? (i := 272) (by decide +kernel)⟩
theorem lw_p1 : lw_okq (⟨"DobbyLoom$ChainReader", "openBrackets", "()Z"⟩, 7) := ⟨⟨by decide +kernel, by decide +kernel⟩, List.mem_of_getElem? (i := 207) (by decide +kernel), List.mem_of_getElem? (i := 368) (by decide +kernel), List.mem_of_getElem? (i := 369) (by decide +kernel)⟩
theorem lw_p2 : lw_okq (⟨"DobbyLoom$ChainReader", "isNumberAhead", "()Z"⟩, 7) := ⟨⟨by decide +kernel, by decide +kernel⟩, List.mem_of_getElem? (i := 207) (by decide +kernel), List.mem_of_getElem? (i := 372) (by decide +kernel), List.mem_of_getElem? (i := 373) (by decide +kernel)⟩
theorem lw_p3 : lw_okq (⟨"DobbyLoom$ChainReader", "peek", "()I"⟩, 7) := ⟨⟨by decide +kernel, by decide +kernel⟩, List.mem_of_getElem? (i := 207) (by decide +kernel), List.mem_of_getElem? (i := 376) (by decide +kernel), List.mem_of_getElem? (i := 377) (by decide +kernel)⟩
theorem lw_p4 : lw_okq (⟨"DobbyLoom$ChainReader", "placeBehindSpaces", "(I)I"⟩, 7) := ⟨⟨by decide +kernel, by decide +kernel⟩, List.mem_of_getElem? (i := 207) (by decide +kernel), List.mem_of_getElem? (i := 380) (by decide +kernel), List.mem_of_getElem? (i := 381) (by decide +kernel)⟩
theorem lw_p5 : lw_okq (⟨"DobbyLoom$ChainReader", "characterAt", "(I)I"⟩, 7) := ⟨⟨by decide +kernel, by decide +kernel⟩, List.mem_of_getElem? (i := 207) (by decide +kernel), List.mem_of_getElem? (i := 385) (by decide +kernel), List.mem_of_getElem? (i := 386) (by decide +kernel)⟩
theorem lw_p6 : lw_okq (⟨"DobbyLoom$ChainReader", "isDigit", "(I)Z"⟩, 7) := ⟨⟨by decide +kernel, by decide +kernel⟩, List.mem_of_getElem? (i := 207) (by decide +kernel), List.mem_of_getElem? (i := 389) (by decide +kernel), List.mem_of_getElem? (i := 390) (by decide +kernel)⟩
theorem lw_p7 : lw_okq (⟨"DobbyLoom$ChainReader", "take", "(I)Z"⟩, 7) := ⟨⟨by decide +kernel, by decide +kernel⟩, List.mem_of_getElem? (i := 207) (by decide +kernel), List.mem_of_getElem? (i := 394) (by decide +kernel), List.mem_of_getElem? (i := 395) (by decide +kernel)⟩
theorem lw_p8 : lw_okq (⟨"DobbyLoom$ChainReader", "readBar", "()Z"⟩, 7) := ⟨⟨by decide +kernel, by decide +kernel⟩, List.mem_of_getElem? (i := 207) (by decide +kernel), List.mem_of_getElem? (i := 398) (by decide +kernel), List.mem_of_getElem? (i := 399) (by decide +kernel)⟩
theorem lw_p9 : lw_okq (⟨"DobbyLoom$ChainReader", "isShaft", "(I)Z"⟩, 7) := ⟨⟨by decide +kernel, by decide +kernel⟩, List.mem_of_getElem? (i := 207) (by decide +kernel), List.mem_of_getElem? (i := 403) (by decide +kernel), List.mem_of_getElem? (i := 404) (by decide +kernel)⟩
theorem lw_p10 : lw_okq (⟨"DobbyLoom$ChainReader", "readShafts", "()I"⟩, 7) := ⟨⟨by decide +kernel, by decide +kernel⟩, List.mem_of_getElem? (i := 207) (by decide +kernel), List.mem_of_getElem? (i := 407) (by decide +kernel), List.mem_of_getElem? (i := 408) (by decide +kernel)⟩
theorem lw_p11 : lw_okq (⟨"DobbyLoom$ChainReader", "closeBrackets", "()Z"⟩, 7) := ⟨⟨by decide +kernel, by decide +kernel⟩, List.mem_of_getElem? (i := 207) (by decide +kernel), List.mem_of_getElem? (i := 412) (by decide +kernel), List.mem_of_getElem? (i := 413) (by decide +kernel)⟩
theorem lw_p12 : lw_okq (⟨"DobbyLoom$State", "layWeft", "(III)V"⟩, 4) := ⟨⟨by decide +kernel, by decide +kernel⟩, List.mem_of_getElem? (i := 21) (by decide +kernel), List.mem_of_getElem? (i := 454) (by decide +kernel), List.mem_of_getElem? (i := 455) (by decide +kernel)⟩
theorem lw_p13 : lw_okq (⟨"DobbyLoom$Chain", "barBelow", "(I)I"⟩, 5) := ⟨⟨by decide +kernel, by decide +kernel⟩, List.mem_of_getElem? (i := 69) (by decide +kernel), List.mem_of_getElem? (i := 467) (by decide +kernel), List.mem_of_getElem? (i := 468) (by decide +kernel)⟩
theorem lw_p14 : lw_okq (⟨"DobbyLoom$Chain", "barAbove", "(I)I"⟩, 5) := ⟨⟨by decide +kernel, by decide +kernel⟩, List.mem_of_getElem? (i := 69) (by decide +kernel), List.mem_of_getElem? (i := 471) (by decide +kernel), List.mem_of_getElem? (i := 472) (by decide +kernel)⟩
theorem lw_p15 : lw_okq (⟨"DobbyLoom$Cloth", "sideAlong", "(III)I"⟩, 7) := ⟨⟨by decide +kernel, by decide +kernel⟩, List.mem_of_getElem? (i := 105) (by decide +kernel), List.mem_of_getElem? (i := 564) (by decide +kernel), List.mem_of_getElem? (i := 565) (by decide +kernel)⟩
def lw_privs_1 : List (MethodName × Nat) := [(⟨"DobbyLoom$History", "stateAt", "(I)LDobbyLoom$State;"⟩, 3), (⟨"DobbyLoom$ChainReader", "openBrackets", "()Z"⟩, 7), (⟨"DobbyLoom$ChainReader", "isNumberAhead", "()Z"⟩, 7), (⟨"DobbyLoom$ChainReader", "peek", "()I"⟩, 7), (⟨"DobbyLoom$ChainReader", "placeBehindSpaces", "(I)I"⟩, 7), (⟨"DobbyLoom$ChainReader", "characterAt", "(I)I"⟩, 7), (⟨"DobbyLoom$ChainReader", "isDigit", "(I)Z"⟩, 7), (⟨"DobbyLoom$ChainReader", "take", "(I)Z"⟩, 7), (⟨"DobbyLoom$ChainReader", "readBar", "()Z"⟩, 7), (⟨"DobbyLoom$ChainReader", "isShaft", "(I)Z"⟩, 7), (⟨"DobbyLoom$ChainReader", "readShafts", "()I"⟩, 7), (⟨"DobbyLoom$ChainReader", "closeBrackets", "()Z"⟩, 7), (⟨"DobbyLoom$State", "layWeft", "(III)V"⟩, 4), (⟨"DobbyLoom$Chain", "barBelow", "(I)I"⟩, 5), (⟨"DobbyLoom$Chain", "barAbove", "(I)I"⟩, 5), (⟨"DobbyLoom$Cloth", "sideAlong", "(III)I"⟩, 7)]
theorem lw_r1 : ∀ q ∈ lw_privs_1, lw_okq q := List.forall_mem_cons.mpr ⟨lw_p0, List.forall_mem_cons.mpr ⟨lw_p1, List.forall_mem_cons.mpr ⟨lw_p2, List.forall_mem_cons.mpr ⟨lw_p3, List.forall_mem_cons.mpr ⟨lw_p4, List.forall_mem_cons.mpr ⟨lw_p5, List.forall_mem_cons.mpr ⟨lw_p6, List.forall_mem_cons.mpr ⟨lw_p7, List.forall_mem_cons.mpr ⟨lw_p8, List.forall_mem_cons.mpr ⟨lw_p9, List.forall_mem_cons.mpr ⟨lw_p10, List.forall_mem_cons.mpr ⟨lw_p11, List.forall_mem_cons.mpr ⟨lw_p12, List.forall_mem_cons.mpr ⟨lw_p13, List.forall_mem_cons.mpr ⟨lw_p14, List.forall_mem_cons.mpr ⟨lw_p15, fun _ h => absurd h List.not_mem_nil⟩⟩⟩⟩⟩⟩⟩⟩⟩⟩⟩⟩⟩⟩⟩⟩
theorem lw_p16 : lw_okq (⟨"DobbyLoom$Cloth", "runWith", "(III)I"⟩, 7) := ⟨⟨by decide +kernel, by decide +kernel⟩, List.mem_of_getElem? (i := 105) (by decide +kernel), List.mem_of_getElem? (i := 572) (by decide +kernel), List.mem_of_getElem? (i := 573) (by decide +kernel)⟩
theorem lw_p17 : lw_okq (⟨"DobbyLoom$Cloth", "areAlike", "(II)Z"⟩, 7) := ⟨⟨by decide +kernel, by decide +kernel⟩, List.mem_of_getElem? (i := 105) (by decide +kernel), List.mem_of_getElem? (i := 600) (by decide +kernel), List.mem_of_getElem? (i := 601) (by decide +kernel)⟩
theorem lw_p18 : lw_okq (⟨"DobbyLoom", "seenColor", "(III)I"⟩, 5) := ⟨⟨by decide +kernel, by decide +kernel⟩, List.mem_of_getElem? (i := 13) (by decide +kernel), List.mem_of_getElem? (i := 639) (by decide +kernel), List.mem_of_getElem? (i := 640) (by decide +kernel)⟩
def lw_privs_2 : List (MethodName × Nat) := [(⟨"DobbyLoom$Cloth", "runWith", "(III)I"⟩, 7), (⟨"DobbyLoom$Cloth", "areAlike", "(II)Z"⟩, 7), (⟨"DobbyLoom", "seenColor", "(III)I"⟩, 5)]
theorem lw_r2 : ∀ q ∈ lw_privs_2, lw_okq q := List.forall_mem_cons.mpr ⟨lw_p16, List.forall_mem_cons.mpr ⟨lw_p17, List.forall_mem_cons.mpr ⟨lw_p18, fun _ h => absurd h List.not_mem_nil⟩⟩⟩
def lw_privs : List (MethodName × Nat) := lw_privs_1 ++ (lw_privs_2)
def lw_tbl : List Cond := k2_sels lw_privs ++ tables_1
theorem lw_privs_ok : ∀ q ∈ lw_privs, lw_okq q := by
  show ∀ q ∈ lw_privs_1 ++ (lw_privs_2), lw_okq q
  exact List.forall_mem_append.mpr ⟨lw_r1, lw_r2⟩

def RX0 : String := "DobbyLoom$Chain"
def TX0 : u_T := fun k => match k with
  | 0 => ("DobbyLoom$Chain", "bars", "I", false)
  | 1 => ("DobbyLoom$Chain", "present", "I", false)
  | 2 => ("DobbyLoom$Chain", "backward", "I", false)
  | 3 => ("DobbyLoom$Chain", "liftOf", "LDobbyLoom$Numbers;", true)
  | _ => ("DobbyLoom$Chain", "colorOf", "LDobbyLoom$Numbers;", true)
def tyX0 : Nat → FieldType := fun k => match k with
  | 0 => .int
  | 1 => .int
  | 2 => .int
  | 3 => .object "DobbyLoom$Numbers"
  | _ => .object "DobbyLoom$Numbers"
abbrev wsX00 : List Cond := u_ws RX0 TX0 5
theorem nmX0 : ∀ a, a < 5 → ∀ b, b < 5 → a ≠ b → (TX0 a).2.1 ≠ (TX0 b).2.1 := by decide +kernel
theorem tyX0_ok : ∀ k, k < 5 → parseFieldDescriptor (TX0 k).2.2.1 = some (tyX0 k) := by decide +kernel
abbrev cX0_init : ByteArray := prog_2_method_1_code
def yX0_init : MethodName := ⟨RX0, "<init>", "()V"⟩
abbrev cX0_removeBars : ByteArray := prog_2_method_2_code
def yX0_removeBars : MethodName := ⟨RX0, "removeBars", "()V"⟩
abbrev cX0_takeBarsOf : ByteArray := prog_2_method_3_code
def yX0_takeBarsOf : MethodName := ⟨RX0, "takeBarsOf", "(LDobbyLoom$Chain;)V"⟩
abbrev cX0_copyFrom : ByteArray := prog_2_method_4_code
def yX0_copyFrom : MethodName := ⟨RX0, "copyFrom", "(LDobbyLoom$Chain;)V"⟩
abbrev cX0_hasBar : ByteArray := prog_2_method_5_code
def yX0_hasBar : MethodName := ⟨RX0, "hasBar", "(I)Z"⟩
abbrev cX0_isFull : ByteArray := prog_2_method_6_code
def yX0_isFull : MethodName := ⟨RX0, "isFull", "()Z"⟩
abbrev cX0_addLast : ByteArray := prog_2_method_7_code
def yX0_addLast : MethodName := ⟨RX0, "addLast", "(II)V"⟩
abbrev cX0_repeatFrom : ByteArray := prog_2_method_8_code
def yX0_repeatFrom : MethodName := ⟨RX0, "repeatFrom", "(II)Z"⟩
abbrev cX0_barAfter : ByteArray := prog_2_method_9_code
def yX0_barAfter : MethodName := ⟨RX0, "barAfter", "(I)I"⟩
abbrev cX0_barBefore : ByteArray := prog_2_method_10_code
def yX0_barBefore : MethodName := ⟨RX0, "barBefore", "(I)I"⟩
abbrev cX0_barAbove : ByteArray := prog_2_method_11_code
def yX0_barAbove : MethodName := ⟨RX0, "barAbove", "(I)I"⟩
abbrev cX0_barBelow : ByteArray := prog_2_method_12_code
def yX0_barBelow : MethodName := ⟨RX0, "barBelow", "(I)I"⟩
def RX1 : String := "DobbyLoom$ChainReader"
def TX1 : u_T := fun k => match k with
  | 0 => ("DobbyLoom$ChainReader", "text", "LDobbyLoom$Numbers;", true)
  | 1 => ("DobbyLoom$ChainReader", "chain", "LDobbyLoom$Chain;", true)
  | 2 => ("DobbyLoom$ChainReader", "length", "I", false)
  | 3 => ("DobbyLoom$ChainReader", "position", "I", false)
  | 4 => ("DobbyLoom$ChainReader", "shafts", "I", false)
  | 5 => ("DobbyLoom$ChainReader", "times", "I", false)
  | _ => ("DobbyLoom$ChainReader", "firstInBrackets", "I", false)
def tyX1 : Nat → FieldType := fun k => match k with
  | 0 => .object "DobbyLoom$Numbers"
  | 1 => .object "DobbyLoom$Chain"
  | 2 => .int
  | 3 => .int
  | 4 => .int
  | 5 => .int
  | _ => .int
abbrev wsX10 : List Cond := u_ws RX1 TX1 7
theorem nmX1 : ∀ a, a < 7 → ∀ b, b < 7 → a ≠ b → (TX1 a).2.1 ≠ (TX1 b).2.1 := by decide +kernel
theorem tyX1_ok : ∀ k, k < 7 → parseFieldDescriptor (TX1 k).2.2.1 = some (tyX1 k) := by decide +kernel
abbrev cX1_init : ByteArray := prog_3_method_1_code
def yX1_init : MethodName := ⟨RX1, "<init>", "()V"⟩
abbrev cX1_isFull : ByteArray := prog_3_method_2_code
def yX1_isFull : MethodName := ⟨RX1, "isFull", "()Z"⟩
abbrev cX1_addLast : ByteArray := prog_3_method_3_code
def yX1_addLast : MethodName := ⟨RX1, "addLast", "(I)V"⟩
abbrev cX1_readChain : ByteArray := prog_3_method_4_code
def yX1_readChain : MethodName := ⟨RX1, "readChain", "(I)Z"⟩
abbrev cX1_openBrackets : ByteArray := prog_3_method_5_code
def yX1_openBrackets : MethodName := ⟨RX1, "openBrackets", "()Z"⟩
abbrev cX1_closeBrackets : ByteArray := prog_3_method_6_code
def yX1_closeBrackets : MethodName := ⟨RX1, "closeBrackets", "()Z"⟩
abbrev cX1_readBar : ByteArray := prog_3_method_7_code
def yX1_readBar : MethodName := ⟨RX1, "readBar", "()Z"⟩
abbrev cX1_readShafts : ByteArray := prog_3_method_8_code
def yX1_readShafts : MethodName := ⟨RX1, "readShafts", "()I"⟩
abbrev cX1_isNumberAhead : ByteArray := prog_3_method_9_code
def yX1_isNumberAhead : MethodName := ⟨RX1, "isNumberAhead", "()Z"⟩
abbrev cX1_isDigit : ByteArray := prog_3_method_10_code
def yX1_isDigit : MethodName := ⟨RX1, "isDigit", "(I)Z"⟩
abbrev cX1_isShaft : ByteArray := prog_3_method_11_code
def yX1_isShaft : MethodName := ⟨RX1, "isShaft", "(I)Z"⟩
abbrev cX1_peek : ByteArray := prog_3_method_12_code
def yX1_peek : MethodName := ⟨RX1, "peek", "()I"⟩
abbrev cX1_take : ByteArray := prog_3_method_13_code
def yX1_take : MethodName := ⟨RX1, "take", "(I)Z"⟩
abbrev cX1_placeBehindSpaces : ByteArray := prog_3_method_14_code
def yX1_placeBehindSpaces : MethodName := ⟨RX1, "placeBehindSpaces", "(I)I"⟩
abbrev cX1_characterAt : ByteArray := prog_3_method_15_code
def yX1_characterAt : MethodName := ⟨RX1, "characterAt", "(I)I"⟩
def RX2 : String := "DobbyLoom$Cloth"
def TX2 : u_T := fun k => match k with
  | 0 => ("DobbyLoom$Cloth", "rows", "I", false)
  | 1 => ("DobbyLoom$Cloth", "colorOf", "LDobbyLoom$Numbers;", true)
  | 2 => ("DobbyLoom$Cloth", "barOf", "LDobbyLoom$Numbers;", true)
  | 3 => ("DobbyLoom$Cloth", "usedOf", "LDobbyLoom$Numbers;", true)
  | 4 => ("DobbyLoom$Cloth", "aboveOf", "LDobbyLoom$Numbers;", true)
  | 5 => ("DobbyLoom$Cloth", "missingOf", "LDobbyLoom$Numbers;", true)
  | _ => ("DobbyLoom$Cloth", "planOf", "LDobbyLoom$Numbers;", true)
def tyX2 : Nat → FieldType := fun k => match k with
  | 0 => .int
  | 1 => .object "DobbyLoom$Numbers"
  | 2 => .object "DobbyLoom$Numbers"
  | 3 => .object "DobbyLoom$Numbers"
  | 4 => .object "DobbyLoom$Numbers"
  | 5 => .object "DobbyLoom$Numbers"
  | _ => .object "DobbyLoom$Numbers"
abbrev wsX20 : List Cond := u_ws RX2 TX2 7
theorem nmX2 : ∀ a, a < 7 → ∀ b, b < 7 → a ≠ b → (TX2 a).2.1 ≠ (TX2 b).2.1 := by decide +kernel
theorem tyX2_ok : ∀ k, k < 7 → parseFieldDescriptor (TX2 k).2.2.1 = some (tyX2 k) := by decide +kernel
abbrev cX2_init : ByteArray := prog_4_method_1_code
def yX2_init : MethodName := ⟨RX2, "<init>", "()V"⟩
abbrev cX2_copyFrom : ByteArray := prog_4_method_2_code
def yX2_copyFrom : MethodName := ⟨RX2, "copyFrom", "(LDobbyLoom$Cloth;)V"⟩
abbrev cX2_hasRow : ByteArray := prog_4_method_3_code
def yX2_hasRow : MethodName := ⟨RX2, "hasRow", "(I)Z"⟩
abbrev cX2_isFull : ByteArray := prog_4_method_4_code
def yX2_isFull : MethodName := ⟨RX2, "isFull", "()Z"⟩
abbrev cX2_isStanding : ByteArray := prog_4_method_5_code
def yX2_isStanding : MethodName := ⟨RX2, "isStanding", "()Z"⟩
abbrev cX2_wrongEnds : ByteArray := prog_4_method_6_code
def yX2_wrongEnds : MethodName := ⟨RX2, "wrongEnds", "(I)I"⟩
abbrev cX2_wrongPlaces : ByteArray := prog_4_method_7_code
def yX2_wrongPlaces : MethodName := ⟨RX2, "wrongPlaces", "()I"⟩
abbrev cX2_rowsAbove : ByteArray := prog_4_method_8_code
def yX2_rowsAbove : MethodName := ⟨RX2, "rowsAbove", "(I)I"⟩
abbrev cX2_rowsWrong : ByteArray := prog_4_method_9_code
def yX2_rowsWrong : MethodName := ⟨RX2, "rowsWrong", "(I)I"⟩
abbrev cX2_sideAt : ByteArray := prog_4_method_10_code
def yX2_sideAt : MethodName := ⟨RX2, "sideAt", "(II)I"⟩
abbrev cX2_sideAlong : ByteArray := prog_4_method_11_code
def yX2_sideAlong : MethodName := ⟨RX2, "sideAlong", "(III)I"⟩
abbrev cX2_runWith : ByteArray := prog_4_method_12_code
def yX2_runWith : MethodName := ⟨RX2, "runWith", "(III)I"⟩
abbrev cX2_longestFloat : ByteArray := prog_4_method_13_code
def yX2_longestFloat : MethodName := ⟨RX2, "longestFloat", "(III)I"⟩
abbrev cX2_floatsIn : ByteArray := prog_4_method_14_code
def yX2_floatsIn : MethodName := ⟨RX2, "floatsIn", "(IIII)I"⟩
abbrev cX2_areAlike : ByteArray := prog_4_method_15_code
def yX2_areAlike : MethodName := ⟨RX2, "areAlike", "(II)Z"⟩
abbrev cX2_repeatsAfter : ByteArray := prog_4_method_16_code
def yX2_repeatsAfter : MethodName := ⟨RX2, "repeatsAfter", "(I)Z"⟩
abbrev cX2_hasAlikeBefore : ByteArray := prog_4_method_17_code
def yX2_hasAlikeBefore : MethodName := ⟨RX2, "hasAlikeBefore", "(I)Z"⟩
def RX3 : String := "DobbyLoom$History"
def TX3 : u_T := fun k => match k with
  | 0 => ("DobbyLoom$History", "ring", "[LDobbyLoom$State;", true)
  | 1 => ("DobbyLoom$History", "next", "I", false)
  | _ => ("DobbyLoom$History", "kept", "I", false)
def tyX3 : Nat → FieldType := fun k => match k with
  | 0 => .array (.object "DobbyLoom$State")
  | 1 => .int
  | _ => .int
abbrev wsX30 : List Cond := u_ws RX3 TX3 3
theorem nmX3 : ∀ a, a < 3 → ∀ b, b < 3 → a ≠ b → (TX3 a).2.1 ≠ (TX3 b).2.1 := by decide +kernel
theorem tyX3_ok : ∀ k, k < 3 → parseFieldDescriptor (TX3 k).2.2.1 = some (tyX3 k) := by decide +kernel
abbrev cX3_init : ByteArray := prog_5_method_1_code
def yX3_init : MethodName := ⟨RX3, "<init>", "()V"⟩
abbrev cX3_keep : ByteArray := prog_5_method_2_code
def yX3_keep : MethodName := ⟨RX3, "keep", "(LDobbyLoom$State;)V"⟩
abbrev cX3_restoreInto : ByteArray := prog_5_method_3_code
def yX3_restoreInto : MethodName := ⟨RX3, "restoreInto", "(LDobbyLoom$State;)V"⟩
abbrev cX3_stateAt : ByteArray := prog_5_method_4_code
def yX3_stateAt : MethodName := ⟨RX3, "stateAt", "(I)LDobbyLoom$State;"⟩
def RX4 : String := "DobbyLoom$Numbers"
def TX4 : u_T := fun k => match k with
  | _ => ("DobbyLoom$Numbers", "values", "[I", true)
def tyX4 : Nat → FieldType := fun k => match k with
  | _ => .array .int
abbrev wsX40 : List Cond := u_ws RX4 TX4 1
theorem nmX4 : ∀ a, a < 1 → ∀ b, b < 1 → a ≠ b → (TX4 a).2.1 ≠ (TX4 b).2.1 := by decide +kernel
theorem tyX4_ok : ∀ k, k < 1 → parseFieldDescriptor (TX4 k).2.2.1 = some (tyX4 k) := by decide +kernel
abbrev cX4_init : ByteArray := prog_6_method_1_code
def yX4_init : MethodName := ⟨RX4, "<init>", "(I)V"⟩
abbrev cX4_at : ByteArray := prog_6_method_2_code
def yX4_at : MethodName := ⟨RX4, "at", "(I)I"⟩
abbrev cX4_put : ByteArray := prog_6_method_3_code
def yX4_put : MethodName := ⟨RX4, "put", "(II)V"⟩
abbrev cX4_putAll : ByteArray := prog_6_method_4_code
def yX4_putAll : MethodName := ⟨RX4, "putAll", "(I)V"⟩
abbrev cX4_copyFrom : ByteArray := prog_6_method_5_code
def yX4_copyFrom : MethodName := ⟨RX4, "copyFrom", "(LDobbyLoom$Numbers;)V"⟩
def RX5 : String := "DobbyLoom$State"
def TX5 : u_T := fun k => match k with
  | 0 => ("DobbyLoom$State", "warp", "LDobbyLoom$Warp;", true)
  | 1 => ("DobbyLoom$State", "chain", "LDobbyLoom$Chain;", true)
  | 2 => ("DobbyLoom$State", "bobbins", "LDobbyLoom$Numbers;", true)
  | _ => ("DobbyLoom$State", "cloth", "LDobbyLoom$Cloth;", true)
def tyX5 : Nat → FieldType := fun k => match k with
  | 0 => .object "DobbyLoom$Warp"
  | 1 => .object "DobbyLoom$Chain"
  | 2 => .object "DobbyLoom$Numbers"
  | _ => .object "DobbyLoom$Cloth"
abbrev wsX50 : List Cond := u_ws RX5 TX5 4
theorem nmX5 : ∀ a, a < 4 → ∀ b, b < 4 → a ≠ b → (TX5 a).2.1 ≠ (TX5 b).2.1 := by decide +kernel
theorem tyX5_ok : ∀ k, k < 4 → parseFieldDescriptor (TX5 k).2.2.1 = some (tyX5 k) := by decide +kernel
abbrev cX5_init : ByteArray := prog_7_method_1_code
def yX5_init : MethodName := ⟨RX5, "<init>", "()V"⟩
abbrev cX5_reset : ByteArray := prog_7_method_2_code
def yX5_reset : MethodName := ⟨RX5, "reset", "(II)V"⟩
abbrev cX5_copyFrom : ByteArray := prog_7_method_3_code
def yX5_copyFrom : MethodName := ⟨RX5, "copyFrom", "(LDobbyLoom$State;)V"⟩
abbrev cX5_makePick : ByteArray := prog_7_method_4_code
def yX5_makePick : MethodName := ⟨RX5, "makePick", "()V"⟩
abbrev cX5_layWeft : ByteArray := prog_7_method_5_code
def yX5_layWeft : MethodName := ⟨RX5, "layWeft", "(III)V"⟩
abbrev cX5_takeOutLastRow : ByteArray := prog_7_method_6_code
def yX5_takeOutLastRow : MethodName := ⟨RX5, "takeOutLastRow", "()V"⟩
def RX6 : String := "DobbyLoom$Warp"
def TX6 : u_T := fun k => match k with
  | 0 => ("DobbyLoom$Warp", "shafts", "I", false)
  | 1 => ("DobbyLoom$Warp", "ends", "I", false)
  | 2 => ("DobbyLoom$Warp", "shaftOf", "LDobbyLoom$Numbers;", true)
  | 3 => ("DobbyLoom$Warp", "colorOf", "LDobbyLoom$Numbers;", true)
  | _ => ("DobbyLoom$Warp", "faultOf", "LDobbyLoom$Numbers;", true)
def tyX6 : Nat → FieldType := fun k => match k with
  | 0 => .int
  | 1 => .int
  | 2 => .object "DobbyLoom$Numbers"
  | 3 => .object "DobbyLoom$Numbers"
  | _ => .object "DobbyLoom$Numbers"
abbrev wsX60 : List Cond := u_ws RX6 TX6 5
theorem nmX6 : ∀ a, a < 5 → ∀ b, b < 5 → a ≠ b → (TX6 a).2.1 ≠ (TX6 b).2.1 := by decide +kernel
theorem tyX6_ok : ∀ k, k < 5 → parseFieldDescriptor (TX6 k).2.2.1 = some (tyX6 k) := by decide +kernel
abbrev cX6_init : ByteArray := prog_8_method_1_code
def yX6_init : MethodName := ⟨RX6, "<init>", "()V"⟩
abbrev cX6_reset : ByteArray := prog_8_method_2_code
def yX6_reset : MethodName := ⟨RX6, "reset", "(II)V"⟩
abbrev cX6_copyFrom : ByteArray := prog_8_method_3_code
def yX6_copyFrom : MethodName := ⟨RX6, "copyFrom", "(LDobbyLoom$Warp;)V"⟩
abbrev cX6_hasEnd : ByteArray := prog_8_method_4_code
def yX6_hasEnd : MethodName := ⟨RX6, "hasEnd", "(I)Z"⟩
abbrev cX6_hasShaft : ByteArray := prog_8_method_5_code
def yX6_hasShaft : MethodName := ⟨RX6, "hasShaft", "(I)Z"⟩
abbrev cX6_isLift : ByteArray := prog_8_method_6_code
def yX6_isLift : MethodName := ⟨RX6, "isLift", "(I)Z"⟩
abbrev cX6_allEnds : ByteArray := prog_8_method_7_code
def yX6_allEnds : MethodName := ⟨RX6, "allEnds", "()I"⟩
abbrev cX6_liftedShafts : ByteArray := prog_8_method_8_code
def yX6_liftedShafts : MethodName := ⟨RX6, "liftedShafts", "(I)I"⟩
abbrev cX6_endsOn : ByteArray := prog_8_method_9_code
def yX6_endsOn : MethodName := ⟨RX6, "endsOn", "(I)I"⟩
abbrev cX6_yarnOfWholePick : ByteArray := prog_8_method_10_code
def yX6_yarnOfWholePick : MethodName := ⟨RX6, "yarnOfWholePick", "(I)I"⟩
def RX7 : String := "DobbyLoom"
def TX7 : u_T := fun k => match k with
  | 0 => ("DobbyLoom", "now", "LDobbyLoom$State;", true)
  | 1 => ("DobbyLoom", "history", "LDobbyLoom$History;", true)
  | 2 => ("DobbyLoom", "reader", "LDobbyLoom$ChainReader;", true)
  | 3 => ("DobbyLoom", "needs", "LDobbyLoom$Numbers;", true)
  | _ => ("DobbyLoom", "yarnLeft", "LDobbyLoom$Numbers;", true)
def tyX7 : Nat → FieldType := fun k => match k with
  | 0 => .object "DobbyLoom$State"
  | 1 => .object "DobbyLoom$History"
  | 2 => .object "DobbyLoom$ChainReader"
  | 3 => .object "DobbyLoom$Numbers"
  | _ => .object "DobbyLoom$Numbers"
abbrev wsX70 : List Cond := u_ws RX7 TX7 5
theorem nmX7 : ∀ a, a < 5 → ∀ b, b < 5 → a ≠ b → (TX7 a).2.1 ≠ (TX7 b).2.1 := by decide +kernel
theorem tyX7_ok : ∀ k, k < 5 → parseFieldDescriptor (TX7 k).2.2.1 = some (tyX7 k) := by decide +kernel
abbrev cX7_init : ByteArray := prog_1_method_1_code
def yX7_init : MethodName := ⟨RX7, "<init>", "()V"⟩
abbrev cX7_setLoom : ByteArray := prog_1_method_2_code
def yX7_setLoom : MethodName := ⟨RX7, "setLoom", "(II)I"⟩
abbrev cX7_setEnd : ByteArray := prog_1_method_3_code
def yX7_setEnd : MethodName := ⟨RX7, "setEnd", "(III)I"⟩
abbrev cX7_setFault : ByteArray := prog_1_method_4_code
def yX7_setFault : MethodName := ⟨RX7, "setFault", "(II)I"⟩
abbrev cX7_addBar : ByteArray := prog_1_method_5_code
def yX7_addBar : MethodName := ⟨RX7, "addBar", "(II)I"⟩
abbrev cX7_setBar : ByteArray := prog_1_method_6_code
def yX7_setBar : MethodName := ⟨RX7, "setBar", "(III)I"⟩
abbrev cX7_setDirection : ByteArray := prog_1_method_7_code
def yX7_setDirection : MethodName := ⟨RX7, "setDirection", "(I)I"⟩
abbrev cX7_turnTo : ByteArray := prog_1_method_8_code
def yX7_turnTo : MethodName := ⟨RX7, "turnTo", "(I)I"⟩
abbrev cX7_wind : ByteArray := prog_1_method_9_code
def yX7_wind : MethodName := ⟨RX7, "wind", "(II)I"⟩
abbrev cX7_append : ByteArray := prog_1_method_10_code
def yX7_append : MethodName := ⟨RX7, "append", "(I)I"⟩
abbrev cX7_load : ByteArray := prog_1_method_12_code
def yX7_load : MethodName := ⟨RX7, "load", "()I"⟩
abbrev cX7_weave : ByteArray := prog_1_method_13_code
def yX7_weave : MethodName := ⟨RX7, "weave", "(I)I"⟩
abbrev cX7_takeOut : ByteArray := prog_1_method_14_code
def yX7_takeOut : MethodName := ⟨RX7, "takeOut", "(I)I"⟩
abbrev cX7_cutOff : ByteArray := prog_1_method_15_code
def yX7_cutOff : MethodName := ⟨RX7, "cutOff", "()I"⟩
abbrev cX7_undo : ByteArray := prog_1_method_16_code
def yX7_undo : MethodName := ⟨RX7, "undo", "()I"⟩
abbrev cX7_count : ByteArray := prog_1_method_17_code
def yX7_count : MethodName := ⟨RX7, "count", "(I)I"⟩
abbrev cX7_end : ByteArray := prog_1_method_18_code
def yX7_end : MethodName := ⟨RX7, "end", "(II)I"⟩
abbrev cX7_bar : ByteArray := prog_1_method_19_code
def yX7_bar : MethodName := ⟨RX7, "bar", "(II)I"⟩
abbrev cX7_yarn : ByteArray := prog_1_method_20_code
def yX7_yarn : MethodName := ⟨RX7, "yarn", "(I)I"⟩
abbrev cX7_row : ByteArray := prog_1_method_21_code
def yX7_row : MethodName := ⟨RX7, "row", "(II)I"⟩
abbrev cX7_cell : ByteArray := prog_1_method_22_code
def yX7_cell : MethodName := ⟨RX7, "cell", "(III)I"⟩
abbrev cX7_floats : ByteArray := prog_1_method_23_code
def yX7_floats : MethodName := ⟨RX7, "floats", "(II)I"⟩
abbrev cX7_repeat : ByteArray := prog_1_method_24_code
def yX7_repeat : MethodName := ⟨RX7, "repeat", "()I"⟩
abbrev cX7_differentRows : ByteArray := prog_1_method_25_code
def yX7_differentRows : MethodName := ⟨RX7, "differentRows", "()I"⟩
abbrev cX7_seenColor : ByteArray := prog_1_method_29_code
def yX7_seenColor : MethodName := ⟨RX7, "seenColor", "(III)I"⟩
abbrev cX7_isBetween : ByteArray := prog_1_method_30_code
def yX7_isBetween : MethodName := ⟨RX7, "isBetween", "(III)Z"⟩
abbrev cX7_isColor : ByteArray := prog_1_method_31_code
def yX7_isColor : MethodName := ⟨RX7, "isColor", "(I)Z"⟩
abbrev cX7_bitOf : ByteArray := prog_1_method_32_code
def yX7_bitOf : MethodName := ⟨RX7, "bitOf", "(II)I"⟩
def RX8 : String := "DobbyLoomModel"
def TX8 : u_T := fun k => match k with
  | _ => ("", "", "", false)
def tyX8 : Nat → FieldType := fun k => match k with
  | _ => .int
abbrev wsX80 : List Cond := u_ws RX8 TX8 0
theorem nmX8 : ∀ a, a < 0 → ∀ b, b < 0 → a ≠ b → (TX8 a).2.1 ≠ (TX8 b).2.1 := by decide +kernel
theorem tyX8_ok : ∀ k, k < 0 → parseFieldDescriptor (TX8 k).2.2.1 = some (tyX8 k) := by decide +kernel
def RJ6 : String := "java/lang/Integer"
def TJ6 : u_T := fun k => match k with
  | _ => ("", "", "", false)
def tyJ6 : Nat → FieldType := fun k => match k with
  | _ => .int
abbrev wsJ60 : List Cond := u_ws RJ6 TJ6 0
theorem nmJ6 : ∀ a, a < 0 → ∀ b, b < 0 → a ≠ b → (TJ6 a).2.1 ≠ (TJ6 b).2.1 := by decide +kernel
theorem tyJ6_ok : ∀ k, k < 0 → parseFieldDescriptor (TJ6 k).2.2.1 = some (tyJ6 k) := by decide +kernel
abbrev cJ6_bitCount_0f7a4 : ByteArray := prog_11_method_49_code
def yJ6_bitCount_0f7a4 : MethodName := ⟨RJ6, "bitCount", "(I)I"⟩
def RJ9 : String := "java/lang/Math"
def TJ9 : u_T := fun k => match k with
  | _ => ("", "", "", false)
def tyJ9 : Nat → FieldType := fun k => match k with
  | _ => .int
abbrev wsJ90 : List Cond := u_ws RJ9 TJ9 0
theorem nmJ9 : ∀ a, a < 0 → ∀ b, b < 0 → a ≠ b → (TJ9 a).2.1 ≠ (TJ9 b).2.1 := by decide +kernel
theorem tyJ9_ok : ∀ k, k < 0 → parseFieldDescriptor (TJ9 k).2.2.1 = some (tyJ9 k) := by decide +kernel
abbrev cJ9_max_7cf53 : ByteArray := prog_12_method_65_code
def yJ9_max_7cf53 : MethodName := ⟨RJ9, "max", "(II)I"⟩
abbrev cJ9_min_7cf53 : ByteArray := prog_12_method_69_code
def yJ9_min_7cf53 : MethodName := ⟨RJ9, "min", "(II)I"⟩
def RJ10 : String := "java/lang/System"
def TJ10 : u_T := fun k => match k with
  | _ => ("", "", "", false)
def tyJ10 : Nat → FieldType := fun k => match k with
  | _ => .int
abbrev wsJ100 : List Cond := u_ws RJ10 TJ10 0
theorem nmJ10 : ∀ a, a < 0 → ∀ b, b < 0 → a ≠ b → (TJ10 a).2.1 ≠ (TJ10 b).2.1 := by decide +kernel
theorem tyJ10_ok : ∀ k, k < 0 → parseFieldDescriptor (TJ10 k).2.2.1 = some (tyJ10 k) := by decide +kernel
def RL : String := "DobbyLoomLaw"
abbrev cL_cell : ByteArray := method_2_code
def yL_cell : MethodName := ⟨RL, "cell", "([II)I"⟩
abbrev cL_low : ByteArray := method_3_code
def yL_low : MethodName := ⟨RL, "low", "(II)I"⟩
abbrev cL_digest : ByteArray := method_4_code
def yL_digest : MethodName := ⟨RL, "digest", "(LDobbyLoom;)J"⟩
abbrev cL_act : ByteArray := method_5_code
def yL_act : MethodName := ⟨RL, "act", "(LDobbyLoom;I)I"⟩
abbrev cL_isRight : ByteArray := method_6_code
def yL_isRight : MethodName := ⟨RL, "isRight", "(LDobbyLoom;)Z"⟩
abbrev cL_yarn : ByteArray := method_7_code
def yL_yarn : MethodName := ⟨RL, "yarn", "(LDobbyLoom;)I"⟩
abbrev cL_law : ByteArray := code
def yL_law : MethodName := ⟨RL, "law", "([I)Z"⟩
def wsJ6_bitCount_0f7a4 : List Cond := .code yJ6_bitCount_0f7a4 cJ6_bitCount_0f7a4 1 (some .int) :: ([.constant RJ6 265 (1431655765), .constant RJ6 266 (858993459), .constant RJ6 267 (252645135)])
def wsJ9_max_7cf53 : List Cond := .code yJ9_max_7cf53 cJ9_max_7cf53 2 (some .int) :: ([])
def wsJ9_min_7cf53 : List Cond := .code yJ9_min_7cf53 cJ9_min_7cf53 2 (some .int) :: ([])
def wsL_law_r1 : List Cond := [Cond.classLink RL 13 RX7, Cond.instantiable RX7 5, Cond.initialized RX7, Cond.methodLink RL 84 yX7_init, Cond.instanceMethod yX7_init, Cond.code yX7_init cX7_init 1 none, Cond.methodLink RX7 1 objectInit, Cond.instanceMethod objectInit, Cond.code objectInit ⟨#[0xb1]⟩ 1 none, Cond.classLink RX7 7 RX5, Cond.instantiable RX5 4, Cond.initialized RX5, Cond.fieldLink RX7 10 "DobbyLoom" "now" "LDobbyLoom$State;", Cond.classLink RX7 16 RX3, Cond.instantiable RX3 3, Cond.initialized RX3, Cond.fieldLink RX7 19 "DobbyLoom" "history" "LDobbyLoom$History;", Cond.classLink RX7 23 RX1, Cond.instantiable RX1 7, Cond.initialized RX1, Cond.fieldLink RX7 26 "DobbyLoom" "reader" "LDobbyLoom$ChainReader;", Cond.classLink RX7 30 RX4, Cond.instantiable RX4 1, Cond.initialized RX4]
def wsL_law_r2 : List Cond := [Cond.fieldLink RX7 35 "DobbyLoom" "needs" "LDobbyLoom$Numbers;", Cond.fieldLink RX7 39 "DobbyLoom" "yarnLeft" "LDobbyLoom$Numbers;", Cond.methodLink RX7 9 yX5_init, Cond.instanceMethod yX5_init, Cond.code yX5_init cX5_init 1 none, Cond.methodLink RX5 3 objectInit, Cond.classLink RX5 9 RX6, Cond.instantiable RX6 5, Cond.initialized RX6, Cond.fieldLink RX5 12 "DobbyLoom$State" "warp" "LDobbyLoom$Warp;", Cond.classLink RX5 18 RX0, Cond.instantiable RX0 5, Cond.initialized RX0, Cond.fieldLink RX5 21 "DobbyLoom$State" "chain" "LDobbyLoom$Chain;", Cond.classLink RX5 25 RX4, Cond.fieldLink RX5 30 "DobbyLoom$State" "bobbins" "LDobbyLoom$Numbers;", Cond.classLink RX5 34 RX2, Cond.instantiable RX2 7, Cond.initialized RX2, Cond.fieldLink RX5 37 "DobbyLoom$State" "cloth" "LDobbyLoom$Cloth;", Cond.instanceMethod yX6_init, Cond.code yX6_init cX6_init 1 none, Cond.methodLink RX6 3 objectInit, Cond.classLink RX6 9 RX4]
def wsL_law_r3 : List Cond := [Cond.fieldLink RX6 14 "DobbyLoom$Warp" "shaftOf" "LDobbyLoom$Numbers;", Cond.fieldLink RX6 20 "DobbyLoom$Warp" "colorOf" "LDobbyLoom$Numbers;", Cond.fieldLink RX6 23 "DobbyLoom$Warp" "faultOf" "LDobbyLoom$Numbers;", Cond.methodLink RX6 11 yX4_init, Cond.instanceMethod yX4_init, Cond.code yX4_init cX4_init 2 none, Cond.methodLink RX4 1 objectInit, Cond.methodLink RX4 7 Lib.Math.max.name, Cond.static Lib.Math.max.name, Cond.initialized "java/lang/Math", Cond.code Lib.Math.max.name Lib.Math.max.code 2 (some .int), Cond.arrayClass .int, Cond.fieldLink RX4 13 "DobbyLoom$Numbers" "values" "[I", Cond.instanceMethod yX0_init, Cond.code yX0_init cX0_init 1 none, Cond.methodLink RX0 3 objectInit, Cond.classLink RX0 9 RX4, Cond.fieldLink RX0 14 "DobbyLoom$Chain" "liftOf" "LDobbyLoom$Numbers;", Cond.fieldLink RX0 20 "DobbyLoom$Chain" "colorOf" "LDobbyLoom$Numbers;", Cond.methodLink RX0 11 yX4_init, Cond.methodLink RX5 27 yX4_init, Cond.instanceMethod yX2_init, Cond.code yX2_init cX2_init 1 none, Cond.methodLink RX2 3 objectInit]
def wsL_law_r4 : List Cond := [Cond.classLink RX2 9 RX4, Cond.fieldLink RX2 14 "DobbyLoom$Cloth" "colorOf" "LDobbyLoom$Numbers;", Cond.fieldLink RX2 20 "DobbyLoom$Cloth" "barOf" "LDobbyLoom$Numbers;", Cond.fieldLink RX2 23 "DobbyLoom$Cloth" "usedOf" "LDobbyLoom$Numbers;", Cond.fieldLink RX2 26 "DobbyLoom$Cloth" "aboveOf" "LDobbyLoom$Numbers;", Cond.fieldLink RX2 29 "DobbyLoom$Cloth" "missingOf" "LDobbyLoom$Numbers;", Cond.fieldLink RX2 32 "DobbyLoom$Cloth" "planOf" "LDobbyLoom$Numbers;", Cond.methodLink RX2 11 yX4_init, Cond.methodLink RX5 41 yX5_reset, Cond.instanceMethod yX5_reset, Cond.selects RX5 yX5_reset yX5_reset, Cond.code yX5_reset cX5_reset 3 none, Cond.fieldLink RX5 49 "DobbyLoom$Chain" "backward" "I", Cond.fieldLink RX5 56 "DobbyLoom$Cloth" "rows" "I", Cond.methodLink RX5 45 yX6_reset, Cond.instanceMethod yX6_reset, Cond.selects RX6 yX6_reset yX6_reset, Cond.code yX6_reset cX6_reset 5 none, Cond.fieldLink RX6 26 "DobbyLoom$Warp" "shafts" "I", Cond.fieldLink RX6 30 "DobbyLoom$Warp" "ends" "I", Cond.methodLink RX6 33 yX4_putAll, Cond.instanceMethod yX4_putAll, Cond.selects RX4 yX4_putAll yX4_putAll, Cond.code yX4_putAll cX4_putAll 3 none]
def wsL_law_r5 : List Cond := [Cond.methodLink RX6 36 yX4_put, Cond.instanceMethod yX4_put, Cond.selects RX4 yX4_put yX4_put, Cond.code yX4_put cX4_put 3 none, Cond.methodLink RX5 46 yX0_removeBars, Cond.instanceMethod yX0_removeBars, Cond.selects RX0 yX0_removeBars yX0_removeBars, Cond.code yX0_removeBars cX0_removeBars 1 none, Cond.fieldLink RX0 23 "DobbyLoom$Chain" "bars" "I", Cond.fieldLink RX0 27 "DobbyLoom$Chain" "present" "I", Cond.methodLink RX5 53 yX4_putAll, Cond.methodLink RX7 18 yX3_init, Cond.instanceMethod yX3_init, Cond.code yX3_init cX3_init 2 none, Cond.methodLink RX3 3 objectInit, Cond.classLink RX3 9 RX5, Cond.fieldLink RX3 11 "DobbyLoom$History" "ring" "[LDobbyLoom$State;", Cond.methodLink RX3 17 yX5_init, Cond.instanceMethod yX1_init, Cond.code yX1_init cX1_init 1 none, Cond.methodLink RX1 3 objectInit, Cond.classLink RX1 9 RX4, Cond.fieldLink RX1 14 "DobbyLoom$ChainReader" "text" "LDobbyLoom$Numbers;", Cond.classLink RX1 20 RX0]
def wsL_law_r6 : List Cond := [Cond.fieldLink RX1 23 "DobbyLoom$ChainReader" "chain" "LDobbyLoom$Chain;", Cond.methodLink RX1 11 yX4_init, Cond.methodLink RX7 32 yX4_init, Cond.methodLink RL 85 yL_cell, Cond.static yL_cell, Cond.initialized RL, Cond.code yL_cell cL_cell 2 (some .int), Cond.methodLink RL 35 yL_low, Cond.static yL_low, Cond.code yL_low cL_low 2 (some .int), Cond.constant RL 7 (2147483647), Cond.methodLink RL 47 yX7_addBar, Cond.instanceMethod yX7_addBar, Cond.selects RX7 yX7_addBar yX7_addBar, Cond.code yX7_addBar cX7_addBar 3 (some .int), Cond.fieldLink RX7 64 "DobbyLoom$State" "warp" "LDobbyLoom$Warp;", Cond.fieldLink RX7 99 "DobbyLoom$State" "chain" "LDobbyLoom$Chain;", Cond.fieldLink RX7 112 "DobbyLoom$Chain" "bars" "I", Cond.methodLink RX7 96 yX6_isLift, Cond.instanceMethod yX6_isLift, Cond.selects RX6 yX6_isLift yX6_isLift, Cond.code yX6_isLift cX6_isLift 2 (some .boolean), Cond.static yX7_isBetween, Cond.code yX7_isBetween cX7_isBetween 3 (some .boolean)]
def wsL_law_r7 : List Cond := [Cond.methodLink RX7 77 yX7_isColor, Cond.static yX7_isColor, Cond.code yX7_isColor cX7_isColor 1 (some .boolean), Cond.methodLink RX7 42 yX7_isBetween, Cond.methodLink RX7 103 yX0_isFull, Cond.instanceMethod yX0_isFull, Cond.selects RX0 yX0_isFull yX0_isFull, Cond.code yX0_isFull cX0_isFull 1 (some .boolean), Cond.methodLink RX7 46 yX3_keep, Cond.instanceMethod yX3_keep, Cond.selects RX3 yX3_keep yX3_keep, Cond.code yX3_keep cX3_keep 3 none, Cond.fieldLink RX3 18 "DobbyLoom$History" "next" "I", Cond.fieldLink RX3 30 "DobbyLoom$History" "kept" "I", Cond.methodLink RX3 33 Lib.Math.min.name, Cond.static Lib.Math.min.name, Cond.code Lib.Math.min.name Lib.Math.min.code 2 (some .int), Cond.methodLink RX3 22 yX3_stateAt, Cond.instanceMethod yX3_stateAt, Cond.selects RX3 yX3_stateAt yX3_stateAt, Cond.code yX3_stateAt cX3_stateAt 2 (some (.object "DobbyLoom$State")), Cond.methodLink RX3 26 yX5_copyFrom, Cond.instanceMethod yX5_copyFrom, Cond.selects RX5 yX5_copyFrom yX5_copyFrom]
def wsL_law_r8 : List Cond := [Cond.code yX5_copyFrom cX5_copyFrom 2 none, Cond.methodLink RX5 59 yX6_copyFrom, Cond.instanceMethod yX6_copyFrom, Cond.selects RX6 yX6_copyFrom yX6_copyFrom, Cond.code yX6_copyFrom cX6_copyFrom 2 none, Cond.methodLink RX6 40 yX4_copyFrom, Cond.instanceMethod yX4_copyFrom, Cond.selects RX4 yX4_copyFrom yX4_copyFrom, Cond.code yX4_copyFrom cX4_copyFrom 2 none, Cond.methodLink RX4 19 Lib.Math.min.name, Cond.methodLink RX4 22 arraycopyName, Cond.native arraycopyName, Cond.static arraycopyName, Cond.initialized "java/lang/System", Cond.methodLink RX5 63 yX0_copyFrom, Cond.instanceMethod yX0_copyFrom, Cond.selects RX0 yX0_copyFrom yX0_copyFrom, Cond.code yX0_copyFrom cX0_copyFrom 2 none, Cond.fieldLink RX0 38 "DobbyLoom$Chain" "backward" "I", Cond.methodLink RX0 34 yX0_takeBarsOf, Cond.instanceMethod yX0_takeBarsOf, Cond.selects RX0 yX0_takeBarsOf yX0_takeBarsOf, Cond.code yX0_takeBarsOf cX0_takeBarsOf 2 none, Cond.methodLink RX0 30 yX4_copyFrom]
def wsL_law_r9 : List Cond := [Cond.methodLink RX5 66 yX4_copyFrom, Cond.methodLink RX5 69 yX2_copyFrom, Cond.instanceMethod yX2_copyFrom, Cond.selects RX2 yX2_copyFrom yX2_copyFrom, Cond.code yX2_copyFrom cX2_copyFrom 2 none, Cond.fieldLink RX2 35 "DobbyLoom$Cloth" "rows" "I", Cond.methodLink RX2 39 yX4_copyFrom, Cond.methodLink RX7 109 yX0_addLast, Cond.instanceMethod yX0_addLast, Cond.selects RX0 yX0_addLast yX0_addLast, Cond.code yX0_addLast cX0_addLast 3 none, Cond.methodLink RX0 45 yX0_isFull, Cond.methodLink RX0 49 yX4_put, Cond.methodLink RL 59 yX7_wind, Cond.instanceMethod yX7_wind, Cond.selects RX7 yX7_wind yX7_wind, Cond.code yX7_wind cX7_wind 4 (some .int), Cond.fieldLink RX7 128 "DobbyLoom$State" "bobbins" "LDobbyLoom$Numbers;", Cond.methodLink RX7 83 yX4_at, Cond.instanceMethod yX4_at, Cond.selects RX4 yX4_at yX4_at, Cond.code yX4_at cX4_at 2 (some .int), Cond.methodLink RX7 90 yX4_put, Cond.methodLink RL 88 yL_digest]
def wsL_law_r10 : List Cond := [Cond.static yL_digest, Cond.code yL_digest cL_digest 5 (some .long), Cond.constantLong RL 8 (7), Cond.constantLong RL 10 (31), Cond.methodLink RL 12 yX7_count, Cond.instanceMethod yX7_count, Cond.selects RX7 yX7_count yX7_count, Cond.code yX7_count cX7_count 2 (some .int), Cond.fieldLink RX7 137 "DobbyLoom$Warp" "shafts" "I", Cond.fieldLink RX7 167 "DobbyLoom$Warp" "ends" "I", Cond.fieldLink RX7 125 "DobbyLoom$Chain" "present" "I", Cond.fieldLink RX7 122 "DobbyLoom$Chain" "backward" "I", Cond.fieldLink RX7 50 "DobbyLoom$State" "cloth" "LDobbyLoom$Cloth;", Cond.fieldLink RX7 54 "DobbyLoom$Cloth" "rows" "I", Cond.fieldLink RX7 161 "DobbyLoom$History" "kept" "I", Cond.fieldLink RX7 134 "DobbyLoom$ChainReader" "length" "I", Cond.methodLink RX7 151 yX2_isStanding, Cond.instanceMethod yX2_isStanding, Cond.selects RX2 yX2_isStanding yX2_isStanding, Cond.code yX2_isStanding cX2_isStanding 1 (some .boolean), Cond.methodLink RX2 47 yX4_at, Cond.methodLink RX7 170 yX2_wrongPlaces, Cond.instanceMethod yX2_wrongPlaces, Cond.selects RX2 yX2_wrongPlaces yX2_wrongPlaces]
def wsL_law_r11 : List Cond := [Cond.code yX2_wrongPlaces cX2_wrongPlaces 3 (some .int), Cond.methodLink RX2 51 yX2_wrongEnds, Cond.instanceMethod yX2_wrongEnds, Cond.selects RX2 yX2_wrongEnds yX2_wrongEnds, Cond.code yX2_wrongEnds cX2_wrongEnds 2 (some .int), Cond.methodLink RX2 54 yJ6_bitCount_0f7a4, Cond.static yJ6_bitCount_0f7a4, Cond.initialized RJ6, Cond.code yJ6_bitCount_0f7a4 cJ6_bitCount_0f7a4 1 (some .int), Cond.constant RJ6 265 (1431655765), Cond.constant RJ6 266 (858993459), Cond.constant RJ6 267 (252645135), Cond.methodLink RL 18 yX7_end, Cond.instanceMethod yX7_end, Cond.selects RX7 yX7_end yX7_end, Cond.code yX7_end cX7_end 3 (some .int), Cond.fieldLink RX7 80 "DobbyLoom$Warp" "shaftOf" "LDobbyLoom$Numbers;", Cond.fieldLink RX7 87 "DobbyLoom$Warp" "colorOf" "LDobbyLoom$Numbers;", Cond.methodLink RX7 68 yX6_hasEnd, Cond.instanceMethod yX6_hasEnd, Cond.selects RX6 yX6_hasEnd yX6_hasEnd, Cond.code yX6_hasEnd cX6_hasEnd 2 (some .boolean), Cond.methodLink RX7 174 yX2_rowsAbove, Cond.instanceMethod yX2_rowsAbove]
def wsL_law_r12 : List Cond := [Cond.selects RX2 yX2_rowsAbove yX2_rowsAbove, Cond.code yX2_rowsAbove cX2_rowsAbove 4 (some .int), Cond.static yX7_bitOf, Cond.code yX7_bitOf cX7_bitOf 2 (some .int), Cond.methodLink RX7 177 yX2_rowsWrong, Cond.instanceMethod yX2_rowsWrong, Cond.selects RX2 yX2_rowsWrong yX2_rowsWrong, Cond.code yX2_rowsWrong cX2_rowsWrong 4 (some .int), Cond.methodLink RX7 180 yX2_longestFloat, Cond.instanceMethod yX2_longestFloat, Cond.selects RX2 yX2_longestFloat yX2_longestFloat, Cond.code yX2_longestFloat cX2_longestFloat 9 (some .int), Cond.methodLink RX2 73 Lib.Math.max.name, Cond.methodLink RX2 66 yX2_sideAlong, Cond.instanceMethod yX2_sideAlong, Cond.selects RX2 yX2_sideAlong yX2_sideAlong, Cond.code yX2_sideAlong cX2_sideAlong 4 (some .int), Cond.methodLink RX2 63 yX2_sideAt, Cond.instanceMethod yX2_sideAt, Cond.selects RX2 yX2_sideAt yX2_sideAt, Cond.code yX2_sideAt cX2_sideAt 3 (some .int), Cond.methodLink RX2 70 yX2_runWith, Cond.instanceMethod yX2_runWith, Cond.selects RX2 yX2_runWith yX2_runWith]
def wsL_law_r13 : List Cond := [Cond.code yX2_runWith cX2_runWith 4 (some .int), Cond.methodLink RL 22 yX7_bar, Cond.instanceMethod yX7_bar, Cond.selects RX7 yX7_bar yX7_bar, Cond.code yX7_bar cX7_bar 4 (some .int), Cond.fieldLink RX7 118 "DobbyLoom$Chain" "liftOf" "LDobbyLoom$Numbers;", Cond.fieldLink RX7 121 "DobbyLoom$Chain" "colorOf" "LDobbyLoom$Numbers;", Cond.methodLink RX7 115 yX0_hasBar, Cond.instanceMethod yX0_hasBar, Cond.selects RX0 yX0_hasBar yX0_hasBar, Cond.code yX0_hasBar cX0_hasBar 2 (some .boolean), Cond.methodLink RX7 184 yX6_liftedShafts, Cond.instanceMethod yX6_liftedShafts, Cond.selects RX6 yX6_liftedShafts yX6_liftedShafts, Cond.code yX6_liftedShafts cX6_liftedShafts 5 (some .int), Cond.methodLink RX6 48 yX4_at, Cond.methodLink RX7 187 yX6_yarnOfWholePick, Cond.instanceMethod yX6_yarnOfWholePick, Cond.selects RX6 yX6_yarnOfWholePick yX6_yarnOfWholePick, Cond.code yX6_yarnOfWholePick cX6_yarnOfWholePick 4 (some .int), Cond.methodLink RX6 56 yX6_liftedShafts, Cond.methodLink RX6 59 yX6_endsOn, Cond.instanceMethod yX6_endsOn, Cond.selects RX6 yX6_endsOn yX6_endsOn]
def wsL_law_r14 : List Cond := [Cond.code yX6_endsOn cX6_endsOn 4 (some .int), Cond.methodLink RX6 62 yX6_allEnds, Cond.instanceMethod yX6_allEnds, Cond.selects RX6 yX6_allEnds yX6_allEnds, Cond.code yX6_allEnds cX6_allEnds 1 (some .int), Cond.methodLink RX6 66 yJ6_bitCount_0f7a4, Cond.methodLink RL 25 yX7_yarn, Cond.instanceMethod yX7_yarn, Cond.selects RX7 yX7_yarn yX7_yarn, Cond.code yX7_yarn cX7_yarn 2 (some .int), Cond.methodLink RL 28 yX7_row, Cond.instanceMethod yX7_row, Cond.selects RX7 yX7_row yX7_row, Cond.code yX7_row cX7_row 4 (some .int), Cond.fieldLink RX7 193 "DobbyLoom$Cloth" "colorOf" "LDobbyLoom$Numbers;", Cond.fieldLink RX7 194 "DobbyLoom$Cloth" "barOf" "LDobbyLoom$Numbers;", Cond.fieldLink RX7 197 "DobbyLoom$Cloth" "usedOf" "LDobbyLoom$Numbers;", Cond.fieldLink RX7 200 "DobbyLoom$Cloth" "aboveOf" "LDobbyLoom$Numbers;", Cond.fieldLink RX7 208 "DobbyLoom$Cloth" "missingOf" "LDobbyLoom$Numbers;", Cond.methodLink RX7 190 yX2_hasRow, Cond.instanceMethod yX2_hasRow, Cond.selects RX2 yX2_hasRow yX2_hasRow, Cond.code yX2_hasRow cX2_hasRow 2 (some .boolean), Cond.methodLink RX7 203 yJ6_bitCount_0f7a4]
def wsL_law_r15 : List Cond := [Cond.methodLink RX7 211 yX2_wrongEnds, Cond.methodLink RL 31 yX7_repeat, Cond.instanceMethod yX7_repeat, Cond.selects RX7 yX7_repeat yX7_repeat, Cond.code yX7_repeat cX7_repeat 3 (some .int), Cond.methodLink RX7 231 yX2_repeatsAfter, Cond.instanceMethod yX2_repeatsAfter, Cond.selects RX2 yX2_repeatsAfter yX2_repeatsAfter, Cond.code yX2_repeatsAfter cX2_repeatsAfter 3 (some .boolean), Cond.methodLink RX2 78 yX2_areAlike, Cond.instanceMethod yX2_areAlike, Cond.selects RX2 yX2_areAlike yX2_areAlike, Cond.code yX2_areAlike cX2_areAlike 3 (some .boolean), Cond.methodLink RL 92 yL_yarn, Cond.static yL_yarn, Cond.code yL_yarn cL_yarn 3 (some .int), Cond.methodLink RL 95 yL_act, Cond.static yL_act, Cond.code yL_act cL_act 3 (some .int), Cond.methodLink RL 40 yX7_setEnd, Cond.instanceMethod yX7_setEnd, Cond.selects RX7 yX7_setEnd yX7_setEnd, Cond.code yX7_setEnd cX7_setEnd 6 (some .int), Cond.methodLink RX7 74 yX6_hasShaft]
def wsL_law_r16 : List Cond := [Cond.instanceMethod yX6_hasShaft, Cond.selects RX6 yX6_hasShaft yX6_hasShaft, Cond.code yX6_hasShaft cX6_hasShaft 2 (some .boolean), Cond.methodLink RL 44 yX7_setFault, Cond.instanceMethod yX7_setFault, Cond.selects RX7 yX7_setFault yX7_setFault, Cond.code yX7_setFault cX7_setFault 4 (some .int), Cond.fieldLink RX7 93 "DobbyLoom$Warp" "faultOf" "LDobbyLoom$Numbers;", Cond.methodLink RL 50 yX7_setBar, Cond.instanceMethod yX7_setBar, Cond.selects RX7 yX7_setBar yX7_setBar, Cond.code yX7_setBar cX7_setBar 6 (some .int), Cond.methodLink RL 53 yX7_setDirection, Cond.instanceMethod yX7_setDirection, Cond.selects RX7 yX7_setDirection yX7_setDirection, Cond.code yX7_setDirection cX7_setDirection 3 (some .int), Cond.methodLink RL 56 yX7_turnTo, Cond.instanceMethod yX7_turnTo, Cond.selects RX7 yX7_turnTo yX7_turnTo, Cond.code yX7_turnTo cX7_turnTo 3 (some .int), Cond.methodLink RL 62 yX7_takeOut, Cond.instanceMethod yX7_takeOut, Cond.selects RX7 yX7_takeOut yX7_takeOut, Cond.code yX7_takeOut cX7_takeOut 3 (some .int)]
def wsL_law_r17 : List Cond := [Cond.methodLink RX7 158 yX5_takeOutLastRow, Cond.instanceMethod yX5_takeOutLastRow, Cond.selects RX5 yX5_takeOutLastRow yX5_takeOutLastRow, Cond.code yX5_takeOutLastRow cX5_takeOutLastRow 3 none, Cond.fieldLink RX5 85 "DobbyLoom$Cloth" "colorOf" "LDobbyLoom$Numbers;", Cond.fieldLink RX5 105 "DobbyLoom$Cloth" "usedOf" "LDobbyLoom$Numbers;", Cond.fieldLink RX5 75 "DobbyLoom$Chain" "present" "I", Cond.methodLink RX5 78 yX4_at, Cond.methodLink RX5 86 yX4_put, Cond.methodLink RX5 128 yX0_barBefore, Cond.instanceMethod yX0_barBefore, Cond.selects RX0 yX0_barBefore yX0_barBefore, Cond.code yX0_barBefore cX0_barBefore 2 (some .int), Cond.methodLink RX0 63 yX0_barAbove, Cond.instanceMethod yX0_barAbove, Cond.selects RX0 yX0_barAbove yX0_barAbove, Cond.code yX0_barAbove cX0_barAbove 2 (some .int), Cond.methodLink RX0 60 yX0_barBelow, Cond.instanceMethod yX0_barBelow, Cond.selects RX0 yX0_barBelow yX0_barBelow, Cond.code yX0_barBelow cX0_barBelow 2 (some .int), Cond.methodLink RL 65 yX7_cutOff, Cond.instanceMethod yX7_cutOff, Cond.selects RX7 yX7_cutOff yX7_cutOff]
def wsL_law_r18 : List Cond := [Cond.code yX7_cutOff cX7_cutOff 2 (some .int), Cond.methodLink RL 68 yX7_setLoom, Cond.instanceMethod yX7_setLoom, Cond.selects RX7 yX7_setLoom yX7_setLoom, Cond.code yX7_setLoom cX7_setLoom 4 (some .int), Cond.methodLink RX7 60 yX5_reset, Cond.methodLink RL 71 yX7_weave, Cond.instanceMethod yX7_weave, Cond.selects RX7 yX7_weave yX7_weave, Cond.code yX7_weave cX7_weave 3 (some .int), Cond.methodLink RX7 154 yX2_isFull, Cond.instanceMethod yX2_isFull, Cond.selects RX2 yX2_isFull yX2_isFull, Cond.code yX2_isFull cX2_isFull 1 (some .boolean), Cond.methodLink RX7 155 yX5_makePick, Cond.instanceMethod yX5_makePick, Cond.selects RX5 yX5_makePick yX5_makePick, Cond.code yX5_makePick cX5_makePick 4 none, Cond.fieldLink RX5 72 "DobbyLoom$Chain" "colorOf" "LDobbyLoom$Numbers;", Cond.fieldLink RX5 82 "DobbyLoom$Chain" "liftOf" "LDobbyLoom$Numbers;", Cond.fieldLink RX5 89 "DobbyLoom$Cloth" "barOf" "LDobbyLoom$Numbers;", Cond.fieldLink RX5 92 "DobbyLoom$Cloth" "planOf" "LDobbyLoom$Numbers;", Cond.methodLink RX5 95 yX6_endsOn, Cond.methodLink RX5 98 yX6_liftedShafts]
def wsL_law_r19 : List Cond := [Cond.methodLink RX5 101 yX5_layWeft, Cond.instanceMethod yX5_layWeft, Cond.selects RX5 yX5_layWeft yX5_layWeft, Cond.code yX5_layWeft cX5_layWeft 12 none, Cond.fieldLink RX5 111 "DobbyLoom$Warp" "ends" "I", Cond.fieldLink RX5 118 "DobbyLoom$Cloth" "aboveOf" "LDobbyLoom$Numbers;", Cond.fieldLink RX5 121 "DobbyLoom$Cloth" "missingOf" "LDobbyLoom$Numbers;", Cond.methodLink RX5 124 yX6_allEnds, Cond.methodLink RX5 108 yX0_barAfter, Cond.instanceMethod yX0_barAfter, Cond.selects RX0 yX0_barAfter yX0_barAfter, Cond.code yX0_barAfter cX0_barAfter 2 (some .int), Cond.methodLink RL 99 yL_isRight, Cond.static yL_isRight, Cond.code yL_isRight cL_isRight 8 (some .boolean), Cond.constant RL 77 (1000000), Cond.methodLink RL 74 yX7_cell, Cond.instanceMethod yX7_cell, Cond.selects RX7 yX7_cell yX7_cell, Cond.code yX7_cell cX7_cell 5 (some .int), Cond.fieldLink RX7 224 "DobbyLoom$Cloth" "planOf" "LDobbyLoom$Numbers;", Cond.methodLink RX7 214 yX2_sideAt, Cond.methodLink RX7 218 yX7_seenColor, Cond.instanceMethod yX7_seenColor]
def wsL_law_r20 : List Cond := [Cond.selects RX7 yX7_seenColor yX7_seenColor, Cond.code yX7_seenColor cX7_seenColor 4 (some .int), Cond.methodLink RX7 221 yX7_bitOf, Cond.methodLink RL 78 yX7_floats, Cond.instanceMethod yX7_floats, Cond.selects RX7 yX7_floats yX7_floats, Cond.code yX7_floats cX7_floats 7 (some .int), Cond.methodLink RX7 227 yX2_floatsIn, Cond.instanceMethod yX2_floatsIn, Cond.selects RX2 yX2_floatsIn yX2_floatsIn, Cond.code yX2_floatsIn cX2_floatsIn 10 (some .int), Cond.methodLink RL 81 yX7_differentRows, Cond.instanceMethod yX7_differentRows, Cond.selects RX7 yX7_differentRows yX7_differentRows, Cond.code yX7_differentRows cX7_differentRows 3 (some .int), Cond.methodLink RX7 234 yX2_hasAlikeBefore, Cond.instanceMethod yX2_hasAlikeBefore, Cond.selects RX2 yX2_hasAlikeBefore yX2_hasAlikeBefore, Cond.code yX2_hasAlikeBefore cX2_hasAlikeBefore 3 (some .boolean), Cond.methodLink RL 103 yX7_undo, Cond.instanceMethod yX7_undo, Cond.selects RX7 yX7_undo yX7_undo, Cond.code yX7_undo cX7_undo 1 (some .int), Cond.methodLink RX7 164 yX3_restoreInto]
def wsL_law_r21 : List Cond := [Cond.instanceMethod yX3_restoreInto, Cond.selects RX3 yX3_restoreInto yX3_restoreInto, Cond.code yX3_restoreInto cX3_restoreInto 4 none, Cond.methodLink RL 106 yX7_load, Cond.instanceMethod yX7_load, Cond.selects RX7 yX7_load yX7_load, Cond.code yX7_load cX7_load 1 (some .int), Cond.fieldLink RX7 143 "DobbyLoom$ChainReader" "position" "I", Cond.fieldLink RX7 146 "DobbyLoom$ChainReader" "chain" "LDobbyLoom$Chain;", Cond.methodLink RX7 140 yX1_readChain, Cond.instanceMethod yX1_readChain, Cond.selects RX1 yX1_readChain yX1_readChain, Cond.code yX1_readChain cX1_readChain 3 (some .boolean), Cond.fieldLink RX1 39 "DobbyLoom$ChainReader" "shafts" "I", Cond.fieldLink RX1 42 "DobbyLoom$ChainReader" "position" "I", Cond.fieldLink RX1 45 "DobbyLoom$ChainReader" "times" "I", Cond.methodLink RX1 48 yX0_removeBars, Cond.methodLink RX1 51 yX1_openBrackets, Cond.instanceMethod yX1_openBrackets, Cond.selects RX1 yX1_openBrackets yX1_openBrackets, Cond.code yX1_openBrackets cX1_openBrackets 2 (some .boolean), Cond.fieldLink RX1 71 "DobbyLoom$Chain" "bars" "I", Cond.fieldLink RX1 74 "DobbyLoom$ChainReader" "firstInBrackets" "I", Cond.methodLink RX1 68 yX1_isNumberAhead]
def wsL_law_r22 : List Cond := [Cond.instanceMethod yX1_isNumberAhead, Cond.selects RX1 yX1_isNumberAhead yX1_isNumberAhead, Cond.code yX1_isNumberAhead cX1_isNumberAhead 1 (some .boolean), Cond.methodLink RX1 64 yX1_peek, Cond.instanceMethod yX1_peek, Cond.selects RX1 yX1_peek yX1_peek, Cond.code yX1_peek cX1_peek 1 (some .int), Cond.methodLink RX1 94 yX1_placeBehindSpaces, Cond.instanceMethod yX1_placeBehindSpaces, Cond.selects RX1 yX1_placeBehindSpaces yX1_placeBehindSpaces, Cond.code yX1_placeBehindSpaces cX1_placeBehindSpaces 3 (some .int), Cond.fieldLink RX1 27 "DobbyLoom$ChainReader" "length" "I", Cond.methodLink RX1 105 yX4_at, Cond.methodLink RX1 98 yX1_characterAt, Cond.instanceMethod yX1_characterAt, Cond.selects RX1 yX1_characterAt yX1_characterAt, Cond.code yX1_characterAt cX1_characterAt 2 (some .int), Cond.methodLink RX1 88 yX1_isDigit, Cond.instanceMethod yX1_isDigit, Cond.selects RX1 yX1_isDigit yX1_isDigit, Cond.code yX1_isDigit cX1_isDigit 2 (some .boolean), Cond.methodLink RX1 60 yX1_take, Cond.instanceMethod yX1_take, Cond.selects RX1 yX1_take yX1_take]
def wsL_law_r23 : List Cond := [Cond.code yX1_take cX1_take 2 (some .boolean), Cond.methodLink RX1 54 yX1_readBar, Cond.instanceMethod yX1_readBar, Cond.selects RX1 yX1_readBar yX1_readBar, Cond.code yX1_readBar cX1_readBar 4 (some .boolean), Cond.methodLink RX1 81 yX0_isFull, Cond.methodLink RX1 82 yX1_isShaft, Cond.instanceMethod yX1_isShaft, Cond.selects RX1 yX1_isShaft yX1_isShaft, Cond.code yX1_isShaft cX1_isShaft 2 (some .boolean), Cond.methodLink RX1 85 yX1_readShafts, Cond.instanceMethod yX1_readShafts, Cond.selects RX1 yX1_readShafts yX1_readShafts, Cond.code yX1_readShafts cX1_readShafts 3 (some .int), Cond.methodLink RX1 91 yX0_addLast, Cond.methodLink RX1 57 yX1_closeBrackets, Cond.instanceMethod yX1_closeBrackets, Cond.selects RX1 yX1_closeBrackets yX1_closeBrackets, Cond.code yX1_closeBrackets cX1_closeBrackets 1 (some .boolean), Cond.methodLink RX1 77 yX0_repeatFrom, Cond.instanceMethod yX0_repeatFrom, Cond.selects RX0 yX0_repeatFrom yX0_repeatFrom, Cond.code yX0_repeatFrom cX0_repeatFrom 6 (some .boolean), Cond.methodLink RX0 53 yX4_at]
def wsL_law_r24 : List Cond := [Cond.methodLink RX0 57 yX0_addLast, Cond.methodLink RX7 147 yX0_takeBarsOf, Cond.methodLink RL 109 yX7_append, Cond.instanceMethod yX7_append, Cond.selects RX7 yX7_append yX7_append, Cond.code yX7_append cX7_append 2 (some .int), Cond.methodLink RX7 131 yX1_isFull, Cond.instanceMethod yX1_isFull, Cond.selects RX1 yX1_isFull yX1_isFull, Cond.code yX1_isFull cX1_isFull 1 (some .boolean), Cond.methodLink RX7 132 yX1_addLast, Cond.instanceMethod yX1_addLast, Cond.selects RX1 yX1_addLast yX1_addLast, Cond.code yX1_addLast cX1_addLast 2 none, Cond.methodLink RX1 31 yX1_isFull, Cond.methodLink RX1 35 yX4_put]
def wsL_law : List Cond := (wsL_law_r1 ++ (wsL_law_r2 ++ (wsL_law_r3 ++ (wsL_law_r4 ++ (wsL_law_r5 ++ (wsL_law_r6 ++ (wsL_law_r7 ++ (wsL_law_r8 ++ (wsL_law_r9 ++ (wsL_law_r10 ++ (wsL_law_r11 ++ (wsL_law_r12 ++ (wsL_law_r13 ++ (wsL_law_r14 ++ (wsL_law_r15 ++ (wsL_law_r16 ++ (wsL_law_r17 ++ (wsL_law_r18 ++ (wsL_law_r19 ++ (wsL_law_r20 ++ (wsL_law_r21 ++ (wsL_law_r22 ++ (wsL_law_r23 ++ wsL_law_r24))))))))))))))))))))))) ++ wsX70 ++ wsX50 ++ wsX30 ++ wsX10 ++ wsX40 ++ wsX60 ++ wsX00 ++ wsX20 ++ ([] : List Cond)
theorem inlX0 : ∀ w ∈ wsX00, w ∈ wsL_law := fun _ h => List.mem_append_left _ (List.mem_append_left _ (List.mem_append_right _ h))
theorem inlX1 : ∀ w ∈ wsX10, w ∈ wsL_law := fun _ h => List.mem_append_left _ (List.mem_append_left _ (List.mem_append_left _ (List.mem_append_left _ (List.mem_append_left _ (List.mem_append_right _ h)))))
theorem inlX2 : ∀ w ∈ wsX20, w ∈ wsL_law := fun _ h => List.mem_append_left _ (List.mem_append_right _ h)
theorem inlX3 : ∀ w ∈ wsX30, w ∈ wsL_law := fun _ h => List.mem_append_left _ (List.mem_append_left _ (List.mem_append_left _ (List.mem_append_left _ (List.mem_append_left _ (List.mem_append_left _ (List.mem_append_right _ h))))))
theorem inlX4 : ∀ w ∈ wsX40, w ∈ wsL_law := fun _ h => List.mem_append_left _ (List.mem_append_left _ (List.mem_append_left _ (List.mem_append_left _ (List.mem_append_right _ h))))
theorem inlX5 : ∀ w ∈ wsX50, w ∈ wsL_law := fun _ h => List.mem_append_left _ (List.mem_append_left _ (List.mem_append_left _ (List.mem_append_left _ (List.mem_append_left _ (List.mem_append_left _ (List.mem_append_left _ (List.mem_append_right _ h)))))))
theorem inlX6 : ∀ w ∈ wsX60, w ∈ wsL_law := fun _ h => List.mem_append_left _ (List.mem_append_left _ (List.mem_append_left _ (List.mem_append_right _ h)))
theorem inlX7 : ∀ w ∈ wsX70, w ∈ wsL_law := fun _ h => List.mem_append_left _ (List.mem_append_left _ (List.mem_append_left _ (List.mem_append_left _ (List.mem_append_left _ (List.mem_append_left _ (List.mem_append_left _ (List.mem_append_left _ (List.mem_append_right _ h))))))))
theorem dX0_init_0 : decode cX0_init 0 = .ok (.aload_n 0, 1) := by decide +kernel
theorem dX0_init_1 : decode cX0_init 1 = .ok (.invokespecial 3, 3) := by decide +kernel
theorem dX0_init_4 : decode cX0_init 4 = .ok (.aload_n 0, 1) := by decide +kernel
theorem dX0_init_5 : decode cX0_init 5 = .ok (.new 9, 3) := by decide +kernel
theorem dX0_init_8 : decode cX0_init 8 = .ok (.dup, 1) := by decide +kernel
theorem dX0_init_9 : decode cX0_init 9 = .ok (.bipush 24, 2) := by decide +kernel
theorem dX0_init_11 : decode cX0_init 11 = .ok (.invokespecial 11, 3) := by decide +kernel
theorem dX0_init_14 : decode cX0_init 14 = .ok (.putfield 14, 3) := by decide +kernel
theorem dX0_init_17 : decode cX0_init 17 = .ok (.aload_n 0, 1) := by decide +kernel
theorem dX0_init_18 : decode cX0_init 18 = .ok (.new 9, 3) := by decide +kernel
theorem dX0_init_21 : decode cX0_init 21 = .ok (.dup, 1) := by decide +kernel
theorem dX0_init_22 : decode cX0_init 22 = .ok (.bipush 24, 2) := by decide +kernel
theorem dX0_init_24 : decode cX0_init 24 = .ok (.invokespecial 11, 3) := by decide +kernel
theorem dX0_init_27 : decode cX0_init 27 = .ok (.putfield 20, 3) := by decide +kernel
theorem dX0_init_30 : decode cX0_init 30 = .ok (.return_, 1) := by decide +kernel
theorem dX0_removeBars_0 : decode cX0_removeBars 0 = .ok (.aload_n 0, 1) := by decide +kernel
theorem dX0_removeBars_1 : decode cX0_removeBars 1 = .ok (.iconst 0, 1) := by decide +kernel
theorem dX0_removeBars_2 : decode cX0_removeBars 2 = .ok (.putfield 23, 3) := by decide +kernel
theorem dX0_removeBars_5 : decode cX0_removeBars 5 = .ok (.aload_n 0, 1) := by decide +kernel
theorem dX0_removeBars_6 : decode cX0_removeBars 6 = .ok (.iconst 0, 1) := by decide +kernel
theorem dX0_removeBars_7 : decode cX0_removeBars 7 = .ok (.putfield 27, 3) := by decide +kernel
theorem dX0_removeBars_10 : decode cX0_removeBars 10 = .ok (.return_, 1) := by decide +kernel
theorem dX0_takeBarsOf_0 : decode cX0_takeBarsOf 0 = .ok (.aload_n 0, 1) := by decide +kernel
theorem dX0_takeBarsOf_1 : decode cX0_takeBarsOf 1 = .ok (.aload_n 1, 1) := by decide +kernel
theorem dX0_takeBarsOf_2 : decode cX0_takeBarsOf 2 = .ok (.getfield 23, 3) := by decide +kernel
theorem dX0_takeBarsOf_5 : decode cX0_takeBarsOf 5 = .ok (.putfield 23, 3) := by decide +kernel
theorem dX0_takeBarsOf_8 : decode cX0_takeBarsOf 8 = .ok (.aload_n 0, 1) := by decide +kernel
theorem dX0_takeBarsOf_9 : decode cX0_takeBarsOf 9 = .ok (.iconst 0, 1) := by decide +kernel
theorem dX0_takeBarsOf_10 : decode cX0_takeBarsOf 10 = .ok (.putfield 27, 3) := by decide +kernel
theorem dX0_takeBarsOf_13 : decode cX0_takeBarsOf 13 = .ok (.aload_n 0, 1) := by decide +kernel
theorem dX0_takeBarsOf_14 : decode cX0_takeBarsOf 14 = .ok (.getfield 14, 3) := by decide +kernel
theorem dX0_takeBarsOf_17 : decode cX0_takeBarsOf 17 = .ok (.aload_n 1, 1) := by decide +kernel
theorem dX0_takeBarsOf_18 : decode cX0_takeBarsOf 18 = .ok (.getfield 14, 3) := by decide +kernel
theorem dX0_takeBarsOf_21 : decode cX0_takeBarsOf 21 = .ok (.invokevirtual 30, 3) := by decide +kernel
theorem dX0_takeBarsOf_24 : decode cX0_takeBarsOf 24 = .ok (.aload_n 0, 1) := by decide +kernel
theorem dX0_takeBarsOf_25 : decode cX0_takeBarsOf 25 = .ok (.getfield 20, 3) := by decide +kernel
theorem dX0_takeBarsOf_28 : decode cX0_takeBarsOf 28 = .ok (.aload_n 1, 1) := by decide +kernel
theorem dX0_takeBarsOf_29 : decode cX0_takeBarsOf 29 = .ok (.getfield 20, 3) := by decide +kernel
theorem dX0_takeBarsOf_32 : decode cX0_takeBarsOf 32 = .ok (.invokevirtual 30, 3) := by decide +kernel
theorem dX0_takeBarsOf_35 : decode cX0_takeBarsOf 35 = .ok (.return_, 1) := by decide +kernel
theorem dX0_copyFrom_0 : decode cX0_copyFrom 0 = .ok (.aload_n 0, 1) := by decide +kernel
theorem dX0_copyFrom_1 : decode cX0_copyFrom 1 = .ok (.aload_n 1, 1) := by decide +kernel
theorem dX0_copyFrom_2 : decode cX0_copyFrom 2 = .ok (.invokevirtual 34, 3) := by decide +kernel
theorem dX0_copyFrom_5 : decode cX0_copyFrom 5 = .ok (.aload_n 0, 1) := by decide +kernel
theorem dX0_copyFrom_6 : decode cX0_copyFrom 6 = .ok (.aload_n 1, 1) := by decide +kernel
theorem dX0_copyFrom_7 : decode cX0_copyFrom 7 = .ok (.getfield 27, 3) := by decide +kernel
theorem dX0_copyFrom_10 : decode cX0_copyFrom 10 = .ok (.putfield 27, 3) := by decide +kernel
theorem dX0_copyFrom_13 : decode cX0_copyFrom 13 = .ok (.aload_n 0, 1) := by decide +kernel
theorem dX0_copyFrom_14 : decode cX0_copyFrom 14 = .ok (.aload_n 1, 1) := by decide +kernel
theorem dX0_copyFrom_15 : decode cX0_copyFrom 15 = .ok (.getfield 38, 3) := by decide +kernel
theorem dX0_copyFrom_18 : decode cX0_copyFrom 18 = .ok (.putfield 38, 3) := by decide +kernel
theorem dX0_copyFrom_21 : decode cX0_copyFrom 21 = .ok (.return_, 1) := by decide +kernel
theorem dX0_hasBar_0 : decode cX0_hasBar 0 = .ok (.iload_n 1, 1) := by decide +kernel
theorem dX0_hasBar_1 : decode cX0_hasBar 1 = .ok (.iconst 0, 1) := by decide +kernel
theorem dX0_hasBar_2 : decode cX0_hasBar 2 = .ok (.aload_n 0, 1) := by decide +kernel
theorem dX0_hasBar_3 : decode cX0_hasBar 3 = .ok (.getfield 23, 3) := by decide +kernel
theorem dX0_hasBar_6 : decode cX0_hasBar 6 = .ok (.iconst 1, 1) := by decide +kernel
theorem dX0_hasBar_7 : decode cX0_hasBar 7 = .ok (.isub, 1) := by decide +kernel
theorem dX0_hasBar_8 : decode cX0_hasBar 8 = .ok (.invokestatic 41, 3) := by decide +kernel
theorem dX0_hasBar_11 : decode cX0_hasBar 11 = .ok (.ireturn, 1) := by decide +kernel
theorem dX0_isFull_0 : decode cX0_isFull 0 = .ok (.aload_n 0, 1) := by decide +kernel
theorem dX0_isFull_1 : decode cX0_isFull 1 = .ok (.getfield 23, 3) := by decide +kernel
theorem dX0_isFull_4 : decode cX0_isFull 4 = .ok (.bipush 24, 2) := by decide +kernel
theorem dX0_isFull_6 : decode cX0_isFull 6 = .ok (.if_icmp .lt 7, 3) := by decide +kernel
theorem dX0_isFull_9 : decode cX0_isFull 9 = .ok (.iconst 1, 1) := by decide +kernel
theorem dX0_isFull_10 : decode cX0_isFull 10 = .ok (.goto 4, 3) := by decide +kernel
theorem dX0_isFull_13 : decode cX0_isFull 13 = .ok (.iconst 0, 1) := by decide +kernel
theorem dX0_isFull_14 : decode cX0_isFull 14 = .ok (.ireturn, 1) := by decide +kernel
theorem dX0_addLast_0 : decode cX0_addLast 0 = .ok (.aload_n 0, 1) := by decide +kernel
theorem dX0_addLast_1 : decode cX0_addLast 1 = .ok (.invokevirtual 45, 3) := by decide +kernel
theorem dX0_addLast_4 : decode cX0_addLast 4 = .ok (.ifCond .ne 37, 3) := by decide +kernel
theorem dX0_addLast_7 : decode cX0_addLast 7 = .ok (.aload_n 0, 1) := by decide +kernel
theorem dX0_addLast_8 : decode cX0_addLast 8 = .ok (.getfield 14, 3) := by decide +kernel
theorem dX0_addLast_11 : decode cX0_addLast 11 = .ok (.aload_n 0, 1) := by decide +kernel
theorem dX0_addLast_12 : decode cX0_addLast 12 = .ok (.getfield 23, 3) := by decide +kernel
theorem dX0_addLast_15 : decode cX0_addLast 15 = .ok (.iload_n 1, 1) := by decide +kernel
theorem dX0_addLast_16 : decode cX0_addLast 16 = .ok (.invokevirtual 49, 3) := by decide +kernel
theorem dX0_addLast_19 : decode cX0_addLast 19 = .ok (.aload_n 0, 1) := by decide +kernel
theorem dX0_addLast_20 : decode cX0_addLast 20 = .ok (.getfield 20, 3) := by decide +kernel
theorem dX0_addLast_23 : decode cX0_addLast 23 = .ok (.aload_n 0, 1) := by decide +kernel
theorem dX0_addLast_24 : decode cX0_addLast 24 = .ok (.getfield 23, 3) := by decide +kernel
theorem dX0_addLast_27 : decode cX0_addLast 27 = .ok (.iload_n 2, 1) := by decide +kernel
theorem dX0_addLast_28 : decode cX0_addLast 28 = .ok (.invokevirtual 49, 3) := by decide +kernel
theorem dX0_addLast_31 : decode cX0_addLast 31 = .ok (.aload_n 0, 1) := by decide +kernel
theorem dX0_addLast_32 : decode cX0_addLast 32 = .ok (.dup, 1) := by decide +kernel
theorem dX0_addLast_33 : decode cX0_addLast 33 = .ok (.getfield 23, 3) := by decide +kernel
theorem dX0_addLast_36 : decode cX0_addLast 36 = .ok (.iconst 1, 1) := by decide +kernel
theorem dX0_addLast_37 : decode cX0_addLast 37 = .ok (.iadd, 1) := by decide +kernel
theorem dX0_addLast_38 : decode cX0_addLast 38 = .ok (.putfield 23, 3) := by decide +kernel
theorem dX0_addLast_41 : decode cX0_addLast 41 = .ok (.return_, 1) := by decide +kernel
theorem dX0_repeatFrom_0 : decode cX0_repeatFrom 0 = .ok (.aload_n 0, 1) := by decide +kernel
theorem dX0_repeatFrom_1 : decode cX0_repeatFrom 1 = .ok (.getfield 23, 3) := by decide +kernel
theorem dX0_repeatFrom_4 : decode cX0_repeatFrom 4 = .ok (.istore_n 3, 1) := by decide +kernel
theorem dX0_repeatFrom_5 : decode cX0_repeatFrom 5 = .ok (.iload_n 1, 1) := by decide +kernel
theorem dX0_repeatFrom_6 : decode cX0_repeatFrom 6 = .ok (.iload_n 3, 1) := by decide +kernel
theorem dX0_repeatFrom_7 : decode cX0_repeatFrom 7 = .ok (.iload_n 1, 1) := by decide +kernel
theorem dX0_repeatFrom_8 : decode cX0_repeatFrom 8 = .ok (.isub, 1) := by decide +kernel
theorem dX0_repeatFrom_9 : decode cX0_repeatFrom 9 = .ok (.iload_n 2, 1) := by decide +kernel
theorem dX0_repeatFrom_10 : decode cX0_repeatFrom 10 = .ok (.imul, 1) := by decide +kernel
theorem dX0_repeatFrom_11 : decode cX0_repeatFrom 11 = .ok (.iadd, 1) := by decide +kernel
theorem dX0_repeatFrom_12 : decode cX0_repeatFrom 12 = .ok (.bipush 24, 2) := by decide +kernel
theorem dX0_repeatFrom_14 : decode cX0_repeatFrom 14 = .ok (.if_icmp .le 5, 3) := by decide +kernel
theorem dX0_repeatFrom_17 : decode cX0_repeatFrom 17 = .ok (.iconst 0, 1) := by decide +kernel
theorem dX0_repeatFrom_18 : decode cX0_repeatFrom 18 = .ok (.ireturn, 1) := by decide +kernel
theorem dX0_repeatFrom_19 : decode cX0_repeatFrom 19 = .ok (.iconst 1, 1) := by decide +kernel
theorem dX0_repeatFrom_20 : decode cX0_repeatFrom 20 = .ok (.istore 4, 2) := by decide +kernel
theorem dX0_repeatFrom_22 : decode cX0_repeatFrom 22 = .ok (.iload 4, 2) := by decide +kernel
theorem dX0_repeatFrom_24 : decode cX0_repeatFrom 24 = .ok (.iload_n 2, 1) := by decide +kernel
theorem dX0_repeatFrom_25 : decode cX0_repeatFrom 25 = .ok (.if_icmp .ge 46, 3) := by decide +kernel
theorem dX0_repeatFrom_28 : decode cX0_repeatFrom 28 = .ok (.iload_n 1, 1) := by decide +kernel
theorem dX0_repeatFrom_29 : decode cX0_repeatFrom 29 = .ok (.istore 5, 2) := by decide +kernel
theorem dX0_repeatFrom_31 : decode cX0_repeatFrom 31 = .ok (.iload 5, 2) := by decide +kernel
theorem dX0_repeatFrom_33 : decode cX0_repeatFrom 33 = .ok (.iload_n 3, 1) := by decide +kernel
theorem dX0_repeatFrom_34 : decode cX0_repeatFrom 34 = .ok (.if_icmp .ge 31, 3) := by decide +kernel
theorem dX0_repeatFrom_37 : decode cX0_repeatFrom 37 = .ok (.aload_n 0, 1) := by decide +kernel
theorem dX0_repeatFrom_38 : decode cX0_repeatFrom 38 = .ok (.aload_n 0, 1) := by decide +kernel
theorem dX0_repeatFrom_39 : decode cX0_repeatFrom 39 = .ok (.getfield 14, 3) := by decide +kernel
theorem dX0_repeatFrom_42 : decode cX0_repeatFrom 42 = .ok (.iload 5, 2) := by decide +kernel
theorem dX0_repeatFrom_44 : decode cX0_repeatFrom 44 = .ok (.invokevirtual 53, 3) := by decide +kernel
theorem dX0_repeatFrom_47 : decode cX0_repeatFrom 47 = .ok (.aload_n 0, 1) := by decide +kernel
theorem dX0_repeatFrom_48 : decode cX0_repeatFrom 48 = .ok (.getfield 20, 3) := by decide +kernel
theorem dX0_repeatFrom_51 : decode cX0_repeatFrom 51 = .ok (.iload 5, 2) := by decide +kernel
theorem dX0_repeatFrom_53 : decode cX0_repeatFrom 53 = .ok (.invokevirtual 53, 3) := by decide +kernel
theorem dX0_repeatFrom_56 : decode cX0_repeatFrom 56 = .ok (.invokevirtual 57, 3) := by decide +kernel
theorem dX0_repeatFrom_59 : decode cX0_repeatFrom 59 = .ok (.iinc 5 1, 3) := by decide +kernel
theorem dX0_repeatFrom_62 : decode cX0_repeatFrom 62 = .ok (.goto (-31), 3) := by decide +kernel
theorem dX0_repeatFrom_65 : decode cX0_repeatFrom 65 = .ok (.iinc 4 1, 3) := by decide +kernel
theorem dX0_repeatFrom_68 : decode cX0_repeatFrom 68 = .ok (.goto (-46), 3) := by decide +kernel
theorem dX0_repeatFrom_71 : decode cX0_repeatFrom 71 = .ok (.iconst 1, 1) := by decide +kernel
theorem dX0_repeatFrom_72 : decode cX0_repeatFrom 72 = .ok (.ireturn, 1) := by decide +kernel
theorem dX0_barAfter_0 : decode cX0_barAfter 0 = .ok (.aload_n 0, 1) := by decide +kernel
theorem dX0_barAfter_1 : decode cX0_barAfter 1 = .ok (.getfield 38, 3) := by decide +kernel
theorem dX0_barAfter_4 : decode cX0_barAfter 4 = .ok (.iconst 1, 1) := by decide +kernel
theorem dX0_barAfter_5 : decode cX0_barAfter 5 = .ok (.if_icmp .ne 11, 3) := by decide +kernel
theorem dX0_barAfter_8 : decode cX0_barAfter 8 = .ok (.aload_n 0, 1) := by decide +kernel
theorem dX0_barAfter_9 : decode cX0_barAfter 9 = .ok (.iload_n 1, 1) := by decide +kernel
theorem dX0_barAfter_10 : decode cX0_barAfter 10 = .ok (.invokevirtual 60, 3) := by decide +kernel
theorem dX0_barAfter_13 : decode cX0_barAfter 13 = .ok (.goto 8, 3) := by decide +kernel
theorem dX0_barAfter_16 : decode cX0_barAfter 16 = .ok (.aload_n 0, 1) := by decide +kernel
theorem dX0_barAfter_17 : decode cX0_barAfter 17 = .ok (.iload_n 1, 1) := by decide +kernel
theorem dX0_barAfter_18 : decode cX0_barAfter 18 = .ok (.invokevirtual 63, 3) := by decide +kernel
theorem dX0_barAfter_21 : decode cX0_barAfter 21 = .ok (.ireturn, 1) := by decide +kernel
theorem dX0_barBefore_0 : decode cX0_barBefore 0 = .ok (.aload_n 0, 1) := by decide +kernel
theorem dX0_barBefore_1 : decode cX0_barBefore 1 = .ok (.getfield 38, 3) := by decide +kernel
theorem dX0_barBefore_4 : decode cX0_barBefore 4 = .ok (.iconst 1, 1) := by decide +kernel
theorem dX0_barBefore_5 : decode cX0_barBefore 5 = .ok (.if_icmp .ne 11, 3) := by decide +kernel
theorem dX0_barBefore_8 : decode cX0_barBefore 8 = .ok (.aload_n 0, 1) := by decide +kernel
theorem dX0_barBefore_9 : decode cX0_barBefore 9 = .ok (.iload_n 1, 1) := by decide +kernel
theorem dX0_barBefore_10 : decode cX0_barBefore 10 = .ok (.invokevirtual 63, 3) := by decide +kernel
theorem dX0_barBefore_13 : decode cX0_barBefore 13 = .ok (.goto 8, 3) := by decide +kernel
theorem dX0_barBefore_16 : decode cX0_barBefore 16 = .ok (.aload_n 0, 1) := by decide +kernel
theorem dX0_barBefore_17 : decode cX0_barBefore 17 = .ok (.iload_n 1, 1) := by decide +kernel
theorem dX0_barBefore_18 : decode cX0_barBefore 18 = .ok (.invokevirtual 60, 3) := by decide +kernel
theorem dX0_barBefore_21 : decode cX0_barBefore 21 = .ok (.ireturn, 1) := by decide +kernel
theorem dX0_barAbove_0 : decode cX0_barAbove 0 = .ok (.iload_n 1, 1) := by decide +kernel
theorem dX0_barAbove_1 : decode cX0_barAbove 1 = .ok (.iconst 1, 1) := by decide +kernel
theorem dX0_barAbove_2 : decode cX0_barAbove 2 = .ok (.iadd, 1) := by decide +kernel
theorem dX0_barAbove_3 : decode cX0_barAbove 3 = .ok (.aload_n 0, 1) := by decide +kernel
theorem dX0_barAbove_4 : decode cX0_barAbove 4 = .ok (.getfield 23, 3) := by decide +kernel
theorem dX0_barAbove_7 : decode cX0_barAbove 7 = .ok (.if_icmp .ge 9, 3) := by decide +kernel
theorem dX0_barAbove_10 : decode cX0_barAbove 10 = .ok (.iload_n 1, 1) := by decide +kernel
theorem dX0_barAbove_11 : decode cX0_barAbove 11 = .ok (.iconst 1, 1) := by decide +kernel
theorem dX0_barAbove_12 : decode cX0_barAbove 12 = .ok (.iadd, 1) := by decide +kernel
theorem dX0_barAbove_13 : decode cX0_barAbove 13 = .ok (.goto 4, 3) := by decide +kernel
theorem dX0_barAbove_16 : decode cX0_barAbove 16 = .ok (.iconst 0, 1) := by decide +kernel
theorem dX0_barAbove_17 : decode cX0_barAbove 17 = .ok (.ireturn, 1) := by decide +kernel
theorem dX0_barBelow_0 : decode cX0_barBelow 0 = .ok (.iload_n 1, 1) := by decide +kernel
theorem dX0_barBelow_1 : decode cX0_barBelow 1 = .ok (.ifCond .le 9, 3) := by decide +kernel
theorem dX0_barBelow_4 : decode cX0_barBelow 4 = .ok (.iload_n 1, 1) := by decide +kernel
theorem dX0_barBelow_5 : decode cX0_barBelow 5 = .ok (.iconst 1, 1) := by decide +kernel
theorem dX0_barBelow_6 : decode cX0_barBelow 6 = .ok (.isub, 1) := by decide +kernel
theorem dX0_barBelow_7 : decode cX0_barBelow 7 = .ok (.goto 9, 3) := by decide +kernel
theorem dX0_barBelow_10 : decode cX0_barBelow 10 = .ok (.aload_n 0, 1) := by decide +kernel
theorem dX0_barBelow_11 : decode cX0_barBelow 11 = .ok (.getfield 23, 3) := by decide +kernel
theorem dX0_barBelow_14 : decode cX0_barBelow 14 = .ok (.iconst 1, 1) := by decide +kernel
theorem dX0_barBelow_15 : decode cX0_barBelow 15 = .ok (.isub, 1) := by decide +kernel
theorem dX0_barBelow_16 : decode cX0_barBelow 16 = .ok (.ireturn, 1) := by decide +kernel
theorem dX1_init_0 : decode cX1_init 0 = .ok (.aload_n 0, 1) := by decide +kernel
theorem dX1_init_1 : decode cX1_init 1 = .ok (.invokespecial 3, 3) := by decide +kernel
theorem dX1_init_4 : decode cX1_init 4 = .ok (.aload_n 0, 1) := by decide +kernel
theorem dX1_init_5 : decode cX1_init 5 = .ok (.new 9, 3) := by decide +kernel
theorem dX1_init_8 : decode cX1_init 8 = .ok (.dup, 1) := by decide +kernel
theorem dX1_init_9 : decode cX1_init 9 = .ok (.bipush 120, 2) := by decide +kernel
theorem dX1_init_11 : decode cX1_init 11 = .ok (.invokespecial 11, 3) := by decide +kernel
theorem dX1_init_14 : decode cX1_init 14 = .ok (.putfield 14, 3) := by decide +kernel
theorem dX1_init_17 : decode cX1_init 17 = .ok (.aload_n 0, 1) := by decide +kernel
theorem dX1_init_18 : decode cX1_init 18 = .ok (.new 20, 3) := by decide +kernel
theorem dX1_init_21 : decode cX1_init 21 = .ok (.dup, 1) := by decide +kernel
theorem dX1_init_22 : decode cX1_init 22 = .ok (.invokespecial 22, 3) := by decide +kernel
theorem dX1_init_25 : decode cX1_init 25 = .ok (.putfield 23, 3) := by decide +kernel
theorem dX1_init_28 : decode cX1_init 28 = .ok (.return_, 1) := by decide +kernel
theorem dX1_isFull_0 : decode cX1_isFull 0 = .ok (.aload_n 0, 1) := by decide +kernel
theorem dX1_isFull_1 : decode cX1_isFull 1 = .ok (.getfield 27, 3) := by decide +kernel
theorem dX1_isFull_4 : decode cX1_isFull 4 = .ok (.bipush 120, 2) := by decide +kernel
theorem dX1_isFull_6 : decode cX1_isFull 6 = .ok (.if_icmp .lt 7, 3) := by decide +kernel
theorem dX1_isFull_9 : decode cX1_isFull 9 = .ok (.iconst 1, 1) := by decide +kernel
theorem dX1_isFull_10 : decode cX1_isFull 10 = .ok (.goto 4, 3) := by decide +kernel
theorem dX1_isFull_13 : decode cX1_isFull 13 = .ok (.iconst 0, 1) := by decide +kernel
theorem dX1_isFull_14 : decode cX1_isFull 14 = .ok (.ireturn, 1) := by decide +kernel
theorem dX1_addLast_0 : decode cX1_addLast 0 = .ok (.aload_n 0, 1) := by decide +kernel
theorem dX1_addLast_1 : decode cX1_addLast 1 = .ok (.invokevirtual 31, 3) := by decide +kernel
theorem dX1_addLast_4 : decode cX1_addLast 4 = .ok (.ifCond .ne 25, 3) := by decide +kernel
theorem dX1_addLast_7 : decode cX1_addLast 7 = .ok (.aload_n 0, 1) := by decide +kernel
theorem dX1_addLast_8 : decode cX1_addLast 8 = .ok (.getfield 14, 3) := by decide +kernel
theorem dX1_addLast_11 : decode cX1_addLast 11 = .ok (.aload_n 0, 1) := by decide +kernel
theorem dX1_addLast_12 : decode cX1_addLast 12 = .ok (.getfield 27, 3) := by decide +kernel
theorem dX1_addLast_15 : decode cX1_addLast 15 = .ok (.iload_n 1, 1) := by decide +kernel
theorem dX1_addLast_16 : decode cX1_addLast 16 = .ok (.invokevirtual 35, 3) := by decide +kernel
theorem dX1_addLast_19 : decode cX1_addLast 19 = .ok (.aload_n 0, 1) := by decide +kernel
theorem dX1_addLast_20 : decode cX1_addLast 20 = .ok (.dup, 1) := by decide +kernel
theorem dX1_addLast_21 : decode cX1_addLast 21 = .ok (.getfield 27, 3) := by decide +kernel
theorem dX1_addLast_24 : decode cX1_addLast 24 = .ok (.iconst 1, 1) := by decide +kernel
theorem dX1_addLast_25 : decode cX1_addLast 25 = .ok (.iadd, 1) := by decide +kernel
theorem dX1_addLast_26 : decode cX1_addLast 26 = .ok (.putfield 27, 3) := by decide +kernel
theorem dX1_addLast_29 : decode cX1_addLast 29 = .ok (.return_, 1) := by decide +kernel
theorem dX1_readChain_0 : decode cX1_readChain 0 = .ok (.aload_n 0, 1) := by decide +kernel
theorem dX1_readChain_1 : decode cX1_readChain 1 = .ok (.iload_n 1, 1) := by decide +kernel
theorem dX1_readChain_2 : decode cX1_readChain 2 = .ok (.putfield 39, 3) := by decide +kernel
theorem dX1_readChain_5 : decode cX1_readChain 5 = .ok (.aload_n 0, 1) := by decide +kernel
theorem dX1_readChain_6 : decode cX1_readChain 6 = .ok (.iconst 0, 1) := by decide +kernel
theorem dX1_readChain_7 : decode cX1_readChain 7 = .ok (.putfield 42, 3) := by decide +kernel
theorem dX1_readChain_10 : decode cX1_readChain 10 = .ok (.aload_n 0, 1) := by decide +kernel
theorem dX1_readChain_11 : decode cX1_readChain 11 = .ok (.iconst 0, 1) := by decide +kernel
theorem dX1_readChain_12 : decode cX1_readChain 12 = .ok (.putfield 45, 3) := by decide +kernel
theorem dX1_readChain_15 : decode cX1_readChain 15 = .ok (.aload_n 0, 1) := by decide +kernel
theorem dX1_readChain_16 : decode cX1_readChain 16 = .ok (.getfield 23, 3) := by decide +kernel
theorem dX1_readChain_19 : decode cX1_readChain 19 = .ok (.invokevirtual 48, 3) := by decide +kernel
theorem dX1_readChain_22 : decode cX1_readChain 22 = .ok (.iconst 0, 1) := by decide +kernel
theorem dX1_readChain_23 : decode cX1_readChain 23 = .ok (.istore_n 2, 1) := by decide +kernel
theorem dX1_readChain_24 : decode cX1_readChain 24 = .ok (.iload_n 2, 1) := by decide +kernel
theorem dX1_readChain_25 : decode cX1_readChain 25 = .ok (.bipush 120, 2) := by decide +kernel
theorem dX1_readChain_27 : decode cX1_readChain 27 = .ok (.if_icmp .ge 62, 3) := by decide +kernel
theorem dX1_readChain_30 : decode cX1_readChain 30 = .ok (.aload_n 0, 1) := by decide +kernel
theorem dX1_readChain_31 : decode cX1_readChain 31 = .ok (.invokevirtual 51, 3) := by decide +kernel
theorem dX1_readChain_34 : decode cX1_readChain 34 = .ok (.ifCond .eq 17, 3) := by decide +kernel
theorem dX1_readChain_37 : decode cX1_readChain 37 = .ok (.aload_n 0, 1) := by decide +kernel
theorem dX1_readChain_38 : decode cX1_readChain 38 = .ok (.invokevirtual 54, 3) := by decide +kernel
theorem dX1_readChain_41 : decode cX1_readChain 41 = .ok (.ifCond .eq 10, 3) := by decide +kernel
theorem dX1_readChain_44 : decode cX1_readChain 44 = .ok (.aload_n 0, 1) := by decide +kernel
theorem dX1_readChain_45 : decode cX1_readChain 45 = .ok (.invokevirtual 57, 3) := by decide +kernel
theorem dX1_readChain_48 : decode cX1_readChain 48 = .ok (.ifCond .ne 5, 3) := by decide +kernel
theorem dX1_readChain_51 : decode cX1_readChain 51 = .ok (.iconst 0, 1) := by decide +kernel
theorem dX1_readChain_52 : decode cX1_readChain 52 = .ok (.ireturn, 1) := by decide +kernel
theorem dX1_readChain_53 : decode cX1_readChain 53 = .ok (.aload_n 0, 1) := by decide +kernel
theorem dX1_readChain_54 : decode cX1_readChain 54 = .ok (.bipush 59, 2) := by decide +kernel
theorem dX1_readChain_56 : decode cX1_readChain 56 = .ok (.invokevirtual 60, 3) := by decide +kernel
theorem dX1_readChain_59 : decode cX1_readChain 59 = .ok (.ifCond .ne 24, 3) := by decide +kernel
theorem dX1_readChain_62 : decode cX1_readChain 62 = .ok (.aload_n 0, 1) := by decide +kernel
theorem dX1_readChain_63 : decode cX1_readChain 63 = .ok (.getfield 45, 3) := by decide +kernel
theorem dX1_readChain_66 : decode cX1_readChain 66 = .ok (.ifCond .ne 15, 3) := by decide +kernel
theorem dX1_readChain_69 : decode cX1_readChain 69 = .ok (.aload_n 0, 1) := by decide +kernel
theorem dX1_readChain_70 : decode cX1_readChain 70 = .ok (.invokevirtual 64, 3) := by decide +kernel
theorem dX1_readChain_73 : decode cX1_readChain 73 = .ok (.iconst (-1), 1) := by decide +kernel
theorem dX1_readChain_74 : decode cX1_readChain 74 = .ok (.if_icmp .ne 7, 3) := by decide +kernel
theorem dX1_readChain_77 : decode cX1_readChain 77 = .ok (.iconst 1, 1) := by decide +kernel
theorem dX1_readChain_78 : decode cX1_readChain 78 = .ok (.goto 4, 3) := by decide +kernel
theorem dX1_readChain_81 : decode cX1_readChain 81 = .ok (.iconst 0, 1) := by decide +kernel
theorem dX1_readChain_82 : decode cX1_readChain 82 = .ok (.ireturn, 1) := by decide +kernel
theorem dX1_readChain_83 : decode cX1_readChain 83 = .ok (.iinc 2 1, 3) := by decide +kernel
theorem dX1_readChain_86 : decode cX1_readChain 86 = .ok (.goto (-62), 3) := by decide +kernel
theorem dX1_readChain_89 : decode cX1_readChain 89 = .ok (.iconst 0, 1) := by decide +kernel
theorem dX1_readChain_90 : decode cX1_readChain 90 = .ok (.ireturn, 1) := by decide +kernel
theorem dX1_openBrackets_0 : decode cX1_openBrackets 0 = .ok (.aload_n 0, 1) := by decide +kernel
theorem dX1_openBrackets_1 : decode cX1_openBrackets 1 = .ok (.getfield 45, 3) := by decide +kernel
theorem dX1_openBrackets_4 : decode cX1_openBrackets 4 = .ok (.ifCond .ne 10, 3) := by decide +kernel
theorem dX1_openBrackets_7 : decode cX1_openBrackets 7 = .ok (.aload_n 0, 1) := by decide +kernel
theorem dX1_openBrackets_8 : decode cX1_openBrackets 8 = .ok (.invokevirtual 68, 3) := by decide +kernel
theorem dX1_openBrackets_11 : decode cX1_openBrackets 11 = .ok (.ifCond .ne 5, 3) := by decide +kernel
theorem dX1_openBrackets_14 : decode cX1_openBrackets 14 = .ok (.iconst 1, 1) := by decide +kernel
theorem dX1_openBrackets_15 : decode cX1_openBrackets 15 = .ok (.ireturn, 1) := by decide +kernel
theorem dX1_openBrackets_16 : decode cX1_openBrackets 16 = .ok (.aload_n 0, 1) := by decide +kernel
theorem dX1_openBrackets_17 : decode cX1_openBrackets 17 = .ok (.invokevirtual 64, 3) := by decide +kernel
theorem dX1_openBrackets_20 : decode cX1_openBrackets 20 = .ok (.bipush 48, 2) := by decide +kernel
theorem dX1_openBrackets_22 : decode cX1_openBrackets 22 = .ok (.isub, 1) := by decide +kernel
theorem dX1_openBrackets_23 : decode cX1_openBrackets 23 = .ok (.istore_n 1, 1) := by decide +kernel
theorem dX1_openBrackets_24 : decode cX1_openBrackets 24 = .ok (.iload_n 1, 1) := by decide +kernel
theorem dX1_openBrackets_25 : decode cX1_openBrackets 25 = .ok (.iconst 2, 1) := by decide +kernel
theorem dX1_openBrackets_26 : decode cX1_openBrackets 26 = .ok (.if_icmp .ge 5, 3) := by decide +kernel
theorem dX1_openBrackets_29 : decode cX1_openBrackets 29 = .ok (.iconst 0, 1) := by decide +kernel
theorem dX1_openBrackets_30 : decode cX1_openBrackets 30 = .ok (.ireturn, 1) := by decide +kernel
theorem dX1_openBrackets_31 : decode cX1_openBrackets 31 = .ok (.aload_n 0, 1) := by decide +kernel
theorem dX1_openBrackets_32 : decode cX1_openBrackets 32 = .ok (.dup, 1) := by decide +kernel
theorem dX1_openBrackets_33 : decode cX1_openBrackets 33 = .ok (.getfield 42, 3) := by decide +kernel
theorem dX1_openBrackets_36 : decode cX1_openBrackets 36 = .ok (.iconst 1, 1) := by decide +kernel
theorem dX1_openBrackets_37 : decode cX1_openBrackets 37 = .ok (.iadd, 1) := by decide +kernel
theorem dX1_openBrackets_38 : decode cX1_openBrackets 38 = .ok (.putfield 42, 3) := by decide +kernel
theorem dX1_openBrackets_41 : decode cX1_openBrackets 41 = .ok (.aload_n 0, 1) := by decide +kernel
theorem dX1_openBrackets_42 : decode cX1_openBrackets 42 = .ok (.iload_n 1, 1) := by decide +kernel
theorem dX1_openBrackets_43 : decode cX1_openBrackets 43 = .ok (.putfield 45, 3) := by decide +kernel
theorem dX1_openBrackets_46 : decode cX1_openBrackets 46 = .ok (.aload_n 0, 1) := by decide +kernel
theorem dX1_openBrackets_47 : decode cX1_openBrackets 47 = .ok (.aload_n 0, 1) := by decide +kernel
theorem dX1_openBrackets_48 : decode cX1_openBrackets 48 = .ok (.getfield 23, 3) := by decide +kernel
theorem dX1_openBrackets_51 : decode cX1_openBrackets 51 = .ok (.getfield 71, 3) := by decide +kernel
theorem dX1_openBrackets_54 : decode cX1_openBrackets 54 = .ok (.putfield 74, 3) := by decide +kernel
theorem dX1_openBrackets_57 : decode cX1_openBrackets 57 = .ok (.aload_n 0, 1) := by decide +kernel
theorem dX1_openBrackets_58 : decode cX1_openBrackets 58 = .ok (.bipush 120, 2) := by decide +kernel
theorem dX1_openBrackets_60 : decode cX1_openBrackets 60 = .ok (.invokevirtual 60, 3) := by decide +kernel
theorem dX1_openBrackets_63 : decode cX1_openBrackets 63 = .ok (.ifCond .eq 16, 3) := by decide +kernel
theorem dX1_openBrackets_66 : decode cX1_openBrackets 66 = .ok (.aload_n 0, 1) := by decide +kernel
theorem dX1_openBrackets_67 : decode cX1_openBrackets 67 = .ok (.bipush 40, 2) := by decide +kernel
theorem dX1_openBrackets_69 : decode cX1_openBrackets 69 = .ok (.invokevirtual 60, 3) := by decide +kernel
theorem dX1_openBrackets_72 : decode cX1_openBrackets 72 = .ok (.ifCond .eq 7, 3) := by decide +kernel
theorem dX1_openBrackets_75 : decode cX1_openBrackets 75 = .ok (.iconst 1, 1) := by decide +kernel
theorem dX1_openBrackets_76 : decode cX1_openBrackets 76 = .ok (.goto 4, 3) := by decide +kernel
theorem dX1_openBrackets_79 : decode cX1_openBrackets 79 = .ok (.iconst 0, 1) := by decide +kernel
theorem dX1_openBrackets_80 : decode cX1_openBrackets 80 = .ok (.ireturn, 1) := by decide +kernel
theorem dX1_closeBrackets_0 : decode cX1_closeBrackets 0 = .ok (.aload_n 0, 1) := by decide +kernel
theorem dX1_closeBrackets_1 : decode cX1_closeBrackets 1 = .ok (.getfield 45, 3) := by decide +kernel
theorem dX1_closeBrackets_4 : decode cX1_closeBrackets 4 = .ok (.ifCond .eq 12, 3) := by decide +kernel
theorem dX1_closeBrackets_7 : decode cX1_closeBrackets 7 = .ok (.aload_n 0, 1) := by decide +kernel
theorem dX1_closeBrackets_8 : decode cX1_closeBrackets 8 = .ok (.invokevirtual 64, 3) := by decide +kernel
theorem dX1_closeBrackets_11 : decode cX1_closeBrackets 11 = .ok (.bipush 41, 2) := by decide +kernel
theorem dX1_closeBrackets_13 : decode cX1_closeBrackets 13 = .ok (.if_icmp .eq 5, 3) := by decide +kernel
theorem dX1_closeBrackets_16 : decode cX1_closeBrackets 16 = .ok (.iconst 1, 1) := by decide +kernel
theorem dX1_closeBrackets_17 : decode cX1_closeBrackets 17 = .ok (.ireturn, 1) := by decide +kernel
theorem dX1_closeBrackets_18 : decode cX1_closeBrackets 18 = .ok (.aload_n 0, 1) := by decide +kernel
theorem dX1_closeBrackets_19 : decode cX1_closeBrackets 19 = .ok (.getfield 23, 3) := by decide +kernel
theorem dX1_closeBrackets_22 : decode cX1_closeBrackets 22 = .ok (.aload_n 0, 1) := by decide +kernel
theorem dX1_closeBrackets_23 : decode cX1_closeBrackets 23 = .ok (.getfield 74, 3) := by decide +kernel
theorem dX1_closeBrackets_26 : decode cX1_closeBrackets 26 = .ok (.aload_n 0, 1) := by decide +kernel
theorem dX1_closeBrackets_27 : decode cX1_closeBrackets 27 = .ok (.getfield 45, 3) := by decide +kernel
theorem dX1_closeBrackets_30 : decode cX1_closeBrackets 30 = .ok (.invokevirtual 77, 3) := by decide +kernel
theorem dX1_closeBrackets_33 : decode cX1_closeBrackets 33 = .ok (.ifCond .ne 5, 3) := by decide +kernel
theorem dX1_closeBrackets_36 : decode cX1_closeBrackets 36 = .ok (.iconst 0, 1) := by decide +kernel
theorem dX1_closeBrackets_37 : decode cX1_closeBrackets 37 = .ok (.ireturn, 1) := by decide +kernel
theorem dX1_closeBrackets_38 : decode cX1_closeBrackets 38 = .ok (.aload_n 0, 1) := by decide +kernel
theorem dX1_closeBrackets_39 : decode cX1_closeBrackets 39 = .ok (.iconst 0, 1) := by decide +kernel
theorem dX1_closeBrackets_40 : decode cX1_closeBrackets 40 = .ok (.putfield 45, 3) := by decide +kernel
theorem dX1_closeBrackets_43 : decode cX1_closeBrackets 43 = .ok (.aload_n 0, 1) := by decide +kernel
theorem dX1_closeBrackets_44 : decode cX1_closeBrackets 44 = .ok (.bipush 41, 2) := by decide +kernel
theorem dX1_closeBrackets_46 : decode cX1_closeBrackets 46 = .ok (.invokevirtual 60, 3) := by decide +kernel
theorem dX1_closeBrackets_49 : decode cX1_closeBrackets 49 = .ok (.ireturn, 1) := by decide +kernel
theorem dX1_readBar_0 : decode cX1_readBar 0 = .ok (.aload_n 0, 1) := by decide +kernel
theorem dX1_readBar_1 : decode cX1_readBar 1 = .ok (.invokevirtual 64, 3) := by decide +kernel
theorem dX1_readBar_4 : decode cX1_readBar 4 = .ok (.bipush 45, 2) := by decide +kernel
theorem dX1_readBar_6 : decode cX1_readBar 6 = .ok (.if_icmp .ne 7, 3) := by decide +kernel
theorem dX1_readBar_9 : decode cX1_readBar 9 = .ok (.iconst 1, 1) := by decide +kernel
theorem dX1_readBar_10 : decode cX1_readBar 10 = .ok (.goto 4, 3) := by decide +kernel
theorem dX1_readBar_13 : decode cX1_readBar 13 = .ok (.iconst 0, 1) := by decide +kernel
theorem dX1_readBar_14 : decode cX1_readBar 14 = .ok (.istore_n 1, 1) := by decide +kernel
theorem dX1_readBar_15 : decode cX1_readBar 15 = .ok (.aload_n 0, 1) := by decide +kernel
theorem dX1_readBar_16 : decode cX1_readBar 16 = .ok (.getfield 23, 3) := by decide +kernel
theorem dX1_readBar_19 : decode cX1_readBar 19 = .ok (.invokevirtual 81, 3) := by decide +kernel
theorem dX1_readBar_22 : decode cX1_readBar 22 = .ok (.ifCond .ne 18, 3) := by decide +kernel
theorem dX1_readBar_25 : decode cX1_readBar 25 = .ok (.iload_n 1, 1) := by decide +kernel
theorem dX1_readBar_26 : decode cX1_readBar 26 = .ok (.ifCond .ne 16, 3) := by decide +kernel
theorem dX1_readBar_29 : decode cX1_readBar 29 = .ok (.aload_n 0, 1) := by decide +kernel
theorem dX1_readBar_30 : decode cX1_readBar 30 = .ok (.aload_n 0, 1) := by decide +kernel
theorem dX1_readBar_31 : decode cX1_readBar 31 = .ok (.invokevirtual 64, 3) := by decide +kernel
theorem dX1_readBar_34 : decode cX1_readBar 34 = .ok (.invokevirtual 82, 3) := by decide +kernel
theorem dX1_readBar_37 : decode cX1_readBar 37 = .ok (.ifCond .ne 5, 3) := by decide +kernel
theorem dX1_readBar_40 : decode cX1_readBar 40 = .ok (.iconst 0, 1) := by decide +kernel
theorem dX1_readBar_41 : decode cX1_readBar 41 = .ok (.ireturn, 1) := by decide +kernel
theorem dX1_readBar_42 : decode cX1_readBar 42 = .ok (.iconst 0, 1) := by decide +kernel
theorem dX1_readBar_43 : decode cX1_readBar 43 = .ok (.istore_n 2, 1) := by decide +kernel
theorem dX1_readBar_44 : decode cX1_readBar 44 = .ok (.iload_n 1, 1) := by decide +kernel
theorem dX1_readBar_45 : decode cX1_readBar 45 = .ok (.ifCond .eq 16, 3) := by decide +kernel
theorem dX1_readBar_48 : decode cX1_readBar 48 = .ok (.aload_n 0, 1) := by decide +kernel
theorem dX1_readBar_49 : decode cX1_readBar 49 = .ok (.dup, 1) := by decide +kernel
theorem dX1_readBar_50 : decode cX1_readBar 50 = .ok (.getfield 42, 3) := by decide +kernel
theorem dX1_readBar_53 : decode cX1_readBar 53 = .ok (.iconst 1, 1) := by decide +kernel
theorem dX1_readBar_54 : decode cX1_readBar 54 = .ok (.iadd, 1) := by decide +kernel
theorem dX1_readBar_55 : decode cX1_readBar 55 = .ok (.putfield 42, 3) := by decide +kernel
theorem dX1_readBar_58 : decode cX1_readBar 58 = .ok (.goto 8, 3) := by decide +kernel
theorem dX1_readBar_61 : decode cX1_readBar 61 = .ok (.aload_n 0, 1) := by decide +kernel
theorem dX1_readBar_62 : decode cX1_readBar 62 = .ok (.invokevirtual 85, 3) := by decide +kernel
theorem dX1_readBar_65 : decode cX1_readBar 65 = .ok (.istore_n 2, 1) := by decide +kernel
theorem dX1_readBar_66 : decode cX1_readBar 66 = .ok (.iconst 0, 1) := by decide +kernel
theorem dX1_readBar_67 : decode cX1_readBar 67 = .ok (.istore_n 3, 1) := by decide +kernel
theorem dX1_readBar_68 : decode cX1_readBar 68 = .ok (.aload_n 0, 1) := by decide +kernel
theorem dX1_readBar_69 : decode cX1_readBar 69 = .ok (.bipush 99, 2) := by decide +kernel
theorem dX1_readBar_71 : decode cX1_readBar 71 = .ok (.invokevirtual 60, 3) := by decide +kernel
theorem dX1_readBar_74 : decode cX1_readBar 74 = .ok (.ifCond .eq 34, 3) := by decide +kernel
theorem dX1_readBar_77 : decode cX1_readBar 77 = .ok (.aload_n 0, 1) := by decide +kernel
theorem dX1_readBar_78 : decode cX1_readBar 78 = .ok (.aload_n 0, 1) := by decide +kernel
theorem dX1_readBar_79 : decode cX1_readBar 79 = .ok (.invokevirtual 64, 3) := by decide +kernel
theorem dX1_readBar_82 : decode cX1_readBar 82 = .ok (.invokevirtual 88, 3) := by decide +kernel
theorem dX1_readBar_85 : decode cX1_readBar 85 = .ok (.ifCond .ne 5, 3) := by decide +kernel
theorem dX1_readBar_88 : decode cX1_readBar 88 = .ok (.iconst 0, 1) := by decide +kernel
theorem dX1_readBar_89 : decode cX1_readBar 89 = .ok (.ireturn, 1) := by decide +kernel
theorem dX1_readBar_90 : decode cX1_readBar 90 = .ok (.aload_n 0, 1) := by decide +kernel
theorem dX1_readBar_91 : decode cX1_readBar 91 = .ok (.invokevirtual 64, 3) := by decide +kernel
theorem dX1_readBar_94 : decode cX1_readBar 94 = .ok (.bipush 48, 2) := by decide +kernel
theorem dX1_readBar_96 : decode cX1_readBar 96 = .ok (.isub, 1) := by decide +kernel
theorem dX1_readBar_97 : decode cX1_readBar 97 = .ok (.istore_n 3, 1) := by decide +kernel
theorem dX1_readBar_98 : decode cX1_readBar 98 = .ok (.aload_n 0, 1) := by decide +kernel
theorem dX1_readBar_99 : decode cX1_readBar 99 = .ok (.dup, 1) := by decide +kernel
theorem dX1_readBar_100 : decode cX1_readBar 100 = .ok (.getfield 42, 3) := by decide +kernel
theorem dX1_readBar_103 : decode cX1_readBar 103 = .ok (.iconst 1, 1) := by decide +kernel
theorem dX1_readBar_104 : decode cX1_readBar 104 = .ok (.iadd, 1) := by decide +kernel
theorem dX1_readBar_105 : decode cX1_readBar 105 = .ok (.putfield 42, 3) := by decide +kernel
theorem dX1_readBar_108 : decode cX1_readBar 108 = .ok (.aload_n 0, 1) := by decide +kernel
theorem dX1_readBar_109 : decode cX1_readBar 109 = .ok (.getfield 23, 3) := by decide +kernel
theorem dX1_readBar_112 : decode cX1_readBar 112 = .ok (.iload_n 2, 1) := by decide +kernel
theorem dX1_readBar_113 : decode cX1_readBar 113 = .ok (.iload_n 3, 1) := by decide +kernel
theorem dX1_readBar_114 : decode cX1_readBar 114 = .ok (.invokevirtual 91, 3) := by decide +kernel
theorem dX1_readBar_117 : decode cX1_readBar 117 = .ok (.iconst 1, 1) := by decide +kernel
theorem dX1_readBar_118 : decode cX1_readBar 118 = .ok (.ireturn, 1) := by decide +kernel
theorem dX1_readShafts_0 : decode cX1_readShafts 0 = .ok (.iconst 0, 1) := by decide +kernel
theorem dX1_readShafts_1 : decode cX1_readShafts 1 = .ok (.istore_n 1, 1) := by decide +kernel
theorem dX1_readShafts_2 : decode cX1_readShafts 2 = .ok (.bipush 48, 2) := by decide +kernel
theorem dX1_readShafts_4 : decode cX1_readShafts 4 = .ok (.istore_n 2, 1) := by decide +kernel
theorem dX1_readShafts_5 : decode cX1_readShafts 5 = .ok (.aload_n 0, 1) := by decide +kernel
theorem dX1_readShafts_6 : decode cX1_readShafts 6 = .ok (.getfield 42, 3) := by decide +kernel
theorem dX1_readShafts_9 : decode cX1_readShafts 9 = .ok (.aload_n 0, 1) := by decide +kernel
theorem dX1_readShafts_10 : decode cX1_readShafts 10 = .ok (.getfield 27, 3) := by decide +kernel
theorem dX1_readShafts_13 : decode cX1_readShafts 13 = .ok (.if_icmp .ge 54, 3) := by decide +kernel
theorem dX1_readShafts_16 : decode cX1_readShafts 16 = .ok (.aload_n 0, 1) := by decide +kernel
theorem dX1_readShafts_17 : decode cX1_readShafts 17 = .ok (.aload_n 0, 1) := by decide +kernel
theorem dX1_readShafts_18 : decode cX1_readShafts 18 = .ok (.invokevirtual 64, 3) := by decide +kernel
theorem dX1_readShafts_21 : decode cX1_readShafts 21 = .ok (.invokevirtual 82, 3) := by decide +kernel
theorem dX1_readShafts_24 : decode cX1_readShafts 24 = .ok (.ifCond .eq 43, 3) := by decide +kernel
theorem dX1_readShafts_27 : decode cX1_readShafts 27 = .ok (.aload_n 0, 1) := by decide +kernel
theorem dX1_readShafts_28 : decode cX1_readShafts 28 = .ok (.invokevirtual 64, 3) := by decide +kernel
theorem dX1_readShafts_31 : decode cX1_readShafts 31 = .ok (.iload_n 2, 1) := by decide +kernel
theorem dX1_readShafts_32 : decode cX1_readShafts 32 = .ok (.if_icmp .lt 35, 3) := by decide +kernel
theorem dX1_readShafts_35 : decode cX1_readShafts 35 = .ok (.iload_n 1, 1) := by decide +kernel
theorem dX1_readShafts_36 : decode cX1_readShafts 36 = .ok (.iconst 1, 1) := by decide +kernel
theorem dX1_readShafts_37 : decode cX1_readShafts 37 = .ok (.aload_n 0, 1) := by decide +kernel
theorem dX1_readShafts_38 : decode cX1_readShafts 38 = .ok (.invokevirtual 64, 3) := by decide +kernel
theorem dX1_readShafts_41 : decode cX1_readShafts 41 = .ok (.bipush 48, 2) := by decide +kernel
theorem dX1_readShafts_43 : decode cX1_readShafts 43 = .ok (.isub, 1) := by decide +kernel
theorem dX1_readShafts_44 : decode cX1_readShafts 44 = .ok (.ishl, 1) := by decide +kernel
theorem dX1_readShafts_45 : decode cX1_readShafts 45 = .ok (.ior, 1) := by decide +kernel
theorem dX1_readShafts_46 : decode cX1_readShafts 46 = .ok (.istore_n 1, 1) := by decide +kernel
theorem dX1_readShafts_47 : decode cX1_readShafts 47 = .ok (.aload_n 0, 1) := by decide +kernel
theorem dX1_readShafts_48 : decode cX1_readShafts 48 = .ok (.invokevirtual 64, 3) := by decide +kernel
theorem dX1_readShafts_51 : decode cX1_readShafts 51 = .ok (.iconst 1, 1) := by decide +kernel
theorem dX1_readShafts_52 : decode cX1_readShafts 52 = .ok (.iadd, 1) := by decide +kernel
theorem dX1_readShafts_53 : decode cX1_readShafts 53 = .ok (.istore_n 2, 1) := by decide +kernel
theorem dX1_readShafts_54 : decode cX1_readShafts 54 = .ok (.aload_n 0, 1) := by decide +kernel
theorem dX1_readShafts_55 : decode cX1_readShafts 55 = .ok (.dup, 1) := by decide +kernel
theorem dX1_readShafts_56 : decode cX1_readShafts 56 = .ok (.getfield 42, 3) := by decide +kernel
theorem dX1_readShafts_59 : decode cX1_readShafts 59 = .ok (.iconst 1, 1) := by decide +kernel
theorem dX1_readShafts_60 : decode cX1_readShafts 60 = .ok (.iadd, 1) := by decide +kernel
theorem dX1_readShafts_61 : decode cX1_readShafts 61 = .ok (.putfield 42, 3) := by decide +kernel
theorem dX1_readShafts_64 : decode cX1_readShafts 64 = .ok (.goto (-59), 3) := by decide +kernel
theorem dX1_readShafts_67 : decode cX1_readShafts 67 = .ok (.iload_n 1, 1) := by decide +kernel
theorem dX1_readShafts_68 : decode cX1_readShafts 68 = .ok (.ireturn, 1) := by decide +kernel
theorem dX1_isNumberAhead_0 : decode cX1_isNumberAhead 0 = .ok (.aload_n 0, 1) := by decide +kernel
theorem dX1_isNumberAhead_1 : decode cX1_isNumberAhead 1 = .ok (.aload_n 0, 1) := by decide +kernel
theorem dX1_isNumberAhead_2 : decode cX1_isNumberAhead 2 = .ok (.invokevirtual 64, 3) := by decide +kernel
theorem dX1_isNumberAhead_5 : decode cX1_isNumberAhead 5 = .ok (.invokevirtual 88, 3) := by decide +kernel
theorem dX1_isNumberAhead_8 : decode cX1_isNumberAhead 8 = .ok (.ifCond .eq 26, 3) := by decide +kernel
theorem dX1_isNumberAhead_11 : decode cX1_isNumberAhead 11 = .ok (.aload_n 0, 1) := by decide +kernel
theorem dX1_isNumberAhead_12 : decode cX1_isNumberAhead 12 = .ok (.aload_n 0, 1) := by decide +kernel
theorem dX1_isNumberAhead_13 : decode cX1_isNumberAhead 13 = .ok (.aload_n 0, 1) := by decide +kernel
theorem dX1_isNumberAhead_14 : decode cX1_isNumberAhead 14 = .ok (.getfield 42, 3) := by decide +kernel
theorem dX1_isNumberAhead_17 : decode cX1_isNumberAhead 17 = .ok (.iconst 1, 1) := by decide +kernel
theorem dX1_isNumberAhead_18 : decode cX1_isNumberAhead 18 = .ok (.iadd, 1) := by decide +kernel
theorem dX1_isNumberAhead_19 : decode cX1_isNumberAhead 19 = .ok (.invokevirtual 94, 3) := by decide +kernel
theorem dX1_isNumberAhead_22 : decode cX1_isNumberAhead 22 = .ok (.invokevirtual 98, 3) := by decide +kernel
theorem dX1_isNumberAhead_25 : decode cX1_isNumberAhead 25 = .ok (.bipush 120, 2) := by decide +kernel
theorem dX1_isNumberAhead_27 : decode cX1_isNumberAhead 27 = .ok (.if_icmp .ne 7, 3) := by decide +kernel
theorem dX1_isNumberAhead_30 : decode cX1_isNumberAhead 30 = .ok (.iconst 1, 1) := by decide +kernel
theorem dX1_isNumberAhead_31 : decode cX1_isNumberAhead 31 = .ok (.goto 4, 3) := by decide +kernel
theorem dX1_isNumberAhead_34 : decode cX1_isNumberAhead 34 = .ok (.iconst 0, 1) := by decide +kernel
theorem dX1_isNumberAhead_35 : decode cX1_isNumberAhead 35 = .ok (.ireturn, 1) := by decide +kernel
theorem dX1_isDigit_0 : decode cX1_isDigit 0 = .ok (.iload_n 1, 1) := by decide +kernel
theorem dX1_isDigit_1 : decode cX1_isDigit 1 = .ok (.bipush 48, 2) := by decide +kernel
theorem dX1_isDigit_3 : decode cX1_isDigit 3 = .ok (.bipush 57, 2) := by decide +kernel
theorem dX1_isDigit_5 : decode cX1_isDigit 5 = .ok (.invokestatic 101, 3) := by decide +kernel
theorem dX1_isDigit_8 : decode cX1_isDigit 8 = .ok (.ireturn, 1) := by decide +kernel
theorem dX1_isShaft_0 : decode cX1_isShaft 0 = .ok (.iload_n 1, 1) := by decide +kernel
theorem dX1_isShaft_1 : decode cX1_isShaft 1 = .ok (.bipush 48, 2) := by decide +kernel
theorem dX1_isShaft_3 : decode cX1_isShaft 3 = .ok (.bipush 48, 2) := by decide +kernel
theorem dX1_isShaft_5 : decode cX1_isShaft 5 = .ok (.aload_n 0, 1) := by decide +kernel
theorem dX1_isShaft_6 : decode cX1_isShaft 6 = .ok (.getfield 39, 3) := by decide +kernel
theorem dX1_isShaft_9 : decode cX1_isShaft 9 = .ok (.iadd, 1) := by decide +kernel
theorem dX1_isShaft_10 : decode cX1_isShaft 10 = .ok (.iconst 1, 1) := by decide +kernel
theorem dX1_isShaft_11 : decode cX1_isShaft 11 = .ok (.isub, 1) := by decide +kernel
theorem dX1_isShaft_12 : decode cX1_isShaft 12 = .ok (.invokestatic 101, 3) := by decide +kernel
theorem dX1_isShaft_15 : decode cX1_isShaft 15 = .ok (.ireturn, 1) := by decide +kernel
theorem dX1_peek_0 : decode cX1_peek 0 = .ok (.aload_n 0, 1) := by decide +kernel
theorem dX1_peek_1 : decode cX1_peek 1 = .ok (.aload_n 0, 1) := by decide +kernel
theorem dX1_peek_2 : decode cX1_peek 2 = .ok (.aload_n 0, 1) := by decide +kernel
theorem dX1_peek_3 : decode cX1_peek 3 = .ok (.getfield 42, 3) := by decide +kernel
theorem dX1_peek_6 : decode cX1_peek 6 = .ok (.invokevirtual 94, 3) := by decide +kernel
theorem dX1_peek_9 : decode cX1_peek 9 = .ok (.putfield 42, 3) := by decide +kernel
theorem dX1_peek_12 : decode cX1_peek 12 = .ok (.aload_n 0, 1) := by decide +kernel
theorem dX1_peek_13 : decode cX1_peek 13 = .ok (.aload_n 0, 1) := by decide +kernel
theorem dX1_peek_14 : decode cX1_peek 14 = .ok (.getfield 42, 3) := by decide +kernel
theorem dX1_peek_17 : decode cX1_peek 17 = .ok (.invokevirtual 98, 3) := by decide +kernel
theorem dX1_peek_20 : decode cX1_peek 20 = .ok (.ireturn, 1) := by decide +kernel
theorem dX1_take_0 : decode cX1_take 0 = .ok (.aload_n 0, 1) := by decide +kernel
theorem dX1_take_1 : decode cX1_take 1 = .ok (.invokevirtual 64, 3) := by decide +kernel
theorem dX1_take_4 : decode cX1_take 4 = .ok (.iload_n 1, 1) := by decide +kernel
theorem dX1_take_5 : decode cX1_take 5 = .ok (.if_icmp .eq 5, 3) := by decide +kernel
theorem dX1_take_8 : decode cX1_take 8 = .ok (.iconst 0, 1) := by decide +kernel
theorem dX1_take_9 : decode cX1_take 9 = .ok (.ireturn, 1) := by decide +kernel
theorem dX1_take_10 : decode cX1_take 10 = .ok (.aload_n 0, 1) := by decide +kernel
theorem dX1_take_11 : decode cX1_take 11 = .ok (.dup, 1) := by decide +kernel
theorem dX1_take_12 : decode cX1_take 12 = .ok (.getfield 42, 3) := by decide +kernel
theorem dX1_take_15 : decode cX1_take 15 = .ok (.iconst 1, 1) := by decide +kernel
theorem dX1_take_16 : decode cX1_take 16 = .ok (.iadd, 1) := by decide +kernel
theorem dX1_take_17 : decode cX1_take 17 = .ok (.putfield 42, 3) := by decide +kernel
theorem dX1_take_20 : decode cX1_take 20 = .ok (.iconst 1, 1) := by decide +kernel
theorem dX1_take_21 : decode cX1_take 21 = .ok (.ireturn, 1) := by decide +kernel
theorem dX1_placeBehindSpaces_0 : decode cX1_placeBehindSpaces 0 = .ok (.iload_n 1, 1) := by decide +kernel
theorem dX1_placeBehindSpaces_1 : decode cX1_placeBehindSpaces 1 = .ok (.istore_n 2, 1) := by decide +kernel
theorem dX1_placeBehindSpaces_2 : decode cX1_placeBehindSpaces 2 = .ok (.iload_n 2, 1) := by decide +kernel
theorem dX1_placeBehindSpaces_3 : decode cX1_placeBehindSpaces 3 = .ok (.aload_n 0, 1) := by decide +kernel
theorem dX1_placeBehindSpaces_4 : decode cX1_placeBehindSpaces 4 = .ok (.getfield 27, 3) := by decide +kernel
theorem dX1_placeBehindSpaces_7 : decode cX1_placeBehindSpaces 7 = .ok (.if_icmp .ge 22, 3) := by decide +kernel
theorem dX1_placeBehindSpaces_10 : decode cX1_placeBehindSpaces 10 = .ok (.aload_n 0, 1) := by decide +kernel
theorem dX1_placeBehindSpaces_11 : decode cX1_placeBehindSpaces 11 = .ok (.getfield 14, 3) := by decide +kernel
theorem dX1_placeBehindSpaces_14 : decode cX1_placeBehindSpaces 14 = .ok (.iload_n 2, 1) := by decide +kernel
theorem dX1_placeBehindSpaces_15 : decode cX1_placeBehindSpaces 15 = .ok (.invokevirtual 105, 3) := by decide +kernel
theorem dX1_placeBehindSpaces_18 : decode cX1_placeBehindSpaces 18 = .ok (.bipush 32, 2) := by decide +kernel
theorem dX1_placeBehindSpaces_20 : decode cX1_placeBehindSpaces 20 = .ok (.if_icmp .ne 9, 3) := by decide +kernel
theorem dX1_placeBehindSpaces_23 : decode cX1_placeBehindSpaces 23 = .ok (.iinc 2 1, 3) := by decide +kernel
theorem dX1_placeBehindSpaces_26 : decode cX1_placeBehindSpaces 26 = .ok (.goto (-24), 3) := by decide +kernel
theorem dX1_placeBehindSpaces_29 : decode cX1_placeBehindSpaces 29 = .ok (.iload_n 2, 1) := by decide +kernel
theorem dX1_placeBehindSpaces_30 : decode cX1_placeBehindSpaces 30 = .ok (.ireturn, 1) := by decide +kernel
theorem dX1_characterAt_0 : decode cX1_characterAt 0 = .ok (.iload_n 1, 1) := by decide +kernel
theorem dX1_characterAt_1 : decode cX1_characterAt 1 = .ok (.aload_n 0, 1) := by decide +kernel
theorem dX1_characterAt_2 : decode cX1_characterAt 2 = .ok (.getfield 27, 3) := by decide +kernel
theorem dX1_characterAt_5 : decode cX1_characterAt 5 = .ok (.if_icmp .ge 14, 3) := by decide +kernel
theorem dX1_characterAt_8 : decode cX1_characterAt 8 = .ok (.aload_n 0, 1) := by decide +kernel
theorem dX1_characterAt_9 : decode cX1_characterAt 9 = .ok (.getfield 14, 3) := by decide +kernel
theorem dX1_characterAt_12 : decode cX1_characterAt 12 = .ok (.iload_n 1, 1) := by decide +kernel
theorem dX1_characterAt_13 : decode cX1_characterAt 13 = .ok (.invokevirtual 105, 3) := by decide +kernel
theorem dX1_characterAt_16 : decode cX1_characterAt 16 = .ok (.goto 4, 3) := by decide +kernel
theorem dX1_characterAt_19 : decode cX1_characterAt 19 = .ok (.iconst (-1), 1) := by decide +kernel
theorem dX1_characterAt_20 : decode cX1_characterAt 20 = .ok (.ireturn, 1) := by decide +kernel
theorem dX2_init_0 : decode cX2_init 0 = .ok (.aload_n 0, 1) := by decide +kernel
theorem dX2_init_1 : decode cX2_init 1 = .ok (.invokespecial 3, 3) := by decide +kernel
theorem dX2_init_4 : decode cX2_init 4 = .ok (.aload_n 0, 1) := by decide +kernel
theorem dX2_init_5 : decode cX2_init 5 = .ok (.new 9, 3) := by decide +kernel
theorem dX2_init_8 : decode cX2_init 8 = .ok (.dup, 1) := by decide +kernel
theorem dX2_init_9 : decode cX2_init 9 = .ok (.bipush 64, 2) := by decide +kernel
theorem dX2_init_11 : decode cX2_init 11 = .ok (.invokespecial 11, 3) := by decide +kernel
theorem dX2_init_14 : decode cX2_init 14 = .ok (.putfield 14, 3) := by decide +kernel
theorem dX2_init_17 : decode cX2_init 17 = .ok (.aload_n 0, 1) := by decide +kernel
theorem dX2_init_18 : decode cX2_init 18 = .ok (.new 9, 3) := by decide +kernel
theorem dX2_init_21 : decode cX2_init 21 = .ok (.dup, 1) := by decide +kernel
theorem dX2_init_22 : decode cX2_init 22 = .ok (.bipush 64, 2) := by decide +kernel
theorem dX2_init_24 : decode cX2_init 24 = .ok (.invokespecial 11, 3) := by decide +kernel
theorem dX2_init_27 : decode cX2_init 27 = .ok (.putfield 20, 3) := by decide +kernel
theorem dX2_init_30 : decode cX2_init 30 = .ok (.aload_n 0, 1) := by decide +kernel
theorem dX2_init_31 : decode cX2_init 31 = .ok (.new 9, 3) := by decide +kernel
theorem dX2_init_34 : decode cX2_init 34 = .ok (.dup, 1) := by decide +kernel
theorem dX2_init_35 : decode cX2_init 35 = .ok (.bipush 64, 2) := by decide +kernel
theorem dX2_init_37 : decode cX2_init 37 = .ok (.invokespecial 11, 3) := by decide +kernel
theorem dX2_init_40 : decode cX2_init 40 = .ok (.putfield 23, 3) := by decide +kernel
theorem dX2_init_43 : decode cX2_init 43 = .ok (.aload_n 0, 1) := by decide +kernel
theorem dX2_init_44 : decode cX2_init 44 = .ok (.new 9, 3) := by decide +kernel
theorem dX2_init_47 : decode cX2_init 47 = .ok (.dup, 1) := by decide +kernel
theorem dX2_init_48 : decode cX2_init 48 = .ok (.bipush 64, 2) := by decide +kernel
theorem dX2_init_50 : decode cX2_init 50 = .ok (.invokespecial 11, 3) := by decide +kernel
theorem dX2_init_53 : decode cX2_init 53 = .ok (.putfield 26, 3) := by decide +kernel
theorem dX2_init_56 : decode cX2_init 56 = .ok (.aload_n 0, 1) := by decide +kernel
theorem dX2_init_57 : decode cX2_init 57 = .ok (.new 9, 3) := by decide +kernel
theorem dX2_init_60 : decode cX2_init 60 = .ok (.dup, 1) := by decide +kernel
theorem dX2_init_61 : decode cX2_init 61 = .ok (.bipush 64, 2) := by decide +kernel
theorem dX2_init_63 : decode cX2_init 63 = .ok (.invokespecial 11, 3) := by decide +kernel
theorem dX2_init_66 : decode cX2_init 66 = .ok (.putfield 29, 3) := by decide +kernel
theorem dX2_init_69 : decode cX2_init 69 = .ok (.aload_n 0, 1) := by decide +kernel
theorem dX2_init_70 : decode cX2_init 70 = .ok (.new 9, 3) := by decide +kernel
theorem dX2_init_73 : decode cX2_init 73 = .ok (.dup, 1) := by decide +kernel
theorem dX2_init_74 : decode cX2_init 74 = .ok (.bipush 64, 2) := by decide +kernel
theorem dX2_init_76 : decode cX2_init 76 = .ok (.invokespecial 11, 3) := by decide +kernel
theorem dX2_init_79 : decode cX2_init 79 = .ok (.putfield 32, 3) := by decide +kernel
theorem dX2_init_82 : decode cX2_init 82 = .ok (.return_, 1) := by decide +kernel
theorem dX2_copyFrom_0 : decode cX2_copyFrom 0 = .ok (.aload_n 0, 1) := by decide +kernel
theorem dX2_copyFrom_1 : decode cX2_copyFrom 1 = .ok (.aload_n 1, 1) := by decide +kernel
theorem dX2_copyFrom_2 : decode cX2_copyFrom 2 = .ok (.getfield 35, 3) := by decide +kernel
theorem dX2_copyFrom_5 : decode cX2_copyFrom 5 = .ok (.putfield 35, 3) := by decide +kernel
theorem dX2_copyFrom_8 : decode cX2_copyFrom 8 = .ok (.aload_n 0, 1) := by decide +kernel
theorem dX2_copyFrom_9 : decode cX2_copyFrom 9 = .ok (.getfield 14, 3) := by decide +kernel
theorem dX2_copyFrom_12 : decode cX2_copyFrom 12 = .ok (.aload_n 1, 1) := by decide +kernel
theorem dX2_copyFrom_13 : decode cX2_copyFrom 13 = .ok (.getfield 14, 3) := by decide +kernel
theorem dX2_copyFrom_16 : decode cX2_copyFrom 16 = .ok (.invokevirtual 39, 3) := by decide +kernel
theorem dX2_copyFrom_19 : decode cX2_copyFrom 19 = .ok (.aload_n 0, 1) := by decide +kernel
theorem dX2_copyFrom_20 : decode cX2_copyFrom 20 = .ok (.getfield 20, 3) := by decide +kernel
theorem dX2_copyFrom_23 : decode cX2_copyFrom 23 = .ok (.aload_n 1, 1) := by decide +kernel
theorem dX2_copyFrom_24 : decode cX2_copyFrom 24 = .ok (.getfield 20, 3) := by decide +kernel
theorem dX2_copyFrom_27 : decode cX2_copyFrom 27 = .ok (.invokevirtual 39, 3) := by decide +kernel
theorem dX2_copyFrom_30 : decode cX2_copyFrom 30 = .ok (.aload_n 0, 1) := by decide +kernel
theorem dX2_copyFrom_31 : decode cX2_copyFrom 31 = .ok (.getfield 23, 3) := by decide +kernel
theorem dX2_copyFrom_34 : decode cX2_copyFrom 34 = .ok (.aload_n 1, 1) := by decide +kernel
theorem dX2_copyFrom_35 : decode cX2_copyFrom 35 = .ok (.getfield 23, 3) := by decide +kernel
theorem dX2_copyFrom_38 : decode cX2_copyFrom 38 = .ok (.invokevirtual 39, 3) := by decide +kernel
theorem dX2_copyFrom_41 : decode cX2_copyFrom 41 = .ok (.aload_n 0, 1) := by decide +kernel
theorem dX2_copyFrom_42 : decode cX2_copyFrom 42 = .ok (.getfield 26, 3) := by decide +kernel
theorem dX2_copyFrom_45 : decode cX2_copyFrom 45 = .ok (.aload_n 1, 1) := by decide +kernel
theorem dX2_copyFrom_46 : decode cX2_copyFrom 46 = .ok (.getfield 26, 3) := by decide +kernel
theorem dX2_copyFrom_49 : decode cX2_copyFrom 49 = .ok (.invokevirtual 39, 3) := by decide +kernel
theorem dX2_copyFrom_52 : decode cX2_copyFrom 52 = .ok (.aload_n 0, 1) := by decide +kernel
theorem dX2_copyFrom_53 : decode cX2_copyFrom 53 = .ok (.getfield 29, 3) := by decide +kernel
theorem dX2_copyFrom_56 : decode cX2_copyFrom 56 = .ok (.aload_n 1, 1) := by decide +kernel
theorem dX2_copyFrom_57 : decode cX2_copyFrom 57 = .ok (.getfield 29, 3) := by decide +kernel
theorem dX2_copyFrom_60 : decode cX2_copyFrom 60 = .ok (.invokevirtual 39, 3) := by decide +kernel
theorem dX2_copyFrom_63 : decode cX2_copyFrom 63 = .ok (.aload_n 0, 1) := by decide +kernel
theorem dX2_copyFrom_64 : decode cX2_copyFrom 64 = .ok (.getfield 32, 3) := by decide +kernel
theorem dX2_copyFrom_67 : decode cX2_copyFrom 67 = .ok (.aload_n 1, 1) := by decide +kernel
theorem dX2_copyFrom_68 : decode cX2_copyFrom 68 = .ok (.getfield 32, 3) := by decide +kernel
theorem dX2_copyFrom_71 : decode cX2_copyFrom 71 = .ok (.invokevirtual 39, 3) := by decide +kernel
theorem dX2_copyFrom_74 : decode cX2_copyFrom 74 = .ok (.return_, 1) := by decide +kernel
theorem dX2_hasRow_0 : decode cX2_hasRow 0 = .ok (.iload_n 1, 1) := by decide +kernel
theorem dX2_hasRow_1 : decode cX2_hasRow 1 = .ok (.iconst 0, 1) := by decide +kernel
theorem dX2_hasRow_2 : decode cX2_hasRow 2 = .ok (.aload_n 0, 1) := by decide +kernel
theorem dX2_hasRow_3 : decode cX2_hasRow 3 = .ok (.getfield 35, 3) := by decide +kernel
theorem dX2_hasRow_6 : decode cX2_hasRow 6 = .ok (.iconst 1, 1) := by decide +kernel
theorem dX2_hasRow_7 : decode cX2_hasRow 7 = .ok (.isub, 1) := by decide +kernel
theorem dX2_hasRow_8 : decode cX2_hasRow 8 = .ok (.invokestatic 43, 3) := by decide +kernel
theorem dX2_hasRow_11 : decode cX2_hasRow 11 = .ok (.ireturn, 1) := by decide +kernel
theorem dX2_isFull_0 : decode cX2_isFull 0 = .ok (.aload_n 0, 1) := by decide +kernel
theorem dX2_isFull_1 : decode cX2_isFull 1 = .ok (.getfield 35, 3) := by decide +kernel
theorem dX2_isFull_4 : decode cX2_isFull 4 = .ok (.bipush 64, 2) := by decide +kernel
theorem dX2_isFull_6 : decode cX2_isFull 6 = .ok (.if_icmp .lt 7, 3) := by decide +kernel
theorem dX2_isFull_9 : decode cX2_isFull 9 = .ok (.iconst 1, 1) := by decide +kernel
theorem dX2_isFull_10 : decode cX2_isFull 10 = .ok (.goto 4, 3) := by decide +kernel
theorem dX2_isFull_13 : decode cX2_isFull 13 = .ok (.iconst 0, 1) := by decide +kernel
theorem dX2_isFull_14 : decode cX2_isFull 14 = .ok (.ireturn, 1) := by decide +kernel
theorem dX2_isStanding_0 : decode cX2_isStanding 0 = .ok (.aload_n 0, 1) := by decide +kernel
theorem dX2_isStanding_1 : decode cX2_isStanding 1 = .ok (.getfield 35, 3) := by decide +kernel
theorem dX2_isStanding_4 : decode cX2_isStanding 4 = .ok (.ifCond .le 23, 3) := by decide +kernel
theorem dX2_isStanding_7 : decode cX2_isStanding 7 = .ok (.aload_n 0, 1) := by decide +kernel
theorem dX2_isStanding_8 : decode cX2_isStanding 8 = .ok (.getfield 29, 3) := by decide +kernel
theorem dX2_isStanding_11 : decode cX2_isStanding 11 = .ok (.aload_n 0, 1) := by decide +kernel
theorem dX2_isStanding_12 : decode cX2_isStanding 12 = .ok (.getfield 35, 3) := by decide +kernel
theorem dX2_isStanding_15 : decode cX2_isStanding 15 = .ok (.iconst 1, 1) := by decide +kernel
theorem dX2_isStanding_16 : decode cX2_isStanding 16 = .ok (.isub, 1) := by decide +kernel
theorem dX2_isStanding_17 : decode cX2_isStanding 17 = .ok (.invokevirtual 47, 3) := by decide +kernel
theorem dX2_isStanding_20 : decode cX2_isStanding 20 = .ok (.ifCond .eq 7, 3) := by decide +kernel
theorem dX2_isStanding_23 : decode cX2_isStanding 23 = .ok (.iconst 1, 1) := by decide +kernel
theorem dX2_isStanding_24 : decode cX2_isStanding 24 = .ok (.goto 4, 3) := by decide +kernel
theorem dX2_isStanding_27 : decode cX2_isStanding 27 = .ok (.iconst 0, 1) := by decide +kernel
theorem dX2_isStanding_28 : decode cX2_isStanding 28 = .ok (.ireturn, 1) := by decide +kernel
theorem dX2_wrongEnds_0 : decode cX2_wrongEnds 0 = .ok (.aload_n 0, 1) := by decide +kernel
theorem dX2_wrongEnds_1 : decode cX2_wrongEnds 1 = .ok (.getfield 29, 3) := by decide +kernel
theorem dX2_wrongEnds_4 : decode cX2_wrongEnds 4 = .ok (.iload_n 1, 1) := by decide +kernel
theorem dX2_wrongEnds_5 : decode cX2_wrongEnds 5 = .ok (.invokevirtual 47, 3) := by decide +kernel
theorem dX2_wrongEnds_8 : decode cX2_wrongEnds 8 = .ok (.aload_n 0, 1) := by decide +kernel
theorem dX2_wrongEnds_9 : decode cX2_wrongEnds 9 = .ok (.getfield 26, 3) := by decide +kernel
theorem dX2_wrongEnds_12 : decode cX2_wrongEnds 12 = .ok (.iload_n 1, 1) := by decide +kernel
theorem dX2_wrongEnds_13 : decode cX2_wrongEnds 13 = .ok (.invokevirtual 47, 3) := by decide +kernel
theorem dX2_wrongEnds_16 : decode cX2_wrongEnds 16 = .ok (.aload_n 0, 1) := by decide +kernel
theorem dX2_wrongEnds_17 : decode cX2_wrongEnds 17 = .ok (.getfield 32, 3) := by decide +kernel
theorem dX2_wrongEnds_20 : decode cX2_wrongEnds 20 = .ok (.iload_n 1, 1) := by decide +kernel
theorem dX2_wrongEnds_21 : decode cX2_wrongEnds 21 = .ok (.invokevirtual 47, 3) := by decide +kernel
theorem dX2_wrongEnds_24 : decode cX2_wrongEnds 24 = .ok (.ixor, 1) := by decide +kernel
theorem dX2_wrongEnds_25 : decode cX2_wrongEnds 25 = .ok (.ior, 1) := by decide +kernel
theorem dX2_wrongEnds_26 : decode cX2_wrongEnds 26 = .ok (.ireturn, 1) := by decide +kernel
theorem dX2_wrongPlaces_0 : decode cX2_wrongPlaces 0 = .ok (.iconst 0, 1) := by decide +kernel
theorem dX2_wrongPlaces_1 : decode cX2_wrongPlaces 1 = .ok (.istore_n 1, 1) := by decide +kernel
theorem dX2_wrongPlaces_2 : decode cX2_wrongPlaces 2 = .ok (.iconst 0, 1) := by decide +kernel
theorem dX2_wrongPlaces_3 : decode cX2_wrongPlaces 3 = .ok (.istore_n 2, 1) := by decide +kernel
theorem dX2_wrongPlaces_4 : decode cX2_wrongPlaces 4 = .ok (.iload_n 2, 1) := by decide +kernel
theorem dX2_wrongPlaces_5 : decode cX2_wrongPlaces 5 = .ok (.aload_n 0, 1) := by decide +kernel
theorem dX2_wrongPlaces_6 : decode cX2_wrongPlaces 6 = .ok (.getfield 35, 3) := by decide +kernel
theorem dX2_wrongPlaces_9 : decode cX2_wrongPlaces 9 = .ok (.if_icmp .ge 20, 3) := by decide +kernel
theorem dX2_wrongPlaces_12 : decode cX2_wrongPlaces 12 = .ok (.iload_n 1, 1) := by decide +kernel
theorem dX2_wrongPlaces_13 : decode cX2_wrongPlaces 13 = .ok (.aload_n 0, 1) := by decide +kernel
theorem dX2_wrongPlaces_14 : decode cX2_wrongPlaces 14 = .ok (.iload_n 2, 1) := by decide +kernel
theorem dX2_wrongPlaces_15 : decode cX2_wrongPlaces 15 = .ok (.invokevirtual 51, 3) := by decide +kernel
theorem dX2_wrongPlaces_18 : decode cX2_wrongPlaces 18 = .ok (.invokestatic 54, 3) := by decide +kernel
theorem dX2_wrongPlaces_21 : decode cX2_wrongPlaces 21 = .ok (.iadd, 1) := by decide +kernel
theorem dX2_wrongPlaces_22 : decode cX2_wrongPlaces 22 = .ok (.istore_n 1, 1) := by decide +kernel
theorem dX2_wrongPlaces_23 : decode cX2_wrongPlaces 23 = .ok (.iinc 2 1, 3) := by decide +kernel
theorem dX2_wrongPlaces_26 : decode cX2_wrongPlaces 26 = .ok (.goto (-22), 3) := by decide +kernel
theorem dX2_wrongPlaces_29 : decode cX2_wrongPlaces 29 = .ok (.iload_n 1, 1) := by decide +kernel
theorem dX2_wrongPlaces_30 : decode cX2_wrongPlaces 30 = .ok (.ireturn, 1) := by decide +kernel
theorem dX2_rowsAbove_0 : decode cX2_rowsAbove 0 = .ok (.iconst 0, 1) := by decide +kernel
theorem dX2_rowsAbove_1 : decode cX2_rowsAbove 1 = .ok (.istore_n 2, 1) := by decide +kernel
theorem dX2_rowsAbove_2 : decode cX2_rowsAbove 2 = .ok (.iconst 0, 1) := by decide +kernel
theorem dX2_rowsAbove_3 : decode cX2_rowsAbove 3 = .ok (.istore_n 3, 1) := by decide +kernel
theorem dX2_rowsAbove_4 : decode cX2_rowsAbove 4 = .ok (.iload_n 3, 1) := by decide +kernel
theorem dX2_rowsAbove_5 : decode cX2_rowsAbove 5 = .ok (.aload_n 0, 1) := by decide +kernel
theorem dX2_rowsAbove_6 : decode cX2_rowsAbove 6 = .ok (.getfield 35, 3) := by decide +kernel
theorem dX2_rowsAbove_9 : decode cX2_rowsAbove 9 = .ok (.if_icmp .ge 24, 3) := by decide +kernel
theorem dX2_rowsAbove_12 : decode cX2_rowsAbove 12 = .ok (.iload_n 2, 1) := by decide +kernel
theorem dX2_rowsAbove_13 : decode cX2_rowsAbove 13 = .ok (.aload_n 0, 1) := by decide +kernel
theorem dX2_rowsAbove_14 : decode cX2_rowsAbove 14 = .ok (.getfield 26, 3) := by decide +kernel
theorem dX2_rowsAbove_17 : decode cX2_rowsAbove 17 = .ok (.iload_n 3, 1) := by decide +kernel
theorem dX2_rowsAbove_18 : decode cX2_rowsAbove 18 = .ok (.invokevirtual 47, 3) := by decide +kernel
theorem dX2_rowsAbove_21 : decode cX2_rowsAbove 21 = .ok (.iload_n 1, 1) := by decide +kernel
theorem dX2_rowsAbove_22 : decode cX2_rowsAbove 22 = .ok (.invokestatic 59, 3) := by decide +kernel
theorem dX2_rowsAbove_25 : decode cX2_rowsAbove 25 = .ok (.iadd, 1) := by decide +kernel
theorem dX2_rowsAbove_26 : decode cX2_rowsAbove 26 = .ok (.istore_n 2, 1) := by decide +kernel
theorem dX2_rowsAbove_27 : decode cX2_rowsAbove 27 = .ok (.iinc 3 1, 3) := by decide +kernel
theorem dX2_rowsAbove_30 : decode cX2_rowsAbove 30 = .ok (.goto (-26), 3) := by decide +kernel
theorem dX2_rowsAbove_33 : decode cX2_rowsAbove 33 = .ok (.iload_n 2, 1) := by decide +kernel
theorem dX2_rowsAbove_34 : decode cX2_rowsAbove 34 = .ok (.ireturn, 1) := by decide +kernel
theorem dX2_rowsWrong_0 : decode cX2_rowsWrong 0 = .ok (.iconst 0, 1) := by decide +kernel
theorem dX2_rowsWrong_1 : decode cX2_rowsWrong 1 = .ok (.istore_n 2, 1) := by decide +kernel
theorem dX2_rowsWrong_2 : decode cX2_rowsWrong 2 = .ok (.iconst 0, 1) := by decide +kernel
theorem dX2_rowsWrong_3 : decode cX2_rowsWrong 3 = .ok (.istore_n 3, 1) := by decide +kernel
theorem dX2_rowsWrong_4 : decode cX2_rowsWrong 4 = .ok (.iload_n 3, 1) := by decide +kernel
theorem dX2_rowsWrong_5 : decode cX2_rowsWrong 5 = .ok (.aload_n 0, 1) := by decide +kernel
theorem dX2_rowsWrong_6 : decode cX2_rowsWrong 6 = .ok (.getfield 35, 3) := by decide +kernel
theorem dX2_rowsWrong_9 : decode cX2_rowsWrong 9 = .ok (.if_icmp .ge 21, 3) := by decide +kernel
theorem dX2_rowsWrong_12 : decode cX2_rowsWrong 12 = .ok (.iload_n 2, 1) := by decide +kernel
theorem dX2_rowsWrong_13 : decode cX2_rowsWrong 13 = .ok (.aload_n 0, 1) := by decide +kernel
theorem dX2_rowsWrong_14 : decode cX2_rowsWrong 14 = .ok (.iload_n 3, 1) := by decide +kernel
theorem dX2_rowsWrong_15 : decode cX2_rowsWrong 15 = .ok (.invokevirtual 51, 3) := by decide +kernel
theorem dX2_rowsWrong_18 : decode cX2_rowsWrong 18 = .ok (.iload_n 1, 1) := by decide +kernel
theorem dX2_rowsWrong_19 : decode cX2_rowsWrong 19 = .ok (.invokestatic 59, 3) := by decide +kernel
theorem dX2_rowsWrong_22 : decode cX2_rowsWrong 22 = .ok (.iadd, 1) := by decide +kernel
theorem dX2_rowsWrong_23 : decode cX2_rowsWrong 23 = .ok (.istore_n 2, 1) := by decide +kernel
theorem dX2_rowsWrong_24 : decode cX2_rowsWrong 24 = .ok (.iinc 3 1, 3) := by decide +kernel
theorem dX2_rowsWrong_27 : decode cX2_rowsWrong 27 = .ok (.goto (-23), 3) := by decide +kernel
theorem dX2_rowsWrong_30 : decode cX2_rowsWrong 30 = .ok (.iload_n 2, 1) := by decide +kernel
theorem dX2_rowsWrong_31 : decode cX2_rowsWrong 31 = .ok (.ireturn, 1) := by decide +kernel
theorem dX2_sideAt_0 : decode cX2_sideAt 0 = .ok (.aload_n 0, 1) := by decide +kernel
theorem dX2_sideAt_1 : decode cX2_sideAt 1 = .ok (.getfield 29, 3) := by decide +kernel
theorem dX2_sideAt_4 : decode cX2_sideAt 4 = .ok (.iload_n 1, 1) := by decide +kernel
theorem dX2_sideAt_5 : decode cX2_sideAt 5 = .ok (.invokevirtual 47, 3) := by decide +kernel
theorem dX2_sideAt_8 : decode cX2_sideAt 8 = .ok (.iload_n 2, 1) := by decide +kernel
theorem dX2_sideAt_9 : decode cX2_sideAt 9 = .ok (.invokestatic 59, 3) := by decide +kernel
theorem dX2_sideAt_12 : decode cX2_sideAt 12 = .ok (.iconst 1, 1) := by decide +kernel
theorem dX2_sideAt_13 : decode cX2_sideAt 13 = .ok (.if_icmp .ne 7, 3) := by decide +kernel
theorem dX2_sideAt_16 : decode cX2_sideAt 16 = .ok (.iconst (-1), 1) := by decide +kernel
theorem dX2_sideAt_17 : decode cX2_sideAt 17 = .ok (.goto 15, 3) := by decide +kernel
theorem dX2_sideAt_20 : decode cX2_sideAt 20 = .ok (.aload_n 0, 1) := by decide +kernel
theorem dX2_sideAt_21 : decode cX2_sideAt 21 = .ok (.getfield 26, 3) := by decide +kernel
theorem dX2_sideAt_24 : decode cX2_sideAt 24 = .ok (.iload_n 1, 1) := by decide +kernel
theorem dX2_sideAt_25 : decode cX2_sideAt 25 = .ok (.invokevirtual 47, 3) := by decide +kernel
theorem dX2_sideAt_28 : decode cX2_sideAt 28 = .ok (.iload_n 2, 1) := by decide +kernel
theorem dX2_sideAt_29 : decode cX2_sideAt 29 = .ok (.invokestatic 59, 3) := by decide +kernel
theorem dX2_sideAt_32 : decode cX2_sideAt 32 = .ok (.ireturn, 1) := by decide +kernel
theorem dX2_sideAlong_0 : decode cX2_sideAlong 0 = .ok (.iload_n 1, 1) := by decide +kernel
theorem dX2_sideAlong_1 : decode cX2_sideAlong 1 = .ok (.ifCond .ne 12, 3) := by decide +kernel
theorem dX2_sideAlong_4 : decode cX2_sideAlong 4 = .ok (.aload_n 0, 1) := by decide +kernel
theorem dX2_sideAlong_5 : decode cX2_sideAlong 5 = .ok (.iload_n 3, 1) := by decide +kernel
theorem dX2_sideAlong_6 : decode cX2_sideAlong 6 = .ok (.iload_n 2, 1) := by decide +kernel
theorem dX2_sideAlong_7 : decode cX2_sideAlong 7 = .ok (.invokevirtual 63, 3) := by decide +kernel
theorem dX2_sideAlong_10 : decode cX2_sideAlong 10 = .ok (.goto 9, 3) := by decide +kernel
theorem dX2_sideAlong_13 : decode cX2_sideAlong 13 = .ok (.aload_n 0, 1) := by decide +kernel
theorem dX2_sideAlong_14 : decode cX2_sideAlong 14 = .ok (.iload_n 2, 1) := by decide +kernel
theorem dX2_sideAlong_15 : decode cX2_sideAlong 15 = .ok (.iload_n 3, 1) := by decide +kernel
theorem dX2_sideAlong_16 : decode cX2_sideAlong 16 = .ok (.invokevirtual 63, 3) := by decide +kernel
theorem dX2_sideAlong_19 : decode cX2_sideAlong 19 = .ok (.ireturn, 1) := by decide +kernel
theorem dX2_runWith_0 : decode cX2_runWith 0 = .ok (.iload_n 1, 1) := by decide +kernel
theorem dX2_runWith_1 : decode cX2_runWith 1 = .ok (.iconst (-1), 1) := by decide +kernel
theorem dX2_runWith_2 : decode cX2_runWith 2 = .ok (.if_icmp .ne 5, 3) := by decide +kernel
theorem dX2_runWith_5 : decode cX2_runWith 5 = .ok (.iconst 0, 1) := by decide +kernel
theorem dX2_runWith_6 : decode cX2_runWith 6 = .ok (.ireturn, 1) := by decide +kernel
theorem dX2_runWith_7 : decode cX2_runWith 7 = .ok (.iload_n 1, 1) := by decide +kernel
theorem dX2_runWith_8 : decode cX2_runWith 8 = .ok (.iload_n 2, 1) := by decide +kernel
theorem dX2_runWith_9 : decode cX2_runWith 9 = .ok (.if_icmp .ne 9, 3) := by decide +kernel
theorem dX2_runWith_12 : decode cX2_runWith 12 = .ok (.iload_n 3, 1) := by decide +kernel
theorem dX2_runWith_13 : decode cX2_runWith 13 = .ok (.iconst 1, 1) := by decide +kernel
theorem dX2_runWith_14 : decode cX2_runWith 14 = .ok (.iadd, 1) := by decide +kernel
theorem dX2_runWith_15 : decode cX2_runWith 15 = .ok (.goto 4, 3) := by decide +kernel
theorem dX2_runWith_18 : decode cX2_runWith 18 = .ok (.iconst 1, 1) := by decide +kernel
theorem dX2_runWith_19 : decode cX2_runWith 19 = .ok (.ireturn, 1) := by decide +kernel
theorem dX2_longestFloat_0 : decode cX2_longestFloat 0 = .ok (.iconst 0, 1) := by decide +kernel
theorem dX2_longestFloat_1 : decode cX2_longestFloat 1 = .ok (.istore 4, 2) := by decide +kernel
theorem dX2_longestFloat_3 : decode cX2_longestFloat 3 = .ok (.iconst 0, 1) := by decide +kernel
theorem dX2_longestFloat_4 : decode cX2_longestFloat 4 = .ok (.istore 5, 2) := by decide +kernel
theorem dX2_longestFloat_6 : decode cX2_longestFloat 6 = .ok (.iconst (-1), 1) := by decide +kernel
theorem dX2_longestFloat_7 : decode cX2_longestFloat 7 = .ok (.istore 6, 2) := by decide +kernel
theorem dX2_longestFloat_9 : decode cX2_longestFloat 9 = .ok (.iconst 0, 1) := by decide +kernel
theorem dX2_longestFloat_10 : decode cX2_longestFloat 10 = .ok (.istore 7, 2) := by decide +kernel
theorem dX2_longestFloat_12 : decode cX2_longestFloat 12 = .ok (.iload 7, 2) := by decide +kernel
theorem dX2_longestFloat_14 : decode cX2_longestFloat 14 = .ok (.iload_n 3, 1) := by decide +kernel
theorem dX2_longestFloat_15 : decode cX2_longestFloat 15 = .ok (.if_icmp .ge 44, 3) := by decide +kernel
theorem dX2_longestFloat_18 : decode cX2_longestFloat 18 = .ok (.aload_n 0, 1) := by decide +kernel
theorem dX2_longestFloat_19 : decode cX2_longestFloat 19 = .ok (.iload_n 1, 1) := by decide +kernel
theorem dX2_longestFloat_20 : decode cX2_longestFloat 20 = .ok (.iload_n 2, 1) := by decide +kernel
theorem dX2_longestFloat_21 : decode cX2_longestFloat 21 = .ok (.iload 7, 2) := by decide +kernel
theorem dX2_longestFloat_23 : decode cX2_longestFloat 23 = .ok (.invokevirtual 66, 3) := by decide +kernel
theorem dX2_longestFloat_26 : decode cX2_longestFloat 26 = .ok (.istore 8, 2) := by decide +kernel
theorem dX2_longestFloat_28 : decode cX2_longestFloat 28 = .ok (.aload_n 0, 1) := by decide +kernel
theorem dX2_longestFloat_29 : decode cX2_longestFloat 29 = .ok (.iload 8, 2) := by decide +kernel
theorem dX2_longestFloat_31 : decode cX2_longestFloat 31 = .ok (.iload 6, 2) := by decide +kernel
theorem dX2_longestFloat_33 : decode cX2_longestFloat 33 = .ok (.iload 5, 2) := by decide +kernel
theorem dX2_longestFloat_35 : decode cX2_longestFloat 35 = .ok (.invokevirtual 70, 3) := by decide +kernel
theorem dX2_longestFloat_38 : decode cX2_longestFloat 38 = .ok (.istore 5, 2) := by decide +kernel
theorem dX2_longestFloat_40 : decode cX2_longestFloat 40 = .ok (.iload 8, 2) := by decide +kernel
theorem dX2_longestFloat_42 : decode cX2_longestFloat 42 = .ok (.istore 6, 2) := by decide +kernel
theorem dX2_longestFloat_44 : decode cX2_longestFloat 44 = .ok (.iload 4, 2) := by decide +kernel
theorem dX2_longestFloat_46 : decode cX2_longestFloat 46 = .ok (.iload 5, 2) := by decide +kernel
theorem dX2_longestFloat_48 : decode cX2_longestFloat 48 = .ok (.invokestatic 73, 3) := by decide +kernel
theorem dX2_longestFloat_51 : decode cX2_longestFloat 51 = .ok (.istore 4, 2) := by decide +kernel
theorem dX2_longestFloat_53 : decode cX2_longestFloat 53 = .ok (.iinc 7 1, 3) := by decide +kernel
theorem dX2_longestFloat_56 : decode cX2_longestFloat 56 = .ok (.goto (-44), 3) := by decide +kernel
theorem dX2_longestFloat_59 : decode cX2_longestFloat 59 = .ok (.iload 4, 2) := by decide +kernel
theorem dX2_longestFloat_61 : decode cX2_longestFloat 61 = .ok (.ireturn, 1) := by decide +kernel
theorem dX2_floatsIn_0 : decode cX2_floatsIn 0 = .ok (.iconst 0, 1) := by decide +kernel
theorem dX2_floatsIn_1 : decode cX2_floatsIn 1 = .ok (.istore 5, 2) := by decide +kernel
theorem dX2_floatsIn_3 : decode cX2_floatsIn 3 = .ok (.iconst 0, 1) := by decide +kernel
theorem dX2_floatsIn_4 : decode cX2_floatsIn 4 = .ok (.istore 6, 2) := by decide +kernel
theorem dX2_floatsIn_6 : decode cX2_floatsIn 6 = .ok (.iconst (-1), 1) := by decide +kernel
theorem dX2_floatsIn_7 : decode cX2_floatsIn 7 = .ok (.istore 7, 2) := by decide +kernel
theorem dX2_floatsIn_9 : decode cX2_floatsIn 9 = .ok (.iconst 0, 1) := by decide +kernel
theorem dX2_floatsIn_10 : decode cX2_floatsIn 10 = .ok (.istore 8, 2) := by decide +kernel
theorem dX2_floatsIn_12 : decode cX2_floatsIn 12 = .ok (.iload 8, 2) := by decide +kernel
theorem dX2_floatsIn_14 : decode cX2_floatsIn 14 = .ok (.iload_n 3, 1) := by decide +kernel
theorem dX2_floatsIn_15 : decode cX2_floatsIn 15 = .ok (.if_icmp .ge 45, 3) := by decide +kernel
theorem dX2_floatsIn_18 : decode cX2_floatsIn 18 = .ok (.aload_n 0, 1) := by decide +kernel
theorem dX2_floatsIn_19 : decode cX2_floatsIn 19 = .ok (.iload_n 1, 1) := by decide +kernel
theorem dX2_floatsIn_20 : decode cX2_floatsIn 20 = .ok (.iload_n 2, 1) := by decide +kernel
theorem dX2_floatsIn_21 : decode cX2_floatsIn 21 = .ok (.iload 8, 2) := by decide +kernel
theorem dX2_floatsIn_23 : decode cX2_floatsIn 23 = .ok (.invokevirtual 66, 3) := by decide +kernel
theorem dX2_floatsIn_26 : decode cX2_floatsIn 26 = .ok (.istore 9, 2) := by decide +kernel
theorem dX2_floatsIn_28 : decode cX2_floatsIn 28 = .ok (.aload_n 0, 1) := by decide +kernel
theorem dX2_floatsIn_29 : decode cX2_floatsIn 29 = .ok (.iload 9, 2) := by decide +kernel
theorem dX2_floatsIn_31 : decode cX2_floatsIn 31 = .ok (.iload 7, 2) := by decide +kernel
theorem dX2_floatsIn_33 : decode cX2_floatsIn 33 = .ok (.iload 6, 2) := by decide +kernel
theorem dX2_floatsIn_35 : decode cX2_floatsIn 35 = .ok (.invokevirtual 70, 3) := by decide +kernel
theorem dX2_floatsIn_38 : decode cX2_floatsIn 38 = .ok (.istore 6, 2) := by decide +kernel
theorem dX2_floatsIn_40 : decode cX2_floatsIn 40 = .ok (.iload 9, 2) := by decide +kernel
theorem dX2_floatsIn_42 : decode cX2_floatsIn 42 = .ok (.istore 7, 2) := by decide +kernel
theorem dX2_floatsIn_44 : decode cX2_floatsIn 44 = .ok (.iload 6, 2) := by decide +kernel
theorem dX2_floatsIn_46 : decode cX2_floatsIn 46 = .ok (.iload 4, 2) := by decide +kernel
theorem dX2_floatsIn_48 : decode cX2_floatsIn 48 = .ok (.if_icmp .ne 6, 3) := by decide +kernel
theorem dX2_floatsIn_51 : decode cX2_floatsIn 51 = .ok (.iinc 5 1, 3) := by decide +kernel
theorem dX2_floatsIn_54 : decode cX2_floatsIn 54 = .ok (.iinc 8 1, 3) := by decide +kernel
theorem dX2_floatsIn_57 : decode cX2_floatsIn 57 = .ok (.goto (-45), 3) := by decide +kernel
theorem dX2_floatsIn_60 : decode cX2_floatsIn 60 = .ok (.iload 5, 2) := by decide +kernel
theorem dX2_floatsIn_62 : decode cX2_floatsIn 62 = .ok (.ireturn, 1) := by decide +kernel
theorem dX2_areAlike_0 : decode cX2_areAlike 0 = .ok (.aload_n 0, 1) := by decide +kernel
theorem dX2_areAlike_1 : decode cX2_areAlike 1 = .ok (.getfield 14, 3) := by decide +kernel
theorem dX2_areAlike_4 : decode cX2_areAlike 4 = .ok (.iload_n 1, 1) := by decide +kernel
theorem dX2_areAlike_5 : decode cX2_areAlike 5 = .ok (.invokevirtual 47, 3) := by decide +kernel
theorem dX2_areAlike_8 : decode cX2_areAlike 8 = .ok (.aload_n 0, 1) := by decide +kernel
theorem dX2_areAlike_9 : decode cX2_areAlike 9 = .ok (.getfield 14, 3) := by decide +kernel
theorem dX2_areAlike_12 : decode cX2_areAlike 12 = .ok (.iload_n 2, 1) := by decide +kernel
theorem dX2_areAlike_13 : decode cX2_areAlike 13 = .ok (.invokevirtual 47, 3) := by decide +kernel
theorem dX2_areAlike_16 : decode cX2_areAlike 16 = .ok (.if_icmp .ne 45, 3) := by decide +kernel
theorem dX2_areAlike_19 : decode cX2_areAlike 19 = .ok (.aload_n 0, 1) := by decide +kernel
theorem dX2_areAlike_20 : decode cX2_areAlike 20 = .ok (.getfield 26, 3) := by decide +kernel
theorem dX2_areAlike_23 : decode cX2_areAlike 23 = .ok (.iload_n 1, 1) := by decide +kernel
theorem dX2_areAlike_24 : decode cX2_areAlike 24 = .ok (.invokevirtual 47, 3) := by decide +kernel
theorem dX2_areAlike_27 : decode cX2_areAlike 27 = .ok (.aload_n 0, 1) := by decide +kernel
theorem dX2_areAlike_28 : decode cX2_areAlike 28 = .ok (.getfield 26, 3) := by decide +kernel
theorem dX2_areAlike_31 : decode cX2_areAlike 31 = .ok (.iload_n 2, 1) := by decide +kernel
theorem dX2_areAlike_32 : decode cX2_areAlike 32 = .ok (.invokevirtual 47, 3) := by decide +kernel
theorem dX2_areAlike_35 : decode cX2_areAlike 35 = .ok (.if_icmp .ne 26, 3) := by decide +kernel
theorem dX2_areAlike_38 : decode cX2_areAlike 38 = .ok (.aload_n 0, 1) := by decide +kernel
theorem dX2_areAlike_39 : decode cX2_areAlike 39 = .ok (.getfield 29, 3) := by decide +kernel
theorem dX2_areAlike_42 : decode cX2_areAlike 42 = .ok (.iload_n 1, 1) := by decide +kernel
theorem dX2_areAlike_43 : decode cX2_areAlike 43 = .ok (.invokevirtual 47, 3) := by decide +kernel
theorem dX2_areAlike_46 : decode cX2_areAlike 46 = .ok (.aload_n 0, 1) := by decide +kernel
theorem dX2_areAlike_47 : decode cX2_areAlike 47 = .ok (.getfield 29, 3) := by decide +kernel
theorem dX2_areAlike_50 : decode cX2_areAlike 50 = .ok (.iload_n 2, 1) := by decide +kernel
theorem dX2_areAlike_51 : decode cX2_areAlike 51 = .ok (.invokevirtual 47, 3) := by decide +kernel
theorem dX2_areAlike_54 : decode cX2_areAlike 54 = .ok (.if_icmp .ne 7, 3) := by decide +kernel
theorem dX2_areAlike_57 : decode cX2_areAlike 57 = .ok (.iconst 1, 1) := by decide +kernel
theorem dX2_areAlike_58 : decode cX2_areAlike 58 = .ok (.goto 4, 3) := by decide +kernel
theorem dX2_areAlike_61 : decode cX2_areAlike 61 = .ok (.iconst 0, 1) := by decide +kernel
theorem dX2_areAlike_62 : decode cX2_areAlike 62 = .ok (.ireturn, 1) := by decide +kernel
theorem dX2_repeatsAfter_0 : decode cX2_repeatsAfter 0 = .ok (.iload_n 1, 1) := by decide +kernel
theorem dX2_repeatsAfter_1 : decode cX2_repeatsAfter 1 = .ok (.istore_n 2, 1) := by decide +kernel
theorem dX2_repeatsAfter_2 : decode cX2_repeatsAfter 2 = .ok (.iload_n 2, 1) := by decide +kernel
theorem dX2_repeatsAfter_3 : decode cX2_repeatsAfter 3 = .ok (.aload_n 0, 1) := by decide +kernel
theorem dX2_repeatsAfter_4 : decode cX2_repeatsAfter 4 = .ok (.getfield 35, 3) := by decide +kernel
theorem dX2_repeatsAfter_7 : decode cX2_repeatsAfter 7 = .ok (.if_icmp .ge 22, 3) := by decide +kernel
theorem dX2_repeatsAfter_10 : decode cX2_repeatsAfter 10 = .ok (.aload_n 0, 1) := by decide +kernel
theorem dX2_repeatsAfter_11 : decode cX2_repeatsAfter 11 = .ok (.iload_n 2, 1) := by decide +kernel
theorem dX2_repeatsAfter_12 : decode cX2_repeatsAfter 12 = .ok (.iload_n 2, 1) := by decide +kernel
theorem dX2_repeatsAfter_13 : decode cX2_repeatsAfter 13 = .ok (.iload_n 1, 1) := by decide +kernel
theorem dX2_repeatsAfter_14 : decode cX2_repeatsAfter 14 = .ok (.isub, 1) := by decide +kernel
theorem dX2_repeatsAfter_15 : decode cX2_repeatsAfter 15 = .ok (.invokevirtual 78, 3) := by decide +kernel
theorem dX2_repeatsAfter_18 : decode cX2_repeatsAfter 18 = .ok (.ifCond .ne 5, 3) := by decide +kernel
theorem dX2_repeatsAfter_21 : decode cX2_repeatsAfter 21 = .ok (.iconst 0, 1) := by decide +kernel
theorem dX2_repeatsAfter_22 : decode cX2_repeatsAfter 22 = .ok (.ireturn, 1) := by decide +kernel
theorem dX2_repeatsAfter_23 : decode cX2_repeatsAfter 23 = .ok (.iinc 2 1, 3) := by decide +kernel
theorem dX2_repeatsAfter_26 : decode cX2_repeatsAfter 26 = .ok (.goto (-24), 3) := by decide +kernel
theorem dX2_repeatsAfter_29 : decode cX2_repeatsAfter 29 = .ok (.iconst 1, 1) := by decide +kernel
theorem dX2_repeatsAfter_30 : decode cX2_repeatsAfter 30 = .ok (.ireturn, 1) := by decide +kernel
theorem dX2_hasAlikeBefore_0 : decode cX2_hasAlikeBefore 0 = .ok (.iconst 0, 1) := by decide +kernel
theorem dX2_hasAlikeBefore_1 : decode cX2_hasAlikeBefore 1 = .ok (.istore_n 2, 1) := by decide +kernel
theorem dX2_hasAlikeBefore_2 : decode cX2_hasAlikeBefore 2 = .ok (.iload_n 2, 1) := by decide +kernel
theorem dX2_hasAlikeBefore_3 : decode cX2_hasAlikeBefore 3 = .ok (.iload_n 1, 1) := by decide +kernel
theorem dX2_hasAlikeBefore_4 : decode cX2_hasAlikeBefore 4 = .ok (.if_icmp .ge 20, 3) := by decide +kernel
theorem dX2_hasAlikeBefore_7 : decode cX2_hasAlikeBefore 7 = .ok (.aload_n 0, 1) := by decide +kernel
theorem dX2_hasAlikeBefore_8 : decode cX2_hasAlikeBefore 8 = .ok (.iload_n 1, 1) := by decide +kernel
theorem dX2_hasAlikeBefore_9 : decode cX2_hasAlikeBefore 9 = .ok (.iload_n 2, 1) := by decide +kernel
theorem dX2_hasAlikeBefore_10 : decode cX2_hasAlikeBefore 10 = .ok (.invokevirtual 78, 3) := by decide +kernel
theorem dX2_hasAlikeBefore_13 : decode cX2_hasAlikeBefore 13 = .ok (.ifCond .eq 5, 3) := by decide +kernel
theorem dX2_hasAlikeBefore_16 : decode cX2_hasAlikeBefore 16 = .ok (.iconst 1, 1) := by decide +kernel
theorem dX2_hasAlikeBefore_17 : decode cX2_hasAlikeBefore 17 = .ok (.ireturn, 1) := by decide +kernel
theorem dX2_hasAlikeBefore_18 : decode cX2_hasAlikeBefore 18 = .ok (.iinc 2 1, 3) := by decide +kernel
theorem dX2_hasAlikeBefore_21 : decode cX2_hasAlikeBefore 21 = .ok (.goto (-19), 3) := by decide +kernel
theorem dX2_hasAlikeBefore_24 : decode cX2_hasAlikeBefore 24 = .ok (.iconst 0, 1) := by decide +kernel
theorem dX2_hasAlikeBefore_25 : decode cX2_hasAlikeBefore 25 = .ok (.ireturn, 1) := by decide +kernel
theorem dX3_init_0 : decode cX3_init 0 = .ok (.aload_n 0, 1) := by decide +kernel
theorem dX3_init_1 : decode cX3_init 1 = .ok (.invokespecial 3, 3) := by decide +kernel
theorem dX3_init_4 : decode cX3_init 4 = .ok (.aload_n 0, 1) := by decide +kernel
theorem dX3_init_5 : decode cX3_init 5 = .ok (.iconst 5, 1) := by decide +kernel
theorem dX3_init_6 : decode cX3_init 6 = .ok (.anewarray 9, 3) := by decide +kernel
theorem dX3_init_9 : decode cX3_init 9 = .ok (.putfield 11, 3) := by decide +kernel
theorem dX3_init_12 : decode cX3_init 12 = .ok (.iconst 0, 1) := by decide +kernel
theorem dX3_init_13 : decode cX3_init 13 = .ok (.istore_n 1, 1) := by decide +kernel
theorem dX3_init_14 : decode cX3_init 14 = .ok (.iload_n 1, 1) := by decide +kernel
theorem dX3_init_15 : decode cX3_init 15 = .ok (.aload_n 0, 1) := by decide +kernel
theorem dX3_init_16 : decode cX3_init 16 = .ok (.getfield 11, 3) := by decide +kernel
theorem dX3_init_19 : decode cX3_init 19 = .ok (.arraylength, 1) := by decide +kernel
theorem dX3_init_20 : decode cX3_init 20 = .ok (.if_icmp .ge 22, 3) := by decide +kernel
theorem dX3_init_23 : decode cX3_init 23 = .ok (.aload_n 0, 1) := by decide +kernel
theorem dX3_init_24 : decode cX3_init 24 = .ok (.getfield 11, 3) := by decide +kernel
theorem dX3_init_27 : decode cX3_init 27 = .ok (.iload_n 1, 1) := by decide +kernel
theorem dX3_init_28 : decode cX3_init 28 = .ok (.new 9, 3) := by decide +kernel
theorem dX3_init_31 : decode cX3_init 31 = .ok (.dup, 1) := by decide +kernel
theorem dX3_init_32 : decode cX3_init 32 = .ok (.invokespecial 17, 3) := by decide +kernel
theorem dX3_init_35 : decode cX3_init 35 = .ok (.aastore, 1) := by decide +kernel
theorem dX3_init_36 : decode cX3_init 36 = .ok (.iinc 1 1, 3) := by decide +kernel
theorem dX3_init_39 : decode cX3_init 39 = .ok (.goto (-25), 3) := by decide +kernel
theorem dX3_init_42 : decode cX3_init 42 = .ok (.return_, 1) := by decide +kernel
theorem dX3_keep_0 : decode cX3_keep 0 = .ok (.aload_n 0, 1) := by decide +kernel
theorem dX3_keep_1 : decode cX3_keep 1 = .ok (.aload_n 0, 1) := by decide +kernel
theorem dX3_keep_2 : decode cX3_keep 2 = .ok (.getfield 18, 3) := by decide +kernel
theorem dX3_keep_5 : decode cX3_keep 5 = .ok (.invokevirtual 22, 3) := by decide +kernel
theorem dX3_keep_8 : decode cX3_keep 8 = .ok (.astore_n 2, 1) := by decide +kernel
theorem dX3_keep_9 : decode cX3_keep 9 = .ok (.aload_n 2, 1) := by decide +kernel
theorem dX3_keep_10 : decode cX3_keep 10 = .ok (.ifnull 46, 3) := by decide +kernel
theorem dX3_keep_13 : decode cX3_keep 13 = .ok (.aload_n 2, 1) := by decide +kernel
theorem dX3_keep_14 : decode cX3_keep 14 = .ok (.aload_n 1, 1) := by decide +kernel
theorem dX3_keep_15 : decode cX3_keep 15 = .ok (.invokevirtual 26, 3) := by decide +kernel
theorem dX3_keep_18 : decode cX3_keep 18 = .ok (.aload_n 0, 1) := by decide +kernel
theorem dX3_keep_19 : decode cX3_keep 19 = .ok (.aload_n 0, 1) := by decide +kernel
theorem dX3_keep_20 : decode cX3_keep 20 = .ok (.getfield 18, 3) := by decide +kernel
theorem dX3_keep_23 : decode cX3_keep 23 = .ok (.iconst 1, 1) := by decide +kernel
theorem dX3_keep_24 : decode cX3_keep 24 = .ok (.iadd, 1) := by decide +kernel
theorem dX3_keep_25 : decode cX3_keep 25 = .ok (.iconst 5, 1) := by decide +kernel
theorem dX3_keep_26 : decode cX3_keep 26 = .ok (.if_icmp .ge 12, 3) := by decide +kernel
theorem dX3_keep_29 : decode cX3_keep 29 = .ok (.aload_n 0, 1) := by decide +kernel
theorem dX3_keep_30 : decode cX3_keep 30 = .ok (.getfield 18, 3) := by decide +kernel
theorem dX3_keep_33 : decode cX3_keep 33 = .ok (.iconst 1, 1) := by decide +kernel
theorem dX3_keep_34 : decode cX3_keep 34 = .ok (.iadd, 1) := by decide +kernel
theorem dX3_keep_35 : decode cX3_keep 35 = .ok (.goto 4, 3) := by decide +kernel
theorem dX3_keep_38 : decode cX3_keep 38 = .ok (.iconst 0, 1) := by decide +kernel
theorem dX3_keep_39 : decode cX3_keep 39 = .ok (.putfield 18, 3) := by decide +kernel
theorem dX3_keep_42 : decode cX3_keep 42 = .ok (.aload_n 0, 1) := by decide +kernel
theorem dX3_keep_43 : decode cX3_keep 43 = .ok (.aload_n 0, 1) := by decide +kernel
theorem dX3_keep_44 : decode cX3_keep 44 = .ok (.getfield 30, 3) := by decide +kernel
theorem dX3_keep_47 : decode cX3_keep 47 = .ok (.iconst 1, 1) := by decide +kernel
theorem dX3_keep_48 : decode cX3_keep 48 = .ok (.iadd, 1) := by decide +kernel
theorem dX3_keep_49 : decode cX3_keep 49 = .ok (.iconst 5, 1) := by decide +kernel
theorem dX3_keep_50 : decode cX3_keep 50 = .ok (.invokestatic 33, 3) := by decide +kernel
theorem dX3_keep_53 : decode cX3_keep 53 = .ok (.putfield 30, 3) := by decide +kernel
theorem dX3_keep_56 : decode cX3_keep 56 = .ok (.return_, 1) := by decide +kernel
theorem dX3_restoreInto_0 : decode cX3_restoreInto 0 = .ok (.aload_n 0, 1) := by decide +kernel
theorem dX3_restoreInto_1 : decode cX3_restoreInto 1 = .ok (.getfield 18, 3) := by decide +kernel
theorem dX3_restoreInto_4 : decode cX3_restoreInto 4 = .ok (.ifCond .le 12, 3) := by decide +kernel
theorem dX3_restoreInto_7 : decode cX3_restoreInto 7 = .ok (.aload_n 0, 1) := by decide +kernel
theorem dX3_restoreInto_8 : decode cX3_restoreInto 8 = .ok (.getfield 18, 3) := by decide +kernel
theorem dX3_restoreInto_11 : decode cX3_restoreInto 11 = .ok (.iconst 1, 1) := by decide +kernel
theorem dX3_restoreInto_12 : decode cX3_restoreInto 12 = .ok (.isub, 1) := by decide +kernel
theorem dX3_restoreInto_13 : decode cX3_restoreInto 13 = .ok (.goto 4, 3) := by decide +kernel
theorem dX3_restoreInto_16 : decode cX3_restoreInto 16 = .ok (.iconst 4, 1) := by decide +kernel
theorem dX3_restoreInto_17 : decode cX3_restoreInto 17 = .ok (.istore_n 2, 1) := by decide +kernel
theorem dX3_restoreInto_18 : decode cX3_restoreInto 18 = .ok (.aload_n 0, 1) := by decide +kernel
theorem dX3_restoreInto_19 : decode cX3_restoreInto 19 = .ok (.iload_n 2, 1) := by decide +kernel
theorem dX3_restoreInto_20 : decode cX3_restoreInto 20 = .ok (.invokevirtual 22, 3) := by decide +kernel
theorem dX3_restoreInto_23 : decode cX3_restoreInto 23 = .ok (.astore_n 3, 1) := by decide +kernel
theorem dX3_restoreInto_24 : decode cX3_restoreInto 24 = .ok (.aload_n 3, 1) := by decide +kernel
theorem dX3_restoreInto_25 : decode cX3_restoreInto 25 = .ok (.ifnull 30, 3) := by decide +kernel
theorem dX3_restoreInto_28 : decode cX3_restoreInto 28 = .ok (.aload_n 0, 1) := by decide +kernel
theorem dX3_restoreInto_29 : decode cX3_restoreInto 29 = .ok (.getfield 30, 3) := by decide +kernel
theorem dX3_restoreInto_32 : decode cX3_restoreInto 32 = .ok (.ifCond .le 23, 3) := by decide +kernel
theorem dX3_restoreInto_35 : decode cX3_restoreInto 35 = .ok (.aload_n 1, 1) := by decide +kernel
theorem dX3_restoreInto_36 : decode cX3_restoreInto 36 = .ok (.aload_n 3, 1) := by decide +kernel
theorem dX3_restoreInto_37 : decode cX3_restoreInto 37 = .ok (.invokevirtual 26, 3) := by decide +kernel
theorem dX3_restoreInto_40 : decode cX3_restoreInto 40 = .ok (.aload_n 0, 1) := by decide +kernel
theorem dX3_restoreInto_41 : decode cX3_restoreInto 41 = .ok (.iload_n 2, 1) := by decide +kernel
theorem dX3_restoreInto_42 : decode cX3_restoreInto 42 = .ok (.putfield 18, 3) := by decide +kernel
theorem dX3_restoreInto_45 : decode cX3_restoreInto 45 = .ok (.aload_n 0, 1) := by decide +kernel
theorem dX3_restoreInto_46 : decode cX3_restoreInto 46 = .ok (.dup, 1) := by decide +kernel
theorem dX3_restoreInto_47 : decode cX3_restoreInto 47 = .ok (.getfield 30, 3) := by decide +kernel
theorem dX3_restoreInto_50 : decode cX3_restoreInto 50 = .ok (.iconst 1, 1) := by decide +kernel
theorem dX3_restoreInto_51 : decode cX3_restoreInto 51 = .ok (.isub, 1) := by decide +kernel
theorem dX3_restoreInto_52 : decode cX3_restoreInto 52 = .ok (.putfield 30, 3) := by decide +kernel
theorem dX3_restoreInto_55 : decode cX3_restoreInto 55 = .ok (.return_, 1) := by decide +kernel
theorem dX3_stateAt_0 : decode cX3_stateAt 0 = .ok (.iload_n 1, 1) := by decide +kernel
theorem dX3_stateAt_1 : decode cX3_stateAt 1 = .ok (.ifCond .lt 21, 3) := by decide +kernel
theorem dX3_stateAt_4 : decode cX3_stateAt 4 = .ok (.iload_n 1, 1) := by decide +kernel
theorem dX3_stateAt_5 : decode cX3_stateAt 5 = .ok (.aload_n 0, 1) := by decide +kernel
theorem dX3_stateAt_6 : decode cX3_stateAt 6 = .ok (.getfield 11, 3) := by decide +kernel
theorem dX3_stateAt_9 : decode cX3_stateAt 9 = .ok (.arraylength, 1) := by decide +kernel
theorem dX3_stateAt_10 : decode cX3_stateAt 10 = .ok (.if_icmp .ge 12, 3) := by decide +kernel
theorem dX3_stateAt_13 : decode cX3_stateAt 13 = .ok (.aload_n 0, 1) := by decide +kernel
theorem dX3_stateAt_14 : decode cX3_stateAt 14 = .ok (.getfield 11, 3) := by decide +kernel
theorem dX3_stateAt_17 : decode cX3_stateAt 17 = .ok (.iload_n 1, 1) := by decide +kernel
theorem dX3_stateAt_18 : decode cX3_stateAt 18 = .ok (.aaload, 1) := by decide +kernel
theorem dX3_stateAt_19 : decode cX3_stateAt 19 = .ok (.goto 4, 3) := by decide +kernel
theorem dX3_stateAt_22 : decode cX3_stateAt 22 = .ok (.aconst_null, 1) := by decide +kernel
theorem dX3_stateAt_23 : decode cX3_stateAt 23 = .ok (.areturn, 1) := by decide +kernel
theorem dX4_init_0 : decode cX4_init 0 = .ok (.aload_n 0, 1) := by decide +kernel
theorem dX4_init_1 : decode cX4_init 1 = .ok (.invokespecial 1, 3) := by decide +kernel
theorem dX4_init_4 : decode cX4_init 4 = .ok (.aload_n 0, 1) := by decide +kernel
theorem dX4_init_5 : decode cX4_init 5 = .ok (.iload_n 1, 1) := by decide +kernel
theorem dX4_init_6 : decode cX4_init 6 = .ok (.iconst 0, 1) := by decide +kernel
theorem dX4_init_7 : decode cX4_init 7 = .ok (.invokestatic 7, 3) := by decide +kernel
theorem dX4_init_10 : decode cX4_init 10 = .ok (.newarray .int, 2) := by decide +kernel
theorem dX4_init_12 : decode cX4_init 12 = .ok (.putfield 13, 3) := by decide +kernel
theorem dX4_init_15 : decode cX4_init 15 = .ok (.return_, 1) := by decide +kernel
theorem dX4_at_0 : decode cX4_at 0 = .ok (.iload_n 1, 1) := by decide +kernel
theorem dX4_at_1 : decode cX4_at 1 = .ok (.ifCond .lt 21, 3) := by decide +kernel
theorem dX4_at_4 : decode cX4_at 4 = .ok (.iload_n 1, 1) := by decide +kernel
theorem dX4_at_5 : decode cX4_at 5 = .ok (.aload_n 0, 1) := by decide +kernel
theorem dX4_at_6 : decode cX4_at 6 = .ok (.getfield 13, 3) := by decide +kernel
theorem dX4_at_9 : decode cX4_at 9 = .ok (.arraylength, 1) := by decide +kernel
theorem dX4_at_10 : decode cX4_at 10 = .ok (.if_icmp .ge 12, 3) := by decide +kernel
theorem dX4_at_13 : decode cX4_at 13 = .ok (.aload_n 0, 1) := by decide +kernel
theorem dX4_at_14 : decode cX4_at 14 = .ok (.getfield 13, 3) := by decide +kernel
theorem dX4_at_17 : decode cX4_at 17 = .ok (.iload_n 1, 1) := by decide +kernel
theorem dX4_at_18 : decode cX4_at 18 = .ok (.iaload, 1) := by decide +kernel
theorem dX4_at_19 : decode cX4_at 19 = .ok (.goto 4, 3) := by decide +kernel
theorem dX4_at_22 : decode cX4_at 22 = .ok (.iconst 0, 1) := by decide +kernel
theorem dX4_at_23 : decode cX4_at 23 = .ok (.ireturn, 1) := by decide +kernel
theorem dX4_put_0 : decode cX4_put 0 = .ok (.iload_n 1, 1) := by decide +kernel
theorem dX4_put_1 : decode cX4_put 1 = .ok (.ifCond .lt 19, 3) := by decide +kernel
theorem dX4_put_4 : decode cX4_put 4 = .ok (.iload_n 1, 1) := by decide +kernel
theorem dX4_put_5 : decode cX4_put 5 = .ok (.aload_n 0, 1) := by decide +kernel
theorem dX4_put_6 : decode cX4_put 6 = .ok (.getfield 13, 3) := by decide +kernel
theorem dX4_put_9 : decode cX4_put 9 = .ok (.arraylength, 1) := by decide +kernel
theorem dX4_put_10 : decode cX4_put 10 = .ok (.if_icmp .ge 10, 3) := by decide +kernel
theorem dX4_put_13 : decode cX4_put 13 = .ok (.aload_n 0, 1) := by decide +kernel
theorem dX4_put_14 : decode cX4_put 14 = .ok (.getfield 13, 3) := by decide +kernel
theorem dX4_put_17 : decode cX4_put 17 = .ok (.iload_n 1, 1) := by decide +kernel
theorem dX4_put_18 : decode cX4_put 18 = .ok (.iload_n 2, 1) := by decide +kernel
theorem dX4_put_19 : decode cX4_put 19 = .ok (.iastore, 1) := by decide +kernel
theorem dX4_put_20 : decode cX4_put 20 = .ok (.return_, 1) := by decide +kernel
theorem dX4_putAll_0 : decode cX4_putAll 0 = .ok (.iconst 0, 1) := by decide +kernel
theorem dX4_putAll_1 : decode cX4_putAll 1 = .ok (.istore_n 2, 1) := by decide +kernel
theorem dX4_putAll_2 : decode cX4_putAll 2 = .ok (.iload_n 2, 1) := by decide +kernel
theorem dX4_putAll_3 : decode cX4_putAll 3 = .ok (.aload_n 0, 1) := by decide +kernel
theorem dX4_putAll_4 : decode cX4_putAll 4 = .ok (.getfield 13, 3) := by decide +kernel
theorem dX4_putAll_7 : decode cX4_putAll 7 = .ok (.arraylength, 1) := by decide +kernel
theorem dX4_putAll_8 : decode cX4_putAll 8 = .ok (.if_icmp .ge 16, 3) := by decide +kernel
theorem dX4_putAll_11 : decode cX4_putAll 11 = .ok (.aload_n 0, 1) := by decide +kernel
theorem dX4_putAll_12 : decode cX4_putAll 12 = .ok (.getfield 13, 3) := by decide +kernel
theorem dX4_putAll_15 : decode cX4_putAll 15 = .ok (.iload_n 2, 1) := by decide +kernel
theorem dX4_putAll_16 : decode cX4_putAll 16 = .ok (.iload_n 1, 1) := by decide +kernel
theorem dX4_putAll_17 : decode cX4_putAll 17 = .ok (.iastore, 1) := by decide +kernel
theorem dX4_putAll_18 : decode cX4_putAll 18 = .ok (.iinc 2 1, 3) := by decide +kernel
theorem dX4_putAll_21 : decode cX4_putAll 21 = .ok (.goto (-19), 3) := by decide +kernel
theorem dX4_putAll_24 : decode cX4_putAll 24 = .ok (.return_, 1) := by decide +kernel
theorem dX4_copyFrom_0 : decode cX4_copyFrom 0 = .ok (.aload_n 1, 1) := by decide +kernel
theorem dX4_copyFrom_1 : decode cX4_copyFrom 1 = .ok (.getfield 13, 3) := by decide +kernel
theorem dX4_copyFrom_4 : decode cX4_copyFrom 4 = .ok (.iconst 0, 1) := by decide +kernel
theorem dX4_copyFrom_5 : decode cX4_copyFrom 5 = .ok (.aload_n 0, 1) := by decide +kernel
theorem dX4_copyFrom_6 : decode cX4_copyFrom 6 = .ok (.getfield 13, 3) := by decide +kernel
theorem dX4_copyFrom_9 : decode cX4_copyFrom 9 = .ok (.iconst 0, 1) := by decide +kernel
theorem dX4_copyFrom_10 : decode cX4_copyFrom 10 = .ok (.aload_n 0, 1) := by decide +kernel
theorem dX4_copyFrom_11 : decode cX4_copyFrom 11 = .ok (.getfield 13, 3) := by decide +kernel
theorem dX4_copyFrom_14 : decode cX4_copyFrom 14 = .ok (.arraylength, 1) := by decide +kernel
theorem dX4_copyFrom_15 : decode cX4_copyFrom 15 = .ok (.aload_n 1, 1) := by decide +kernel
theorem dX4_copyFrom_16 : decode cX4_copyFrom 16 = .ok (.getfield 13, 3) := by decide +kernel
theorem dX4_copyFrom_19 : decode cX4_copyFrom 19 = .ok (.arraylength, 1) := by decide +kernel
theorem dX4_copyFrom_20 : decode cX4_copyFrom 20 = .ok (.invokestatic 19, 3) := by decide +kernel
theorem dX4_copyFrom_23 : decode cX4_copyFrom 23 = .ok (.invokestatic 22, 3) := by decide +kernel
theorem dX4_copyFrom_26 : decode cX4_copyFrom 26 = .ok (.return_, 1) := by decide +kernel
theorem dX5_init_0 : decode cX5_init 0 = .ok (.aload_n 0, 1) := by decide +kernel
theorem dX5_init_1 : decode cX5_init 1 = .ok (.invokespecial 3, 3) := by decide +kernel
theorem dX5_init_4 : decode cX5_init 4 = .ok (.aload_n 0, 1) := by decide +kernel
theorem dX5_init_5 : decode cX5_init 5 = .ok (.new 9, 3) := by decide +kernel
theorem dX5_init_8 : decode cX5_init 8 = .ok (.dup, 1) := by decide +kernel
theorem dX5_init_9 : decode cX5_init 9 = .ok (.invokespecial 11, 3) := by decide +kernel
theorem dX5_init_12 : decode cX5_init 12 = .ok (.putfield 12, 3) := by decide +kernel
theorem dX5_init_15 : decode cX5_init 15 = .ok (.aload_n 0, 1) := by decide +kernel
theorem dX5_init_16 : decode cX5_init 16 = .ok (.new 18, 3) := by decide +kernel
theorem dX5_init_19 : decode cX5_init 19 = .ok (.dup, 1) := by decide +kernel
theorem dX5_init_20 : decode cX5_init 20 = .ok (.invokespecial 20, 3) := by decide +kernel
theorem dX5_init_23 : decode cX5_init 23 = .ok (.putfield 21, 3) := by decide +kernel
theorem dX5_init_26 : decode cX5_init 26 = .ok (.aload_n 0, 1) := by decide +kernel
theorem dX5_init_27 : decode cX5_init 27 = .ok (.new 25, 3) := by decide +kernel
theorem dX5_init_30 : decode cX5_init 30 = .ok (.dup, 1) := by decide +kernel
theorem dX5_init_31 : decode cX5_init 31 = .ok (.bipush 10, 2) := by decide +kernel
theorem dX5_init_33 : decode cX5_init 33 = .ok (.invokespecial 27, 3) := by decide +kernel
theorem dX5_init_36 : decode cX5_init 36 = .ok (.putfield 30, 3) := by decide +kernel
theorem dX5_init_39 : decode cX5_init 39 = .ok (.aload_n 0, 1) := by decide +kernel
theorem dX5_init_40 : decode cX5_init 40 = .ok (.new 34, 3) := by decide +kernel
theorem dX5_init_43 : decode cX5_init 43 = .ok (.dup, 1) := by decide +kernel
theorem dX5_init_44 : decode cX5_init 44 = .ok (.invokespecial 36, 3) := by decide +kernel
theorem dX5_init_47 : decode cX5_init 47 = .ok (.putfield 37, 3) := by decide +kernel
theorem dX5_init_50 : decode cX5_init 50 = .ok (.aload_n 0, 1) := by decide +kernel
theorem dX5_init_51 : decode cX5_init 51 = .ok (.iconst 4, 1) := by decide +kernel
theorem dX5_init_52 : decode cX5_init 52 = .ok (.bipush 8, 2) := by decide +kernel
theorem dX5_init_54 : decode cX5_init 54 = .ok (.invokevirtual 41, 3) := by decide +kernel
theorem dX5_init_57 : decode cX5_init 57 = .ok (.return_, 1) := by decide +kernel
theorem dX5_reset_0 : decode cX5_reset 0 = .ok (.aload_n 0, 1) := by decide +kernel
theorem dX5_reset_1 : decode cX5_reset 1 = .ok (.getfield 12, 3) := by decide +kernel
theorem dX5_reset_4 : decode cX5_reset 4 = .ok (.iload_n 1, 1) := by decide +kernel
theorem dX5_reset_5 : decode cX5_reset 5 = .ok (.iload_n 2, 1) := by decide +kernel
theorem dX5_reset_6 : decode cX5_reset 6 = .ok (.invokevirtual 45, 3) := by decide +kernel
theorem dX5_reset_9 : decode cX5_reset 9 = .ok (.aload_n 0, 1) := by decide +kernel
theorem dX5_reset_10 : decode cX5_reset 10 = .ok (.getfield 21, 3) := by decide +kernel
theorem dX5_reset_13 : decode cX5_reset 13 = .ok (.invokevirtual 46, 3) := by decide +kernel
theorem dX5_reset_16 : decode cX5_reset 16 = .ok (.aload_n 0, 1) := by decide +kernel
theorem dX5_reset_17 : decode cX5_reset 17 = .ok (.getfield 21, 3) := by decide +kernel
theorem dX5_reset_20 : decode cX5_reset 20 = .ok (.iconst 0, 1) := by decide +kernel
theorem dX5_reset_21 : decode cX5_reset 21 = .ok (.putfield 49, 3) := by decide +kernel
theorem dX5_reset_24 : decode cX5_reset 24 = .ok (.aload_n 0, 1) := by decide +kernel
theorem dX5_reset_25 : decode cX5_reset 25 = .ok (.getfield 30, 3) := by decide +kernel
theorem dX5_reset_28 : decode cX5_reset 28 = .ok (.sipush 300, 3) := by decide +kernel
theorem dX5_reset_31 : decode cX5_reset 31 = .ok (.invokevirtual 53, 3) := by decide +kernel
theorem dX5_reset_34 : decode cX5_reset 34 = .ok (.aload_n 0, 1) := by decide +kernel
theorem dX5_reset_35 : decode cX5_reset 35 = .ok (.getfield 37, 3) := by decide +kernel
theorem dX5_reset_38 : decode cX5_reset 38 = .ok (.iconst 0, 1) := by decide +kernel
theorem dX5_reset_39 : decode cX5_reset 39 = .ok (.putfield 56, 3) := by decide +kernel
theorem dX5_reset_42 : decode cX5_reset 42 = .ok (.return_, 1) := by decide +kernel
theorem dX5_copyFrom_0 : decode cX5_copyFrom 0 = .ok (.aload_n 0, 1) := by decide +kernel
theorem dX5_copyFrom_1 : decode cX5_copyFrom 1 = .ok (.getfield 12, 3) := by decide +kernel
theorem dX5_copyFrom_4 : decode cX5_copyFrom 4 = .ok (.aload_n 1, 1) := by decide +kernel
theorem dX5_copyFrom_5 : decode cX5_copyFrom 5 = .ok (.getfield 12, 3) := by decide +kernel
theorem dX5_copyFrom_8 : decode cX5_copyFrom 8 = .ok (.invokevirtual 59, 3) := by decide +kernel
theorem dX5_copyFrom_11 : decode cX5_copyFrom 11 = .ok (.aload_n 0, 1) := by decide +kernel
theorem dX5_copyFrom_12 : decode cX5_copyFrom 12 = .ok (.getfield 21, 3) := by decide +kernel
theorem dX5_copyFrom_15 : decode cX5_copyFrom 15 = .ok (.aload_n 1, 1) := by decide +kernel
theorem dX5_copyFrom_16 : decode cX5_copyFrom 16 = .ok (.getfield 21, 3) := by decide +kernel
theorem dX5_copyFrom_19 : decode cX5_copyFrom 19 = .ok (.invokevirtual 63, 3) := by decide +kernel
theorem dX5_copyFrom_22 : decode cX5_copyFrom 22 = .ok (.aload_n 0, 1) := by decide +kernel
theorem dX5_copyFrom_23 : decode cX5_copyFrom 23 = .ok (.getfield 30, 3) := by decide +kernel
theorem dX5_copyFrom_26 : decode cX5_copyFrom 26 = .ok (.aload_n 1, 1) := by decide +kernel
theorem dX5_copyFrom_27 : decode cX5_copyFrom 27 = .ok (.getfield 30, 3) := by decide +kernel
theorem dX5_copyFrom_30 : decode cX5_copyFrom 30 = .ok (.invokevirtual 66, 3) := by decide +kernel
theorem dX5_copyFrom_33 : decode cX5_copyFrom 33 = .ok (.aload_n 0, 1) := by decide +kernel
theorem dX5_copyFrom_34 : decode cX5_copyFrom 34 = .ok (.getfield 37, 3) := by decide +kernel
theorem dX5_copyFrom_37 : decode cX5_copyFrom 37 = .ok (.aload_n 1, 1) := by decide +kernel
theorem dX5_copyFrom_38 : decode cX5_copyFrom 38 = .ok (.getfield 37, 3) := by decide +kernel
theorem dX5_copyFrom_41 : decode cX5_copyFrom 41 = .ok (.invokevirtual 69, 3) := by decide +kernel
theorem dX5_copyFrom_44 : decode cX5_copyFrom 44 = .ok (.return_, 1) := by decide +kernel
theorem dX5_makePick_0 : decode cX5_makePick 0 = .ok (.aload_n 0, 1) := by decide +kernel
theorem dX5_makePick_1 : decode cX5_makePick 1 = .ok (.getfield 37, 3) := by decide +kernel
theorem dX5_makePick_4 : decode cX5_makePick 4 = .ok (.getfield 56, 3) := by decide +kernel
theorem dX5_makePick_7 : decode cX5_makePick 7 = .ok (.istore_n 1, 1) := by decide +kernel
theorem dX5_makePick_8 : decode cX5_makePick 8 = .ok (.aload_n 0, 1) := by decide +kernel
theorem dX5_makePick_9 : decode cX5_makePick 9 = .ok (.getfield 21, 3) := by decide +kernel
theorem dX5_makePick_12 : decode cX5_makePick 12 = .ok (.getfield 72, 3) := by decide +kernel
theorem dX5_makePick_15 : decode cX5_makePick 15 = .ok (.aload_n 0, 1) := by decide +kernel
theorem dX5_makePick_16 : decode cX5_makePick 16 = .ok (.getfield 21, 3) := by decide +kernel
theorem dX5_makePick_19 : decode cX5_makePick 19 = .ok (.getfield 75, 3) := by decide +kernel
theorem dX5_makePick_22 : decode cX5_makePick 22 = .ok (.invokevirtual 78, 3) := by decide +kernel
theorem dX5_makePick_25 : decode cX5_makePick 25 = .ok (.istore_n 2, 1) := by decide +kernel
theorem dX5_makePick_26 : decode cX5_makePick 26 = .ok (.aload_n 0, 1) := by decide +kernel
theorem dX5_makePick_27 : decode cX5_makePick 27 = .ok (.getfield 21, 3) := by decide +kernel
theorem dX5_makePick_30 : decode cX5_makePick 30 = .ok (.getfield 82, 3) := by decide +kernel
theorem dX5_makePick_33 : decode cX5_makePick 33 = .ok (.aload_n 0, 1) := by decide +kernel
theorem dX5_makePick_34 : decode cX5_makePick 34 = .ok (.getfield 21, 3) := by decide +kernel
theorem dX5_makePick_37 : decode cX5_makePick 37 = .ok (.getfield 75, 3) := by decide +kernel
theorem dX5_makePick_40 : decode cX5_makePick 40 = .ok (.invokevirtual 78, 3) := by decide +kernel
theorem dX5_makePick_43 : decode cX5_makePick 43 = .ok (.istore_n 3, 1) := by decide +kernel
theorem dX5_makePick_44 : decode cX5_makePick 44 = .ok (.aload_n 0, 1) := by decide +kernel
theorem dX5_makePick_45 : decode cX5_makePick 45 = .ok (.getfield 37, 3) := by decide +kernel
theorem dX5_makePick_48 : decode cX5_makePick 48 = .ok (.getfield 85, 3) := by decide +kernel
theorem dX5_makePick_51 : decode cX5_makePick 51 = .ok (.iload_n 1, 1) := by decide +kernel
theorem dX5_makePick_52 : decode cX5_makePick 52 = .ok (.iload_n 2, 1) := by decide +kernel
theorem dX5_makePick_53 : decode cX5_makePick 53 = .ok (.invokevirtual 86, 3) := by decide +kernel
theorem dX5_makePick_56 : decode cX5_makePick 56 = .ok (.aload_n 0, 1) := by decide +kernel
theorem dX5_makePick_57 : decode cX5_makePick 57 = .ok (.getfield 37, 3) := by decide +kernel
theorem dX5_makePick_60 : decode cX5_makePick 60 = .ok (.getfield 89, 3) := by decide +kernel
theorem dX5_makePick_63 : decode cX5_makePick 63 = .ok (.iload_n 1, 1) := by decide +kernel
theorem dX5_makePick_64 : decode cX5_makePick 64 = .ok (.aload_n 0, 1) := by decide +kernel
theorem dX5_makePick_65 : decode cX5_makePick 65 = .ok (.getfield 21, 3) := by decide +kernel
theorem dX5_makePick_68 : decode cX5_makePick 68 = .ok (.getfield 75, 3) := by decide +kernel
theorem dX5_makePick_71 : decode cX5_makePick 71 = .ok (.invokevirtual 86, 3) := by decide +kernel
theorem dX5_makePick_74 : decode cX5_makePick 74 = .ok (.aload_n 0, 1) := by decide +kernel
theorem dX5_makePick_75 : decode cX5_makePick 75 = .ok (.getfield 37, 3) := by decide +kernel
theorem dX5_makePick_78 : decode cX5_makePick 78 = .ok (.getfield 92, 3) := by decide +kernel
theorem dX5_makePick_81 : decode cX5_makePick 81 = .ok (.iload_n 1, 1) := by decide +kernel
theorem dX5_makePick_82 : decode cX5_makePick 82 = .ok (.aload_n 0, 1) := by decide +kernel
theorem dX5_makePick_83 : decode cX5_makePick 83 = .ok (.getfield 12, 3) := by decide +kernel
theorem dX5_makePick_86 : decode cX5_makePick 86 = .ok (.iload_n 3, 1) := by decide +kernel
theorem dX5_makePick_87 : decode cX5_makePick 87 = .ok (.invokevirtual 95, 3) := by decide +kernel
theorem dX5_makePick_90 : decode cX5_makePick 90 = .ok (.invokevirtual 86, 3) := by decide +kernel
theorem dX5_makePick_93 : decode cX5_makePick 93 = .ok (.aload_n 0, 1) := by decide +kernel
theorem dX5_makePick_94 : decode cX5_makePick 94 = .ok (.iload_n 1, 1) := by decide +kernel
theorem dX5_makePick_95 : decode cX5_makePick 95 = .ok (.aload_n 0, 1) := by decide +kernel
theorem dX5_makePick_96 : decode cX5_makePick 96 = .ok (.getfield 12, 3) := by decide +kernel
theorem dX5_makePick_99 : decode cX5_makePick 99 = .ok (.aload_n 0, 1) := by decide +kernel
theorem dX5_makePick_100 : decode cX5_makePick 100 = .ok (.getfield 12, 3) := by decide +kernel
theorem dX5_makePick_103 : decode cX5_makePick 103 = .ok (.iload_n 3, 1) := by decide +kernel
theorem dX5_makePick_104 : decode cX5_makePick 104 = .ok (.invokevirtual 98, 3) := by decide +kernel
theorem dX5_makePick_107 : decode cX5_makePick 107 = .ok (.invokevirtual 95, 3) := by decide +kernel
theorem dX5_makePick_110 : decode cX5_makePick 110 = .ok (.aload_n 0, 1) := by decide +kernel
theorem dX5_makePick_111 : decode cX5_makePick 111 = .ok (.getfield 30, 3) := by decide +kernel
theorem dX5_makePick_114 : decode cX5_makePick 114 = .ok (.iload_n 2, 1) := by decide +kernel
theorem dX5_makePick_115 : decode cX5_makePick 115 = .ok (.invokevirtual 78, 3) := by decide +kernel
theorem dX5_makePick_118 : decode cX5_makePick 118 = .ok (.invokevirtual 101, 3) := by decide +kernel
theorem dX5_makePick_121 : decode cX5_makePick 121 = .ok (.aload_n 0, 1) := by decide +kernel
theorem dX5_makePick_122 : decode cX5_makePick 122 = .ok (.getfield 30, 3) := by decide +kernel
theorem dX5_makePick_125 : decode cX5_makePick 125 = .ok (.iload_n 2, 1) := by decide +kernel
theorem dX5_makePick_126 : decode cX5_makePick 126 = .ok (.aload_n 0, 1) := by decide +kernel
theorem dX5_makePick_127 : decode cX5_makePick 127 = .ok (.getfield 30, 3) := by decide +kernel
theorem dX5_makePick_130 : decode cX5_makePick 130 = .ok (.iload_n 2, 1) := by decide +kernel
theorem dX5_makePick_131 : decode cX5_makePick 131 = .ok (.invokevirtual 78, 3) := by decide +kernel
theorem dX5_makePick_134 : decode cX5_makePick 134 = .ok (.aload_n 0, 1) := by decide +kernel
theorem dX5_makePick_135 : decode cX5_makePick 135 = .ok (.getfield 37, 3) := by decide +kernel
theorem dX5_makePick_138 : decode cX5_makePick 138 = .ok (.getfield 105, 3) := by decide +kernel
theorem dX5_makePick_141 : decode cX5_makePick 141 = .ok (.iload_n 1, 1) := by decide +kernel
theorem dX5_makePick_142 : decode cX5_makePick 142 = .ok (.invokevirtual 78, 3) := by decide +kernel
theorem dX5_makePick_145 : decode cX5_makePick 145 = .ok (.isub, 1) := by decide +kernel
theorem dX5_makePick_146 : decode cX5_makePick 146 = .ok (.invokevirtual 86, 3) := by decide +kernel
theorem dX5_makePick_149 : decode cX5_makePick 149 = .ok (.aload_n 0, 1) := by decide +kernel
theorem dX5_makePick_150 : decode cX5_makePick 150 = .ok (.getfield 37, 3) := by decide +kernel
theorem dX5_makePick_153 : decode cX5_makePick 153 = .ok (.iload_n 1, 1) := by decide +kernel
theorem dX5_makePick_154 : decode cX5_makePick 154 = .ok (.iconst 1, 1) := by decide +kernel
theorem dX5_makePick_155 : decode cX5_makePick 155 = .ok (.iadd, 1) := by decide +kernel
theorem dX5_makePick_156 : decode cX5_makePick 156 = .ok (.putfield 56, 3) := by decide +kernel
theorem dX5_makePick_159 : decode cX5_makePick 159 = .ok (.aload_n 0, 1) := by decide +kernel
theorem dX5_makePick_160 : decode cX5_makePick 160 = .ok (.getfield 21, 3) := by decide +kernel
theorem dX5_makePick_163 : decode cX5_makePick 163 = .ok (.aload_n 0, 1) := by decide +kernel
theorem dX5_makePick_164 : decode cX5_makePick 164 = .ok (.getfield 21, 3) := by decide +kernel
theorem dX5_makePick_167 : decode cX5_makePick 167 = .ok (.aload_n 0, 1) := by decide +kernel
theorem dX5_makePick_168 : decode cX5_makePick 168 = .ok (.getfield 21, 3) := by decide +kernel
theorem dX5_makePick_171 : decode cX5_makePick 171 = .ok (.getfield 75, 3) := by decide +kernel
theorem dX5_makePick_174 : decode cX5_makePick 174 = .ok (.invokevirtual 108, 3) := by decide +kernel
theorem dX5_makePick_177 : decode cX5_makePick 177 = .ok (.putfield 75, 3) := by decide +kernel
theorem dX5_makePick_180 : decode cX5_makePick 180 = .ok (.return_, 1) := by decide +kernel
theorem dX5_layWeft_0 : decode cX5_layWeft 0 = .ok (.iload_n 1, 1) := by decide +kernel
theorem dX5_layWeft_1 : decode cX5_layWeft 1 = .ok (.iconst 1, 1) := by decide +kernel
theorem dX5_layWeft_2 : decode cX5_layWeft 2 = .ok (.iand, 1) := by decide +kernel
theorem dX5_layWeft_3 : decode cX5_layWeft 3 = .ok (.ifCond .ne 7, 3) := by decide +kernel
theorem dX5_layWeft_6 : decode cX5_layWeft 6 = .ok (.iconst 1, 1) := by decide +kernel
theorem dX5_layWeft_7 : decode cX5_layWeft 7 = .ok (.goto 4, 3) := by decide +kernel
theorem dX5_layWeft_10 : decode cX5_layWeft 10 = .ok (.iconst 0, 1) := by decide +kernel
theorem dX5_layWeft_11 : decode cX5_layWeft 11 = .ok (.istore 4, 2) := by decide +kernel
theorem dX5_layWeft_13 : decode cX5_layWeft 13 = .ok (.iconst 0, 1) := by decide +kernel
theorem dX5_layWeft_14 : decode cX5_layWeft 14 = .ok (.istore 5, 2) := by decide +kernel
theorem dX5_layWeft_16 : decode cX5_layWeft 16 = .ok (.iconst 0, 1) := by decide +kernel
theorem dX5_layWeft_17 : decode cX5_layWeft 17 = .ok (.istore 6, 2) := by decide +kernel
theorem dX5_layWeft_19 : decode cX5_layWeft 19 = .ok (.iconst (-1), 1) := by decide +kernel
theorem dX5_layWeft_20 : decode cX5_layWeft 20 = .ok (.istore 7, 2) := by decide +kernel
theorem dX5_layWeft_22 : decode cX5_layWeft 22 = .ok (.iconst 0, 1) := by decide +kernel
theorem dX5_layWeft_23 : decode cX5_layWeft 23 = .ok (.istore 8, 2) := by decide +kernel
theorem dX5_layWeft_25 : decode cX5_layWeft 25 = .ok (.iload 8, 2) := by decide +kernel
theorem dX5_layWeft_27 : decode cX5_layWeft 27 = .ok (.aload_n 0, 1) := by decide +kernel
theorem dX5_layWeft_28 : decode cX5_layWeft 28 = .ok (.getfield 12, 3) := by decide +kernel
theorem dX5_layWeft_31 : decode cX5_layWeft 31 = .ok (.getfield 111, 3) := by decide +kernel
theorem dX5_layWeft_34 : decode cX5_layWeft 34 = .ok (.if_icmp .ge 92, 3) := by decide +kernel
theorem dX5_layWeft_37 : decode cX5_layWeft 37 = .ok (.iload 4, 2) := by decide +kernel
theorem dX5_layWeft_39 : decode cX5_layWeft 39 = .ok (.ifCond .eq 8, 3) := by decide +kernel
theorem dX5_layWeft_42 : decode cX5_layWeft 42 = .ok (.iload 8, 2) := by decide +kernel
theorem dX5_layWeft_44 : decode cX5_layWeft 44 = .ok (.goto 15, 3) := by decide +kernel
theorem dX5_layWeft_47 : decode cX5_layWeft 47 = .ok (.aload_n 0, 1) := by decide +kernel
theorem dX5_layWeft_48 : decode cX5_layWeft 48 = .ok (.getfield 12, 3) := by decide +kernel
theorem dX5_layWeft_51 : decode cX5_layWeft 51 = .ok (.getfield 111, 3) := by decide +kernel
theorem dX5_layWeft_54 : decode cX5_layWeft 54 = .ok (.iconst 1, 1) := by decide +kernel
theorem dX5_layWeft_55 : decode cX5_layWeft 55 = .ok (.isub, 1) := by decide +kernel
theorem dX5_layWeft_56 : decode cX5_layWeft 56 = .ok (.iload 8, 2) := by decide +kernel
theorem dX5_layWeft_58 : decode cX5_layWeft 58 = .ok (.isub, 1) := by decide +kernel
theorem dX5_layWeft_59 : decode cX5_layWeft 59 = .ok (.istore 9, 2) := by decide +kernel
theorem dX5_layWeft_61 : decode cX5_layWeft 61 = .ok (.iload_n 2, 1) := by decide +kernel
theorem dX5_layWeft_62 : decode cX5_layWeft 62 = .ok (.iload 9, 2) := by decide +kernel
theorem dX5_layWeft_64 : decode cX5_layWeft 64 = .ok (.invokestatic 114, 3) := by decide +kernel
theorem dX5_layWeft_67 : decode cX5_layWeft 67 = .ok (.istore 10, 2) := by decide +kernel
theorem dX5_layWeft_69 : decode cX5_layWeft 69 = .ok (.iload 8, 2) := by decide +kernel
theorem dX5_layWeft_71 : decode cX5_layWeft 71 = .ok (.ifCond .eq 10, 3) := by decide +kernel
theorem dX5_layWeft_74 : decode cX5_layWeft 74 = .ok (.iload 10, 2) := by decide +kernel
theorem dX5_layWeft_76 : decode cX5_layWeft 76 = .ok (.iload 7, 2) := by decide +kernel
theorem dX5_layWeft_78 : decode cX5_layWeft 78 = .ok (.if_icmp .ne 7, 3) := by decide +kernel
theorem dX5_layWeft_81 : decode cX5_layWeft 81 = .ok (.iconst 1, 1) := by decide +kernel
theorem dX5_layWeft_82 : decode cX5_layWeft 82 = .ok (.goto 4, 3) := by decide +kernel
theorem dX5_layWeft_85 : decode cX5_layWeft 85 = .ok (.iconst 2, 1) := by decide +kernel
theorem dX5_layWeft_86 : decode cX5_layWeft 86 = .ok (.istore 11, 2) := by decide +kernel
theorem dX5_layWeft_88 : decode cX5_layWeft 88 = .ok (.iload 11, 2) := by decide +kernel
theorem dX5_layWeft_90 : decode cX5_layWeft 90 = .ok (.iload_n 3, 1) := by decide +kernel
theorem dX5_layWeft_91 : decode cX5_layWeft 91 = .ok (.iload 6, 2) := by decide +kernel
theorem dX5_layWeft_93 : decode cX5_layWeft 93 = .ok (.isub, 1) := by decide +kernel
theorem dX5_layWeft_94 : decode cX5_layWeft 94 = .ok (.if_icmp .le 6, 3) := by decide +kernel
theorem dX5_layWeft_97 : decode cX5_layWeft 97 = .ok (.goto 29, 3) := by decide +kernel
theorem dX5_layWeft_100 : decode cX5_layWeft 100 = .ok (.iload 6, 2) := by decide +kernel
theorem dX5_layWeft_102 : decode cX5_layWeft 102 = .ok (.iload 11, 2) := by decide +kernel
theorem dX5_layWeft_104 : decode cX5_layWeft 104 = .ok (.iadd, 1) := by decide +kernel
theorem dX5_layWeft_105 : decode cX5_layWeft 105 = .ok (.istore 6, 2) := by decide +kernel
theorem dX5_layWeft_107 : decode cX5_layWeft 107 = .ok (.iload 5, 2) := by decide +kernel
theorem dX5_layWeft_109 : decode cX5_layWeft 109 = .ok (.iconst 1, 1) := by decide +kernel
theorem dX5_layWeft_110 : decode cX5_layWeft 110 = .ok (.iload 9, 2) := by decide +kernel
theorem dX5_layWeft_112 : decode cX5_layWeft 112 = .ok (.ishl, 1) := by decide +kernel
theorem dX5_layWeft_113 : decode cX5_layWeft 113 = .ok (.ior, 1) := by decide +kernel
theorem dX5_layWeft_114 : decode cX5_layWeft 114 = .ok (.istore 5, 2) := by decide +kernel
theorem dX5_layWeft_116 : decode cX5_layWeft 116 = .ok (.iload 10, 2) := by decide +kernel
theorem dX5_layWeft_118 : decode cX5_layWeft 118 = .ok (.istore 7, 2) := by decide +kernel
theorem dX5_layWeft_120 : decode cX5_layWeft 120 = .ok (.iinc 8 1, 3) := by decide +kernel
theorem dX5_layWeft_123 : decode cX5_layWeft 123 = .ok (.goto (-98), 3) := by decide +kernel
theorem dX5_layWeft_126 : decode cX5_layWeft 126 = .ok (.aload_n 0, 1) := by decide +kernel
theorem dX5_layWeft_127 : decode cX5_layWeft 127 = .ok (.getfield 37, 3) := by decide +kernel
theorem dX5_layWeft_130 : decode cX5_layWeft 130 = .ok (.getfield 118, 3) := by decide +kernel
theorem dX5_layWeft_133 : decode cX5_layWeft 133 = .ok (.iload_n 1, 1) := by decide +kernel
theorem dX5_layWeft_134 : decode cX5_layWeft 134 = .ok (.iload_n 2, 1) := by decide +kernel
theorem dX5_layWeft_135 : decode cX5_layWeft 135 = .ok (.iload 5, 2) := by decide +kernel
theorem dX5_layWeft_137 : decode cX5_layWeft 137 = .ok (.iand, 1) := by decide +kernel
theorem dX5_layWeft_138 : decode cX5_layWeft 138 = .ok (.invokevirtual 86, 3) := by decide +kernel
theorem dX5_layWeft_141 : decode cX5_layWeft 141 = .ok (.aload_n 0, 1) := by decide +kernel
theorem dX5_layWeft_142 : decode cX5_layWeft 142 = .ok (.getfield 37, 3) := by decide +kernel
theorem dX5_layWeft_145 : decode cX5_layWeft 145 = .ok (.getfield 121, 3) := by decide +kernel
theorem dX5_layWeft_148 : decode cX5_layWeft 148 = .ok (.iload_n 1, 1) := by decide +kernel
theorem dX5_layWeft_149 : decode cX5_layWeft 149 = .ok (.aload_n 0, 1) := by decide +kernel
theorem dX5_layWeft_150 : decode cX5_layWeft 150 = .ok (.getfield 12, 3) := by decide +kernel
theorem dX5_layWeft_153 : decode cX5_layWeft 153 = .ok (.invokevirtual 124, 3) := by decide +kernel
theorem dX5_layWeft_156 : decode cX5_layWeft 156 = .ok (.iload 5, 2) := by decide +kernel
theorem dX5_layWeft_158 : decode cX5_layWeft 158 = .ok (.iconst (-1), 1) := by decide +kernel
theorem dX5_layWeft_159 : decode cX5_layWeft 159 = .ok (.ixor, 1) := by decide +kernel
theorem dX5_layWeft_160 : decode cX5_layWeft 160 = .ok (.iand, 1) := by decide +kernel
theorem dX5_layWeft_161 : decode cX5_layWeft 161 = .ok (.invokevirtual 86, 3) := by decide +kernel
theorem dX5_layWeft_164 : decode cX5_layWeft 164 = .ok (.aload_n 0, 1) := by decide +kernel
theorem dX5_layWeft_165 : decode cX5_layWeft 165 = .ok (.getfield 37, 3) := by decide +kernel
theorem dX5_layWeft_168 : decode cX5_layWeft 168 = .ok (.getfield 105, 3) := by decide +kernel
theorem dX5_layWeft_171 : decode cX5_layWeft 171 = .ok (.iload_n 1, 1) := by decide +kernel
theorem dX5_layWeft_172 : decode cX5_layWeft 172 = .ok (.iload 6, 2) := by decide +kernel
theorem dX5_layWeft_174 : decode cX5_layWeft 174 = .ok (.invokevirtual 86, 3) := by decide +kernel
theorem dX5_layWeft_177 : decode cX5_layWeft 177 = .ok (.return_, 1) := by decide +kernel
theorem dX5_takeOutLastRow_0 : decode cX5_takeOutLastRow 0 = .ok (.aload_n 0, 1) := by decide +kernel
theorem dX5_takeOutLastRow_1 : decode cX5_takeOutLastRow 1 = .ok (.getfield 37, 3) := by decide +kernel
theorem dX5_takeOutLastRow_4 : decode cX5_takeOutLastRow 4 = .ok (.getfield 56, 3) := by decide +kernel
theorem dX5_takeOutLastRow_7 : decode cX5_takeOutLastRow 7 = .ok (.iconst 1, 1) := by decide +kernel
theorem dX5_takeOutLastRow_8 : decode cX5_takeOutLastRow 8 = .ok (.isub, 1) := by decide +kernel
theorem dX5_takeOutLastRow_9 : decode cX5_takeOutLastRow 9 = .ok (.istore_n 1, 1) := by decide +kernel
theorem dX5_takeOutLastRow_10 : decode cX5_takeOutLastRow 10 = .ok (.aload_n 0, 1) := by decide +kernel
theorem dX5_takeOutLastRow_11 : decode cX5_takeOutLastRow 11 = .ok (.getfield 37, 3) := by decide +kernel
theorem dX5_takeOutLastRow_14 : decode cX5_takeOutLastRow 14 = .ok (.getfield 85, 3) := by decide +kernel
theorem dX5_takeOutLastRow_17 : decode cX5_takeOutLastRow 17 = .ok (.iload_n 1, 1) := by decide +kernel
theorem dX5_takeOutLastRow_18 : decode cX5_takeOutLastRow 18 = .ok (.invokevirtual 78, 3) := by decide +kernel
theorem dX5_takeOutLastRow_21 : decode cX5_takeOutLastRow 21 = .ok (.istore_n 2, 1) := by decide +kernel
theorem dX5_takeOutLastRow_22 : decode cX5_takeOutLastRow 22 = .ok (.aload_n 0, 1) := by decide +kernel
theorem dX5_takeOutLastRow_23 : decode cX5_takeOutLastRow 23 = .ok (.getfield 30, 3) := by decide +kernel
theorem dX5_takeOutLastRow_26 : decode cX5_takeOutLastRow 26 = .ok (.iload_n 2, 1) := by decide +kernel
theorem dX5_takeOutLastRow_27 : decode cX5_takeOutLastRow 27 = .ok (.aload_n 0, 1) := by decide +kernel
theorem dX5_takeOutLastRow_28 : decode cX5_takeOutLastRow 28 = .ok (.getfield 30, 3) := by decide +kernel
theorem dX5_takeOutLastRow_31 : decode cX5_takeOutLastRow 31 = .ok (.iload_n 2, 1) := by decide +kernel
theorem dX5_takeOutLastRow_32 : decode cX5_takeOutLastRow 32 = .ok (.invokevirtual 78, 3) := by decide +kernel
theorem dX5_takeOutLastRow_35 : decode cX5_takeOutLastRow 35 = .ok (.aload_n 0, 1) := by decide +kernel
theorem dX5_takeOutLastRow_36 : decode cX5_takeOutLastRow 36 = .ok (.getfield 37, 3) := by decide +kernel
theorem dX5_takeOutLastRow_39 : decode cX5_takeOutLastRow 39 = .ok (.getfield 105, 3) := by decide +kernel
theorem dX5_takeOutLastRow_42 : decode cX5_takeOutLastRow 42 = .ok (.iload_n 1, 1) := by decide +kernel
theorem dX5_takeOutLastRow_43 : decode cX5_takeOutLastRow 43 = .ok (.invokevirtual 78, 3) := by decide +kernel
theorem dX5_takeOutLastRow_46 : decode cX5_takeOutLastRow 46 = .ok (.iadd, 1) := by decide +kernel
theorem dX5_takeOutLastRow_47 : decode cX5_takeOutLastRow 47 = .ok (.invokevirtual 86, 3) := by decide +kernel
theorem dX5_takeOutLastRow_50 : decode cX5_takeOutLastRow 50 = .ok (.aload_n 0, 1) := by decide +kernel
theorem dX5_takeOutLastRow_51 : decode cX5_takeOutLastRow 51 = .ok (.getfield 37, 3) := by decide +kernel
theorem dX5_takeOutLastRow_54 : decode cX5_takeOutLastRow 54 = .ok (.iload_n 1, 1) := by decide +kernel
theorem dX5_takeOutLastRow_55 : decode cX5_takeOutLastRow 55 = .ok (.putfield 56, 3) := by decide +kernel
theorem dX5_takeOutLastRow_58 : decode cX5_takeOutLastRow 58 = .ok (.aload_n 0, 1) := by decide +kernel
theorem dX5_takeOutLastRow_59 : decode cX5_takeOutLastRow 59 = .ok (.getfield 21, 3) := by decide +kernel
theorem dX5_takeOutLastRow_62 : decode cX5_takeOutLastRow 62 = .ok (.aload_n 0, 1) := by decide +kernel
theorem dX5_takeOutLastRow_63 : decode cX5_takeOutLastRow 63 = .ok (.getfield 21, 3) := by decide +kernel
theorem dX5_takeOutLastRow_66 : decode cX5_takeOutLastRow 66 = .ok (.aload_n 0, 1) := by decide +kernel
theorem dX5_takeOutLastRow_67 : decode cX5_takeOutLastRow 67 = .ok (.getfield 21, 3) := by decide +kernel
theorem dX5_takeOutLastRow_70 : decode cX5_takeOutLastRow 70 = .ok (.getfield 75, 3) := by decide +kernel
theorem dX5_takeOutLastRow_73 : decode cX5_takeOutLastRow 73 = .ok (.invokevirtual 128, 3) := by decide +kernel
theorem dX5_takeOutLastRow_76 : decode cX5_takeOutLastRow 76 = .ok (.putfield 75, 3) := by decide +kernel
theorem dX5_takeOutLastRow_79 : decode cX5_takeOutLastRow 79 = .ok (.return_, 1) := by decide +kernel
theorem dX6_init_0 : decode cX6_init 0 = .ok (.aload_n 0, 1) := by decide +kernel
theorem dX6_init_1 : decode cX6_init 1 = .ok (.invokespecial 3, 3) := by decide +kernel
theorem dX6_init_4 : decode cX6_init 4 = .ok (.aload_n 0, 1) := by decide +kernel
theorem dX6_init_5 : decode cX6_init 5 = .ok (.new 9, 3) := by decide +kernel
theorem dX6_init_8 : decode cX6_init 8 = .ok (.dup, 1) := by decide +kernel
theorem dX6_init_9 : decode cX6_init 9 = .ok (.bipush 32, 2) := by decide +kernel
theorem dX6_init_11 : decode cX6_init 11 = .ok (.invokespecial 11, 3) := by decide +kernel
theorem dX6_init_14 : decode cX6_init 14 = .ok (.putfield 14, 3) := by decide +kernel
theorem dX6_init_17 : decode cX6_init 17 = .ok (.aload_n 0, 1) := by decide +kernel
theorem dX6_init_18 : decode cX6_init 18 = .ok (.new 9, 3) := by decide +kernel
theorem dX6_init_21 : decode cX6_init 21 = .ok (.dup, 1) := by decide +kernel
theorem dX6_init_22 : decode cX6_init 22 = .ok (.bipush 32, 2) := by decide +kernel
theorem dX6_init_24 : decode cX6_init 24 = .ok (.invokespecial 11, 3) := by decide +kernel
theorem dX6_init_27 : decode cX6_init 27 = .ok (.putfield 20, 3) := by decide +kernel
theorem dX6_init_30 : decode cX6_init 30 = .ok (.aload_n 0, 1) := by decide +kernel
theorem dX6_init_31 : decode cX6_init 31 = .ok (.new 9, 3) := by decide +kernel
theorem dX6_init_34 : decode cX6_init 34 = .ok (.dup, 1) := by decide +kernel
theorem dX6_init_35 : decode cX6_init 35 = .ok (.bipush 8, 2) := by decide +kernel
theorem dX6_init_37 : decode cX6_init 37 = .ok (.invokespecial 11, 3) := by decide +kernel
theorem dX6_init_40 : decode cX6_init 40 = .ok (.putfield 23, 3) := by decide +kernel
theorem dX6_init_43 : decode cX6_init 43 = .ok (.return_, 1) := by decide +kernel
theorem dX6_reset_0 : decode cX6_reset 0 = .ok (.aload_n 0, 1) := by decide +kernel
theorem dX6_reset_1 : decode cX6_reset 1 = .ok (.iload_n 1, 1) := by decide +kernel
theorem dX6_reset_2 : decode cX6_reset 2 = .ok (.putfield 26, 3) := by decide +kernel
theorem dX6_reset_5 : decode cX6_reset 5 = .ok (.aload_n 0, 1) := by decide +kernel
theorem dX6_reset_6 : decode cX6_reset 6 = .ok (.iload_n 2, 1) := by decide +kernel
theorem dX6_reset_7 : decode cX6_reset 7 = .ok (.putfield 30, 3) := by decide +kernel
theorem dX6_reset_10 : decode cX6_reset 10 = .ok (.aload_n 0, 1) := by decide +kernel
theorem dX6_reset_11 : decode cX6_reset 11 = .ok (.getfield 20, 3) := by decide +kernel
theorem dX6_reset_14 : decode cX6_reset 14 = .ok (.iconst 0, 1) := by decide +kernel
theorem dX6_reset_15 : decode cX6_reset 15 = .ok (.invokevirtual 33, 3) := by decide +kernel
theorem dX6_reset_18 : decode cX6_reset 18 = .ok (.aload_n 0, 1) := by decide +kernel
theorem dX6_reset_19 : decode cX6_reset 19 = .ok (.getfield 23, 3) := by decide +kernel
theorem dX6_reset_22 : decode cX6_reset 22 = .ok (.iconst 0, 1) := by decide +kernel
theorem dX6_reset_23 : decode cX6_reset 23 = .ok (.invokevirtual 33, 3) := by decide +kernel
theorem dX6_reset_26 : decode cX6_reset 26 = .ok (.iconst 0, 1) := by decide +kernel
theorem dX6_reset_27 : decode cX6_reset 27 = .ok (.istore_n 3, 1) := by decide +kernel
theorem dX6_reset_28 : decode cX6_reset 28 = .ok (.iconst 0, 1) := by decide +kernel
theorem dX6_reset_29 : decode cX6_reset 29 = .ok (.istore 4, 2) := by decide +kernel
theorem dX6_reset_31 : decode cX6_reset 31 = .ok (.iload 4, 2) := by decide +kernel
theorem dX6_reset_33 : decode cX6_reset 33 = .ok (.bipush 32, 2) := by decide +kernel
theorem dX6_reset_35 : decode cX6_reset 35 = .ok (.if_icmp .ge 37, 3) := by decide +kernel
theorem dX6_reset_38 : decode cX6_reset 38 = .ok (.aload_n 0, 1) := by decide +kernel
theorem dX6_reset_39 : decode cX6_reset 39 = .ok (.getfield 14, 3) := by decide +kernel
theorem dX6_reset_42 : decode cX6_reset 42 = .ok (.iload 4, 2) := by decide +kernel
theorem dX6_reset_44 : decode cX6_reset 44 = .ok (.iload_n 3, 1) := by decide +kernel
theorem dX6_reset_45 : decode cX6_reset 45 = .ok (.invokevirtual 36, 3) := by decide +kernel
theorem dX6_reset_48 : decode cX6_reset 48 = .ok (.iload_n 3, 1) := by decide +kernel
theorem dX6_reset_49 : decode cX6_reset 49 = .ok (.iconst 1, 1) := by decide +kernel
theorem dX6_reset_50 : decode cX6_reset 50 = .ok (.iadd, 1) := by decide +kernel
theorem dX6_reset_51 : decode cX6_reset 51 = .ok (.aload_n 0, 1) := by decide +kernel
theorem dX6_reset_52 : decode cX6_reset 52 = .ok (.getfield 26, 3) := by decide +kernel
theorem dX6_reset_55 : decode cX6_reset 55 = .ok (.if_icmp .ge 9, 3) := by decide +kernel
theorem dX6_reset_58 : decode cX6_reset 58 = .ok (.iload_n 3, 1) := by decide +kernel
theorem dX6_reset_59 : decode cX6_reset 59 = .ok (.iconst 1, 1) := by decide +kernel
theorem dX6_reset_60 : decode cX6_reset 60 = .ok (.iadd, 1) := by decide +kernel
theorem dX6_reset_61 : decode cX6_reset 61 = .ok (.goto 4, 3) := by decide +kernel
theorem dX6_reset_64 : decode cX6_reset 64 = .ok (.iconst 0, 1) := by decide +kernel
theorem dX6_reset_65 : decode cX6_reset 65 = .ok (.istore_n 3, 1) := by decide +kernel
theorem dX6_reset_66 : decode cX6_reset 66 = .ok (.iinc 4 1, 3) := by decide +kernel
theorem dX6_reset_69 : decode cX6_reset 69 = .ok (.goto (-38), 3) := by decide +kernel
theorem dX6_reset_72 : decode cX6_reset 72 = .ok (.return_, 1) := by decide +kernel
theorem dX6_copyFrom_0 : decode cX6_copyFrom 0 = .ok (.aload_n 0, 1) := by decide +kernel
theorem dX6_copyFrom_1 : decode cX6_copyFrom 1 = .ok (.aload_n 1, 1) := by decide +kernel
theorem dX6_copyFrom_2 : decode cX6_copyFrom 2 = .ok (.getfield 26, 3) := by decide +kernel
theorem dX6_copyFrom_5 : decode cX6_copyFrom 5 = .ok (.putfield 26, 3) := by decide +kernel
theorem dX6_copyFrom_8 : decode cX6_copyFrom 8 = .ok (.aload_n 0, 1) := by decide +kernel
theorem dX6_copyFrom_9 : decode cX6_copyFrom 9 = .ok (.aload_n 1, 1) := by decide +kernel
theorem dX6_copyFrom_10 : decode cX6_copyFrom 10 = .ok (.getfield 30, 3) := by decide +kernel
theorem dX6_copyFrom_13 : decode cX6_copyFrom 13 = .ok (.putfield 30, 3) := by decide +kernel
theorem dX6_copyFrom_16 : decode cX6_copyFrom 16 = .ok (.aload_n 0, 1) := by decide +kernel
theorem dX6_copyFrom_17 : decode cX6_copyFrom 17 = .ok (.getfield 14, 3) := by decide +kernel
theorem dX6_copyFrom_20 : decode cX6_copyFrom 20 = .ok (.aload_n 1, 1) := by decide +kernel
theorem dX6_copyFrom_21 : decode cX6_copyFrom 21 = .ok (.getfield 14, 3) := by decide +kernel
theorem dX6_copyFrom_24 : decode cX6_copyFrom 24 = .ok (.invokevirtual 40, 3) := by decide +kernel
theorem dX6_copyFrom_27 : decode cX6_copyFrom 27 = .ok (.aload_n 0, 1) := by decide +kernel
theorem dX6_copyFrom_28 : decode cX6_copyFrom 28 = .ok (.getfield 20, 3) := by decide +kernel
theorem dX6_copyFrom_31 : decode cX6_copyFrom 31 = .ok (.aload_n 1, 1) := by decide +kernel
theorem dX6_copyFrom_32 : decode cX6_copyFrom 32 = .ok (.getfield 20, 3) := by decide +kernel
theorem dX6_copyFrom_35 : decode cX6_copyFrom 35 = .ok (.invokevirtual 40, 3) := by decide +kernel
theorem dX6_copyFrom_38 : decode cX6_copyFrom 38 = .ok (.aload_n 0, 1) := by decide +kernel
theorem dX6_copyFrom_39 : decode cX6_copyFrom 39 = .ok (.getfield 23, 3) := by decide +kernel
theorem dX6_copyFrom_42 : decode cX6_copyFrom 42 = .ok (.aload_n 1, 1) := by decide +kernel
theorem dX6_copyFrom_43 : decode cX6_copyFrom 43 = .ok (.getfield 23, 3) := by decide +kernel
theorem dX6_copyFrom_46 : decode cX6_copyFrom 46 = .ok (.invokevirtual 40, 3) := by decide +kernel
theorem dX6_copyFrom_49 : decode cX6_copyFrom 49 = .ok (.return_, 1) := by decide +kernel
theorem dX6_hasEnd_0 : decode cX6_hasEnd 0 = .ok (.iload_n 1, 1) := by decide +kernel
theorem dX6_hasEnd_1 : decode cX6_hasEnd 1 = .ok (.iconst 0, 1) := by decide +kernel
theorem dX6_hasEnd_2 : decode cX6_hasEnd 2 = .ok (.aload_n 0, 1) := by decide +kernel
theorem dX6_hasEnd_3 : decode cX6_hasEnd 3 = .ok (.getfield 30, 3) := by decide +kernel
theorem dX6_hasEnd_6 : decode cX6_hasEnd 6 = .ok (.iconst 1, 1) := by decide +kernel
theorem dX6_hasEnd_7 : decode cX6_hasEnd 7 = .ok (.isub, 1) := by decide +kernel
theorem dX6_hasEnd_8 : decode cX6_hasEnd 8 = .ok (.invokestatic 44, 3) := by decide +kernel
theorem dX6_hasEnd_11 : decode cX6_hasEnd 11 = .ok (.ireturn, 1) := by decide +kernel
theorem dX6_hasShaft_0 : decode cX6_hasShaft 0 = .ok (.iload_n 1, 1) := by decide +kernel
theorem dX6_hasShaft_1 : decode cX6_hasShaft 1 = .ok (.iconst 0, 1) := by decide +kernel
theorem dX6_hasShaft_2 : decode cX6_hasShaft 2 = .ok (.aload_n 0, 1) := by decide +kernel
theorem dX6_hasShaft_3 : decode cX6_hasShaft 3 = .ok (.getfield 26, 3) := by decide +kernel
theorem dX6_hasShaft_6 : decode cX6_hasShaft 6 = .ok (.iconst 1, 1) := by decide +kernel
theorem dX6_hasShaft_7 : decode cX6_hasShaft 7 = .ok (.isub, 1) := by decide +kernel
theorem dX6_hasShaft_8 : decode cX6_hasShaft 8 = .ok (.invokestatic 44, 3) := by decide +kernel
theorem dX6_hasShaft_11 : decode cX6_hasShaft 11 = .ok (.ireturn, 1) := by decide +kernel
theorem dX6_isLift_0 : decode cX6_isLift 0 = .ok (.iload_n 1, 1) := by decide +kernel
theorem dX6_isLift_1 : decode cX6_isLift 1 = .ok (.iconst 0, 1) := by decide +kernel
theorem dX6_isLift_2 : decode cX6_isLift 2 = .ok (.iconst 1, 1) := by decide +kernel
theorem dX6_isLift_3 : decode cX6_isLift 3 = .ok (.aload_n 0, 1) := by decide +kernel
theorem dX6_isLift_4 : decode cX6_isLift 4 = .ok (.getfield 26, 3) := by decide +kernel
theorem dX6_isLift_7 : decode cX6_isLift 7 = .ok (.ishl, 1) := by decide +kernel
theorem dX6_isLift_8 : decode cX6_isLift 8 = .ok (.iconst 1, 1) := by decide +kernel
theorem dX6_isLift_9 : decode cX6_isLift 9 = .ok (.isub, 1) := by decide +kernel
theorem dX6_isLift_10 : decode cX6_isLift 10 = .ok (.invokestatic 44, 3) := by decide +kernel
theorem dX6_isLift_13 : decode cX6_isLift 13 = .ok (.ireturn, 1) := by decide +kernel
theorem dX6_allEnds_0 : decode cX6_allEnds 0 = .ok (.aload_n 0, 1) := by decide +kernel
theorem dX6_allEnds_1 : decode cX6_allEnds 1 = .ok (.getfield 30, 3) := by decide +kernel
theorem dX6_allEnds_4 : decode cX6_allEnds 4 = .ok (.bipush 32, 2) := by decide +kernel
theorem dX6_allEnds_6 : decode cX6_allEnds 6 = .ok (.if_icmp .lt 7, 3) := by decide +kernel
theorem dX6_allEnds_9 : decode cX6_allEnds 9 = .ok (.iconst (-1), 1) := by decide +kernel
theorem dX6_allEnds_10 : decode cX6_allEnds 10 = .ok (.goto 11, 3) := by decide +kernel
theorem dX6_allEnds_13 : decode cX6_allEnds 13 = .ok (.iconst 1, 1) := by decide +kernel
theorem dX6_allEnds_14 : decode cX6_allEnds 14 = .ok (.aload_n 0, 1) := by decide +kernel
theorem dX6_allEnds_15 : decode cX6_allEnds 15 = .ok (.getfield 30, 3) := by decide +kernel
theorem dX6_allEnds_18 : decode cX6_allEnds 18 = .ok (.ishl, 1) := by decide +kernel
theorem dX6_allEnds_19 : decode cX6_allEnds 19 = .ok (.iconst 1, 1) := by decide +kernel
theorem dX6_allEnds_20 : decode cX6_allEnds 20 = .ok (.isub, 1) := by decide +kernel
theorem dX6_allEnds_21 : decode cX6_allEnds 21 = .ok (.ireturn, 1) := by decide +kernel
theorem dX6_liftedShafts_0 : decode cX6_liftedShafts 0 = .ok (.iload_n 1, 1) := by decide +kernel
theorem dX6_liftedShafts_1 : decode cX6_liftedShafts 1 = .ok (.istore_n 2, 1) := by decide +kernel
theorem dX6_liftedShafts_2 : decode cX6_liftedShafts 2 = .ok (.iconst 0, 1) := by decide +kernel
theorem dX6_liftedShafts_3 : decode cX6_liftedShafts 3 = .ok (.istore_n 3, 1) := by decide +kernel
theorem dX6_liftedShafts_4 : decode cX6_liftedShafts 4 = .ok (.iload_n 3, 1) := by decide +kernel
theorem dX6_liftedShafts_5 : decode cX6_liftedShafts 5 = .ok (.aload_n 0, 1) := by decide +kernel
theorem dX6_liftedShafts_6 : decode cX6_liftedShafts 6 = .ok (.getfield 26, 3) := by decide +kernel
theorem dX6_liftedShafts_9 : decode cX6_liftedShafts 9 = .ok (.if_icmp .ge 48, 3) := by decide +kernel
theorem dX6_liftedShafts_12 : decode cX6_liftedShafts 12 = .ok (.aload_n 0, 1) := by decide +kernel
theorem dX6_liftedShafts_13 : decode cX6_liftedShafts 13 = .ok (.getfield 23, 3) := by decide +kernel
theorem dX6_liftedShafts_16 : decode cX6_liftedShafts 16 = .ok (.iload_n 3, 1) := by decide +kernel
theorem dX6_liftedShafts_17 : decode cX6_liftedShafts 17 = .ok (.invokevirtual 48, 3) := by decide +kernel
theorem dX6_liftedShafts_20 : decode cX6_liftedShafts 20 = .ok (.istore 4, 2) := by decide +kernel
theorem dX6_liftedShafts_22 : decode cX6_liftedShafts 22 = .ok (.iload 4, 2) := by decide +kernel
theorem dX6_liftedShafts_24 : decode cX6_liftedShafts 24 = .ok (.iconst 1, 1) := by decide +kernel
theorem dX6_liftedShafts_25 : decode cX6_liftedShafts 25 = .ok (.if_icmp .ne 14, 3) := by decide +kernel
theorem dX6_liftedShafts_28 : decode cX6_liftedShafts 28 = .ok (.iload_n 2, 1) := by decide +kernel
theorem dX6_liftedShafts_29 : decode cX6_liftedShafts 29 = .ok (.iconst 1, 1) := by decide +kernel
theorem dX6_liftedShafts_30 : decode cX6_liftedShafts 30 = .ok (.iload_n 3, 1) := by decide +kernel
theorem dX6_liftedShafts_31 : decode cX6_liftedShafts 31 = .ok (.ishl, 1) := by decide +kernel
theorem dX6_liftedShafts_32 : decode cX6_liftedShafts 32 = .ok (.iconst (-1), 1) := by decide +kernel
theorem dX6_liftedShafts_33 : decode cX6_liftedShafts 33 = .ok (.ixor, 1) := by decide +kernel
theorem dX6_liftedShafts_34 : decode cX6_liftedShafts 34 = .ok (.iand, 1) := by decide +kernel
theorem dX6_liftedShafts_35 : decode cX6_liftedShafts 35 = .ok (.istore_n 2, 1) := by decide +kernel
theorem dX6_liftedShafts_36 : decode cX6_liftedShafts 36 = .ok (.goto 15, 3) := by decide +kernel
theorem dX6_liftedShafts_39 : decode cX6_liftedShafts 39 = .ok (.iload 4, 2) := by decide +kernel
theorem dX6_liftedShafts_41 : decode cX6_liftedShafts 41 = .ok (.iconst 2, 1) := by decide +kernel
theorem dX6_liftedShafts_42 : decode cX6_liftedShafts 42 = .ok (.if_icmp .ne 9, 3) := by decide +kernel
theorem dX6_liftedShafts_45 : decode cX6_liftedShafts 45 = .ok (.iload_n 2, 1) := by decide +kernel
theorem dX6_liftedShafts_46 : decode cX6_liftedShafts 46 = .ok (.iconst 1, 1) := by decide +kernel
theorem dX6_liftedShafts_47 : decode cX6_liftedShafts 47 = .ok (.iload_n 3, 1) := by decide +kernel
theorem dX6_liftedShafts_48 : decode cX6_liftedShafts 48 = .ok (.ishl, 1) := by decide +kernel
theorem dX6_liftedShafts_49 : decode cX6_liftedShafts 49 = .ok (.ior, 1) := by decide +kernel
theorem dX6_liftedShafts_50 : decode cX6_liftedShafts 50 = .ok (.istore_n 2, 1) := by decide +kernel
theorem dX6_liftedShafts_51 : decode cX6_liftedShafts 51 = .ok (.iinc 3 1, 3) := by decide +kernel
theorem dX6_liftedShafts_54 : decode cX6_liftedShafts 54 = .ok (.goto (-50), 3) := by decide +kernel
theorem dX6_liftedShafts_57 : decode cX6_liftedShafts 57 = .ok (.iload_n 2, 1) := by decide +kernel
theorem dX6_liftedShafts_58 : decode cX6_liftedShafts 58 = .ok (.ireturn, 1) := by decide +kernel
theorem dX6_endsOn_0 : decode cX6_endsOn 0 = .ok (.iconst 0, 1) := by decide +kernel
theorem dX6_endsOn_1 : decode cX6_endsOn 1 = .ok (.istore_n 2, 1) := by decide +kernel
theorem dX6_endsOn_2 : decode cX6_endsOn 2 = .ok (.iconst 0, 1) := by decide +kernel
theorem dX6_endsOn_3 : decode cX6_endsOn 3 = .ok (.istore_n 3, 1) := by decide +kernel
theorem dX6_endsOn_4 : decode cX6_endsOn 4 = .ok (.iload_n 3, 1) := by decide +kernel
theorem dX6_endsOn_5 : decode cX6_endsOn 5 = .ok (.aload_n 0, 1) := by decide +kernel
theorem dX6_endsOn_6 : decode cX6_endsOn 6 = .ok (.getfield 30, 3) := by decide +kernel
theorem dX6_endsOn_9 : decode cX6_endsOn 9 = .ok (.if_icmp .ge 26, 3) := by decide +kernel
theorem dX6_endsOn_12 : decode cX6_endsOn 12 = .ok (.iload_n 2, 1) := by decide +kernel
theorem dX6_endsOn_13 : decode cX6_endsOn 13 = .ok (.iload_n 1, 1) := by decide +kernel
theorem dX6_endsOn_14 : decode cX6_endsOn 14 = .ok (.aload_n 0, 1) := by decide +kernel
theorem dX6_endsOn_15 : decode cX6_endsOn 15 = .ok (.getfield 14, 3) := by decide +kernel
theorem dX6_endsOn_18 : decode cX6_endsOn 18 = .ok (.iload_n 3, 1) := by decide +kernel
theorem dX6_endsOn_19 : decode cX6_endsOn 19 = .ok (.invokevirtual 48, 3) := by decide +kernel
theorem dX6_endsOn_22 : decode cX6_endsOn 22 = .ok (.invokestatic 52, 3) := by decide +kernel
theorem dX6_endsOn_25 : decode cX6_endsOn 25 = .ok (.iload_n 3, 1) := by decide +kernel
theorem dX6_endsOn_26 : decode cX6_endsOn 26 = .ok (.ishl, 1) := by decide +kernel
theorem dX6_endsOn_27 : decode cX6_endsOn 27 = .ok (.ior, 1) := by decide +kernel
theorem dX6_endsOn_28 : decode cX6_endsOn 28 = .ok (.istore_n 2, 1) := by decide +kernel
theorem dX6_endsOn_29 : decode cX6_endsOn 29 = .ok (.iinc 3 1, 3) := by decide +kernel
theorem dX6_endsOn_32 : decode cX6_endsOn 32 = .ok (.goto (-28), 3) := by decide +kernel
theorem dX6_endsOn_35 : decode cX6_endsOn 35 = .ok (.iload_n 2, 1) := by decide +kernel
theorem dX6_endsOn_36 : decode cX6_endsOn 36 = .ok (.ireturn, 1) := by decide +kernel
theorem dX6_yarnOfWholePick_0 : decode cX6_yarnOfWholePick 0 = .ok (.aload_n 0, 1) := by decide +kernel
theorem dX6_yarnOfWholePick_1 : decode cX6_yarnOfWholePick 1 = .ok (.aload_n 0, 1) := by decide +kernel
theorem dX6_yarnOfWholePick_2 : decode cX6_yarnOfWholePick 2 = .ok (.iload_n 1, 1) := by decide +kernel
theorem dX6_yarnOfWholePick_3 : decode cX6_yarnOfWholePick 3 = .ok (.invokevirtual 56, 3) := by decide +kernel
theorem dX6_yarnOfWholePick_6 : decode cX6_yarnOfWholePick 6 = .ok (.invokevirtual 59, 3) := by decide +kernel
theorem dX6_yarnOfWholePick_9 : decode cX6_yarnOfWholePick 9 = .ok (.istore_n 2, 1) := by decide +kernel
theorem dX6_yarnOfWholePick_10 : decode cX6_yarnOfWholePick 10 = .ok (.iload_n 2, 1) := by decide +kernel
theorem dX6_yarnOfWholePick_11 : decode cX6_yarnOfWholePick 11 = .ok (.iload_n 2, 1) := by decide +kernel
theorem dX6_yarnOfWholePick_12 : decode cX6_yarnOfWholePick 12 = .ok (.iconst 1, 1) := by decide +kernel
theorem dX6_yarnOfWholePick_13 : decode cX6_yarnOfWholePick 13 = .ok (.iushr, 1) := by decide +kernel
theorem dX6_yarnOfWholePick_14 : decode cX6_yarnOfWholePick 14 = .ok (.ixor, 1) := by decide +kernel
theorem dX6_yarnOfWholePick_15 : decode cX6_yarnOfWholePick 15 = .ok (.aload_n 0, 1) := by decide +kernel
theorem dX6_yarnOfWholePick_16 : decode cX6_yarnOfWholePick 16 = .ok (.invokevirtual 62, 3) := by decide +kernel
theorem dX6_yarnOfWholePick_19 : decode cX6_yarnOfWholePick 19 = .ok (.iconst 1, 1) := by decide +kernel
theorem dX6_yarnOfWholePick_20 : decode cX6_yarnOfWholePick 20 = .ok (.iushr, 1) := by decide +kernel
theorem dX6_yarnOfWholePick_21 : decode cX6_yarnOfWholePick 21 = .ok (.iand, 1) := by decide +kernel
theorem dX6_yarnOfWholePick_22 : decode cX6_yarnOfWholePick 22 = .ok (.istore_n 3, 1) := by decide +kernel
theorem dX6_yarnOfWholePick_23 : decode cX6_yarnOfWholePick 23 = .ok (.aload_n 0, 1) := by decide +kernel
theorem dX6_yarnOfWholePick_24 : decode cX6_yarnOfWholePick 24 = .ok (.getfield 30, 3) := by decide +kernel
theorem dX6_yarnOfWholePick_27 : decode cX6_yarnOfWholePick 27 = .ok (.iload_n 3, 1) := by decide +kernel
theorem dX6_yarnOfWholePick_28 : decode cX6_yarnOfWholePick 28 = .ok (.invokestatic 66, 3) := by decide +kernel
theorem dX6_yarnOfWholePick_31 : decode cX6_yarnOfWholePick 31 = .ok (.iadd, 1) := by decide +kernel
theorem dX6_yarnOfWholePick_32 : decode cX6_yarnOfWholePick 32 = .ok (.ireturn, 1) := by decide +kernel
theorem dX7_init_0 : decode cX7_init 0 = .ok (.aload_n 0, 1) := by decide +kernel
theorem dX7_init_1 : decode cX7_init 1 = .ok (.invokespecial 1, 3) := by decide +kernel
theorem dX7_init_4 : decode cX7_init 4 = .ok (.aload_n 0, 1) := by decide +kernel
theorem dX7_init_5 : decode cX7_init 5 = .ok (.new 7, 3) := by decide +kernel
theorem dX7_init_8 : decode cX7_init 8 = .ok (.dup, 1) := by decide +kernel
theorem dX7_init_9 : decode cX7_init 9 = .ok (.invokespecial 9, 3) := by decide +kernel
theorem dX7_init_12 : decode cX7_init 12 = .ok (.putfield 10, 3) := by decide +kernel
theorem dX7_init_15 : decode cX7_init 15 = .ok (.aload_n 0, 1) := by decide +kernel
theorem dX7_init_16 : decode cX7_init 16 = .ok (.new 16, 3) := by decide +kernel
theorem dX7_init_19 : decode cX7_init 19 = .ok (.dup, 1) := by decide +kernel
theorem dX7_init_20 : decode cX7_init 20 = .ok (.invokespecial 18, 3) := by decide +kernel
theorem dX7_init_23 : decode cX7_init 23 = .ok (.putfield 19, 3) := by decide +kernel
theorem dX7_init_26 : decode cX7_init 26 = .ok (.aload_n 0, 1) := by decide +kernel
theorem dX7_init_27 : decode cX7_init 27 = .ok (.new 23, 3) := by decide +kernel
theorem dX7_init_30 : decode cX7_init 30 = .ok (.dup, 1) := by decide +kernel
theorem dX7_init_31 : decode cX7_init 31 = .ok (.invokespecial 25, 3) := by decide +kernel
theorem dX7_init_34 : decode cX7_init 34 = .ok (.putfield 26, 3) := by decide +kernel
theorem dX7_init_37 : decode cX7_init 37 = .ok (.aload_n 0, 1) := by decide +kernel
theorem dX7_init_38 : decode cX7_init 38 = .ok (.new 30, 3) := by decide +kernel
theorem dX7_init_41 : decode cX7_init 41 = .ok (.dup, 1) := by decide +kernel
theorem dX7_init_42 : decode cX7_init 42 = .ok (.bipush 24, 2) := by decide +kernel
theorem dX7_init_44 : decode cX7_init 44 = .ok (.invokespecial 32, 3) := by decide +kernel
theorem dX7_init_47 : decode cX7_init 47 = .ok (.putfield 35, 3) := by decide +kernel
theorem dX7_init_50 : decode cX7_init 50 = .ok (.aload_n 0, 1) := by decide +kernel
theorem dX7_init_51 : decode cX7_init 51 = .ok (.new 30, 3) := by decide +kernel
theorem dX7_init_54 : decode cX7_init 54 = .ok (.dup, 1) := by decide +kernel
theorem dX7_init_55 : decode cX7_init 55 = .ok (.bipush 10, 2) := by decide +kernel
theorem dX7_init_57 : decode cX7_init 57 = .ok (.invokespecial 32, 3) := by decide +kernel
theorem dX7_init_60 : decode cX7_init 60 = .ok (.putfield 39, 3) := by decide +kernel
theorem dX7_init_63 : decode cX7_init 63 = .ok (.return_, 1) := by decide +kernel
theorem dX7_setLoom_0 : decode cX7_setLoom 0 = .ok (.iload_n 1, 1) := by decide +kernel
theorem dX7_setLoom_1 : decode cX7_setLoom 1 = .ok (.iconst 2, 1) := by decide +kernel
theorem dX7_setLoom_2 : decode cX7_setLoom 2 = .ok (.bipush 8, 2) := by decide +kernel
theorem dX7_setLoom_4 : decode cX7_setLoom 4 = .ok (.invokestatic 42, 3) := by decide +kernel
theorem dX7_setLoom_7 : decode cX7_setLoom 7 = .ok (.ifCond .eq 13, 3) := by decide +kernel
theorem dX7_setLoom_10 : decode cX7_setLoom 10 = .ok (.iload_n 2, 1) := by decide +kernel
theorem dX7_setLoom_11 : decode cX7_setLoom 11 = .ok (.iconst 4, 1) := by decide +kernel
theorem dX7_setLoom_12 : decode cX7_setLoom 12 = .ok (.bipush 32, 2) := by decide +kernel
theorem dX7_setLoom_14 : decode cX7_setLoom 14 = .ok (.invokestatic 42, 3) := by decide +kernel
theorem dX7_setLoom_17 : decode cX7_setLoom 17 = .ok (.ifCond .ne 5, 3) := by decide +kernel
theorem dX7_setLoom_20 : decode cX7_setLoom 20 = .ok (.iconst (-1), 1) := by decide +kernel
theorem dX7_setLoom_21 : decode cX7_setLoom 21 = .ok (.ireturn, 1) := by decide +kernel
theorem dX7_setLoom_22 : decode cX7_setLoom 22 = .ok (.aload_n 0, 1) := by decide +kernel
theorem dX7_setLoom_23 : decode cX7_setLoom 23 = .ok (.getfield 19, 3) := by decide +kernel
theorem dX7_setLoom_26 : decode cX7_setLoom 26 = .ok (.aload_n 0, 1) := by decide +kernel
theorem dX7_setLoom_27 : decode cX7_setLoom 27 = .ok (.getfield 10, 3) := by decide +kernel
theorem dX7_setLoom_30 : decode cX7_setLoom 30 = .ok (.invokevirtual 46, 3) := by decide +kernel
theorem dX7_setLoom_33 : decode cX7_setLoom 33 = .ok (.aload_n 0, 1) := by decide +kernel
theorem dX7_setLoom_34 : decode cX7_setLoom 34 = .ok (.getfield 10, 3) := by decide +kernel
theorem dX7_setLoom_37 : decode cX7_setLoom 37 = .ok (.getfield 50, 3) := by decide +kernel
theorem dX7_setLoom_40 : decode cX7_setLoom 40 = .ok (.getfield 54, 3) := by decide +kernel
theorem dX7_setLoom_43 : decode cX7_setLoom 43 = .ok (.istore_n 3, 1) := by decide +kernel
theorem dX7_setLoom_44 : decode cX7_setLoom 44 = .ok (.aload_n 0, 1) := by decide +kernel
theorem dX7_setLoom_45 : decode cX7_setLoom 45 = .ok (.getfield 10, 3) := by decide +kernel
theorem dX7_setLoom_48 : decode cX7_setLoom 48 = .ok (.iload_n 1, 1) := by decide +kernel
theorem dX7_setLoom_49 : decode cX7_setLoom 49 = .ok (.iload_n 2, 1) := by decide +kernel
theorem dX7_setLoom_50 : decode cX7_setLoom 50 = .ok (.invokevirtual 60, 3) := by decide +kernel
theorem dX7_setLoom_53 : decode cX7_setLoom 53 = .ok (.iload_n 3, 1) := by decide +kernel
theorem dX7_setLoom_54 : decode cX7_setLoom 54 = .ok (.ireturn, 1) := by decide +kernel
theorem dX7_setEnd_0 : decode cX7_setEnd 0 = .ok (.aload_n 0, 1) := by decide +kernel
theorem dX7_setEnd_1 : decode cX7_setEnd 1 = .ok (.getfield 10, 3) := by decide +kernel
theorem dX7_setEnd_4 : decode cX7_setEnd 4 = .ok (.getfield 64, 3) := by decide +kernel
theorem dX7_setEnd_7 : decode cX7_setEnd 7 = .ok (.astore 4, 2) := by decide +kernel
theorem dX7_setEnd_9 : decode cX7_setEnd 9 = .ok (.aload 4, 2) := by decide +kernel
theorem dX7_setEnd_11 : decode cX7_setEnd 11 = .ok (.iload_n 1, 1) := by decide +kernel
theorem dX7_setEnd_12 : decode cX7_setEnd 12 = .ok (.invokevirtual 68, 3) := by decide +kernel
theorem dX7_setEnd_15 : decode cX7_setEnd 15 = .ok (.ifCond .eq 19, 3) := by decide +kernel
theorem dX7_setEnd_18 : decode cX7_setEnd 18 = .ok (.aload 4, 2) := by decide +kernel
theorem dX7_setEnd_20 : decode cX7_setEnd 20 = .ok (.iload_n 2, 1) := by decide +kernel
theorem dX7_setEnd_21 : decode cX7_setEnd 21 = .ok (.invokevirtual 74, 3) := by decide +kernel
theorem dX7_setEnd_24 : decode cX7_setEnd 24 = .ok (.ifCond .eq 10, 3) := by decide +kernel
theorem dX7_setEnd_27 : decode cX7_setEnd 27 = .ok (.iload_n 3, 1) := by decide +kernel
theorem dX7_setEnd_28 : decode cX7_setEnd 28 = .ok (.invokestatic 77, 3) := by decide +kernel
theorem dX7_setEnd_31 : decode cX7_setEnd 31 = .ok (.ifCond .ne 5, 3) := by decide +kernel
theorem dX7_setEnd_34 : decode cX7_setEnd 34 = .ok (.iconst (-1), 1) := by decide +kernel
theorem dX7_setEnd_35 : decode cX7_setEnd 35 = .ok (.ireturn, 1) := by decide +kernel
theorem dX7_setEnd_36 : decode cX7_setEnd 36 = .ok (.aload_n 0, 1) := by decide +kernel
theorem dX7_setEnd_37 : decode cX7_setEnd 37 = .ok (.getfield 19, 3) := by decide +kernel
theorem dX7_setEnd_40 : decode cX7_setEnd 40 = .ok (.aload_n 0, 1) := by decide +kernel
theorem dX7_setEnd_41 : decode cX7_setEnd 41 = .ok (.getfield 10, 3) := by decide +kernel
theorem dX7_setEnd_44 : decode cX7_setEnd 44 = .ok (.invokevirtual 46, 3) := by decide +kernel
theorem dX7_setEnd_47 : decode cX7_setEnd 47 = .ok (.bipush 10, 2) := by decide +kernel
theorem dX7_setEnd_49 : decode cX7_setEnd 49 = .ok (.aload 4, 2) := by decide +kernel
theorem dX7_setEnd_51 : decode cX7_setEnd 51 = .ok (.getfield 80, 3) := by decide +kernel
theorem dX7_setEnd_54 : decode cX7_setEnd 54 = .ok (.iload_n 1, 1) := by decide +kernel
theorem dX7_setEnd_55 : decode cX7_setEnd 55 = .ok (.invokevirtual 83, 3) := by decide +kernel
theorem dX7_setEnd_58 : decode cX7_setEnd 58 = .ok (.imul, 1) := by decide +kernel
theorem dX7_setEnd_59 : decode cX7_setEnd 59 = .ok (.aload 4, 2) := by decide +kernel
theorem dX7_setEnd_61 : decode cX7_setEnd 61 = .ok (.getfield 87, 3) := by decide +kernel
theorem dX7_setEnd_64 : decode cX7_setEnd 64 = .ok (.iload_n 1, 1) := by decide +kernel
theorem dX7_setEnd_65 : decode cX7_setEnd 65 = .ok (.invokevirtual 83, 3) := by decide +kernel
theorem dX7_setEnd_68 : decode cX7_setEnd 68 = .ok (.iadd, 1) := by decide +kernel
theorem dX7_setEnd_69 : decode cX7_setEnd 69 = .ok (.istore 5, 2) := by decide +kernel
theorem dX7_setEnd_71 : decode cX7_setEnd 71 = .ok (.aload 4, 2) := by decide +kernel
theorem dX7_setEnd_73 : decode cX7_setEnd 73 = .ok (.getfield 80, 3) := by decide +kernel
theorem dX7_setEnd_76 : decode cX7_setEnd 76 = .ok (.iload_n 1, 1) := by decide +kernel
theorem dX7_setEnd_77 : decode cX7_setEnd 77 = .ok (.iload_n 2, 1) := by decide +kernel
theorem dX7_setEnd_78 : decode cX7_setEnd 78 = .ok (.invokevirtual 90, 3) := by decide +kernel
theorem dX7_setEnd_81 : decode cX7_setEnd 81 = .ok (.aload 4, 2) := by decide +kernel
theorem dX7_setEnd_83 : decode cX7_setEnd 83 = .ok (.getfield 87, 3) := by decide +kernel
theorem dX7_setEnd_86 : decode cX7_setEnd 86 = .ok (.iload_n 1, 1) := by decide +kernel
theorem dX7_setEnd_87 : decode cX7_setEnd 87 = .ok (.iload_n 3, 1) := by decide +kernel
theorem dX7_setEnd_88 : decode cX7_setEnd 88 = .ok (.invokevirtual 90, 3) := by decide +kernel
theorem dX7_setEnd_91 : decode cX7_setEnd 91 = .ok (.iload 5, 2) := by decide +kernel
theorem dX7_setEnd_93 : decode cX7_setEnd 93 = .ok (.ireturn, 1) := by decide +kernel
theorem dX7_setFault_0 : decode cX7_setFault 0 = .ok (.aload_n 0, 1) := by decide +kernel
theorem dX7_setFault_1 : decode cX7_setFault 1 = .ok (.getfield 10, 3) := by decide +kernel
theorem dX7_setFault_4 : decode cX7_setFault 4 = .ok (.getfield 64, 3) := by decide +kernel
theorem dX7_setFault_7 : decode cX7_setFault 7 = .ok (.iload_n 1, 1) := by decide +kernel
theorem dX7_setFault_8 : decode cX7_setFault 8 = .ok (.invokevirtual 74, 3) := by decide +kernel
theorem dX7_setFault_11 : decode cX7_setFault 11 = .ok (.ifCond .eq 12, 3) := by decide +kernel
theorem dX7_setFault_14 : decode cX7_setFault 14 = .ok (.iload_n 2, 1) := by decide +kernel
theorem dX7_setFault_15 : decode cX7_setFault 15 = .ok (.iconst 0, 1) := by decide +kernel
theorem dX7_setFault_16 : decode cX7_setFault 16 = .ok (.iconst 2, 1) := by decide +kernel
theorem dX7_setFault_17 : decode cX7_setFault 17 = .ok (.invokestatic 42, 3) := by decide +kernel
theorem dX7_setFault_20 : decode cX7_setFault 20 = .ok (.ifCond .ne 5, 3) := by decide +kernel
theorem dX7_setFault_23 : decode cX7_setFault 23 = .ok (.iconst (-1), 1) := by decide +kernel
theorem dX7_setFault_24 : decode cX7_setFault 24 = .ok (.ireturn, 1) := by decide +kernel
theorem dX7_setFault_25 : decode cX7_setFault 25 = .ok (.aload_n 0, 1) := by decide +kernel
theorem dX7_setFault_26 : decode cX7_setFault 26 = .ok (.getfield 19, 3) := by decide +kernel
theorem dX7_setFault_29 : decode cX7_setFault 29 = .ok (.aload_n 0, 1) := by decide +kernel
theorem dX7_setFault_30 : decode cX7_setFault 30 = .ok (.getfield 10, 3) := by decide +kernel
theorem dX7_setFault_33 : decode cX7_setFault 33 = .ok (.invokevirtual 46, 3) := by decide +kernel
theorem dX7_setFault_36 : decode cX7_setFault 36 = .ok (.aload_n 0, 1) := by decide +kernel
theorem dX7_setFault_37 : decode cX7_setFault 37 = .ok (.getfield 10, 3) := by decide +kernel
theorem dX7_setFault_40 : decode cX7_setFault 40 = .ok (.getfield 64, 3) := by decide +kernel
theorem dX7_setFault_43 : decode cX7_setFault 43 = .ok (.getfield 93, 3) := by decide +kernel
theorem dX7_setFault_46 : decode cX7_setFault 46 = .ok (.iload_n 1, 1) := by decide +kernel
theorem dX7_setFault_47 : decode cX7_setFault 47 = .ok (.invokevirtual 83, 3) := by decide +kernel
theorem dX7_setFault_50 : decode cX7_setFault 50 = .ok (.istore_n 3, 1) := by decide +kernel
theorem dX7_setFault_51 : decode cX7_setFault 51 = .ok (.aload_n 0, 1) := by decide +kernel
theorem dX7_setFault_52 : decode cX7_setFault 52 = .ok (.getfield 10, 3) := by decide +kernel
theorem dX7_setFault_55 : decode cX7_setFault 55 = .ok (.getfield 64, 3) := by decide +kernel
theorem dX7_setFault_58 : decode cX7_setFault 58 = .ok (.getfield 93, 3) := by decide +kernel
theorem dX7_setFault_61 : decode cX7_setFault 61 = .ok (.iload_n 1, 1) := by decide +kernel
theorem dX7_setFault_62 : decode cX7_setFault 62 = .ok (.iload_n 2, 1) := by decide +kernel
theorem dX7_setFault_63 : decode cX7_setFault 63 = .ok (.invokevirtual 90, 3) := by decide +kernel
theorem dX7_setFault_66 : decode cX7_setFault 66 = .ok (.iload_n 3, 1) := by decide +kernel
theorem dX7_setFault_67 : decode cX7_setFault 67 = .ok (.ireturn, 1) := by decide +kernel
theorem dX7_addBar_0 : decode cX7_addBar 0 = .ok (.aload_n 0, 1) := by decide +kernel
theorem dX7_addBar_1 : decode cX7_addBar 1 = .ok (.getfield 10, 3) := by decide +kernel
theorem dX7_addBar_4 : decode cX7_addBar 4 = .ok (.getfield 64, 3) := by decide +kernel
theorem dX7_addBar_7 : decode cX7_addBar 7 = .ok (.iload_n 1, 1) := by decide +kernel
theorem dX7_addBar_8 : decode cX7_addBar 8 = .ok (.invokevirtual 96, 3) := by decide +kernel
theorem dX7_addBar_11 : decode cX7_addBar 11 = .ok (.ifCond .eq 10, 3) := by decide +kernel
theorem dX7_addBar_14 : decode cX7_addBar 14 = .ok (.iload_n 2, 1) := by decide +kernel
theorem dX7_addBar_15 : decode cX7_addBar 15 = .ok (.invokestatic 77, 3) := by decide +kernel
theorem dX7_addBar_18 : decode cX7_addBar 18 = .ok (.ifCond .ne 5, 3) := by decide +kernel
theorem dX7_addBar_21 : decode cX7_addBar 21 = .ok (.iconst (-1), 1) := by decide +kernel
theorem dX7_addBar_22 : decode cX7_addBar 22 = .ok (.ireturn, 1) := by decide +kernel
theorem dX7_addBar_23 : decode cX7_addBar 23 = .ok (.aload_n 0, 1) := by decide +kernel
theorem dX7_addBar_24 : decode cX7_addBar 24 = .ok (.getfield 10, 3) := by decide +kernel
theorem dX7_addBar_27 : decode cX7_addBar 27 = .ok (.getfield 99, 3) := by decide +kernel
theorem dX7_addBar_30 : decode cX7_addBar 30 = .ok (.invokevirtual 103, 3) := by decide +kernel
theorem dX7_addBar_33 : decode cX7_addBar 33 = .ok (.ifCond .eq 6, 3) := by decide +kernel
theorem dX7_addBar_36 : decode cX7_addBar 36 = .ok (.bipush (-3), 2) := by decide +kernel
theorem dX7_addBar_38 : decode cX7_addBar 38 = .ok (.ireturn, 1) := by decide +kernel
theorem dX7_addBar_39 : decode cX7_addBar 39 = .ok (.aload_n 0, 1) := by decide +kernel
theorem dX7_addBar_40 : decode cX7_addBar 40 = .ok (.getfield 19, 3) := by decide +kernel
theorem dX7_addBar_43 : decode cX7_addBar 43 = .ok (.aload_n 0, 1) := by decide +kernel
theorem dX7_addBar_44 : decode cX7_addBar 44 = .ok (.getfield 10, 3) := by decide +kernel
theorem dX7_addBar_47 : decode cX7_addBar 47 = .ok (.invokevirtual 46, 3) := by decide +kernel
theorem dX7_addBar_50 : decode cX7_addBar 50 = .ok (.aload_n 0, 1) := by decide +kernel
theorem dX7_addBar_51 : decode cX7_addBar 51 = .ok (.getfield 10, 3) := by decide +kernel
theorem dX7_addBar_54 : decode cX7_addBar 54 = .ok (.getfield 99, 3) := by decide +kernel
theorem dX7_addBar_57 : decode cX7_addBar 57 = .ok (.iload_n 1, 1) := by decide +kernel
theorem dX7_addBar_58 : decode cX7_addBar 58 = .ok (.iload_n 2, 1) := by decide +kernel
theorem dX7_addBar_59 : decode cX7_addBar 59 = .ok (.invokevirtual 109, 3) := by decide +kernel
theorem dX7_addBar_62 : decode cX7_addBar 62 = .ok (.aload_n 0, 1) := by decide +kernel
theorem dX7_addBar_63 : decode cX7_addBar 63 = .ok (.getfield 10, 3) := by decide +kernel
theorem dX7_addBar_66 : decode cX7_addBar 66 = .ok (.getfield 99, 3) := by decide +kernel
theorem dX7_addBar_69 : decode cX7_addBar 69 = .ok (.getfield 112, 3) := by decide +kernel
theorem dX7_addBar_72 : decode cX7_addBar 72 = .ok (.iconst 1, 1) := by decide +kernel
theorem dX7_addBar_73 : decode cX7_addBar 73 = .ok (.isub, 1) := by decide +kernel
theorem dX7_addBar_74 : decode cX7_addBar 74 = .ok (.ireturn, 1) := by decide +kernel
theorem dX7_setBar_0 : decode cX7_setBar 0 = .ok (.aload_n 0, 1) := by decide +kernel
theorem dX7_setBar_1 : decode cX7_setBar 1 = .ok (.getfield 10, 3) := by decide +kernel
theorem dX7_setBar_4 : decode cX7_setBar 4 = .ok (.getfield 99, 3) := by decide +kernel
theorem dX7_setBar_7 : decode cX7_setBar 7 = .ok (.astore 4, 2) := by decide +kernel
theorem dX7_setBar_9 : decode cX7_setBar 9 = .ok (.aload 4, 2) := by decide +kernel
theorem dX7_setBar_11 : decode cX7_setBar 11 = .ok (.iload_n 1, 1) := by decide +kernel
theorem dX7_setBar_12 : decode cX7_setBar 12 = .ok (.invokevirtual 115, 3) := by decide +kernel
theorem dX7_setBar_15 : decode cX7_setBar 15 = .ok (.ifCond .eq 24, 3) := by decide +kernel
theorem dX7_setBar_18 : decode cX7_setBar 18 = .ok (.aload_n 0, 1) := by decide +kernel
theorem dX7_setBar_19 : decode cX7_setBar 19 = .ok (.getfield 10, 3) := by decide +kernel
theorem dX7_setBar_22 : decode cX7_setBar 22 = .ok (.getfield 64, 3) := by decide +kernel
theorem dX7_setBar_25 : decode cX7_setBar 25 = .ok (.iload_n 2, 1) := by decide +kernel
theorem dX7_setBar_26 : decode cX7_setBar 26 = .ok (.invokevirtual 96, 3) := by decide +kernel
theorem dX7_setBar_29 : decode cX7_setBar 29 = .ok (.ifCond .eq 10, 3) := by decide +kernel
theorem dX7_setBar_32 : decode cX7_setBar 32 = .ok (.iload_n 3, 1) := by decide +kernel
theorem dX7_setBar_33 : decode cX7_setBar 33 = .ok (.invokestatic 77, 3) := by decide +kernel
theorem dX7_setBar_36 : decode cX7_setBar 36 = .ok (.ifCond .ne 5, 3) := by decide +kernel
theorem dX7_setBar_39 : decode cX7_setBar 39 = .ok (.iconst (-1), 1) := by decide +kernel
theorem dX7_setBar_40 : decode cX7_setBar 40 = .ok (.ireturn, 1) := by decide +kernel
theorem dX7_setBar_41 : decode cX7_setBar 41 = .ok (.aload_n 0, 1) := by decide +kernel
theorem dX7_setBar_42 : decode cX7_setBar 42 = .ok (.getfield 19, 3) := by decide +kernel
theorem dX7_setBar_45 : decode cX7_setBar 45 = .ok (.aload_n 0, 1) := by decide +kernel
theorem dX7_setBar_46 : decode cX7_setBar 46 = .ok (.getfield 10, 3) := by decide +kernel
theorem dX7_setBar_49 : decode cX7_setBar 49 = .ok (.invokevirtual 46, 3) := by decide +kernel
theorem dX7_setBar_52 : decode cX7_setBar 52 = .ok (.bipush 10, 2) := by decide +kernel
theorem dX7_setBar_54 : decode cX7_setBar 54 = .ok (.aload 4, 2) := by decide +kernel
theorem dX7_setBar_56 : decode cX7_setBar 56 = .ok (.getfield 118, 3) := by decide +kernel
theorem dX7_setBar_59 : decode cX7_setBar 59 = .ok (.iload_n 1, 1) := by decide +kernel
theorem dX7_setBar_60 : decode cX7_setBar 60 = .ok (.invokevirtual 83, 3) := by decide +kernel
theorem dX7_setBar_63 : decode cX7_setBar 63 = .ok (.imul, 1) := by decide +kernel
theorem dX7_setBar_64 : decode cX7_setBar 64 = .ok (.aload 4, 2) := by decide +kernel
theorem dX7_setBar_66 : decode cX7_setBar 66 = .ok (.getfield 121, 3) := by decide +kernel
theorem dX7_setBar_69 : decode cX7_setBar 69 = .ok (.iload_n 1, 1) := by decide +kernel
theorem dX7_setBar_70 : decode cX7_setBar 70 = .ok (.invokevirtual 83, 3) := by decide +kernel
theorem dX7_setBar_73 : decode cX7_setBar 73 = .ok (.iadd, 1) := by decide +kernel
theorem dX7_setBar_74 : decode cX7_setBar 74 = .ok (.istore 5, 2) := by decide +kernel
theorem dX7_setBar_76 : decode cX7_setBar 76 = .ok (.aload 4, 2) := by decide +kernel
theorem dX7_setBar_78 : decode cX7_setBar 78 = .ok (.getfield 118, 3) := by decide +kernel
theorem dX7_setBar_81 : decode cX7_setBar 81 = .ok (.iload_n 1, 1) := by decide +kernel
theorem dX7_setBar_82 : decode cX7_setBar 82 = .ok (.iload_n 2, 1) := by decide +kernel
theorem dX7_setBar_83 : decode cX7_setBar 83 = .ok (.invokevirtual 90, 3) := by decide +kernel
theorem dX7_setBar_86 : decode cX7_setBar 86 = .ok (.aload 4, 2) := by decide +kernel
theorem dX7_setBar_88 : decode cX7_setBar 88 = .ok (.getfield 121, 3) := by decide +kernel
theorem dX7_setBar_91 : decode cX7_setBar 91 = .ok (.iload_n 1, 1) := by decide +kernel
theorem dX7_setBar_92 : decode cX7_setBar 92 = .ok (.iload_n 3, 1) := by decide +kernel
theorem dX7_setBar_93 : decode cX7_setBar 93 = .ok (.invokevirtual 90, 3) := by decide +kernel
theorem dX7_setBar_96 : decode cX7_setBar 96 = .ok (.iload 5, 2) := by decide +kernel
theorem dX7_setBar_98 : decode cX7_setBar 98 = .ok (.ireturn, 1) := by decide +kernel
theorem dX7_setDirection_0 : decode cX7_setDirection 0 = .ok (.iload_n 1, 1) := by decide +kernel
theorem dX7_setDirection_1 : decode cX7_setDirection 1 = .ok (.iconst 0, 1) := by decide +kernel
theorem dX7_setDirection_2 : decode cX7_setDirection 2 = .ok (.iconst 1, 1) := by decide +kernel
theorem dX7_setDirection_3 : decode cX7_setDirection 3 = .ok (.invokestatic 42, 3) := by decide +kernel
theorem dX7_setDirection_6 : decode cX7_setDirection 6 = .ok (.ifCond .ne 5, 3) := by decide +kernel
theorem dX7_setDirection_9 : decode cX7_setDirection 9 = .ok (.iconst (-1), 1) := by decide +kernel
theorem dX7_setDirection_10 : decode cX7_setDirection 10 = .ok (.ireturn, 1) := by decide +kernel
theorem dX7_setDirection_11 : decode cX7_setDirection 11 = .ok (.aload_n 0, 1) := by decide +kernel
theorem dX7_setDirection_12 : decode cX7_setDirection 12 = .ok (.getfield 19, 3) := by decide +kernel
theorem dX7_setDirection_15 : decode cX7_setDirection 15 = .ok (.aload_n 0, 1) := by decide +kernel
theorem dX7_setDirection_16 : decode cX7_setDirection 16 = .ok (.getfield 10, 3) := by decide +kernel
theorem dX7_setDirection_19 : decode cX7_setDirection 19 = .ok (.invokevirtual 46, 3) := by decide +kernel
theorem dX7_setDirection_22 : decode cX7_setDirection 22 = .ok (.aload_n 0, 1) := by decide +kernel
theorem dX7_setDirection_23 : decode cX7_setDirection 23 = .ok (.getfield 10, 3) := by decide +kernel
theorem dX7_setDirection_26 : decode cX7_setDirection 26 = .ok (.getfield 99, 3) := by decide +kernel
theorem dX7_setDirection_29 : decode cX7_setDirection 29 = .ok (.getfield 122, 3) := by decide +kernel
theorem dX7_setDirection_32 : decode cX7_setDirection 32 = .ok (.istore_n 2, 1) := by decide +kernel
theorem dX7_setDirection_33 : decode cX7_setDirection 33 = .ok (.aload_n 0, 1) := by decide +kernel
theorem dX7_setDirection_34 : decode cX7_setDirection 34 = .ok (.getfield 10, 3) := by decide +kernel
theorem dX7_setDirection_37 : decode cX7_setDirection 37 = .ok (.getfield 99, 3) := by decide +kernel
theorem dX7_setDirection_40 : decode cX7_setDirection 40 = .ok (.iload_n 1, 1) := by decide +kernel
theorem dX7_setDirection_41 : decode cX7_setDirection 41 = .ok (.putfield 122, 3) := by decide +kernel
theorem dX7_setDirection_44 : decode cX7_setDirection 44 = .ok (.iload_n 2, 1) := by decide +kernel
theorem dX7_setDirection_45 : decode cX7_setDirection 45 = .ok (.ireturn, 1) := by decide +kernel
theorem dX7_turnTo_0 : decode cX7_turnTo 0 = .ok (.aload_n 0, 1) := by decide +kernel
theorem dX7_turnTo_1 : decode cX7_turnTo 1 = .ok (.getfield 10, 3) := by decide +kernel
theorem dX7_turnTo_4 : decode cX7_turnTo 4 = .ok (.getfield 99, 3) := by decide +kernel
theorem dX7_turnTo_7 : decode cX7_turnTo 7 = .ok (.iload_n 1, 1) := by decide +kernel
theorem dX7_turnTo_8 : decode cX7_turnTo 8 = .ok (.invokevirtual 115, 3) := by decide +kernel
theorem dX7_turnTo_11 : decode cX7_turnTo 11 = .ok (.ifCond .ne 5, 3) := by decide +kernel
theorem dX7_turnTo_14 : decode cX7_turnTo 14 = .ok (.iconst (-1), 1) := by decide +kernel
theorem dX7_turnTo_15 : decode cX7_turnTo 15 = .ok (.ireturn, 1) := by decide +kernel
theorem dX7_turnTo_16 : decode cX7_turnTo 16 = .ok (.aload_n 0, 1) := by decide +kernel
theorem dX7_turnTo_17 : decode cX7_turnTo 17 = .ok (.getfield 19, 3) := by decide +kernel
theorem dX7_turnTo_20 : decode cX7_turnTo 20 = .ok (.aload_n 0, 1) := by decide +kernel
theorem dX7_turnTo_21 : decode cX7_turnTo 21 = .ok (.getfield 10, 3) := by decide +kernel
theorem dX7_turnTo_24 : decode cX7_turnTo 24 = .ok (.invokevirtual 46, 3) := by decide +kernel
theorem dX7_turnTo_27 : decode cX7_turnTo 27 = .ok (.aload_n 0, 1) := by decide +kernel
theorem dX7_turnTo_28 : decode cX7_turnTo 28 = .ok (.getfield 10, 3) := by decide +kernel
theorem dX7_turnTo_31 : decode cX7_turnTo 31 = .ok (.getfield 99, 3) := by decide +kernel
theorem dX7_turnTo_34 : decode cX7_turnTo 34 = .ok (.getfield 125, 3) := by decide +kernel
theorem dX7_turnTo_37 : decode cX7_turnTo 37 = .ok (.istore_n 2, 1) := by decide +kernel
theorem dX7_turnTo_38 : decode cX7_turnTo 38 = .ok (.aload_n 0, 1) := by decide +kernel
theorem dX7_turnTo_39 : decode cX7_turnTo 39 = .ok (.getfield 10, 3) := by decide +kernel
theorem dX7_turnTo_42 : decode cX7_turnTo 42 = .ok (.getfield 99, 3) := by decide +kernel
theorem dX7_turnTo_45 : decode cX7_turnTo 45 = .ok (.iload_n 1, 1) := by decide +kernel
theorem dX7_turnTo_46 : decode cX7_turnTo 46 = .ok (.putfield 125, 3) := by decide +kernel
theorem dX7_turnTo_49 : decode cX7_turnTo 49 = .ok (.iload_n 2, 1) := by decide +kernel
theorem dX7_turnTo_50 : decode cX7_turnTo 50 = .ok (.ireturn, 1) := by decide +kernel
theorem dX7_wind_0 : decode cX7_wind 0 = .ok (.iload_n 1, 1) := by decide +kernel
theorem dX7_wind_1 : decode cX7_wind 1 = .ok (.invokestatic 77, 3) := by decide +kernel
theorem dX7_wind_4 : decode cX7_wind 4 = .ok (.ifCond .eq 14, 3) := by decide +kernel
theorem dX7_wind_7 : decode cX7_wind 7 = .ok (.iload_n 2, 1) := by decide +kernel
theorem dX7_wind_8 : decode cX7_wind 8 = .ok (.iconst 0, 1) := by decide +kernel
theorem dX7_wind_9 : decode cX7_wind 9 = .ok (.sipush 9999, 3) := by decide +kernel
theorem dX7_wind_12 : decode cX7_wind 12 = .ok (.invokestatic 42, 3) := by decide +kernel
theorem dX7_wind_15 : decode cX7_wind 15 = .ok (.ifCond .ne 5, 3) := by decide +kernel
theorem dX7_wind_18 : decode cX7_wind 18 = .ok (.iconst (-1), 1) := by decide +kernel
theorem dX7_wind_19 : decode cX7_wind 19 = .ok (.ireturn, 1) := by decide +kernel
theorem dX7_wind_20 : decode cX7_wind 20 = .ok (.aload_n 0, 1) := by decide +kernel
theorem dX7_wind_21 : decode cX7_wind 21 = .ok (.getfield 19, 3) := by decide +kernel
theorem dX7_wind_24 : decode cX7_wind 24 = .ok (.aload_n 0, 1) := by decide +kernel
theorem dX7_wind_25 : decode cX7_wind 25 = .ok (.getfield 10, 3) := by decide +kernel
theorem dX7_wind_28 : decode cX7_wind 28 = .ok (.invokevirtual 46, 3) := by decide +kernel
theorem dX7_wind_31 : decode cX7_wind 31 = .ok (.aload_n 0, 1) := by decide +kernel
theorem dX7_wind_32 : decode cX7_wind 32 = .ok (.getfield 10, 3) := by decide +kernel
theorem dX7_wind_35 : decode cX7_wind 35 = .ok (.getfield 128, 3) := by decide +kernel
theorem dX7_wind_38 : decode cX7_wind 38 = .ok (.iload_n 1, 1) := by decide +kernel
theorem dX7_wind_39 : decode cX7_wind 39 = .ok (.invokevirtual 83, 3) := by decide +kernel
theorem dX7_wind_42 : decode cX7_wind 42 = .ok (.istore_n 3, 1) := by decide +kernel
theorem dX7_wind_43 : decode cX7_wind 43 = .ok (.aload_n 0, 1) := by decide +kernel
theorem dX7_wind_44 : decode cX7_wind 44 = .ok (.getfield 10, 3) := by decide +kernel
theorem dX7_wind_47 : decode cX7_wind 47 = .ok (.getfield 128, 3) := by decide +kernel
theorem dX7_wind_50 : decode cX7_wind 50 = .ok (.iload_n 1, 1) := by decide +kernel
theorem dX7_wind_51 : decode cX7_wind 51 = .ok (.iload_n 2, 1) := by decide +kernel
theorem dX7_wind_52 : decode cX7_wind 52 = .ok (.invokevirtual 90, 3) := by decide +kernel
theorem dX7_wind_55 : decode cX7_wind 55 = .ok (.iload_n 3, 1) := by decide +kernel
theorem dX7_wind_56 : decode cX7_wind 56 = .ok (.ireturn, 1) := by decide +kernel
theorem dX7_append_0 : decode cX7_append 0 = .ok (.iload_n 1, 1) := by decide +kernel
theorem dX7_append_1 : decode cX7_append 1 = .ok (.iconst 1, 1) := by decide +kernel
theorem dX7_append_2 : decode cX7_append 2 = .ok (.sipush 255, 3) := by decide +kernel
theorem dX7_append_5 : decode cX7_append 5 = .ok (.invokestatic 42, 3) := by decide +kernel
theorem dX7_append_8 : decode cX7_append 8 = .ok (.ifCond .ne 5, 3) := by decide +kernel
theorem dX7_append_11 : decode cX7_append 11 = .ok (.iconst (-1), 1) := by decide +kernel
theorem dX7_append_12 : decode cX7_append 12 = .ok (.ireturn, 1) := by decide +kernel
theorem dX7_append_13 : decode cX7_append 13 = .ok (.aload_n 0, 1) := by decide +kernel
theorem dX7_append_14 : decode cX7_append 14 = .ok (.getfield 26, 3) := by decide +kernel
theorem dX7_append_17 : decode cX7_append 17 = .ok (.invokevirtual 131, 3) := by decide +kernel
theorem dX7_append_20 : decode cX7_append 20 = .ok (.ifCond .eq 6, 3) := by decide +kernel
theorem dX7_append_23 : decode cX7_append 23 = .ok (.bipush (-3), 2) := by decide +kernel
theorem dX7_append_25 : decode cX7_append 25 = .ok (.ireturn, 1) := by decide +kernel
theorem dX7_append_26 : decode cX7_append 26 = .ok (.aload_n 0, 1) := by decide +kernel
theorem dX7_append_27 : decode cX7_append 27 = .ok (.getfield 26, 3) := by decide +kernel
theorem dX7_append_30 : decode cX7_append 30 = .ok (.iload_n 1, 1) := by decide +kernel
theorem dX7_append_31 : decode cX7_append 31 = .ok (.invokevirtual 132, 3) := by decide +kernel
theorem dX7_append_34 : decode cX7_append 34 = .ok (.aload_n 0, 1) := by decide +kernel
theorem dX7_append_35 : decode cX7_append 35 = .ok (.getfield 26, 3) := by decide +kernel
theorem dX7_append_38 : decode cX7_append 38 = .ok (.getfield 134, 3) := by decide +kernel
theorem dX7_append_41 : decode cX7_append 41 = .ok (.ireturn, 1) := by decide +kernel
theorem dX7_load_0 : decode cX7_load 0 = .ok (.aload_n 0, 1) := by decide +kernel
theorem dX7_load_1 : decode cX7_load 1 = .ok (.getfield 26, 3) := by decide +kernel
theorem dX7_load_4 : decode cX7_load 4 = .ok (.aload_n 0, 1) := by decide +kernel
theorem dX7_load_5 : decode cX7_load 5 = .ok (.getfield 10, 3) := by decide +kernel
theorem dX7_load_8 : decode cX7_load 8 = .ok (.getfield 64, 3) := by decide +kernel
theorem dX7_load_11 : decode cX7_load 11 = .ok (.getfield 137, 3) := by decide +kernel
theorem dX7_load_14 : decode cX7_load 14 = .ok (.invokevirtual 140, 3) := by decide +kernel
theorem dX7_load_17 : decode cX7_load 17 = .ok (.ifCond .ne 14, 3) := by decide +kernel
theorem dX7_load_20 : decode cX7_load 20 = .ok (.bipush (-10), 2) := by decide +kernel
theorem dX7_load_22 : decode cX7_load 22 = .ok (.aload_n 0, 1) := by decide +kernel
theorem dX7_load_23 : decode cX7_load 23 = .ok (.getfield 26, 3) := by decide +kernel
theorem dX7_load_26 : decode cX7_load 26 = .ok (.getfield 143, 3) := by decide +kernel
theorem dX7_load_29 : decode cX7_load 29 = .ok (.isub, 1) := by decide +kernel
theorem dX7_load_30 : decode cX7_load 30 = .ok (.ireturn, 1) := by decide +kernel
theorem dX7_load_31 : decode cX7_load 31 = .ok (.aload_n 0, 1) := by decide +kernel
theorem dX7_load_32 : decode cX7_load 32 = .ok (.getfield 19, 3) := by decide +kernel
theorem dX7_load_35 : decode cX7_load 35 = .ok (.aload_n 0, 1) := by decide +kernel
theorem dX7_load_36 : decode cX7_load 36 = .ok (.getfield 10, 3) := by decide +kernel
theorem dX7_load_39 : decode cX7_load 39 = .ok (.invokevirtual 46, 3) := by decide +kernel
theorem dX7_load_42 : decode cX7_load 42 = .ok (.aload_n 0, 1) := by decide +kernel
theorem dX7_load_43 : decode cX7_load 43 = .ok (.getfield 10, 3) := by decide +kernel
theorem dX7_load_46 : decode cX7_load 46 = .ok (.getfield 99, 3) := by decide +kernel
theorem dX7_load_49 : decode cX7_load 49 = .ok (.aload_n 0, 1) := by decide +kernel
theorem dX7_load_50 : decode cX7_load 50 = .ok (.getfield 26, 3) := by decide +kernel
theorem dX7_load_53 : decode cX7_load 53 = .ok (.getfield 146, 3) := by decide +kernel
theorem dX7_load_56 : decode cX7_load 56 = .ok (.invokevirtual 147, 3) := by decide +kernel
theorem dX7_load_59 : decode cX7_load 59 = .ok (.aload_n 0, 1) := by decide +kernel
theorem dX7_load_60 : decode cX7_load 60 = .ok (.getfield 26, 3) := by decide +kernel
theorem dX7_load_63 : decode cX7_load 63 = .ok (.iconst 0, 1) := by decide +kernel
theorem dX7_load_64 : decode cX7_load 64 = .ok (.putfield 134, 3) := by decide +kernel
theorem dX7_load_67 : decode cX7_load 67 = .ok (.aload_n 0, 1) := by decide +kernel
theorem dX7_load_68 : decode cX7_load 68 = .ok (.getfield 10, 3) := by decide +kernel
theorem dX7_load_71 : decode cX7_load 71 = .ok (.getfield 99, 3) := by decide +kernel
theorem dX7_load_74 : decode cX7_load 74 = .ok (.getfield 112, 3) := by decide +kernel
theorem dX7_load_77 : decode cX7_load 77 = .ok (.ireturn, 1) := by decide +kernel
theorem dX7_weave_0 : decode cX7_weave 0 = .ok (.iload_n 1, 1) := by decide +kernel
theorem dX7_weave_1 : decode cX7_weave 1 = .ok (.iconst 1, 1) := by decide +kernel
theorem dX7_weave_2 : decode cX7_weave 2 = .ok (.bipush 64, 2) := by decide +kernel
theorem dX7_weave_4 : decode cX7_weave 4 = .ok (.invokestatic 42, 3) := by decide +kernel
theorem dX7_weave_7 : decode cX7_weave 7 = .ok (.ifCond .ne 5, 3) := by decide +kernel
theorem dX7_weave_10 : decode cX7_weave 10 = .ok (.iconst (-1), 1) := by decide +kernel
theorem dX7_weave_11 : decode cX7_weave 11 = .ok (.ireturn, 1) := by decide +kernel
theorem dX7_weave_12 : decode cX7_weave 12 = .ok (.aload_n 0, 1) := by decide +kernel
theorem dX7_weave_13 : decode cX7_weave 13 = .ok (.getfield 10, 3) := by decide +kernel
theorem dX7_weave_16 : decode cX7_weave 16 = .ok (.getfield 99, 3) := by decide +kernel
theorem dX7_weave_19 : decode cX7_weave 19 = .ok (.getfield 112, 3) := by decide +kernel
theorem dX7_weave_22 : decode cX7_weave 22 = .ok (.ifCond .eq 16, 3) := by decide +kernel
theorem dX7_weave_25 : decode cX7_weave 25 = .ok (.aload_n 0, 1) := by decide +kernel
theorem dX7_weave_26 : decode cX7_weave 26 = .ok (.getfield 10, 3) := by decide +kernel
theorem dX7_weave_29 : decode cX7_weave 29 = .ok (.getfield 50, 3) := by decide +kernel
theorem dX7_weave_32 : decode cX7_weave 32 = .ok (.invokevirtual 151, 3) := by decide +kernel
theorem dX7_weave_35 : decode cX7_weave 35 = .ok (.ifCond .eq 6, 3) := by decide +kernel
theorem dX7_weave_38 : decode cX7_weave 38 = .ok (.bipush (-2), 2) := by decide +kernel
theorem dX7_weave_40 : decode cX7_weave 40 = .ok (.ireturn, 1) := by decide +kernel
theorem dX7_weave_41 : decode cX7_weave 41 = .ok (.aload_n 0, 1) := by decide +kernel
theorem dX7_weave_42 : decode cX7_weave 42 = .ok (.getfield 10, 3) := by decide +kernel
theorem dX7_weave_45 : decode cX7_weave 45 = .ok (.getfield 50, 3) := by decide +kernel
theorem dX7_weave_48 : decode cX7_weave 48 = .ok (.invokevirtual 154, 3) := by decide +kernel
theorem dX7_weave_51 : decode cX7_weave 51 = .ok (.ifCond .eq 6, 3) := by decide +kernel
theorem dX7_weave_54 : decode cX7_weave 54 = .ok (.bipush (-3), 2) := by decide +kernel
theorem dX7_weave_56 : decode cX7_weave 56 = .ok (.ireturn, 1) := by decide +kernel
theorem dX7_weave_57 : decode cX7_weave 57 = .ok (.aload_n 0, 1) := by decide +kernel
theorem dX7_weave_58 : decode cX7_weave 58 = .ok (.getfield 19, 3) := by decide +kernel
theorem dX7_weave_61 : decode cX7_weave 61 = .ok (.aload_n 0, 1) := by decide +kernel
theorem dX7_weave_62 : decode cX7_weave 62 = .ok (.getfield 10, 3) := by decide +kernel
theorem dX7_weave_65 : decode cX7_weave 65 = .ok (.invokevirtual 46, 3) := by decide +kernel
theorem dX7_weave_68 : decode cX7_weave 68 = .ok (.iconst 0, 1) := by decide +kernel
theorem dX7_weave_69 : decode cX7_weave 69 = .ok (.istore_n 2, 1) := by decide +kernel
theorem dX7_weave_70 : decode cX7_weave 70 = .ok (.iload_n 2, 1) := by decide +kernel
theorem dX7_weave_71 : decode cX7_weave 71 = .ok (.iload_n 1, 1) := by decide +kernel
theorem dX7_weave_72 : decode cX7_weave 72 = .ok (.if_icmp .ge 42, 3) := by decide +kernel
theorem dX7_weave_75 : decode cX7_weave 75 = .ok (.aload_n 0, 1) := by decide +kernel
theorem dX7_weave_76 : decode cX7_weave 76 = .ok (.getfield 10, 3) := by decide +kernel
theorem dX7_weave_79 : decode cX7_weave 79 = .ok (.getfield 50, 3) := by decide +kernel
theorem dX7_weave_82 : decode cX7_weave 82 = .ok (.invokevirtual 154, 3) := by decide +kernel
theorem dX7_weave_85 : decode cX7_weave 85 = .ok (.ifCond .ne 29, 3) := by decide +kernel
theorem dX7_weave_88 : decode cX7_weave 88 = .ok (.aload_n 0, 1) := by decide +kernel
theorem dX7_weave_89 : decode cX7_weave 89 = .ok (.getfield 10, 3) := by decide +kernel
theorem dX7_weave_92 : decode cX7_weave 92 = .ok (.getfield 50, 3) := by decide +kernel
theorem dX7_weave_95 : decode cX7_weave 95 = .ok (.invokevirtual 151, 3) := by decide +kernel
theorem dX7_weave_98 : decode cX7_weave 98 = .ok (.ifCond .ne 16, 3) := by decide +kernel
theorem dX7_weave_101 : decode cX7_weave 101 = .ok (.aload_n 0, 1) := by decide +kernel
theorem dX7_weave_102 : decode cX7_weave 102 = .ok (.getfield 10, 3) := by decide +kernel
theorem dX7_weave_105 : decode cX7_weave 105 = .ok (.invokevirtual 155, 3) := by decide +kernel
theorem dX7_weave_108 : decode cX7_weave 108 = .ok (.iinc 2 1, 3) := by decide +kernel
theorem dX7_weave_111 : decode cX7_weave 111 = .ok (.goto (-41), 3) := by decide +kernel
theorem dX7_weave_114 : decode cX7_weave 114 = .ok (.iload_n 2, 1) := by decide +kernel
theorem dX7_weave_115 : decode cX7_weave 115 = .ok (.ireturn, 1) := by decide +kernel
theorem dX7_takeOut_0 : decode cX7_takeOut 0 = .ok (.iload_n 1, 1) := by decide +kernel
theorem dX7_takeOut_1 : decode cX7_takeOut 1 = .ok (.iconst 1, 1) := by decide +kernel
theorem dX7_takeOut_2 : decode cX7_takeOut 2 = .ok (.bipush 64, 2) := by decide +kernel
theorem dX7_takeOut_4 : decode cX7_takeOut 4 = .ok (.invokestatic 42, 3) := by decide +kernel
theorem dX7_takeOut_7 : decode cX7_takeOut 7 = .ok (.ifCond .ne 5, 3) := by decide +kernel
theorem dX7_takeOut_10 : decode cX7_takeOut 10 = .ok (.iconst (-1), 1) := by decide +kernel
theorem dX7_takeOut_11 : decode cX7_takeOut 11 = .ok (.ireturn, 1) := by decide +kernel
theorem dX7_takeOut_12 : decode cX7_takeOut 12 = .ok (.iload_n 1, 1) := by decide +kernel
theorem dX7_takeOut_13 : decode cX7_takeOut 13 = .ok (.aload_n 0, 1) := by decide +kernel
theorem dX7_takeOut_14 : decode cX7_takeOut 14 = .ok (.getfield 10, 3) := by decide +kernel
theorem dX7_takeOut_17 : decode cX7_takeOut 17 = .ok (.getfield 50, 3) := by decide +kernel
theorem dX7_takeOut_20 : decode cX7_takeOut 20 = .ok (.getfield 54, 3) := by decide +kernel
theorem dX7_takeOut_23 : decode cX7_takeOut 23 = .ok (.if_icmp .gt 16, 3) := by decide +kernel
theorem dX7_takeOut_26 : decode cX7_takeOut 26 = .ok (.aload_n 0, 1) := by decide +kernel
theorem dX7_takeOut_27 : decode cX7_takeOut 27 = .ok (.getfield 10, 3) := by decide +kernel
theorem dX7_takeOut_30 : decode cX7_takeOut 30 = .ok (.getfield 99, 3) := by decide +kernel
theorem dX7_takeOut_33 : decode cX7_takeOut 33 = .ok (.getfield 112, 3) := by decide +kernel
theorem dX7_takeOut_36 : decode cX7_takeOut 36 = .ok (.ifCond .ne 6, 3) := by decide +kernel
theorem dX7_takeOut_39 : decode cX7_takeOut 39 = .ok (.bipush (-2), 2) := by decide +kernel
theorem dX7_takeOut_41 : decode cX7_takeOut 41 = .ok (.ireturn, 1) := by decide +kernel
theorem dX7_takeOut_42 : decode cX7_takeOut 42 = .ok (.aload_n 0, 1) := by decide +kernel
theorem dX7_takeOut_43 : decode cX7_takeOut 43 = .ok (.getfield 19, 3) := by decide +kernel
theorem dX7_takeOut_46 : decode cX7_takeOut 46 = .ok (.aload_n 0, 1) := by decide +kernel
theorem dX7_takeOut_47 : decode cX7_takeOut 47 = .ok (.getfield 10, 3) := by decide +kernel
theorem dX7_takeOut_50 : decode cX7_takeOut 50 = .ok (.invokevirtual 46, 3) := by decide +kernel
theorem dX7_takeOut_53 : decode cX7_takeOut 53 = .ok (.iconst 0, 1) := by decide +kernel
theorem dX7_takeOut_54 : decode cX7_takeOut 54 = .ok (.istore_n 2, 1) := by decide +kernel
theorem dX7_takeOut_55 : decode cX7_takeOut 55 = .ok (.iload_n 2, 1) := by decide +kernel
theorem dX7_takeOut_56 : decode cX7_takeOut 56 = .ok (.iload_n 1, 1) := by decide +kernel
theorem dX7_takeOut_57 : decode cX7_takeOut 57 = .ok (.if_icmp .ge 16, 3) := by decide +kernel
theorem dX7_takeOut_60 : decode cX7_takeOut 60 = .ok (.aload_n 0, 1) := by decide +kernel
theorem dX7_takeOut_61 : decode cX7_takeOut 61 = .ok (.getfield 10, 3) := by decide +kernel
theorem dX7_takeOut_64 : decode cX7_takeOut 64 = .ok (.invokevirtual 158, 3) := by decide +kernel
theorem dX7_takeOut_67 : decode cX7_takeOut 67 = .ok (.iinc 2 1, 3) := by decide +kernel
theorem dX7_takeOut_70 : decode cX7_takeOut 70 = .ok (.goto (-15), 3) := by decide +kernel
theorem dX7_takeOut_73 : decode cX7_takeOut 73 = .ok (.aload_n 0, 1) := by decide +kernel
theorem dX7_takeOut_74 : decode cX7_takeOut 74 = .ok (.getfield 10, 3) := by decide +kernel
theorem dX7_takeOut_77 : decode cX7_takeOut 77 = .ok (.getfield 50, 3) := by decide +kernel
theorem dX7_takeOut_80 : decode cX7_takeOut 80 = .ok (.getfield 54, 3) := by decide +kernel
theorem dX7_takeOut_83 : decode cX7_takeOut 83 = .ok (.ireturn, 1) := by decide +kernel
theorem dX7_cutOff_0 : decode cX7_cutOff 0 = .ok (.aload_n 0, 1) := by decide +kernel
theorem dX7_cutOff_1 : decode cX7_cutOff 1 = .ok (.getfield 10, 3) := by decide +kernel
theorem dX7_cutOff_4 : decode cX7_cutOff 4 = .ok (.getfield 50, 3) := by decide +kernel
theorem dX7_cutOff_7 : decode cX7_cutOff 7 = .ok (.invokevirtual 151, 3) := by decide +kernel
theorem dX7_cutOff_10 : decode cX7_cutOff 10 = .ok (.ifCond .eq 6, 3) := by decide +kernel
theorem dX7_cutOff_13 : decode cX7_cutOff 13 = .ok (.bipush (-2), 2) := by decide +kernel
theorem dX7_cutOff_15 : decode cX7_cutOff 15 = .ok (.ireturn, 1) := by decide +kernel
theorem dX7_cutOff_16 : decode cX7_cutOff 16 = .ok (.aload_n 0, 1) := by decide +kernel
theorem dX7_cutOff_17 : decode cX7_cutOff 17 = .ok (.getfield 19, 3) := by decide +kernel
theorem dX7_cutOff_20 : decode cX7_cutOff 20 = .ok (.aload_n 0, 1) := by decide +kernel
theorem dX7_cutOff_21 : decode cX7_cutOff 21 = .ok (.getfield 10, 3) := by decide +kernel
theorem dX7_cutOff_24 : decode cX7_cutOff 24 = .ok (.invokevirtual 46, 3) := by decide +kernel
theorem dX7_cutOff_27 : decode cX7_cutOff 27 = .ok (.aload_n 0, 1) := by decide +kernel
theorem dX7_cutOff_28 : decode cX7_cutOff 28 = .ok (.getfield 10, 3) := by decide +kernel
theorem dX7_cutOff_31 : decode cX7_cutOff 31 = .ok (.getfield 50, 3) := by decide +kernel
theorem dX7_cutOff_34 : decode cX7_cutOff 34 = .ok (.getfield 54, 3) := by decide +kernel
theorem dX7_cutOff_37 : decode cX7_cutOff 37 = .ok (.istore_n 1, 1) := by decide +kernel
theorem dX7_cutOff_38 : decode cX7_cutOff 38 = .ok (.aload_n 0, 1) := by decide +kernel
theorem dX7_cutOff_39 : decode cX7_cutOff 39 = .ok (.getfield 10, 3) := by decide +kernel
theorem dX7_cutOff_42 : decode cX7_cutOff 42 = .ok (.getfield 50, 3) := by decide +kernel
theorem dX7_cutOff_45 : decode cX7_cutOff 45 = .ok (.iconst 0, 1) := by decide +kernel
theorem dX7_cutOff_46 : decode cX7_cutOff 46 = .ok (.putfield 54, 3) := by decide +kernel
theorem dX7_cutOff_49 : decode cX7_cutOff 49 = .ok (.iload_n 1, 1) := by decide +kernel
theorem dX7_cutOff_50 : decode cX7_cutOff 50 = .ok (.ireturn, 1) := by decide +kernel
theorem dX7_undo_0 : decode cX7_undo 0 = .ok (.aload_n 0, 1) := by decide +kernel
theorem dX7_undo_1 : decode cX7_undo 1 = .ok (.getfield 19, 3) := by decide +kernel
theorem dX7_undo_4 : decode cX7_undo 4 = .ok (.getfield 161, 3) := by decide +kernel
theorem dX7_undo_7 : decode cX7_undo 7 = .ok (.ifCond .ne 6, 3) := by decide +kernel
theorem dX7_undo_10 : decode cX7_undo 10 = .ok (.bipush (-2), 2) := by decide +kernel
theorem dX7_undo_12 : decode cX7_undo 12 = .ok (.ireturn, 1) := by decide +kernel
theorem dX7_undo_13 : decode cX7_undo 13 = .ok (.aload_n 0, 1) := by decide +kernel
theorem dX7_undo_14 : decode cX7_undo 14 = .ok (.getfield 19, 3) := by decide +kernel
theorem dX7_undo_17 : decode cX7_undo 17 = .ok (.aload_n 0, 1) := by decide +kernel
theorem dX7_undo_18 : decode cX7_undo 18 = .ok (.getfield 10, 3) := by decide +kernel
theorem dX7_undo_21 : decode cX7_undo 21 = .ok (.invokevirtual 164, 3) := by decide +kernel
theorem dX7_undo_24 : decode cX7_undo 24 = .ok (.aload_n 0, 1) := by decide +kernel
theorem dX7_undo_25 : decode cX7_undo 25 = .ok (.getfield 19, 3) := by decide +kernel
theorem dX7_undo_28 : decode cX7_undo 28 = .ok (.getfield 161, 3) := by decide +kernel
theorem dX7_undo_31 : decode cX7_undo 31 = .ok (.ireturn, 1) := by decide +kernel
theorem dX7_count_0 : decode cX7_count 0 = .ok (.iload_n 1, 1) := by decide +kernel
theorem dX7_count_1 : decode cX7_count 1 = .ok (.tableswitch 185 0 9 #[55, 66, 77, 88, 117, 128, 139, 158, 169, 177], 55) := by decide +kernel
theorem dX7_count_56 : decode cX7_count 56 = .ok (.aload_n 0, 1) := by decide +kernel
theorem dX7_count_57 : decode cX7_count 57 = .ok (.getfield 10, 3) := by decide +kernel
theorem dX7_count_60 : decode cX7_count 60 = .ok (.getfield 64, 3) := by decide +kernel
theorem dX7_count_63 : decode cX7_count 63 = .ok (.getfield 137, 3) := by decide +kernel
theorem dX7_count_66 : decode cX7_count 66 = .ok (.ireturn, 1) := by decide +kernel
theorem dX7_count_67 : decode cX7_count 67 = .ok (.aload_n 0, 1) := by decide +kernel
theorem dX7_count_68 : decode cX7_count 68 = .ok (.getfield 10, 3) := by decide +kernel
theorem dX7_count_71 : decode cX7_count 71 = .ok (.getfield 64, 3) := by decide +kernel
theorem dX7_count_74 : decode cX7_count 74 = .ok (.getfield 167, 3) := by decide +kernel
theorem dX7_count_77 : decode cX7_count 77 = .ok (.ireturn, 1) := by decide +kernel
theorem dX7_count_78 : decode cX7_count 78 = .ok (.aload_n 0, 1) := by decide +kernel
theorem dX7_count_79 : decode cX7_count 79 = .ok (.getfield 10, 3) := by decide +kernel
theorem dX7_count_82 : decode cX7_count 82 = .ok (.getfield 99, 3) := by decide +kernel
theorem dX7_count_85 : decode cX7_count 85 = .ok (.getfield 112, 3) := by decide +kernel
theorem dX7_count_88 : decode cX7_count 88 = .ok (.ireturn, 1) := by decide +kernel
theorem dX7_count_89 : decode cX7_count 89 = .ok (.aload_n 0, 1) := by decide +kernel
theorem dX7_count_90 : decode cX7_count 90 = .ok (.getfield 10, 3) := by decide +kernel
theorem dX7_count_93 : decode cX7_count 93 = .ok (.getfield 99, 3) := by decide +kernel
theorem dX7_count_96 : decode cX7_count 96 = .ok (.getfield 112, 3) := by decide +kernel
theorem dX7_count_99 : decode cX7_count 99 = .ok (.ifCond .ne 8, 3) := by decide +kernel
theorem dX7_count_102 : decode cX7_count 102 = .ok (.bipush (-9), 2) := by decide +kernel
theorem dX7_count_104 : decode cX7_count 104 = .ok (.goto 13, 3) := by decide +kernel
theorem dX7_count_107 : decode cX7_count 107 = .ok (.aload_n 0, 1) := by decide +kernel
theorem dX7_count_108 : decode cX7_count 108 = .ok (.getfield 10, 3) := by decide +kernel
theorem dX7_count_111 : decode cX7_count 111 = .ok (.getfield 99, 3) := by decide +kernel
theorem dX7_count_114 : decode cX7_count 114 = .ok (.getfield 125, 3) := by decide +kernel
theorem dX7_count_117 : decode cX7_count 117 = .ok (.ireturn, 1) := by decide +kernel
theorem dX7_count_118 : decode cX7_count 118 = .ok (.aload_n 0, 1) := by decide +kernel
theorem dX7_count_119 : decode cX7_count 119 = .ok (.getfield 10, 3) := by decide +kernel
theorem dX7_count_122 : decode cX7_count 122 = .ok (.getfield 99, 3) := by decide +kernel
theorem dX7_count_125 : decode cX7_count 125 = .ok (.getfield 122, 3) := by decide +kernel
theorem dX7_count_128 : decode cX7_count 128 = .ok (.ireturn, 1) := by decide +kernel
theorem dX7_count_129 : decode cX7_count 129 = .ok (.aload_n 0, 1) := by decide +kernel
theorem dX7_count_130 : decode cX7_count 130 = .ok (.getfield 10, 3) := by decide +kernel
theorem dX7_count_133 : decode cX7_count 133 = .ok (.getfield 50, 3) := by decide +kernel
theorem dX7_count_136 : decode cX7_count 136 = .ok (.getfield 54, 3) := by decide +kernel
theorem dX7_count_139 : decode cX7_count 139 = .ok (.ireturn, 1) := by decide +kernel
theorem dX7_count_140 : decode cX7_count 140 = .ok (.aload_n 0, 1) := by decide +kernel
theorem dX7_count_141 : decode cX7_count 141 = .ok (.getfield 10, 3) := by decide +kernel
theorem dX7_count_144 : decode cX7_count 144 = .ok (.getfield 50, 3) := by decide +kernel
theorem dX7_count_147 : decode cX7_count 147 = .ok (.invokevirtual 151, 3) := by decide +kernel
theorem dX7_count_150 : decode cX7_count 150 = .ok (.ifCond .eq 7, 3) := by decide +kernel
theorem dX7_count_153 : decode cX7_count 153 = .ok (.iconst 1, 1) := by decide +kernel
theorem dX7_count_154 : decode cX7_count 154 = .ok (.goto 4, 3) := by decide +kernel
theorem dX7_count_157 : decode cX7_count 157 = .ok (.iconst 0, 1) := by decide +kernel
theorem dX7_count_158 : decode cX7_count 158 = .ok (.ireturn, 1) := by decide +kernel
theorem dX7_count_159 : decode cX7_count 159 = .ok (.aload_n 0, 1) := by decide +kernel
theorem dX7_count_160 : decode cX7_count 160 = .ok (.getfield 10, 3) := by decide +kernel
theorem dX7_count_163 : decode cX7_count 163 = .ok (.getfield 50, 3) := by decide +kernel
theorem dX7_count_166 : decode cX7_count 166 = .ok (.invokevirtual 170, 3) := by decide +kernel
theorem dX7_count_169 : decode cX7_count 169 = .ok (.ireturn, 1) := by decide +kernel
theorem dX7_count_170 : decode cX7_count 170 = .ok (.aload_n 0, 1) := by decide +kernel
theorem dX7_count_171 : decode cX7_count 171 = .ok (.getfield 19, 3) := by decide +kernel
theorem dX7_count_174 : decode cX7_count 174 = .ok (.getfield 161, 3) := by decide +kernel
theorem dX7_count_177 : decode cX7_count 177 = .ok (.ireturn, 1) := by decide +kernel
theorem dX7_count_178 : decode cX7_count 178 = .ok (.aload_n 0, 1) := by decide +kernel
theorem dX7_count_179 : decode cX7_count 179 = .ok (.getfield 26, 3) := by decide +kernel
theorem dX7_count_182 : decode cX7_count 182 = .ok (.getfield 134, 3) := by decide +kernel
theorem dX7_count_185 : decode cX7_count 185 = .ok (.ireturn, 1) := by decide +kernel
theorem dX7_count_186 : decode cX7_count 186 = .ok (.iconst (-1), 1) := by decide +kernel
theorem dX7_count_187 : decode cX7_count 187 = .ok (.ireturn, 1) := by decide +kernel
theorem dX7_end_0 : decode cX7_end 0 = .ok (.aload_n 0, 1) := by decide +kernel
theorem dX7_end_1 : decode cX7_end 1 = .ok (.getfield 10, 3) := by decide +kernel
theorem dX7_end_4 : decode cX7_end 4 = .ok (.getfield 64, 3) := by decide +kernel
theorem dX7_end_7 : decode cX7_end 7 = .ok (.iload_n 1, 1) := by decide +kernel
theorem dX7_end_8 : decode cX7_end 8 = .ok (.invokevirtual 68, 3) := by decide +kernel
theorem dX7_end_11 : decode cX7_end 11 = .ok (.ifCond .ne 5, 3) := by decide +kernel
theorem dX7_end_14 : decode cX7_end 14 = .ok (.iconst (-1), 1) := by decide +kernel
theorem dX7_end_15 : decode cX7_end 15 = .ok (.ireturn, 1) := by decide +kernel
theorem dX7_end_16 : decode cX7_end 16 = .ok (.iload_n 2, 1) := by decide +kernel
theorem dX7_end_17 : decode cX7_end 17 = .ok (.tableswitch 112 0 4 #[35, 50, 65, 77, 89], 35) := by decide +kernel
theorem dX7_end_52 : decode cX7_end 52 = .ok (.aload_n 0, 1) := by decide +kernel
theorem dX7_end_53 : decode cX7_end 53 = .ok (.getfield 10, 3) := by decide +kernel
theorem dX7_end_56 : decode cX7_end 56 = .ok (.getfield 64, 3) := by decide +kernel
theorem dX7_end_59 : decode cX7_end 59 = .ok (.getfield 80, 3) := by decide +kernel
theorem dX7_end_62 : decode cX7_end 62 = .ok (.iload_n 1, 1) := by decide +kernel
theorem dX7_end_63 : decode cX7_end 63 = .ok (.invokevirtual 83, 3) := by decide +kernel
theorem dX7_end_66 : decode cX7_end 66 = .ok (.ireturn, 1) := by decide +kernel
theorem dX7_end_67 : decode cX7_end 67 = .ok (.aload_n 0, 1) := by decide +kernel
theorem dX7_end_68 : decode cX7_end 68 = .ok (.getfield 10, 3) := by decide +kernel
theorem dX7_end_71 : decode cX7_end 71 = .ok (.getfield 64, 3) := by decide +kernel
theorem dX7_end_74 : decode cX7_end 74 = .ok (.getfield 87, 3) := by decide +kernel
theorem dX7_end_77 : decode cX7_end 77 = .ok (.iload_n 1, 1) := by decide +kernel
theorem dX7_end_78 : decode cX7_end 78 = .ok (.invokevirtual 83, 3) := by decide +kernel
theorem dX7_end_81 : decode cX7_end 81 = .ok (.ireturn, 1) := by decide +kernel
theorem dX7_end_82 : decode cX7_end 82 = .ok (.aload_n 0, 1) := by decide +kernel
theorem dX7_end_83 : decode cX7_end 83 = .ok (.getfield 10, 3) := by decide +kernel
theorem dX7_end_86 : decode cX7_end 86 = .ok (.getfield 50, 3) := by decide +kernel
theorem dX7_end_89 : decode cX7_end 89 = .ok (.iload_n 1, 1) := by decide +kernel
theorem dX7_end_90 : decode cX7_end 90 = .ok (.invokevirtual 174, 3) := by decide +kernel
theorem dX7_end_93 : decode cX7_end 93 = .ok (.ireturn, 1) := by decide +kernel
theorem dX7_end_94 : decode cX7_end 94 = .ok (.aload_n 0, 1) := by decide +kernel
theorem dX7_end_95 : decode cX7_end 95 = .ok (.getfield 10, 3) := by decide +kernel
theorem dX7_end_98 : decode cX7_end 98 = .ok (.getfield 50, 3) := by decide +kernel
theorem dX7_end_101 : decode cX7_end 101 = .ok (.iload_n 1, 1) := by decide +kernel
theorem dX7_end_102 : decode cX7_end 102 = .ok (.invokevirtual 177, 3) := by decide +kernel
theorem dX7_end_105 : decode cX7_end 105 = .ok (.ireturn, 1) := by decide +kernel
theorem dX7_end_106 : decode cX7_end 106 = .ok (.aload_n 0, 1) := by decide +kernel
theorem dX7_end_107 : decode cX7_end 107 = .ok (.getfield 10, 3) := by decide +kernel
theorem dX7_end_110 : decode cX7_end 110 = .ok (.getfield 50, 3) := by decide +kernel
theorem dX7_end_113 : decode cX7_end 113 = .ok (.iconst 0, 1) := by decide +kernel
theorem dX7_end_114 : decode cX7_end 114 = .ok (.iload_n 1, 1) := by decide +kernel
theorem dX7_end_115 : decode cX7_end 115 = .ok (.aload_n 0, 1) := by decide +kernel
theorem dX7_end_116 : decode cX7_end 116 = .ok (.getfield 10, 3) := by decide +kernel
theorem dX7_end_119 : decode cX7_end 119 = .ok (.getfield 50, 3) := by decide +kernel
theorem dX7_end_122 : decode cX7_end 122 = .ok (.getfield 54, 3) := by decide +kernel
theorem dX7_end_125 : decode cX7_end 125 = .ok (.invokevirtual 180, 3) := by decide +kernel
theorem dX7_end_128 : decode cX7_end 128 = .ok (.ireturn, 1) := by decide +kernel
theorem dX7_end_129 : decode cX7_end 129 = .ok (.iconst (-1), 1) := by decide +kernel
theorem dX7_end_130 : decode cX7_end 130 = .ok (.ireturn, 1) := by decide +kernel
theorem dX7_bar_0 : decode cX7_bar 0 = .ok (.aload_n 0, 1) := by decide +kernel
theorem dX7_bar_1 : decode cX7_bar 1 = .ok (.getfield 10, 3) := by decide +kernel
theorem dX7_bar_4 : decode cX7_bar 4 = .ok (.getfield 99, 3) := by decide +kernel
theorem dX7_bar_7 : decode cX7_bar 7 = .ok (.iload_n 1, 1) := by decide +kernel
theorem dX7_bar_8 : decode cX7_bar 8 = .ok (.invokevirtual 115, 3) := by decide +kernel
theorem dX7_bar_11 : decode cX7_bar 11 = .ok (.ifCond .ne 5, 3) := by decide +kernel
theorem dX7_bar_14 : decode cX7_bar 14 = .ok (.iconst (-1), 1) := by decide +kernel
theorem dX7_bar_15 : decode cX7_bar 15 = .ok (.ireturn, 1) := by decide +kernel
theorem dX7_bar_16 : decode cX7_bar 16 = .ok (.aload_n 0, 1) := by decide +kernel
theorem dX7_bar_17 : decode cX7_bar 17 = .ok (.getfield 10, 3) := by decide +kernel
theorem dX7_bar_20 : decode cX7_bar 20 = .ok (.getfield 99, 3) := by decide +kernel
theorem dX7_bar_23 : decode cX7_bar 23 = .ok (.getfield 118, 3) := by decide +kernel
theorem dX7_bar_26 : decode cX7_bar 26 = .ok (.iload_n 1, 1) := by decide +kernel
theorem dX7_bar_27 : decode cX7_bar 27 = .ok (.invokevirtual 83, 3) := by decide +kernel
theorem dX7_bar_30 : decode cX7_bar 30 = .ok (.istore_n 3, 1) := by decide +kernel
theorem dX7_bar_31 : decode cX7_bar 31 = .ok (.iload_n 2, 1) := by decide +kernel
theorem dX7_bar_32 : decode cX7_bar 32 = .ok (.tableswitch 73 0 3 #[32, 34, 49, 61], 32) := by decide +kernel
theorem dX7_bar_64 : decode cX7_bar 64 = .ok (.iload_n 3, 1) := by decide +kernel
theorem dX7_bar_65 : decode cX7_bar 65 = .ok (.ireturn, 1) := by decide +kernel
theorem dX7_bar_66 : decode cX7_bar 66 = .ok (.aload_n 0, 1) := by decide +kernel
theorem dX7_bar_67 : decode cX7_bar 67 = .ok (.getfield 10, 3) := by decide +kernel
theorem dX7_bar_70 : decode cX7_bar 70 = .ok (.getfield 99, 3) := by decide +kernel
theorem dX7_bar_73 : decode cX7_bar 73 = .ok (.getfield 121, 3) := by decide +kernel
theorem dX7_bar_76 : decode cX7_bar 76 = .ok (.iload_n 1, 1) := by decide +kernel
theorem dX7_bar_77 : decode cX7_bar 77 = .ok (.invokevirtual 83, 3) := by decide +kernel
theorem dX7_bar_80 : decode cX7_bar 80 = .ok (.ireturn, 1) := by decide +kernel
theorem dX7_bar_81 : decode cX7_bar 81 = .ok (.aload_n 0, 1) := by decide +kernel
theorem dX7_bar_82 : decode cX7_bar 82 = .ok (.getfield 10, 3) := by decide +kernel
theorem dX7_bar_85 : decode cX7_bar 85 = .ok (.getfield 64, 3) := by decide +kernel
theorem dX7_bar_88 : decode cX7_bar 88 = .ok (.iload_n 3, 1) := by decide +kernel
theorem dX7_bar_89 : decode cX7_bar 89 = .ok (.invokevirtual 184, 3) := by decide +kernel
theorem dX7_bar_92 : decode cX7_bar 92 = .ok (.ireturn, 1) := by decide +kernel
theorem dX7_bar_93 : decode cX7_bar 93 = .ok (.aload_n 0, 1) := by decide +kernel
theorem dX7_bar_94 : decode cX7_bar 94 = .ok (.getfield 10, 3) := by decide +kernel
theorem dX7_bar_97 : decode cX7_bar 97 = .ok (.getfield 64, 3) := by decide +kernel
theorem dX7_bar_100 : decode cX7_bar 100 = .ok (.iload_n 3, 1) := by decide +kernel
theorem dX7_bar_101 : decode cX7_bar 101 = .ok (.invokevirtual 187, 3) := by decide +kernel
theorem dX7_bar_104 : decode cX7_bar 104 = .ok (.ireturn, 1) := by decide +kernel
theorem dX7_bar_105 : decode cX7_bar 105 = .ok (.iconst (-1), 1) := by decide +kernel
theorem dX7_bar_106 : decode cX7_bar 106 = .ok (.ireturn, 1) := by decide +kernel
theorem dX7_yarn_0 : decode cX7_yarn 0 = .ok (.iload_n 1, 1) := by decide +kernel
theorem dX7_yarn_1 : decode cX7_yarn 1 = .ok (.invokestatic 77, 3) := by decide +kernel
theorem dX7_yarn_4 : decode cX7_yarn 4 = .ok (.ifCond .eq 17, 3) := by decide +kernel
theorem dX7_yarn_7 : decode cX7_yarn 7 = .ok (.aload_n 0, 1) := by decide +kernel
theorem dX7_yarn_8 : decode cX7_yarn 8 = .ok (.getfield 10, 3) := by decide +kernel
theorem dX7_yarn_11 : decode cX7_yarn 11 = .ok (.getfield 128, 3) := by decide +kernel
theorem dX7_yarn_14 : decode cX7_yarn 14 = .ok (.iload_n 1, 1) := by decide +kernel
theorem dX7_yarn_15 : decode cX7_yarn 15 = .ok (.invokevirtual 83, 3) := by decide +kernel
theorem dX7_yarn_18 : decode cX7_yarn 18 = .ok (.goto 4, 3) := by decide +kernel
theorem dX7_yarn_21 : decode cX7_yarn 21 = .ok (.iconst (-1), 1) := by decide +kernel
theorem dX7_yarn_22 : decode cX7_yarn 22 = .ok (.ireturn, 1) := by decide +kernel
theorem dX7_row_0 : decode cX7_row 0 = .ok (.aload_n 0, 1) := by decide +kernel
theorem dX7_row_1 : decode cX7_row 1 = .ok (.getfield 10, 3) := by decide +kernel
theorem dX7_row_4 : decode cX7_row 4 = .ok (.getfield 50, 3) := by decide +kernel
theorem dX7_row_7 : decode cX7_row 7 = .ok (.astore_n 3, 1) := by decide +kernel
theorem dX7_row_8 : decode cX7_row 8 = .ok (.aload_n 3, 1) := by decide +kernel
theorem dX7_row_9 : decode cX7_row 9 = .ok (.iload_n 1, 1) := by decide +kernel
theorem dX7_row_10 : decode cX7_row 10 = .ok (.invokevirtual 190, 3) := by decide +kernel
theorem dX7_row_13 : decode cX7_row 13 = .ok (.ifCond .ne 5, 3) := by decide +kernel
theorem dX7_row_16 : decode cX7_row 16 = .ok (.iconst (-1), 1) := by decide +kernel
theorem dX7_row_17 : decode cX7_row 17 = .ok (.ireturn, 1) := by decide +kernel
theorem dX7_row_18 : decode cX7_row 18 = .ok (.iload_n 2, 1) := by decide +kernel
theorem dX7_row_19 : decode cX7_row 19 = .ok (.tableswitch 118 0 6 #[41, 50, 59, 68, 80, 92, 101], 41) := by decide +kernel
theorem dX7_row_60 : decode cX7_row 60 = .ok (.aload_n 3, 1) := by decide +kernel
theorem dX7_row_61 : decode cX7_row 61 = .ok (.getfield 193, 3) := by decide +kernel
theorem dX7_row_64 : decode cX7_row 64 = .ok (.iload_n 1, 1) := by decide +kernel
theorem dX7_row_65 : decode cX7_row 65 = .ok (.invokevirtual 83, 3) := by decide +kernel
theorem dX7_row_68 : decode cX7_row 68 = .ok (.ireturn, 1) := by decide +kernel
theorem dX7_row_69 : decode cX7_row 69 = .ok (.aload_n 3, 1) := by decide +kernel
theorem dX7_row_70 : decode cX7_row 70 = .ok (.getfield 194, 3) := by decide +kernel
theorem dX7_row_73 : decode cX7_row 73 = .ok (.iload_n 1, 1) := by decide +kernel
theorem dX7_row_74 : decode cX7_row 74 = .ok (.invokevirtual 83, 3) := by decide +kernel
theorem dX7_row_77 : decode cX7_row 77 = .ok (.ireturn, 1) := by decide +kernel
theorem dX7_row_78 : decode cX7_row 78 = .ok (.aload_n 3, 1) := by decide +kernel
theorem dX7_row_79 : decode cX7_row 79 = .ok (.getfield 197, 3) := by decide +kernel
theorem dX7_row_82 : decode cX7_row 82 = .ok (.iload_n 1, 1) := by decide +kernel
theorem dX7_row_83 : decode cX7_row 83 = .ok (.invokevirtual 83, 3) := by decide +kernel
theorem dX7_row_86 : decode cX7_row 86 = .ok (.ireturn, 1) := by decide +kernel
theorem dX7_row_87 : decode cX7_row 87 = .ok (.aload_n 3, 1) := by decide +kernel
theorem dX7_row_88 : decode cX7_row 88 = .ok (.getfield 200, 3) := by decide +kernel
theorem dX7_row_91 : decode cX7_row 91 = .ok (.iload_n 1, 1) := by decide +kernel
theorem dX7_row_92 : decode cX7_row 92 = .ok (.invokevirtual 83, 3) := by decide +kernel
theorem dX7_row_95 : decode cX7_row 95 = .ok (.invokestatic 203, 3) := by decide +kernel
theorem dX7_row_98 : decode cX7_row 98 = .ok (.ireturn, 1) := by decide +kernel
theorem dX7_row_99 : decode cX7_row 99 = .ok (.aload_n 3, 1) := by decide +kernel
theorem dX7_row_100 : decode cX7_row 100 = .ok (.getfield 208, 3) := by decide +kernel
theorem dX7_row_103 : decode cX7_row 103 = .ok (.iload_n 1, 1) := by decide +kernel
theorem dX7_row_104 : decode cX7_row 104 = .ok (.invokevirtual 83, 3) := by decide +kernel
theorem dX7_row_107 : decode cX7_row 107 = .ok (.invokestatic 203, 3) := by decide +kernel
theorem dX7_row_110 : decode cX7_row 110 = .ok (.ireturn, 1) := by decide +kernel
theorem dX7_row_111 : decode cX7_row 111 = .ok (.aload_n 3, 1) := by decide +kernel
theorem dX7_row_112 : decode cX7_row 112 = .ok (.iload_n 1, 1) := by decide +kernel
theorem dX7_row_113 : decode cX7_row 113 = .ok (.invokevirtual 211, 3) := by decide +kernel
theorem dX7_row_116 : decode cX7_row 116 = .ok (.invokestatic 203, 3) := by decide +kernel
theorem dX7_row_119 : decode cX7_row 119 = .ok (.ireturn, 1) := by decide +kernel
theorem dX7_row_120 : decode cX7_row 120 = .ok (.aload_n 3, 1) := by decide +kernel
theorem dX7_row_121 : decode cX7_row 121 = .ok (.iconst 1, 1) := by decide +kernel
theorem dX7_row_122 : decode cX7_row 122 = .ok (.iload_n 1, 1) := by decide +kernel
theorem dX7_row_123 : decode cX7_row 123 = .ok (.aload_n 0, 1) := by decide +kernel
theorem dX7_row_124 : decode cX7_row 124 = .ok (.getfield 10, 3) := by decide +kernel
theorem dX7_row_127 : decode cX7_row 127 = .ok (.getfield 64, 3) := by decide +kernel
theorem dX7_row_130 : decode cX7_row 130 = .ok (.getfield 167, 3) := by decide +kernel
theorem dX7_row_133 : decode cX7_row 133 = .ok (.invokevirtual 180, 3) := by decide +kernel
theorem dX7_row_136 : decode cX7_row 136 = .ok (.ireturn, 1) := by decide +kernel
theorem dX7_row_137 : decode cX7_row 137 = .ok (.iconst (-1), 1) := by decide +kernel
theorem dX7_row_138 : decode cX7_row 138 = .ok (.ireturn, 1) := by decide +kernel
theorem dX7_cell_0 : decode cX7_cell 0 = .ok (.aload_n 0, 1) := by decide +kernel
theorem dX7_cell_1 : decode cX7_cell 1 = .ok (.getfield 10, 3) := by decide +kernel
theorem dX7_cell_4 : decode cX7_cell 4 = .ok (.getfield 50, 3) := by decide +kernel
theorem dX7_cell_7 : decode cX7_cell 7 = .ok (.iload_n 1, 1) := by decide +kernel
theorem dX7_cell_8 : decode cX7_cell 8 = .ok (.invokevirtual 190, 3) := by decide +kernel
theorem dX7_cell_11 : decode cX7_cell 11 = .ok (.ifCond .eq 17, 3) := by decide +kernel
theorem dX7_cell_14 : decode cX7_cell 14 = .ok (.aload_n 0, 1) := by decide +kernel
theorem dX7_cell_15 : decode cX7_cell 15 = .ok (.getfield 10, 3) := by decide +kernel
theorem dX7_cell_18 : decode cX7_cell 18 = .ok (.getfield 64, 3) := by decide +kernel
theorem dX7_cell_21 : decode cX7_cell 21 = .ok (.iload_n 2, 1) := by decide +kernel
theorem dX7_cell_22 : decode cX7_cell 22 = .ok (.invokevirtual 68, 3) := by decide +kernel
theorem dX7_cell_25 : decode cX7_cell 25 = .ok (.ifCond .ne 5, 3) := by decide +kernel
theorem dX7_cell_28 : decode cX7_cell 28 = .ok (.iconst (-1), 1) := by decide +kernel
theorem dX7_cell_29 : decode cX7_cell 29 = .ok (.ireturn, 1) := by decide +kernel
theorem dX7_cell_30 : decode cX7_cell 30 = .ok (.aload_n 0, 1) := by decide +kernel
theorem dX7_cell_31 : decode cX7_cell 31 = .ok (.getfield 10, 3) := by decide +kernel
theorem dX7_cell_34 : decode cX7_cell 34 = .ok (.getfield 50, 3) := by decide +kernel
theorem dX7_cell_37 : decode cX7_cell 37 = .ok (.iload_n 1, 1) := by decide +kernel
theorem dX7_cell_38 : decode cX7_cell 38 = .ok (.iload_n 2, 1) := by decide +kernel
theorem dX7_cell_39 : decode cX7_cell 39 = .ok (.invokevirtual 214, 3) := by decide +kernel
theorem dX7_cell_42 : decode cX7_cell 42 = .ok (.istore 4, 2) := by decide +kernel
theorem dX7_cell_44 : decode cX7_cell 44 = .ok (.iload_n 3, 1) := by decide +kernel
theorem dX7_cell_45 : decode cX7_cell 45 = .ok (.tableswitch 100 0 3 #[31, 45, 65, 81], 31) := by decide +kernel
theorem dX7_cell_76 : decode cX7_cell 76 = .ok (.iload 4, 2) := by decide +kernel
theorem dX7_cell_78 : decode cX7_cell 78 = .ok (.iconst (-1), 1) := by decide +kernel
theorem dX7_cell_79 : decode cX7_cell 79 = .ok (.if_icmp .ne 8, 3) := by decide +kernel
theorem dX7_cell_82 : decode cX7_cell 82 = .ok (.bipush (-9), 2) := by decide +kernel
theorem dX7_cell_84 : decode cX7_cell 84 = .ok (.goto 5, 3) := by decide +kernel
theorem dX7_cell_87 : decode cX7_cell 87 = .ok (.iload 4, 2) := by decide +kernel
theorem dX7_cell_89 : decode cX7_cell 89 = .ok (.ireturn, 1) := by decide +kernel
theorem dX7_cell_90 : decode cX7_cell 90 = .ok (.iload 4, 2) := by decide +kernel
theorem dX7_cell_92 : decode cX7_cell 92 = .ok (.iconst (-1), 1) := by decide +kernel
theorem dX7_cell_93 : decode cX7_cell 93 = .ok (.if_icmp .ne 8, 3) := by decide +kernel
theorem dX7_cell_96 : decode cX7_cell 96 = .ok (.bipush (-9), 2) := by decide +kernel
theorem dX7_cell_98 : decode cX7_cell 98 = .ok (.goto 11, 3) := by decide +kernel
theorem dX7_cell_101 : decode cX7_cell 101 = .ok (.aload_n 0, 1) := by decide +kernel
theorem dX7_cell_102 : decode cX7_cell 102 = .ok (.iload_n 1, 1) := by decide +kernel
theorem dX7_cell_103 : decode cX7_cell 103 = .ok (.iload_n 2, 1) := by decide +kernel
theorem dX7_cell_104 : decode cX7_cell 104 = .ok (.iload 4, 2) := by decide +kernel
theorem dX7_cell_106 : decode cX7_cell 106 = .ok (.invokevirtual 218, 3) := by decide +kernel
theorem dX7_cell_109 : decode cX7_cell 109 = .ok (.ireturn, 1) := by decide +kernel
theorem dX7_cell_110 : decode cX7_cell 110 = .ok (.aload_n 0, 1) := by decide +kernel
theorem dX7_cell_111 : decode cX7_cell 111 = .ok (.getfield 10, 3) := by decide +kernel
theorem dX7_cell_114 : decode cX7_cell 114 = .ok (.getfield 50, 3) := by decide +kernel
theorem dX7_cell_117 : decode cX7_cell 117 = .ok (.iload_n 1, 1) := by decide +kernel
theorem dX7_cell_118 : decode cX7_cell 118 = .ok (.invokevirtual 211, 3) := by decide +kernel
theorem dX7_cell_121 : decode cX7_cell 121 = .ok (.iload_n 2, 1) := by decide +kernel
theorem dX7_cell_122 : decode cX7_cell 122 = .ok (.invokestatic 221, 3) := by decide +kernel
theorem dX7_cell_125 : decode cX7_cell 125 = .ok (.ireturn, 1) := by decide +kernel
theorem dX7_cell_126 : decode cX7_cell 126 = .ok (.aload_n 0, 1) := by decide +kernel
theorem dX7_cell_127 : decode cX7_cell 127 = .ok (.getfield 10, 3) := by decide +kernel
theorem dX7_cell_130 : decode cX7_cell 130 = .ok (.getfield 50, 3) := by decide +kernel
theorem dX7_cell_133 : decode cX7_cell 133 = .ok (.getfield 224, 3) := by decide +kernel
theorem dX7_cell_136 : decode cX7_cell 136 = .ok (.iload_n 1, 1) := by decide +kernel
theorem dX7_cell_137 : decode cX7_cell 137 = .ok (.invokevirtual 83, 3) := by decide +kernel
theorem dX7_cell_140 : decode cX7_cell 140 = .ok (.iload_n 2, 1) := by decide +kernel
theorem dX7_cell_141 : decode cX7_cell 141 = .ok (.invokestatic 221, 3) := by decide +kernel
theorem dX7_cell_144 : decode cX7_cell 144 = .ok (.ireturn, 1) := by decide +kernel
theorem dX7_cell_145 : decode cX7_cell 145 = .ok (.iconst (-1), 1) := by decide +kernel
theorem dX7_cell_146 : decode cX7_cell 146 = .ok (.ireturn, 1) := by decide +kernel
theorem dX7_floats_0 : decode cX7_floats 0 = .ok (.iload_n 1, 1) := by decide +kernel
theorem dX7_floats_1 : decode cX7_floats 1 = .ok (.iconst 0, 1) := by decide +kernel
theorem dX7_floats_2 : decode cX7_floats 2 = .ok (.iconst 1, 1) := by decide +kernel
theorem dX7_floats_3 : decode cX7_floats 3 = .ok (.invokestatic 42, 3) := by decide +kernel
theorem dX7_floats_6 : decode cX7_floats 6 = .ok (.ifCond .eq 13, 3) := by decide +kernel
theorem dX7_floats_9 : decode cX7_floats 9 = .ok (.iload_n 2, 1) := by decide +kernel
theorem dX7_floats_10 : decode cX7_floats 10 = .ok (.iconst 1, 1) := by decide +kernel
theorem dX7_floats_11 : decode cX7_floats 11 = .ok (.bipush 64, 2) := by decide +kernel
theorem dX7_floats_13 : decode cX7_floats 13 = .ok (.invokestatic 42, 3) := by decide +kernel
theorem dX7_floats_16 : decode cX7_floats 16 = .ok (.ifCond .ne 5, 3) := by decide +kernel
theorem dX7_floats_19 : decode cX7_floats 19 = .ok (.iconst (-1), 1) := by decide +kernel
theorem dX7_floats_20 : decode cX7_floats 20 = .ok (.ireturn, 1) := by decide +kernel
theorem dX7_floats_21 : decode cX7_floats 21 = .ok (.iload_n 1, 1) := by decide +kernel
theorem dX7_floats_22 : decode cX7_floats 22 = .ok (.ifCond .ne 16, 3) := by decide +kernel
theorem dX7_floats_25 : decode cX7_floats 25 = .ok (.aload_n 0, 1) := by decide +kernel
theorem dX7_floats_26 : decode cX7_floats 26 = .ok (.getfield 10, 3) := by decide +kernel
theorem dX7_floats_29 : decode cX7_floats 29 = .ok (.getfield 64, 3) := by decide +kernel
theorem dX7_floats_32 : decode cX7_floats 32 = .ok (.getfield 167, 3) := by decide +kernel
theorem dX7_floats_35 : decode cX7_floats 35 = .ok (.goto 13, 3) := by decide +kernel
theorem dX7_floats_38 : decode cX7_floats 38 = .ok (.aload_n 0, 1) := by decide +kernel
theorem dX7_floats_39 : decode cX7_floats 39 = .ok (.getfield 10, 3) := by decide +kernel
theorem dX7_floats_42 : decode cX7_floats 42 = .ok (.getfield 50, 3) := by decide +kernel
theorem dX7_floats_45 : decode cX7_floats 45 = .ok (.getfield 54, 3) := by decide +kernel
theorem dX7_floats_48 : decode cX7_floats 48 = .ok (.istore_n 3, 1) := by decide +kernel
theorem dX7_floats_49 : decode cX7_floats 49 = .ok (.iload_n 1, 1) := by decide +kernel
theorem dX7_floats_50 : decode cX7_floats 50 = .ok (.ifCond .ne 16, 3) := by decide +kernel
theorem dX7_floats_53 : decode cX7_floats 53 = .ok (.aload_n 0, 1) := by decide +kernel
theorem dX7_floats_54 : decode cX7_floats 54 = .ok (.getfield 10, 3) := by decide +kernel
theorem dX7_floats_57 : decode cX7_floats 57 = .ok (.getfield 50, 3) := by decide +kernel
theorem dX7_floats_60 : decode cX7_floats 60 = .ok (.getfield 54, 3) := by decide +kernel
theorem dX7_floats_63 : decode cX7_floats 63 = .ok (.goto 13, 3) := by decide +kernel
theorem dX7_floats_66 : decode cX7_floats 66 = .ok (.aload_n 0, 1) := by decide +kernel
theorem dX7_floats_67 : decode cX7_floats 67 = .ok (.getfield 10, 3) := by decide +kernel
theorem dX7_floats_70 : decode cX7_floats 70 = .ok (.getfield 64, 3) := by decide +kernel
theorem dX7_floats_73 : decode cX7_floats 73 = .ok (.getfield 167, 3) := by decide +kernel
theorem dX7_floats_76 : decode cX7_floats 76 = .ok (.istore 4, 2) := by decide +kernel
theorem dX7_floats_78 : decode cX7_floats 78 = .ok (.iconst 0, 1) := by decide +kernel
theorem dX7_floats_79 : decode cX7_floats 79 = .ok (.istore 5, 2) := by decide +kernel
theorem dX7_floats_81 : decode cX7_floats 81 = .ok (.iconst 0, 1) := by decide +kernel
theorem dX7_floats_82 : decode cX7_floats 82 = .ok (.istore 6, 2) := by decide +kernel
theorem dX7_floats_84 : decode cX7_floats 84 = .ok (.iload 6, 2) := by decide +kernel
theorem dX7_floats_86 : decode cX7_floats 86 = .ok (.iload_n 3, 1) := by decide +kernel
theorem dX7_floats_87 : decode cX7_floats 87 = .ok (.if_icmp .ge 30, 3) := by decide +kernel
theorem dX7_floats_90 : decode cX7_floats 90 = .ok (.iload 5, 2) := by decide +kernel
theorem dX7_floats_92 : decode cX7_floats 92 = .ok (.aload_n 0, 1) := by decide +kernel
theorem dX7_floats_93 : decode cX7_floats 93 = .ok (.getfield 10, 3) := by decide +kernel
theorem dX7_floats_96 : decode cX7_floats 96 = .ok (.getfield 50, 3) := by decide +kernel
theorem dX7_floats_99 : decode cX7_floats 99 = .ok (.iload_n 1, 1) := by decide +kernel
theorem dX7_floats_100 : decode cX7_floats 100 = .ok (.iload 6, 2) := by decide +kernel
theorem dX7_floats_102 : decode cX7_floats 102 = .ok (.iload 4, 2) := by decide +kernel
theorem dX7_floats_104 : decode cX7_floats 104 = .ok (.iload_n 2, 1) := by decide +kernel
theorem dX7_floats_105 : decode cX7_floats 105 = .ok (.invokevirtual 227, 3) := by decide +kernel
theorem dX7_floats_108 : decode cX7_floats 108 = .ok (.iadd, 1) := by decide +kernel
theorem dX7_floats_109 : decode cX7_floats 109 = .ok (.istore 5, 2) := by decide +kernel
theorem dX7_floats_111 : decode cX7_floats 111 = .ok (.iinc 6 1, 3) := by decide +kernel
theorem dX7_floats_114 : decode cX7_floats 114 = .ok (.goto (-30), 3) := by decide +kernel
theorem dX7_floats_117 : decode cX7_floats 117 = .ok (.iload 5, 2) := by decide +kernel
theorem dX7_floats_119 : decode cX7_floats 119 = .ok (.ireturn, 1) := by decide +kernel
theorem dX7_repeat_0 : decode cX7_repeat 0 = .ok (.aload_n 0, 1) := by decide +kernel
theorem dX7_repeat_1 : decode cX7_repeat 1 = .ok (.getfield 10, 3) := by decide +kernel
theorem dX7_repeat_4 : decode cX7_repeat 4 = .ok (.getfield 50, 3) := by decide +kernel
theorem dX7_repeat_7 : decode cX7_repeat 7 = .ok (.getfield 54, 3) := by decide +kernel
theorem dX7_repeat_10 : decode cX7_repeat 10 = .ok (.istore_n 1, 1) := by decide +kernel
theorem dX7_repeat_11 : decode cX7_repeat 11 = .ok (.iload_n 1, 1) := by decide +kernel
theorem dX7_repeat_12 : decode cX7_repeat 12 = .ok (.ifCond .ne 6, 3) := by decide +kernel
theorem dX7_repeat_15 : decode cX7_repeat 15 = .ok (.bipush (-9), 2) := by decide +kernel
theorem dX7_repeat_17 : decode cX7_repeat 17 = .ok (.ireturn, 1) := by decide +kernel
theorem dX7_repeat_18 : decode cX7_repeat 18 = .ok (.iconst 1, 1) := by decide +kernel
theorem dX7_repeat_19 : decode cX7_repeat 19 = .ok (.istore_n 2, 1) := by decide +kernel
theorem dX7_repeat_20 : decode cX7_repeat 20 = .ok (.iload_n 2, 1) := by decide +kernel
theorem dX7_repeat_21 : decode cX7_repeat 21 = .ok (.iload_n 1, 1) := by decide +kernel
theorem dX7_repeat_22 : decode cX7_repeat 22 = .ok (.if_icmp .ge 25, 3) := by decide +kernel
theorem dX7_repeat_25 : decode cX7_repeat 25 = .ok (.aload_n 0, 1) := by decide +kernel
theorem dX7_repeat_26 : decode cX7_repeat 26 = .ok (.getfield 10, 3) := by decide +kernel
theorem dX7_repeat_29 : decode cX7_repeat 29 = .ok (.getfield 50, 3) := by decide +kernel
theorem dX7_repeat_32 : decode cX7_repeat 32 = .ok (.iload_n 2, 1) := by decide +kernel
theorem dX7_repeat_33 : decode cX7_repeat 33 = .ok (.invokevirtual 231, 3) := by decide +kernel
theorem dX7_repeat_36 : decode cX7_repeat 36 = .ok (.ifCond .eq 5, 3) := by decide +kernel
theorem dX7_repeat_39 : decode cX7_repeat 39 = .ok (.iload_n 2, 1) := by decide +kernel
theorem dX7_repeat_40 : decode cX7_repeat 40 = .ok (.ireturn, 1) := by decide +kernel
theorem dX7_repeat_41 : decode cX7_repeat 41 = .ok (.iinc 2 1, 3) := by decide +kernel
theorem dX7_repeat_44 : decode cX7_repeat 44 = .ok (.goto (-24), 3) := by decide +kernel
theorem dX7_repeat_47 : decode cX7_repeat 47 = .ok (.iload_n 1, 1) := by decide +kernel
theorem dX7_repeat_48 : decode cX7_repeat 48 = .ok (.ireturn, 1) := by decide +kernel
theorem dX7_differentRows_0 : decode cX7_differentRows 0 = .ok (.iconst 0, 1) := by decide +kernel
theorem dX7_differentRows_1 : decode cX7_differentRows 1 = .ok (.istore_n 1, 1) := by decide +kernel
theorem dX7_differentRows_2 : decode cX7_differentRows 2 = .ok (.iconst 0, 1) := by decide +kernel
theorem dX7_differentRows_3 : decode cX7_differentRows 3 = .ok (.istore_n 2, 1) := by decide +kernel
theorem dX7_differentRows_4 : decode cX7_differentRows 4 = .ok (.iload_n 2, 1) := by decide +kernel
theorem dX7_differentRows_5 : decode cX7_differentRows 5 = .ok (.aload_n 0, 1) := by decide +kernel
theorem dX7_differentRows_6 : decode cX7_differentRows 6 = .ok (.getfield 10, 3) := by decide +kernel
theorem dX7_differentRows_9 : decode cX7_differentRows 9 = .ok (.getfield 50, 3) := by decide +kernel
theorem dX7_differentRows_12 : decode cX7_differentRows 12 = .ok (.getfield 54, 3) := by decide +kernel
theorem dX7_differentRows_15 : decode cX7_differentRows 15 = .ok (.if_icmp .ge 26, 3) := by decide +kernel
theorem dX7_differentRows_18 : decode cX7_differentRows 18 = .ok (.aload_n 0, 1) := by decide +kernel
theorem dX7_differentRows_19 : decode cX7_differentRows 19 = .ok (.getfield 10, 3) := by decide +kernel
theorem dX7_differentRows_22 : decode cX7_differentRows 22 = .ok (.getfield 50, 3) := by decide +kernel
theorem dX7_differentRows_25 : decode cX7_differentRows 25 = .ok (.iload_n 2, 1) := by decide +kernel
theorem dX7_differentRows_26 : decode cX7_differentRows 26 = .ok (.invokevirtual 234, 3) := by decide +kernel
theorem dX7_differentRows_29 : decode cX7_differentRows 29 = .ok (.ifCond .ne 6, 3) := by decide +kernel
theorem dX7_differentRows_32 : decode cX7_differentRows 32 = .ok (.iinc 1 1, 3) := by decide +kernel
theorem dX7_differentRows_35 : decode cX7_differentRows 35 = .ok (.iinc 2 1, 3) := by decide +kernel
theorem dX7_differentRows_38 : decode cX7_differentRows 38 = .ok (.goto (-34), 3) := by decide +kernel
theorem dX7_differentRows_41 : decode cX7_differentRows 41 = .ok (.iload_n 1, 1) := by decide +kernel
theorem dX7_differentRows_42 : decode cX7_differentRows 42 = .ok (.ireturn, 1) := by decide +kernel
theorem dX7_seenColor_0 : decode cX7_seenColor 0 = .ok (.iload_n 3, 1) := by decide +kernel
theorem dX7_seenColor_1 : decode cX7_seenColor 1 = .ok (.iconst 1, 1) := by decide +kernel
theorem dX7_seenColor_2 : decode cX7_seenColor 2 = .ok (.if_icmp .ne 20, 3) := by decide +kernel
theorem dX7_seenColor_5 : decode cX7_seenColor 5 = .ok (.aload_n 0, 1) := by decide +kernel
theorem dX7_seenColor_6 : decode cX7_seenColor 6 = .ok (.getfield 10, 3) := by decide +kernel
theorem dX7_seenColor_9 : decode cX7_seenColor 9 = .ok (.getfield 64, 3) := by decide +kernel
theorem dX7_seenColor_12 : decode cX7_seenColor 12 = .ok (.getfield 87, 3) := by decide +kernel
theorem dX7_seenColor_15 : decode cX7_seenColor 15 = .ok (.iload_n 2, 1) := by decide +kernel
theorem dX7_seenColor_16 : decode cX7_seenColor 16 = .ok (.invokevirtual 83, 3) := by decide +kernel
theorem dX7_seenColor_19 : decode cX7_seenColor 19 = .ok (.goto 17, 3) := by decide +kernel
theorem dX7_seenColor_22 : decode cX7_seenColor 22 = .ok (.aload_n 0, 1) := by decide +kernel
theorem dX7_seenColor_23 : decode cX7_seenColor 23 = .ok (.getfield 10, 3) := by decide +kernel
theorem dX7_seenColor_26 : decode cX7_seenColor 26 = .ok (.getfield 50, 3) := by decide +kernel
theorem dX7_seenColor_29 : decode cX7_seenColor 29 = .ok (.getfield 193, 3) := by decide +kernel
theorem dX7_seenColor_32 : decode cX7_seenColor 32 = .ok (.iload_n 1, 1) := by decide +kernel
theorem dX7_seenColor_33 : decode cX7_seenColor 33 = .ok (.invokevirtual 83, 3) := by decide +kernel
theorem dX7_seenColor_36 : decode cX7_seenColor 36 = .ok (.ireturn, 1) := by decide +kernel
theorem dX7_isBetween_0 : decode cX7_isBetween 0 = .ok (.iload_n 0, 1) := by decide +kernel
theorem dX7_isBetween_1 : decode cX7_isBetween 1 = .ok (.iload_n 1, 1) := by decide +kernel
theorem dX7_isBetween_2 : decode cX7_isBetween 2 = .ok (.if_icmp .lt 12, 3) := by decide +kernel
theorem dX7_isBetween_5 : decode cX7_isBetween 5 = .ok (.iload_n 0, 1) := by decide +kernel
theorem dX7_isBetween_6 : decode cX7_isBetween 6 = .ok (.iload_n 2, 1) := by decide +kernel
theorem dX7_isBetween_7 : decode cX7_isBetween 7 = .ok (.if_icmp .gt 7, 3) := by decide +kernel
theorem dX7_isBetween_10 : decode cX7_isBetween 10 = .ok (.iconst 1, 1) := by decide +kernel
theorem dX7_isBetween_11 : decode cX7_isBetween 11 = .ok (.goto 4, 3) := by decide +kernel
theorem dX7_isBetween_14 : decode cX7_isBetween 14 = .ok (.iconst 0, 1) := by decide +kernel
theorem dX7_isBetween_15 : decode cX7_isBetween 15 = .ok (.ireturn, 1) := by decide +kernel
theorem dX7_isColor_0 : decode cX7_isColor 0 = .ok (.iload_n 0, 1) := by decide +kernel
theorem dX7_isColor_1 : decode cX7_isColor 1 = .ok (.iconst 0, 1) := by decide +kernel
theorem dX7_isColor_2 : decode cX7_isColor 2 = .ok (.bipush 9, 2) := by decide +kernel
theorem dX7_isColor_4 : decode cX7_isColor 4 = .ok (.invokestatic 42, 3) := by decide +kernel
theorem dX7_isColor_7 : decode cX7_isColor 7 = .ok (.ireturn, 1) := by decide +kernel
theorem dX7_bitOf_0 : decode cX7_bitOf 0 = .ok (.iload_n 0, 1) := by decide +kernel
theorem dX7_bitOf_1 : decode cX7_bitOf 1 = .ok (.iload_n 1, 1) := by decide +kernel
theorem dX7_bitOf_2 : decode cX7_bitOf 2 = .ok (.iushr, 1) := by decide +kernel
theorem dX7_bitOf_3 : decode cX7_bitOf 3 = .ok (.iconst 1, 1) := by decide +kernel
theorem dX7_bitOf_4 : decode cX7_bitOf 4 = .ok (.iand, 1) := by decide +kernel
theorem dX7_bitOf_5 : decode cX7_bitOf 5 = .ok (.ireturn, 1) := by decide +kernel
theorem dJ6_bitCount_0f7a4_0 : decode cJ6_bitCount_0f7a4 0 = .ok (.iload_n 0, 1) := by decide +kernel
theorem dJ6_bitCount_0f7a4_1 : decode cJ6_bitCount_0f7a4 1 = .ok (.iload_n 0, 1) := by decide +kernel
theorem dJ6_bitCount_0f7a4_2 : decode cJ6_bitCount_0f7a4 2 = .ok (.iconst 1, 1) := by decide +kernel
theorem dJ6_bitCount_0f7a4_3 : decode cJ6_bitCount_0f7a4 3 = .ok (.iushr, 1) := by decide +kernel
theorem dJ6_bitCount_0f7a4_4 : decode cJ6_bitCount_0f7a4 4 = .ok (.ldc_w 265, 3) := by decide +kernel
theorem dJ6_bitCount_0f7a4_7 : decode cJ6_bitCount_0f7a4 7 = .ok (.iand, 1) := by decide +kernel
theorem dJ6_bitCount_0f7a4_8 : decode cJ6_bitCount_0f7a4 8 = .ok (.isub, 1) := by decide +kernel
theorem dJ6_bitCount_0f7a4_9 : decode cJ6_bitCount_0f7a4 9 = .ok (.istore_n 0, 1) := by decide +kernel
theorem dJ6_bitCount_0f7a4_10 : decode cJ6_bitCount_0f7a4 10 = .ok (.iload_n 0, 1) := by decide +kernel
theorem dJ6_bitCount_0f7a4_11 : decode cJ6_bitCount_0f7a4 11 = .ok (.ldc_w 266, 3) := by decide +kernel
theorem dJ6_bitCount_0f7a4_14 : decode cJ6_bitCount_0f7a4 14 = .ok (.iand, 1) := by decide +kernel
theorem dJ6_bitCount_0f7a4_15 : decode cJ6_bitCount_0f7a4 15 = .ok (.iload_n 0, 1) := by decide +kernel
theorem dJ6_bitCount_0f7a4_16 : decode cJ6_bitCount_0f7a4 16 = .ok (.iconst 2, 1) := by decide +kernel
theorem dJ6_bitCount_0f7a4_17 : decode cJ6_bitCount_0f7a4 17 = .ok (.iushr, 1) := by decide +kernel
theorem dJ6_bitCount_0f7a4_18 : decode cJ6_bitCount_0f7a4 18 = .ok (.ldc_w 266, 3) := by decide +kernel
theorem dJ6_bitCount_0f7a4_21 : decode cJ6_bitCount_0f7a4 21 = .ok (.iand, 1) := by decide +kernel
theorem dJ6_bitCount_0f7a4_22 : decode cJ6_bitCount_0f7a4 22 = .ok (.iadd, 1) := by decide +kernel
theorem dJ6_bitCount_0f7a4_23 : decode cJ6_bitCount_0f7a4 23 = .ok (.istore_n 0, 1) := by decide +kernel
theorem dJ6_bitCount_0f7a4_24 : decode cJ6_bitCount_0f7a4 24 = .ok (.iload_n 0, 1) := by decide +kernel
theorem dJ6_bitCount_0f7a4_25 : decode cJ6_bitCount_0f7a4 25 = .ok (.iload_n 0, 1) := by decide +kernel
theorem dJ6_bitCount_0f7a4_26 : decode cJ6_bitCount_0f7a4 26 = .ok (.iconst 4, 1) := by decide +kernel
theorem dJ6_bitCount_0f7a4_27 : decode cJ6_bitCount_0f7a4 27 = .ok (.iushr, 1) := by decide +kernel
theorem dJ6_bitCount_0f7a4_28 : decode cJ6_bitCount_0f7a4 28 = .ok (.iadd, 1) := by decide +kernel
theorem dJ6_bitCount_0f7a4_29 : decode cJ6_bitCount_0f7a4 29 = .ok (.ldc_w 267, 3) := by decide +kernel
theorem dJ6_bitCount_0f7a4_32 : decode cJ6_bitCount_0f7a4 32 = .ok (.iand, 1) := by decide +kernel
theorem dJ6_bitCount_0f7a4_33 : decode cJ6_bitCount_0f7a4 33 = .ok (.istore_n 0, 1) := by decide +kernel
theorem dJ6_bitCount_0f7a4_34 : decode cJ6_bitCount_0f7a4 34 = .ok (.iload_n 0, 1) := by decide +kernel
theorem dJ6_bitCount_0f7a4_35 : decode cJ6_bitCount_0f7a4 35 = .ok (.iload_n 0, 1) := by decide +kernel
theorem dJ6_bitCount_0f7a4_36 : decode cJ6_bitCount_0f7a4 36 = .ok (.bipush 8, 2) := by decide +kernel
theorem dJ6_bitCount_0f7a4_38 : decode cJ6_bitCount_0f7a4 38 = .ok (.iushr, 1) := by decide +kernel
theorem dJ6_bitCount_0f7a4_39 : decode cJ6_bitCount_0f7a4 39 = .ok (.iadd, 1) := by decide +kernel
theorem dJ6_bitCount_0f7a4_40 : decode cJ6_bitCount_0f7a4 40 = .ok (.istore_n 0, 1) := by decide +kernel
theorem dJ6_bitCount_0f7a4_41 : decode cJ6_bitCount_0f7a4 41 = .ok (.iload_n 0, 1) := by decide +kernel
theorem dJ6_bitCount_0f7a4_42 : decode cJ6_bitCount_0f7a4 42 = .ok (.iload_n 0, 1) := by decide +kernel
theorem dJ6_bitCount_0f7a4_43 : decode cJ6_bitCount_0f7a4 43 = .ok (.bipush 16, 2) := by decide +kernel
theorem dJ6_bitCount_0f7a4_45 : decode cJ6_bitCount_0f7a4 45 = .ok (.iushr, 1) := by decide +kernel
theorem dJ6_bitCount_0f7a4_46 : decode cJ6_bitCount_0f7a4 46 = .ok (.iadd, 1) := by decide +kernel
theorem dJ6_bitCount_0f7a4_47 : decode cJ6_bitCount_0f7a4 47 = .ok (.istore_n 0, 1) := by decide +kernel
theorem dJ6_bitCount_0f7a4_48 : decode cJ6_bitCount_0f7a4 48 = .ok (.iload_n 0, 1) := by decide +kernel
theorem dJ6_bitCount_0f7a4_49 : decode cJ6_bitCount_0f7a4 49 = .ok (.bipush 63, 2) := by decide +kernel
theorem dJ6_bitCount_0f7a4_51 : decode cJ6_bitCount_0f7a4 51 = .ok (.iand, 1) := by decide +kernel
theorem dJ6_bitCount_0f7a4_52 : decode cJ6_bitCount_0f7a4 52 = .ok (.ireturn, 1) := by decide +kernel
theorem dJ9_max_7cf53_0 : decode cJ9_max_7cf53 0 = .ok (.iload_n 0, 1) := by decide +kernel
theorem dJ9_max_7cf53_1 : decode cJ9_max_7cf53 1 = .ok (.iload_n 1, 1) := by decide +kernel
theorem dJ9_max_7cf53_2 : decode cJ9_max_7cf53 2 = .ok (.if_icmp .lt 7, 3) := by decide +kernel
theorem dJ9_max_7cf53_5 : decode cJ9_max_7cf53 5 = .ok (.iload_n 0, 1) := by decide +kernel
theorem dJ9_max_7cf53_6 : decode cJ9_max_7cf53 6 = .ok (.goto 4, 3) := by decide +kernel
theorem dJ9_max_7cf53_9 : decode cJ9_max_7cf53 9 = .ok (.iload_n 1, 1) := by decide +kernel
theorem dJ9_max_7cf53_10 : decode cJ9_max_7cf53 10 = .ok (.ireturn, 1) := by decide +kernel
theorem dJ9_min_7cf53_0 : decode cJ9_min_7cf53 0 = .ok (.iload_n 0, 1) := by decide +kernel
theorem dJ9_min_7cf53_1 : decode cJ9_min_7cf53 1 = .ok (.iload_n 1, 1) := by decide +kernel
theorem dJ9_min_7cf53_2 : decode cJ9_min_7cf53 2 = .ok (.if_icmp .gt 7, 3) := by decide +kernel
theorem dJ9_min_7cf53_5 : decode cJ9_min_7cf53 5 = .ok (.iload_n 0, 1) := by decide +kernel
theorem dJ9_min_7cf53_6 : decode cJ9_min_7cf53 6 = .ok (.goto 4, 3) := by decide +kernel
theorem dJ9_min_7cf53_9 : decode cJ9_min_7cf53 9 = .ok (.iload_n 1, 1) := by decide +kernel
theorem dJ9_min_7cf53_10 : decode cJ9_min_7cf53 10 = .ok (.ireturn, 1) := by decide +kernel
theorem dL_cell_0 : decode cL_cell 0 = .ok (.iload_n 1, 1) := by decide +kernel
theorem dL_cell_1 : decode cL_cell 1 = .ok (.aload_n 0, 1) := by decide +kernel
theorem dL_cell_2 : decode cL_cell 2 = .ok (.arraylength, 1) := by decide +kernel
theorem dL_cell_3 : decode cL_cell 3 = .ok (.if_icmp .ge 9, 3) := by decide +kernel
theorem dL_cell_6 : decode cL_cell 6 = .ok (.aload_n 0, 1) := by decide +kernel
theorem dL_cell_7 : decode cL_cell 7 = .ok (.iload_n 1, 1) := by decide +kernel
theorem dL_cell_8 : decode cL_cell 8 = .ok (.iaload, 1) := by decide +kernel
theorem dL_cell_9 : decode cL_cell 9 = .ok (.goto 15, 3) := by decide +kernel
theorem dL_cell_12 : decode cL_cell 12 = .ok (.sipush 7919, 3) := by decide +kernel
theorem dL_cell_15 : decode cL_cell 15 = .ok (.iload_n 1, 1) := by decide +kernel
theorem dL_cell_16 : decode cL_cell 16 = .ok (.iconst 3, 1) := by decide +kernel
theorem dL_cell_17 : decode cL_cell 17 = .ok (.iadd, 1) := by decide +kernel
theorem dL_cell_18 : decode cL_cell 18 = .ok (.imul, 1) := by decide +kernel
theorem dL_cell_19 : decode cL_cell 19 = .ok (.iload_n 1, 1) := by decide +kernel
theorem dL_cell_20 : decode cL_cell 20 = .ok (.bipush 11, 2) := by decide +kernel
theorem dL_cell_22 : decode cL_cell 22 = .ok (.iadd, 1) := by decide +kernel
theorem dL_cell_23 : decode cL_cell 23 = .ok (.imul, 1) := by decide +kernel
theorem dL_cell_24 : decode cL_cell 24 = .ok (.ireturn, 1) := by decide +kernel
theorem dL_low_0 : decode cL_low 0 = .ok (.iload_n 0, 1) := by decide +kernel
theorem dL_low_1 : decode cL_low 1 = .ok (.ldc 7, 2) := by decide +kernel
theorem dL_low_3 : decode cL_low 3 = .ok (.iand, 1) := by decide +kernel
theorem dL_low_4 : decode cL_low 4 = .ok (.iload_n 1, 1) := by decide +kernel
theorem dL_low_5 : decode cL_low 5 = .ok (.irem, 1) := by decide +kernel
theorem dL_low_6 : decode cL_low 6 = .ok (.ireturn, 1) := by decide +kernel
theorem dL_digest_0 : decode cL_digest 0 = .ok (.ldc2_w 8, 3) := by decide +kernel
theorem dL_digest_3 : decode cL_digest 3 = .ok (.lstore_n 1, 1) := by decide +kernel
theorem dL_digest_4 : decode cL_digest 4 = .ok (.iconst 0, 1) := by decide +kernel
theorem dL_digest_5 : decode cL_digest 5 = .ok (.istore_n 3, 1) := by decide +kernel
theorem dL_digest_6 : decode cL_digest 6 = .ok (.iload_n 3, 1) := by decide +kernel
theorem dL_digest_7 : decode cL_digest 7 = .ok (.bipush 8, 2) := by decide +kernel
theorem dL_digest_9 : decode cL_digest 9 = .ok (.if_icmp .ge 22, 3) := by decide +kernel
theorem dL_digest_12 : decode cL_digest 12 = .ok (.ldc2_w 10, 3) := by decide +kernel
theorem dL_digest_15 : decode cL_digest 15 = .ok (.lload_n 1, 1) := by decide +kernel
theorem dL_digest_16 : decode cL_digest 16 = .ok (.lmul, 1) := by decide +kernel
theorem dL_digest_17 : decode cL_digest 17 = .ok (.aload_n 0, 1) := by decide +kernel
theorem dL_digest_18 : decode cL_digest 18 = .ok (.iload_n 3, 1) := by decide +kernel
theorem dL_digest_19 : decode cL_digest 19 = .ok (.invokevirtual 12, 3) := by decide +kernel
theorem dL_digest_22 : decode cL_digest 22 = .ok (.i2l, 1) := by decide +kernel
theorem dL_digest_23 : decode cL_digest 23 = .ok (.ladd, 1) := by decide +kernel
theorem dL_digest_24 : decode cL_digest 24 = .ok (.lstore_n 1, 1) := by decide +kernel
theorem dL_digest_25 : decode cL_digest 25 = .ok (.iinc 3 1, 3) := by decide +kernel
theorem dL_digest_28 : decode cL_digest 28 = .ok (.goto (-22), 3) := by decide +kernel
theorem dL_digest_31 : decode cL_digest 31 = .ok (.iconst 0, 1) := by decide +kernel
theorem dL_digest_32 : decode cL_digest 32 = .ok (.istore_n 3, 1) := by decide +kernel
theorem dL_digest_33 : decode cL_digest 33 = .ok (.iload_n 3, 1) := by decide +kernel
theorem dL_digest_34 : decode cL_digest 34 = .ok (.aload_n 0, 1) := by decide +kernel
theorem dL_digest_35 : decode cL_digest 35 = .ok (.iconst 1, 1) := by decide +kernel
theorem dL_digest_36 : decode cL_digest 36 = .ok (.invokevirtual 12, 3) := by decide +kernel
theorem dL_digest_39 : decode cL_digest 39 = .ok (.if_icmp .ge 39, 3) := by decide +kernel
theorem dL_digest_42 : decode cL_digest 42 = .ok (.iconst 0, 1) := by decide +kernel
theorem dL_digest_43 : decode cL_digest 43 = .ok (.istore 4, 2) := by decide +kernel
theorem dL_digest_45 : decode cL_digest 45 = .ok (.iload 4, 2) := by decide +kernel
theorem dL_digest_47 : decode cL_digest 47 = .ok (.iconst 5, 1) := by decide +kernel
theorem dL_digest_48 : decode cL_digest 48 = .ok (.if_icmp .ge 24, 3) := by decide +kernel
theorem dL_digest_51 : decode cL_digest 51 = .ok (.ldc2_w 10, 3) := by decide +kernel
theorem dL_digest_54 : decode cL_digest 54 = .ok (.lload_n 1, 1) := by decide +kernel
theorem dL_digest_55 : decode cL_digest 55 = .ok (.lmul, 1) := by decide +kernel
theorem dL_digest_56 : decode cL_digest 56 = .ok (.aload_n 0, 1) := by decide +kernel
theorem dL_digest_57 : decode cL_digest 57 = .ok (.iload_n 3, 1) := by decide +kernel
theorem dL_digest_58 : decode cL_digest 58 = .ok (.iload 4, 2) := by decide +kernel
theorem dL_digest_60 : decode cL_digest 60 = .ok (.invokevirtual 18, 3) := by decide +kernel
theorem dL_digest_63 : decode cL_digest 63 = .ok (.i2l, 1) := by decide +kernel
theorem dL_digest_64 : decode cL_digest 64 = .ok (.ladd, 1) := by decide +kernel
theorem dL_digest_65 : decode cL_digest 65 = .ok (.lstore_n 1, 1) := by decide +kernel
theorem dL_digest_66 : decode cL_digest 66 = .ok (.iinc 4 1, 3) := by decide +kernel
theorem dL_digest_69 : decode cL_digest 69 = .ok (.goto (-24), 3) := by decide +kernel
theorem dL_digest_72 : decode cL_digest 72 = .ok (.iinc 3 1, 3) := by decide +kernel
theorem dL_digest_75 : decode cL_digest 75 = .ok (.goto (-42), 3) := by decide +kernel
theorem dL_digest_78 : decode cL_digest 78 = .ok (.iconst 0, 1) := by decide +kernel
theorem dL_digest_79 : decode cL_digest 79 = .ok (.istore_n 3, 1) := by decide +kernel
theorem dL_digest_80 : decode cL_digest 80 = .ok (.iload_n 3, 1) := by decide +kernel
theorem dL_digest_81 : decode cL_digest 81 = .ok (.aload_n 0, 1) := by decide +kernel
theorem dL_digest_82 : decode cL_digest 82 = .ok (.iconst 2, 1) := by decide +kernel
theorem dL_digest_83 : decode cL_digest 83 = .ok (.invokevirtual 12, 3) := by decide +kernel
theorem dL_digest_86 : decode cL_digest 86 = .ok (.if_icmp .ge 39, 3) := by decide +kernel
theorem dL_digest_89 : decode cL_digest 89 = .ok (.iconst 0, 1) := by decide +kernel
theorem dL_digest_90 : decode cL_digest 90 = .ok (.istore 4, 2) := by decide +kernel
theorem dL_digest_92 : decode cL_digest 92 = .ok (.iload 4, 2) := by decide +kernel
theorem dL_digest_94 : decode cL_digest 94 = .ok (.iconst 4, 1) := by decide +kernel
theorem dL_digest_95 : decode cL_digest 95 = .ok (.if_icmp .ge 24, 3) := by decide +kernel
theorem dL_digest_98 : decode cL_digest 98 = .ok (.ldc2_w 10, 3) := by decide +kernel
theorem dL_digest_101 : decode cL_digest 101 = .ok (.lload_n 1, 1) := by decide +kernel
theorem dL_digest_102 : decode cL_digest 102 = .ok (.lmul, 1) := by decide +kernel
theorem dL_digest_103 : decode cL_digest 103 = .ok (.aload_n 0, 1) := by decide +kernel
theorem dL_digest_104 : decode cL_digest 104 = .ok (.iload_n 3, 1) := by decide +kernel
theorem dL_digest_105 : decode cL_digest 105 = .ok (.iload 4, 2) := by decide +kernel
theorem dL_digest_107 : decode cL_digest 107 = .ok (.invokevirtual 22, 3) := by decide +kernel
theorem dL_digest_110 : decode cL_digest 110 = .ok (.i2l, 1) := by decide +kernel
theorem dL_digest_111 : decode cL_digest 111 = .ok (.ladd, 1) := by decide +kernel
theorem dL_digest_112 : decode cL_digest 112 = .ok (.lstore_n 1, 1) := by decide +kernel
theorem dL_digest_113 : decode cL_digest 113 = .ok (.iinc 4 1, 3) := by decide +kernel
theorem dL_digest_116 : decode cL_digest 116 = .ok (.goto (-24), 3) := by decide +kernel
theorem dL_digest_119 : decode cL_digest 119 = .ok (.iinc 3 1, 3) := by decide +kernel
theorem dL_digest_122 : decode cL_digest 122 = .ok (.goto (-42), 3) := by decide +kernel
theorem dL_digest_125 : decode cL_digest 125 = .ok (.iconst 0, 1) := by decide +kernel
theorem dL_digest_126 : decode cL_digest 126 = .ok (.istore_n 3, 1) := by decide +kernel
theorem dL_digest_127 : decode cL_digest 127 = .ok (.iload_n 3, 1) := by decide +kernel
theorem dL_digest_128 : decode cL_digest 128 = .ok (.bipush 10, 2) := by decide +kernel
theorem dL_digest_130 : decode cL_digest 130 = .ok (.if_icmp .ge 22, 3) := by decide +kernel
theorem dL_digest_133 : decode cL_digest 133 = .ok (.ldc2_w 10, 3) := by decide +kernel
theorem dL_digest_136 : decode cL_digest 136 = .ok (.lload_n 1, 1) := by decide +kernel
theorem dL_digest_137 : decode cL_digest 137 = .ok (.lmul, 1) := by decide +kernel
theorem dL_digest_138 : decode cL_digest 138 = .ok (.aload_n 0, 1) := by decide +kernel
theorem dL_digest_139 : decode cL_digest 139 = .ok (.iload_n 3, 1) := by decide +kernel
theorem dL_digest_140 : decode cL_digest 140 = .ok (.invokevirtual 25, 3) := by decide +kernel
theorem dL_digest_143 : decode cL_digest 143 = .ok (.i2l, 1) := by decide +kernel
theorem dL_digest_144 : decode cL_digest 144 = .ok (.ladd, 1) := by decide +kernel
theorem dL_digest_145 : decode cL_digest 145 = .ok (.lstore_n 1, 1) := by decide +kernel
theorem dL_digest_146 : decode cL_digest 146 = .ok (.iinc 3 1, 3) := by decide +kernel
theorem dL_digest_149 : decode cL_digest 149 = .ok (.goto (-22), 3) := by decide +kernel
theorem dL_digest_152 : decode cL_digest 152 = .ok (.iconst 0, 1) := by decide +kernel
theorem dL_digest_153 : decode cL_digest 153 = .ok (.istore_n 3, 1) := by decide +kernel
theorem dL_digest_154 : decode cL_digest 154 = .ok (.iload_n 3, 1) := by decide +kernel
theorem dL_digest_155 : decode cL_digest 155 = .ok (.aload_n 0, 1) := by decide +kernel
theorem dL_digest_156 : decode cL_digest 156 = .ok (.iconst 5, 1) := by decide +kernel
theorem dL_digest_157 : decode cL_digest 157 = .ok (.invokevirtual 12, 3) := by decide +kernel
theorem dL_digest_160 : decode cL_digest 160 = .ok (.if_icmp .ge 40, 3) := by decide +kernel
theorem dL_digest_163 : decode cL_digest 163 = .ok (.iconst 0, 1) := by decide +kernel
theorem dL_digest_164 : decode cL_digest 164 = .ok (.istore 4, 2) := by decide +kernel
theorem dL_digest_166 : decode cL_digest 166 = .ok (.iload 4, 2) := by decide +kernel
theorem dL_digest_168 : decode cL_digest 168 = .ok (.bipush 7, 2) := by decide +kernel
theorem dL_digest_170 : decode cL_digest 170 = .ok (.if_icmp .ge 24, 3) := by decide +kernel
theorem dL_digest_173 : decode cL_digest 173 = .ok (.ldc2_w 10, 3) := by decide +kernel
theorem dL_digest_176 : decode cL_digest 176 = .ok (.lload_n 1, 1) := by decide +kernel
theorem dL_digest_177 : decode cL_digest 177 = .ok (.lmul, 1) := by decide +kernel
theorem dL_digest_178 : decode cL_digest 178 = .ok (.aload_n 0, 1) := by decide +kernel
theorem dL_digest_179 : decode cL_digest 179 = .ok (.iload_n 3, 1) := by decide +kernel
theorem dL_digest_180 : decode cL_digest 180 = .ok (.iload 4, 2) := by decide +kernel
theorem dL_digest_182 : decode cL_digest 182 = .ok (.invokevirtual 28, 3) := by decide +kernel
theorem dL_digest_185 : decode cL_digest 185 = .ok (.i2l, 1) := by decide +kernel
theorem dL_digest_186 : decode cL_digest 186 = .ok (.ladd, 1) := by decide +kernel
theorem dL_digest_187 : decode cL_digest 187 = .ok (.lstore_n 1, 1) := by decide +kernel
theorem dL_digest_188 : decode cL_digest 188 = .ok (.iinc 4 1, 3) := by decide +kernel
theorem dL_digest_191 : decode cL_digest 191 = .ok (.goto (-25), 3) := by decide +kernel
theorem dL_digest_194 : decode cL_digest 194 = .ok (.iinc 3 1, 3) := by decide +kernel
theorem dL_digest_197 : decode cL_digest 197 = .ok (.goto (-43), 3) := by decide +kernel
theorem dL_digest_200 : decode cL_digest 200 = .ok (.ldc2_w 10, 3) := by decide +kernel
theorem dL_digest_203 : decode cL_digest 203 = .ok (.lload_n 1, 1) := by decide +kernel
theorem dL_digest_204 : decode cL_digest 204 = .ok (.lmul, 1) := by decide +kernel
theorem dL_digest_205 : decode cL_digest 205 = .ok (.aload_n 0, 1) := by decide +kernel
theorem dL_digest_206 : decode cL_digest 206 = .ok (.invokevirtual 31, 3) := by decide +kernel
theorem dL_digest_209 : decode cL_digest 209 = .ok (.i2l, 1) := by decide +kernel
theorem dL_digest_210 : decode cL_digest 210 = .ok (.ladd, 1) := by decide +kernel
theorem dL_digest_211 : decode cL_digest 211 = .ok (.lreturn, 1) := by decide +kernel
theorem dL_act_0 : decode cL_act 0 = .ok (.iload_n 1, 1) := by decide +kernel
theorem dL_act_1 : decode cL_act 1 = .ok (.iconst 4, 1) := by decide +kernel
theorem dL_act_2 : decode cL_act 2 = .ok (.ishr, 1) := by decide +kernel
theorem dL_act_3 : decode cL_act 3 = .ok (.istore_n 2, 1) := by decide +kernel
theorem dL_act_4 : decode cL_act 4 = .ok (.iload_n 1, 1) := by decide +kernel
theorem dL_act_5 : decode cL_act 5 = .ok (.bipush 15, 2) := by decide +kernel
theorem dL_act_7 : decode cL_act 7 = .ok (.iand, 1) := by decide +kernel
theorem dL_act_8 : decode cL_act 8 = .ok (.tableswitch 258 0 11 #[64, 91, 109, 109, 109, 128, 154, 164, 174, 192, 192, 204], 64) := by decide +kernel
theorem dL_act_72 : decode cL_act 72 = .ok (.aload_n 0, 1) := by decide +kernel
theorem dL_act_73 : decode cL_act 73 = .ok (.iload_n 2, 1) := by decide +kernel
theorem dL_act_74 : decode cL_act 74 = .ok (.bipush 9, 2) := by decide +kernel
theorem dL_act_76 : decode cL_act 76 = .ok (.invokestatic 35, 3) := by decide +kernel
theorem dL_act_79 : decode cL_act 79 = .ok (.iload_n 1, 1) := by decide +kernel
theorem dL_act_80 : decode cL_act 80 = .ok (.bipush 7, 2) := by decide +kernel
theorem dL_act_82 : decode cL_act 82 = .ok (.ishr, 1) := by decide +kernel
theorem dL_act_83 : decode cL_act 83 = .ok (.iconst 5, 1) := by decide +kernel
theorem dL_act_84 : decode cL_act 84 = .ok (.invokestatic 35, 3) := by decide +kernel
theorem dL_act_87 : decode cL_act 87 = .ok (.iload_n 1, 1) := by decide +kernel
theorem dL_act_88 : decode cL_act 88 = .ok (.iconst 3, 1) := by decide +kernel
theorem dL_act_89 : decode cL_act 89 = .ok (.ishr, 1) := by decide +kernel
theorem dL_act_90 : decode cL_act 90 = .ok (.bipush 11, 2) := by decide +kernel
theorem dL_act_92 : decode cL_act 92 = .ok (.invokestatic 35, 3) := by decide +kernel
theorem dL_act_95 : decode cL_act 95 = .ok (.invokevirtual 40, 3) := by decide +kernel
theorem dL_act_98 : decode cL_act 98 = .ok (.ireturn, 1) := by decide +kernel
theorem dL_act_99 : decode cL_act 99 = .ok (.aload_n 0, 1) := by decide +kernel
theorem dL_act_100 : decode cL_act 100 = .ok (.iload_n 2, 1) := by decide +kernel
theorem dL_act_101 : decode cL_act 101 = .ok (.iconst 5, 1) := by decide +kernel
theorem dL_act_102 : decode cL_act 102 = .ok (.invokestatic 35, 3) := by decide +kernel
theorem dL_act_105 : decode cL_act 105 = .ok (.iload_n 1, 1) := by decide +kernel
theorem dL_act_106 : decode cL_act 106 = .ok (.bipush 7, 2) := by decide +kernel
theorem dL_act_108 : decode cL_act 108 = .ok (.ishr, 1) := by decide +kernel
theorem dL_act_109 : decode cL_act 109 = .ok (.iconst 4, 1) := by decide +kernel
theorem dL_act_110 : decode cL_act 110 = .ok (.invokestatic 35, 3) := by decide +kernel
theorem dL_act_113 : decode cL_act 113 = .ok (.invokevirtual 44, 3) := by decide +kernel
theorem dL_act_116 : decode cL_act 116 = .ok (.ireturn, 1) := by decide +kernel
theorem dL_act_117 : decode cL_act 117 = .ok (.aload_n 0, 1) := by decide +kernel
theorem dL_act_118 : decode cL_act 118 = .ok (.iload_n 2, 1) := by decide +kernel
theorem dL_act_119 : decode cL_act 119 = .ok (.bipush 17, 2) := by decide +kernel
theorem dL_act_121 : decode cL_act 121 = .ok (.invokestatic 35, 3) := by decide +kernel
theorem dL_act_124 : decode cL_act 124 = .ok (.iload_n 1, 1) := by decide +kernel
theorem dL_act_125 : decode cL_act 125 = .ok (.bipush 8, 2) := by decide +kernel
theorem dL_act_127 : decode cL_act 127 = .ok (.ishr, 1) := by decide +kernel
theorem dL_act_128 : decode cL_act 128 = .ok (.iconst 4, 1) := by decide +kernel
theorem dL_act_129 : decode cL_act 129 = .ok (.invokestatic 35, 3) := by decide +kernel
theorem dL_act_132 : decode cL_act 132 = .ok (.invokevirtual 47, 3) := by decide +kernel
theorem dL_act_135 : decode cL_act 135 = .ok (.ireturn, 1) := by decide +kernel
theorem dL_act_136 : decode cL_act 136 = .ok (.aload_n 0, 1) := by decide +kernel
theorem dL_act_137 : decode cL_act 137 = .ok (.iload_n 2, 1) := by decide +kernel
theorem dL_act_138 : decode cL_act 138 = .ok (.iconst 4, 1) := by decide +kernel
theorem dL_act_139 : decode cL_act 139 = .ok (.invokestatic 35, 3) := by decide +kernel
theorem dL_act_142 : decode cL_act 142 = .ok (.iload_n 1, 1) := by decide +kernel
theorem dL_act_143 : decode cL_act 143 = .ok (.bipush 6, 2) := by decide +kernel
theorem dL_act_145 : decode cL_act 145 = .ok (.ishr, 1) := by decide +kernel
theorem dL_act_146 : decode cL_act 146 = .ok (.bipush 16, 2) := by decide +kernel
theorem dL_act_148 : decode cL_act 148 = .ok (.invokestatic 35, 3) := by decide +kernel
theorem dL_act_151 : decode cL_act 151 = .ok (.iload_n 1, 1) := by decide +kernel
theorem dL_act_152 : decode cL_act 152 = .ok (.iconst 3, 1) := by decide +kernel
theorem dL_act_153 : decode cL_act 153 = .ok (.ishr, 1) := by decide +kernel
theorem dL_act_154 : decode cL_act 154 = .ok (.iconst 4, 1) := by decide +kernel
theorem dL_act_155 : decode cL_act 155 = .ok (.invokestatic 35, 3) := by decide +kernel
theorem dL_act_158 : decode cL_act 158 = .ok (.invokevirtual 50, 3) := by decide +kernel
theorem dL_act_161 : decode cL_act 161 = .ok (.ireturn, 1) := by decide +kernel
theorem dL_act_162 : decode cL_act 162 = .ok (.aload_n 0, 1) := by decide +kernel
theorem dL_act_163 : decode cL_act 163 = .ok (.iload_n 2, 1) := by decide +kernel
theorem dL_act_164 : decode cL_act 164 = .ok (.iconst 3, 1) := by decide +kernel
theorem dL_act_165 : decode cL_act 165 = .ok (.invokestatic 35, 3) := by decide +kernel
theorem dL_act_168 : decode cL_act 168 = .ok (.invokevirtual 53, 3) := by decide +kernel
theorem dL_act_171 : decode cL_act 171 = .ok (.ireturn, 1) := by decide +kernel
theorem dL_act_172 : decode cL_act 172 = .ok (.aload_n 0, 1) := by decide +kernel
theorem dL_act_173 : decode cL_act 173 = .ok (.iload_n 2, 1) := by decide +kernel
theorem dL_act_174 : decode cL_act 174 = .ok (.iconst 5, 1) := by decide +kernel
theorem dL_act_175 : decode cL_act 175 = .ok (.invokestatic 35, 3) := by decide +kernel
theorem dL_act_178 : decode cL_act 178 = .ok (.invokevirtual 56, 3) := by decide +kernel
theorem dL_act_181 : decode cL_act 181 = .ok (.ireturn, 1) := by decide +kernel
theorem dL_act_182 : decode cL_act 182 = .ok (.aload_n 0, 1) := by decide +kernel
theorem dL_act_183 : decode cL_act 183 = .ok (.iload_n 2, 1) := by decide +kernel
theorem dL_act_184 : decode cL_act 184 = .ok (.iconst 5, 1) := by decide +kernel
theorem dL_act_185 : decode cL_act 185 = .ok (.invokestatic 35, 3) := by decide +kernel
theorem dL_act_188 : decode cL_act 188 = .ok (.iload_n 1, 1) := by decide +kernel
theorem dL_act_189 : decode cL_act 189 = .ok (.iconst 5, 1) := by decide +kernel
theorem dL_act_190 : decode cL_act 190 = .ok (.ishr, 1) := by decide +kernel
theorem dL_act_191 : decode cL_act 191 = .ok (.bipush 100, 2) := by decide +kernel
theorem dL_act_193 : decode cL_act 193 = .ok (.invokestatic 35, 3) := by decide +kernel
theorem dL_act_196 : decode cL_act 196 = .ok (.invokevirtual 59, 3) := by decide +kernel
theorem dL_act_199 : decode cL_act 199 = .ok (.ireturn, 1) := by decide +kernel
theorem dL_act_200 : decode cL_act 200 = .ok (.aload_n 0, 1) := by decide +kernel
theorem dL_act_201 : decode cL_act 201 = .ok (.iconst 1, 1) := by decide +kernel
theorem dL_act_202 : decode cL_act 202 = .ok (.iload_n 2, 1) := by decide +kernel
theorem dL_act_203 : decode cL_act 203 = .ok (.iconst 3, 1) := by decide +kernel
theorem dL_act_204 : decode cL_act 204 = .ok (.invokestatic 35, 3) := by decide +kernel
theorem dL_act_207 : decode cL_act 207 = .ok (.iadd, 1) := by decide +kernel
theorem dL_act_208 : decode cL_act 208 = .ok (.invokevirtual 62, 3) := by decide +kernel
theorem dL_act_211 : decode cL_act 211 = .ok (.ireturn, 1) := by decide +kernel
theorem dL_act_212 : decode cL_act 212 = .ok (.iload_n 2, 1) := by decide +kernel
theorem dL_act_213 : decode cL_act 213 = .ok (.iconst 4, 1) := by decide +kernel
theorem dL_act_214 : decode cL_act 214 = .ok (.irem, 1) := by decide +kernel
theorem dL_act_215 : decode cL_act 215 = .ok (.ifCond .ne 10, 3) := by decide +kernel
theorem dL_act_218 : decode cL_act 218 = .ok (.aload_n 0, 1) := by decide +kernel
theorem dL_act_219 : decode cL_act 219 = .ok (.invokevirtual 65, 3) := by decide +kernel
theorem dL_act_222 : decode cL_act 222 = .ok (.goto 43, 3) := by decide +kernel
theorem dL_act_225 : decode cL_act 225 = .ok (.iload_n 2, 1) := by decide +kernel
theorem dL_act_226 : decode cL_act 226 = .ok (.iconst 4, 1) := by decide +kernel
theorem dL_act_227 : decode cL_act 227 = .ok (.irem, 1) := by decide +kernel
theorem dL_act_228 : decode cL_act 228 = .ok (.iconst 1, 1) := by decide +kernel
theorem dL_act_229 : decode cL_act 229 = .ok (.if_icmp .ne 31, 3) := by decide +kernel
theorem dL_act_232 : decode cL_act 232 = .ok (.aload_n 0, 1) := by decide +kernel
theorem dL_act_233 : decode cL_act 233 = .ok (.iconst 2, 1) := by decide +kernel
theorem dL_act_234 : decode cL_act 234 = .ok (.iload_n 1, 1) := by decide +kernel
theorem dL_act_235 : decode cL_act 235 = .ok (.bipush 6, 2) := by decide +kernel
theorem dL_act_237 : decode cL_act 237 = .ok (.ishr, 1) := by decide +kernel
theorem dL_act_238 : decode cL_act 238 = .ok (.iconst 4, 1) := by decide +kernel
theorem dL_act_239 : decode cL_act 239 = .ok (.invokestatic 35, 3) := by decide +kernel
theorem dL_act_242 : decode cL_act 242 = .ok (.iadd, 1) := by decide +kernel
theorem dL_act_243 : decode cL_act 243 = .ok (.iconst 4, 1) := by decide +kernel
theorem dL_act_244 : decode cL_act 244 = .ok (.iload_n 1, 1) := by decide +kernel
theorem dL_act_245 : decode cL_act 245 = .ok (.bipush 8, 2) := by decide +kernel
theorem dL_act_247 : decode cL_act 247 = .ok (.ishr, 1) := by decide +kernel
theorem dL_act_248 : decode cL_act 248 = .ok (.bipush 8, 2) := by decide +kernel
theorem dL_act_250 : decode cL_act 250 = .ok (.invokestatic 35, 3) := by decide +kernel
theorem dL_act_253 : decode cL_act 253 = .ok (.iadd, 1) := by decide +kernel
theorem dL_act_254 : decode cL_act 254 = .ok (.invokevirtual 68, 3) := by decide +kernel
theorem dL_act_257 : decode cL_act 257 = .ok (.goto 8, 3) := by decide +kernel
theorem dL_act_260 : decode cL_act 260 = .ok (.aload_n 0, 1) := by decide +kernel
theorem dL_act_261 : decode cL_act 261 = .ok (.iconst 2, 1) := by decide +kernel
theorem dL_act_262 : decode cL_act 262 = .ok (.invokevirtual 71, 3) := by decide +kernel
theorem dL_act_265 : decode cL_act 265 = .ok (.ireturn, 1) := by decide +kernel
theorem dL_act_266 : decode cL_act 266 = .ok (.aload_n 0, 1) := by decide +kernel
theorem dL_act_267 : decode cL_act 267 = .ok (.iconst 1, 1) := by decide +kernel
theorem dL_act_268 : decode cL_act 268 = .ok (.iload_n 2, 1) := by decide +kernel
theorem dL_act_269 : decode cL_act 269 = .ok (.bipush 6, 2) := by decide +kernel
theorem dL_act_271 : decode cL_act 271 = .ok (.invokestatic 35, 3) := by decide +kernel
theorem dL_act_274 : decode cL_act 274 = .ok (.iadd, 1) := by decide +kernel
theorem dL_act_275 : decode cL_act 275 = .ok (.invokevirtual 71, 3) := by decide +kernel
theorem dL_act_278 : decode cL_act 278 = .ok (.ireturn, 1) := by decide +kernel
theorem dL_isRight_0 : decode cL_isRight 0 = .ok (.aload_n 0, 1) := by decide +kernel
theorem dL_isRight_1 : decode cL_isRight 1 = .ok (.iconst 5, 1) := by decide +kernel
theorem dL_isRight_2 : decode cL_isRight 2 = .ok (.invokevirtual 12, 3) := by decide +kernel
theorem dL_isRight_5 : decode cL_isRight 5 = .ok (.istore_n 1, 1) := by decide +kernel
theorem dL_isRight_6 : decode cL_isRight 6 = .ok (.iconst 0, 1) := by decide +kernel
theorem dL_isRight_7 : decode cL_isRight 7 = .ok (.istore_n 2, 1) := by decide +kernel
theorem dL_isRight_8 : decode cL_isRight 8 = .ok (.iconst 0, 1) := by decide +kernel
theorem dL_isRight_9 : decode cL_isRight 9 = .ok (.istore_n 3, 1) := by decide +kernel
theorem dL_isRight_10 : decode cL_isRight 10 = .ok (.iconst 0, 1) := by decide +kernel
theorem dL_isRight_11 : decode cL_isRight 11 = .ok (.istore 4, 2) := by decide +kernel
theorem dL_isRight_13 : decode cL_isRight 13 = .ok (.iload 4, 2) := by decide +kernel
theorem dL_isRight_15 : decode cL_isRight 15 = .ok (.iload_n 1, 1) := by decide +kernel
theorem dL_isRight_16 : decode cL_isRight 16 = .ok (.if_icmp .ge 245, 3) := by decide +kernel
theorem dL_isRight_19 : decode cL_isRight 19 = .ok (.iload_n 2, 1) := by decide +kernel
theorem dL_isRight_20 : decode cL_isRight 20 = .ok (.aload_n 0, 1) := by decide +kernel
theorem dL_isRight_21 : decode cL_isRight 21 = .ok (.iload 4, 2) := by decide +kernel
theorem dL_isRight_23 : decode cL_isRight 23 = .ok (.iconst 5, 1) := by decide +kernel
theorem dL_isRight_24 : decode cL_isRight 24 = .ok (.invokevirtual 28, 3) := by decide +kernel
theorem dL_isRight_27 : decode cL_isRight 27 = .ok (.iadd, 1) := by decide +kernel
theorem dL_isRight_28 : decode cL_isRight 28 = .ok (.istore_n 2, 1) := by decide +kernel
theorem dL_isRight_29 : decode cL_isRight 29 = .ok (.aload_n 0, 1) := by decide +kernel
theorem dL_isRight_30 : decode cL_isRight 30 = .ok (.iload 4, 2) := by decide +kernel
theorem dL_isRight_32 : decode cL_isRight 32 = .ok (.iconst 4, 1) := by decide +kernel
theorem dL_isRight_33 : decode cL_isRight 33 = .ok (.invokevirtual 28, 3) := by decide +kernel
theorem dL_isRight_36 : decode cL_isRight 36 = .ok (.ifCond .le 7, 3) := by decide +kernel
theorem dL_isRight_39 : decode cL_isRight 39 = .ok (.iconst 1, 1) := by decide +kernel
theorem dL_isRight_40 : decode cL_isRight 40 = .ok (.goto 4, 3) := by decide +kernel
theorem dL_isRight_43 : decode cL_isRight 43 = .ok (.iconst 0, 1) := by decide +kernel
theorem dL_isRight_44 : decode cL_isRight 44 = .ok (.iload 4, 2) := by decide +kernel
theorem dL_isRight_46 : decode cL_isRight 46 = .ok (.iload_n 1, 1) := by decide +kernel
theorem dL_isRight_47 : decode cL_isRight 47 = .ok (.iconst 1, 1) := by decide +kernel
theorem dL_isRight_48 : decode cL_isRight 48 = .ok (.isub, 1) := by decide +kernel
theorem dL_isRight_49 : decode cL_isRight 49 = .ok (.if_icmp .ne 17, 3) := by decide +kernel
theorem dL_isRight_52 : decode cL_isRight 52 = .ok (.aload_n 0, 1) := by decide +kernel
theorem dL_isRight_53 : decode cL_isRight 53 = .ok (.bipush 6, 2) := by decide +kernel
theorem dL_isRight_55 : decode cL_isRight 55 = .ok (.invokevirtual 12, 3) := by decide +kernel
theorem dL_isRight_58 : decode cL_isRight 58 = .ok (.iconst 1, 1) := by decide +kernel
theorem dL_isRight_59 : decode cL_isRight 59 = .ok (.if_icmp .ne 7, 3) := by decide +kernel
theorem dL_isRight_62 : decode cL_isRight 62 = .ok (.iconst 1, 1) := by decide +kernel
theorem dL_isRight_63 : decode cL_isRight 63 = .ok (.goto 4, 3) := by decide +kernel
theorem dL_isRight_66 : decode cL_isRight 66 = .ok (.iconst 0, 1) := by decide +kernel
theorem dL_isRight_67 : decode cL_isRight 67 = .ok (.if_icmp .eq 5, 3) := by decide +kernel
theorem dL_isRight_70 : decode cL_isRight 70 = .ok (.iconst 0, 1) := by decide +kernel
theorem dL_isRight_71 : decode cL_isRight 71 = .ok (.ireturn, 1) := by decide +kernel
theorem dL_isRight_72 : decode cL_isRight 72 = .ok (.aload_n 0, 1) := by decide +kernel
theorem dL_isRight_73 : decode cL_isRight 73 = .ok (.iload 4, 2) := by decide +kernel
theorem dL_isRight_75 : decode cL_isRight 75 = .ok (.iconst 4, 1) := by decide +kernel
theorem dL_isRight_76 : decode cL_isRight 76 = .ok (.invokevirtual 28, 3) := by decide +kernel
theorem dL_isRight_79 : decode cL_isRight 79 = .ok (.ifCond .ne 39, 3) := by decide +kernel
theorem dL_isRight_82 : decode cL_isRight 82 = .ok (.aload_n 0, 1) := by decide +kernel
theorem dL_isRight_83 : decode cL_isRight 83 = .ok (.iload 4, 2) := by decide +kernel
theorem dL_isRight_85 : decode cL_isRight 85 = .ok (.iconst 2, 1) := by decide +kernel
theorem dL_isRight_86 : decode cL_isRight 86 = .ok (.invokevirtual 28, 3) := by decide +kernel
theorem dL_isRight_89 : decode cL_isRight 89 = .ok (.aload_n 0, 1) := by decide +kernel
theorem dL_isRight_90 : decode cL_isRight 90 = .ok (.iconst 1, 1) := by decide +kernel
theorem dL_isRight_91 : decode cL_isRight 91 = .ok (.invokevirtual 12, 3) := by decide +kernel
theorem dL_isRight_94 : decode cL_isRight 94 = .ok (.if_icmp .lt 22, 3) := by decide +kernel
theorem dL_isRight_97 : decode cL_isRight 97 = .ok (.aload_n 0, 1) := by decide +kernel
theorem dL_isRight_98 : decode cL_isRight 98 = .ok (.iload 4, 2) := by decide +kernel
theorem dL_isRight_100 : decode cL_isRight 100 = .ok (.iconst 2, 1) := by decide +kernel
theorem dL_isRight_101 : decode cL_isRight 101 = .ok (.invokevirtual 28, 3) := by decide +kernel
theorem dL_isRight_104 : decode cL_isRight 104 = .ok (.iconst 2, 1) := by decide +kernel
theorem dL_isRight_105 : decode cL_isRight 105 = .ok (.aload_n 0, 1) := by decide +kernel
theorem dL_isRight_106 : decode cL_isRight 106 = .ok (.iconst 1, 1) := by decide +kernel
theorem dL_isRight_107 : decode cL_isRight 107 = .ok (.invokevirtual 12, 3) := by decide +kernel
theorem dL_isRight_110 : decode cL_isRight 110 = .ok (.imul, 1) := by decide +kernel
theorem dL_isRight_111 : decode cL_isRight 111 = .ok (.iconst 1, 1) := by decide +kernel
theorem dL_isRight_112 : decode cL_isRight 112 = .ok (.isub, 1) := by decide +kernel
theorem dL_isRight_113 : decode cL_isRight 113 = .ok (.if_icmp .le 5, 3) := by decide +kernel
theorem dL_isRight_116 : decode cL_isRight 116 = .ok (.iconst 0, 1) := by decide +kernel
theorem dL_isRight_117 : decode cL_isRight 117 = .ok (.ireturn, 1) := by decide +kernel
theorem dL_isRight_118 : decode cL_isRight 118 = .ok (.aload_n 0, 1) := by decide +kernel
theorem dL_isRight_119 : decode cL_isRight 119 = .ok (.iload 4, 2) := by decide +kernel
theorem dL_isRight_121 : decode cL_isRight 121 = .ok (.bipush 6, 2) := by decide +kernel
theorem dL_isRight_123 : decode cL_isRight 123 = .ok (.invokevirtual 28, 3) := by decide +kernel
theorem dL_isRight_126 : decode cL_isRight 126 = .ok (.iload_n 3, 1) := by decide +kernel
theorem dL_isRight_127 : decode cL_isRight 127 = .ok (.if_icmp .le 14, 3) := by decide +kernel
theorem dL_isRight_130 : decode cL_isRight 130 = .ok (.aload_n 0, 1) := by decide +kernel
theorem dL_isRight_131 : decode cL_isRight 131 = .ok (.iload 4, 2) := by decide +kernel
theorem dL_isRight_133 : decode cL_isRight 133 = .ok (.bipush 6, 2) := by decide +kernel
theorem dL_isRight_135 : decode cL_isRight 135 = .ok (.invokevirtual 28, 3) := by decide +kernel
theorem dL_isRight_138 : decode cL_isRight 138 = .ok (.goto 4, 3) := by decide +kernel
theorem dL_isRight_141 : decode cL_isRight 141 = .ok (.iload_n 3, 1) := by decide +kernel
theorem dL_isRight_142 : decode cL_isRight 142 = .ok (.istore_n 3, 1) := by decide +kernel
theorem dL_isRight_143 : decode cL_isRight 143 = .ok (.iconst 0, 1) := by decide +kernel
theorem dL_isRight_144 : decode cL_isRight 144 = .ok (.istore 5, 2) := by decide +kernel
theorem dL_isRight_146 : decode cL_isRight 146 = .ok (.iconst 0, 1) := by decide +kernel
theorem dL_isRight_147 : decode cL_isRight 147 = .ok (.istore 6, 2) := by decide +kernel
theorem dL_isRight_149 : decode cL_isRight 149 = .ok (.iload 6, 2) := by decide +kernel
theorem dL_isRight_151 : decode cL_isRight 151 = .ok (.aload_n 0, 1) := by decide +kernel
theorem dL_isRight_152 : decode cL_isRight 152 = .ok (.iconst 1, 1) := by decide +kernel
theorem dL_isRight_153 : decode cL_isRight 153 = .ok (.invokevirtual 12, 3) := by decide +kernel
theorem dL_isRight_156 : decode cL_isRight 156 = .ok (.if_icmp .ge 85, 3) := by decide +kernel
theorem dL_isRight_159 : decode cL_isRight 159 = .ok (.iload 5, 2) := by decide +kernel
theorem dL_isRight_161 : decode cL_isRight 161 = .ok (.aload_n 0, 1) := by decide +kernel
theorem dL_isRight_162 : decode cL_isRight 162 = .ok (.iload 4, 2) := by decide +kernel
theorem dL_isRight_164 : decode cL_isRight 164 = .ok (.iload 6, 2) := by decide +kernel
theorem dL_isRight_166 : decode cL_isRight 166 = .ok (.iconst 0, 1) := by decide +kernel
theorem dL_isRight_167 : decode cL_isRight 167 = .ok (.invokevirtual 74, 3) := by decide +kernel
theorem dL_isRight_170 : decode cL_isRight 170 = .ok (.iconst 1, 1) := by decide +kernel
theorem dL_isRight_171 : decode cL_isRight 171 = .ok (.if_icmp .ne 7, 3) := by decide +kernel
theorem dL_isRight_174 : decode cL_isRight 174 = .ok (.iconst 1, 1) := by decide +kernel
theorem dL_isRight_175 : decode cL_isRight 175 = .ok (.goto 4, 3) := by decide +kernel
theorem dL_isRight_178 : decode cL_isRight 178 = .ok (.iconst 0, 1) := by decide +kernel
theorem dL_isRight_179 : decode cL_isRight 179 = .ok (.iadd, 1) := by decide +kernel
theorem dL_isRight_180 : decode cL_isRight 180 = .ok (.istore 5, 2) := by decide +kernel
theorem dL_isRight_182 : decode cL_isRight 182 = .ok (.aload_n 0, 1) := by decide +kernel
theorem dL_isRight_183 : decode cL_isRight 183 = .ok (.iload 4, 2) := by decide +kernel
theorem dL_isRight_185 : decode cL_isRight 185 = .ok (.iload 6, 2) := by decide +kernel
theorem dL_isRight_187 : decode cL_isRight 187 = .ok (.iconst 0, 1) := by decide +kernel
theorem dL_isRight_188 : decode cL_isRight 188 = .ok (.invokevirtual 74, 3) := by decide +kernel
theorem dL_isRight_191 : decode cL_isRight 191 = .ok (.aload_n 0, 1) := by decide +kernel
theorem dL_isRight_192 : decode cL_isRight 192 = .ok (.iload 4, 2) := by decide +kernel
theorem dL_isRight_194 : decode cL_isRight 194 = .ok (.iload 6, 2) := by decide +kernel
theorem dL_isRight_196 : decode cL_isRight 196 = .ok (.iconst 3, 1) := by decide +kernel
theorem dL_isRight_197 : decode cL_isRight 197 = .ok (.invokevirtual 74, 3) := by decide +kernel
theorem dL_isRight_200 : decode cL_isRight 200 = .ok (.if_icmp .eq 7, 3) := by decide +kernel
theorem dL_isRight_203 : decode cL_isRight 203 = .ok (.iconst 1, 1) := by decide +kernel
theorem dL_isRight_204 : decode cL_isRight 204 = .ok (.goto 4, 3) := by decide +kernel
theorem dL_isRight_207 : decode cL_isRight 207 = .ok (.iconst 0, 1) := by decide +kernel
theorem dL_isRight_208 : decode cL_isRight 208 = .ok (.istore 7, 2) := by decide +kernel
theorem dL_isRight_210 : decode cL_isRight 210 = .ok (.iload 7, 2) := by decide +kernel
theorem dL_isRight_212 : decode cL_isRight 212 = .ok (.aload_n 0, 1) := by decide +kernel
theorem dL_isRight_213 : decode cL_isRight 213 = .ok (.iload 4, 2) := by decide +kernel
theorem dL_isRight_215 : decode cL_isRight 215 = .ok (.iload 6, 2) := by decide +kernel
theorem dL_isRight_217 : decode cL_isRight 217 = .ok (.iconst 2, 1) := by decide +kernel
theorem dL_isRight_218 : decode cL_isRight 218 = .ok (.invokevirtual 74, 3) := by decide +kernel
theorem dL_isRight_221 : decode cL_isRight 221 = .ok (.iconst 1, 1) := by decide +kernel
theorem dL_isRight_222 : decode cL_isRight 222 = .ok (.if_icmp .ne 7, 3) := by decide +kernel
theorem dL_isRight_225 : decode cL_isRight 225 = .ok (.iconst 1, 1) := by decide +kernel
theorem dL_isRight_226 : decode cL_isRight 226 = .ok (.goto 4, 3) := by decide +kernel
theorem dL_isRight_229 : decode cL_isRight 229 = .ok (.iconst 0, 1) := by decide +kernel
theorem dL_isRight_230 : decode cL_isRight 230 = .ok (.if_icmp .eq 5, 3) := by decide +kernel
theorem dL_isRight_233 : decode cL_isRight 233 = .ok (.iconst 0, 1) := by decide +kernel
theorem dL_isRight_234 : decode cL_isRight 234 = .ok (.ireturn, 1) := by decide +kernel
theorem dL_isRight_235 : decode cL_isRight 235 = .ok (.iinc 6 1, 3) := by decide +kernel
theorem dL_isRight_238 : decode cL_isRight 238 = .ok (.goto (-89), 3) := by decide +kernel
theorem dL_isRight_241 : decode cL_isRight 241 = .ok (.iload 5, 2) := by decide +kernel
theorem dL_isRight_243 : decode cL_isRight 243 = .ok (.aload_n 0, 1) := by decide +kernel
theorem dL_isRight_244 : decode cL_isRight 244 = .ok (.iload 4, 2) := by decide +kernel
theorem dL_isRight_246 : decode cL_isRight 246 = .ok (.iconst 3, 1) := by decide +kernel
theorem dL_isRight_247 : decode cL_isRight 247 = .ok (.invokevirtual 28, 3) := by decide +kernel
theorem dL_isRight_250 : decode cL_isRight 250 = .ok (.if_icmp .eq 5, 3) := by decide +kernel
theorem dL_isRight_253 : decode cL_isRight 253 = .ok (.iconst 0, 1) := by decide +kernel
theorem dL_isRight_254 : decode cL_isRight 254 = .ok (.ireturn, 1) := by decide +kernel
theorem dL_isRight_255 : decode cL_isRight 255 = .ok (.iinc 4 1, 3) := by decide +kernel
theorem dL_isRight_258 : decode cL_isRight 258 = .ok (.goto (-245), 3) := by decide +kernel
theorem dL_isRight_261 : decode cL_isRight 261 = .ok (.ldc 77, 2) := by decide +kernel
theorem dL_isRight_263 : decode cL_isRight 263 = .ok (.istore 4, 2) := by decide +kernel
theorem dL_isRight_265 : decode cL_isRight 265 = .ok (.iconst 0, 1) := by decide +kernel
theorem dL_isRight_266 : decode cL_isRight 266 = .ok (.istore 5, 2) := by decide +kernel
theorem dL_isRight_268 : decode cL_isRight 268 = .ok (.iconst 1, 1) := by decide +kernel
theorem dL_isRight_269 : decode cL_isRight 269 = .ok (.istore 6, 2) := by decide +kernel
theorem dL_isRight_271 : decode cL_isRight 271 = .ok (.iload 6, 2) := by decide +kernel
theorem dL_isRight_273 : decode cL_isRight 273 = .ok (.bipush 12, 2) := by decide +kernel
theorem dL_isRight_275 : decode cL_isRight 275 = .ok (.if_icmp .gt 32, 3) := by decide +kernel
theorem dL_isRight_278 : decode cL_isRight 278 = .ok (.aload_n 0, 1) := by decide +kernel
theorem dL_isRight_279 : decode cL_isRight 279 = .ok (.iconst 0, 1) := by decide +kernel
theorem dL_isRight_280 : decode cL_isRight 280 = .ok (.iload 6, 2) := by decide +kernel
theorem dL_isRight_282 : decode cL_isRight 282 = .ok (.invokevirtual 78, 3) := by decide +kernel
theorem dL_isRight_285 : decode cL_isRight 285 = .ok (.iload 4, 2) := by decide +kernel
theorem dL_isRight_287 : decode cL_isRight 287 = .ok (.if_icmp .le 5, 3) := by decide +kernel
theorem dL_isRight_290 : decode cL_isRight 290 = .ok (.iconst 0, 1) := by decide +kernel
theorem dL_isRight_291 : decode cL_isRight 291 = .ok (.ireturn, 1) := by decide +kernel
theorem dL_isRight_292 : decode cL_isRight 292 = .ok (.aload_n 0, 1) := by decide +kernel
theorem dL_isRight_293 : decode cL_isRight 293 = .ok (.iconst 0, 1) := by decide +kernel
theorem dL_isRight_294 : decode cL_isRight 294 = .ok (.iload 6, 2) := by decide +kernel
theorem dL_isRight_296 : decode cL_isRight 296 = .ok (.invokevirtual 78, 3) := by decide +kernel
theorem dL_isRight_299 : decode cL_isRight 299 = .ok (.istore 4, 2) := by decide +kernel
theorem dL_isRight_301 : decode cL_isRight 301 = .ok (.iinc 6 1, 3) := by decide +kernel
theorem dL_isRight_304 : decode cL_isRight 304 = .ok (.goto (-33), 3) := by decide +kernel
theorem dL_isRight_307 : decode cL_isRight 307 = .ok (.iconst 0, 1) := by decide +kernel
theorem dL_isRight_308 : decode cL_isRight 308 = .ok (.istore 6, 2) := by decide +kernel
theorem dL_isRight_310 : decode cL_isRight 310 = .ok (.iload 6, 2) := by decide +kernel
theorem dL_isRight_312 : decode cL_isRight 312 = .ok (.aload_n 0, 1) := by decide +kernel
theorem dL_isRight_313 : decode cL_isRight 313 = .ok (.iconst 1, 1) := by decide +kernel
theorem dL_isRight_314 : decode cL_isRight 314 = .ok (.invokevirtual 12, 3) := by decide +kernel
theorem dL_isRight_317 : decode cL_isRight 317 = .ok (.if_icmp .ge 35, 3) := by decide +kernel
theorem dL_isRight_320 : decode cL_isRight 320 = .ok (.aload_n 0, 1) := by decide +kernel
theorem dL_isRight_321 : decode cL_isRight 321 = .ok (.iload 6, 2) := by decide +kernel
theorem dL_isRight_323 : decode cL_isRight 323 = .ok (.iconst 4, 1) := by decide +kernel
theorem dL_isRight_324 : decode cL_isRight 324 = .ok (.invokevirtual 18, 3) := by decide +kernel
theorem dL_isRight_327 : decode cL_isRight 327 = .ok (.iload 5, 2) := by decide +kernel
theorem dL_isRight_329 : decode cL_isRight 329 = .ok (.if_icmp .le 13, 3) := by decide +kernel
theorem dL_isRight_332 : decode cL_isRight 332 = .ok (.aload_n 0, 1) := by decide +kernel
theorem dL_isRight_333 : decode cL_isRight 333 = .ok (.iload 6, 2) := by decide +kernel
theorem dL_isRight_335 : decode cL_isRight 335 = .ok (.iconst 4, 1) := by decide +kernel
theorem dL_isRight_336 : decode cL_isRight 336 = .ok (.invokevirtual 18, 3) := by decide +kernel
theorem dL_isRight_339 : decode cL_isRight 339 = .ok (.goto 5, 3) := by decide +kernel
theorem dL_isRight_342 : decode cL_isRight 342 = .ok (.iload 5, 2) := by decide +kernel
theorem dL_isRight_344 : decode cL_isRight 344 = .ok (.istore 5, 2) := by decide +kernel
theorem dL_isRight_346 : decode cL_isRight 346 = .ok (.iinc 6 1, 3) := by decide +kernel
theorem dL_isRight_349 : decode cL_isRight 349 = .ok (.goto (-39), 3) := by decide +kernel
theorem dL_isRight_352 : decode cL_isRight 352 = .ok (.iload 5, 2) := by decide +kernel
theorem dL_isRight_354 : decode cL_isRight 354 = .ok (.ifCond .le 33, 3) := by decide +kernel
theorem dL_isRight_357 : decode cL_isRight 357 = .ok (.iload 5, 2) := by decide +kernel
theorem dL_isRight_359 : decode cL_isRight 359 = .ok (.bipush 64, 2) := by decide +kernel
theorem dL_isRight_361 : decode cL_isRight 361 = .ok (.if_icmp .ge 26, 3) := by decide +kernel
theorem dL_isRight_364 : decode cL_isRight 364 = .ok (.aload_n 0, 1) := by decide +kernel
theorem dL_isRight_365 : decode cL_isRight 365 = .ok (.iconst 0, 1) := by decide +kernel
theorem dL_isRight_366 : decode cL_isRight 366 = .ok (.iload 5, 2) := by decide +kernel
theorem dL_isRight_368 : decode cL_isRight 368 = .ok (.invokevirtual 78, 3) := by decide +kernel
theorem dL_isRight_371 : decode cL_isRight 371 = .ok (.iconst 1, 1) := by decide +kernel
theorem dL_isRight_372 : decode cL_isRight 372 = .ok (.if_icmp .lt 40, 3) := by decide +kernel
theorem dL_isRight_375 : decode cL_isRight 375 = .ok (.aload_n 0, 1) := by decide +kernel
theorem dL_isRight_376 : decode cL_isRight 376 = .ok (.iconst 0, 1) := by decide +kernel
theorem dL_isRight_377 : decode cL_isRight 377 = .ok (.iload 5, 2) := by decide +kernel
theorem dL_isRight_379 : decode cL_isRight 379 = .ok (.iconst 1, 1) := by decide +kernel
theorem dL_isRight_380 : decode cL_isRight 380 = .ok (.iadd, 1) := by decide +kernel
theorem dL_isRight_381 : decode cL_isRight 381 = .ok (.invokevirtual 78, 3) := by decide +kernel
theorem dL_isRight_384 : decode cL_isRight 384 = .ok (.ifCond .ne 28, 3) := by decide +kernel
theorem dL_isRight_387 : decode cL_isRight 387 = .ok (.iload_n 3, 1) := by decide +kernel
theorem dL_isRight_388 : decode cL_isRight 388 = .ok (.ifCond .le 26, 3) := by decide +kernel
theorem dL_isRight_391 : decode cL_isRight 391 = .ok (.aload_n 0, 1) := by decide +kernel
theorem dL_isRight_392 : decode cL_isRight 392 = .ok (.iconst 1, 1) := by decide +kernel
theorem dL_isRight_393 : decode cL_isRight 393 = .ok (.iload_n 3, 1) := by decide +kernel
theorem dL_isRight_394 : decode cL_isRight 394 = .ok (.invokevirtual 78, 3) := by decide +kernel
theorem dL_isRight_397 : decode cL_isRight 397 = .ok (.iconst 1, 1) := by decide +kernel
theorem dL_isRight_398 : decode cL_isRight 398 = .ok (.if_icmp .lt 14, 3) := by decide +kernel
theorem dL_isRight_401 : decode cL_isRight 401 = .ok (.aload_n 0, 1) := by decide +kernel
theorem dL_isRight_402 : decode cL_isRight 402 = .ok (.iconst 1, 1) := by decide +kernel
theorem dL_isRight_403 : decode cL_isRight 403 = .ok (.iload_n 3, 1) := by decide +kernel
theorem dL_isRight_404 : decode cL_isRight 404 = .ok (.iconst 1, 1) := by decide +kernel
theorem dL_isRight_405 : decode cL_isRight 405 = .ok (.iadd, 1) := by decide +kernel
theorem dL_isRight_406 : decode cL_isRight 406 = .ok (.invokevirtual 78, 3) := by decide +kernel
theorem dL_isRight_409 : decode cL_isRight 409 = .ok (.ifCond .eq 5, 3) := by decide +kernel
theorem dL_isRight_412 : decode cL_isRight 412 = .ok (.iconst 0, 1) := by decide +kernel
theorem dL_isRight_413 : decode cL_isRight 413 = .ok (.ireturn, 1) := by decide +kernel
theorem dL_isRight_414 : decode cL_isRight 414 = .ok (.iload_n 2, 1) := by decide +kernel
theorem dL_isRight_415 : decode cL_isRight 415 = .ok (.aload_n 0, 1) := by decide +kernel
theorem dL_isRight_416 : decode cL_isRight 416 = .ok (.bipush 7, 2) := by decide +kernel
theorem dL_isRight_418 : decode cL_isRight 418 = .ok (.invokevirtual 12, 3) := by decide +kernel
theorem dL_isRight_421 : decode cL_isRight 421 = .ok (.if_icmp .ne 50, 3) := by decide +kernel
theorem dL_isRight_424 : decode cL_isRight 424 = .ok (.iload_n 1, 1) := by decide +kernel
theorem dL_isRight_425 : decode cL_isRight 425 = .ok (.ifCond .ne 15, 3) := by decide +kernel
theorem dL_isRight_428 : decode cL_isRight 428 = .ok (.aload_n 0, 1) := by decide +kernel
theorem dL_isRight_429 : decode cL_isRight 429 = .ok (.invokevirtual 31, 3) := by decide +kernel
theorem dL_isRight_432 : decode cL_isRight 432 = .ok (.bipush (-9), 2) := by decide +kernel
theorem dL_isRight_434 : decode cL_isRight 434 = .ok (.if_icmp .ne 37, 3) := by decide +kernel
theorem dL_isRight_437 : decode cL_isRight 437 = .ok (.goto 30, 3) := by decide +kernel
theorem dL_isRight_440 : decode cL_isRight 440 = .ok (.aload_n 0, 1) := by decide +kernel
theorem dL_isRight_441 : decode cL_isRight 441 = .ok (.invokevirtual 31, 3) := by decide +kernel
theorem dL_isRight_444 : decode cL_isRight 444 = .ok (.iconst 1, 1) := by decide +kernel
theorem dL_isRight_445 : decode cL_isRight 445 = .ok (.if_icmp .lt 26, 3) := by decide +kernel
theorem dL_isRight_448 : decode cL_isRight 448 = .ok (.aload_n 0, 1) := by decide +kernel
theorem dL_isRight_449 : decode cL_isRight 449 = .ok (.invokevirtual 31, 3) := by decide +kernel
theorem dL_isRight_452 : decode cL_isRight 452 = .ok (.iload_n 1, 1) := by decide +kernel
theorem dL_isRight_453 : decode cL_isRight 453 = .ok (.if_icmp .gt 18, 3) := by decide +kernel
theorem dL_isRight_456 : decode cL_isRight 456 = .ok (.aload_n 0, 1) := by decide +kernel
theorem dL_isRight_457 : decode cL_isRight 457 = .ok (.invokevirtual 81, 3) := by decide +kernel
theorem dL_isRight_460 : decode cL_isRight 460 = .ok (.aload_n 0, 1) := by decide +kernel
theorem dL_isRight_461 : decode cL_isRight 461 = .ok (.invokevirtual 31, 3) := by decide +kernel
theorem dL_isRight_464 : decode cL_isRight 464 = .ok (.if_icmp .gt 7, 3) := by decide +kernel
theorem dL_isRight_467 : decode cL_isRight 467 = .ok (.iconst 1, 1) := by decide +kernel
theorem dL_isRight_468 : decode cL_isRight 468 = .ok (.goto 4, 3) := by decide +kernel
theorem dL_isRight_471 : decode cL_isRight 471 = .ok (.iconst 0, 1) := by decide +kernel
theorem dL_isRight_472 : decode cL_isRight 472 = .ok (.ireturn, 1) := by decide +kernel
theorem dL_yarn_0 : decode cL_yarn 0 = .ok (.iconst 0, 1) := by decide +kernel
theorem dL_yarn_1 : decode cL_yarn 1 = .ok (.istore_n 1, 1) := by decide +kernel
theorem dL_yarn_2 : decode cL_yarn 2 = .ok (.iconst 0, 1) := by decide +kernel
theorem dL_yarn_3 : decode cL_yarn 3 = .ok (.istore_n 2, 1) := by decide +kernel
theorem dL_yarn_4 : decode cL_yarn 4 = .ok (.iload_n 2, 1) := by decide +kernel
theorem dL_yarn_5 : decode cL_yarn 5 = .ok (.bipush 10, 2) := by decide +kernel
theorem dL_yarn_7 : decode cL_yarn 7 = .ok (.if_icmp .ge 17, 3) := by decide +kernel
theorem dL_yarn_10 : decode cL_yarn 10 = .ok (.iload_n 1, 1) := by decide +kernel
theorem dL_yarn_11 : decode cL_yarn 11 = .ok (.aload_n 0, 1) := by decide +kernel
theorem dL_yarn_12 : decode cL_yarn 12 = .ok (.iload_n 2, 1) := by decide +kernel
theorem dL_yarn_13 : decode cL_yarn 13 = .ok (.invokevirtual 25, 3) := by decide +kernel
theorem dL_yarn_16 : decode cL_yarn 16 = .ok (.iadd, 1) := by decide +kernel
theorem dL_yarn_17 : decode cL_yarn 17 = .ok (.istore_n 1, 1) := by decide +kernel
theorem dL_yarn_18 : decode cL_yarn 18 = .ok (.iinc 2 1, 3) := by decide +kernel
theorem dL_yarn_21 : decode cL_yarn 21 = .ok (.goto (-17), 3) := by decide +kernel
theorem dL_yarn_24 : decode cL_yarn 24 = .ok (.iconst 0, 1) := by decide +kernel
theorem dL_yarn_25 : decode cL_yarn 25 = .ok (.istore_n 2, 1) := by decide +kernel
theorem dL_yarn_26 : decode cL_yarn 26 = .ok (.iload_n 2, 1) := by decide +kernel
theorem dL_yarn_27 : decode cL_yarn 27 = .ok (.aload_n 0, 1) := by decide +kernel
theorem dL_yarn_28 : decode cL_yarn 28 = .ok (.iconst 5, 1) := by decide +kernel
theorem dL_yarn_29 : decode cL_yarn 29 = .ok (.invokevirtual 12, 3) := by decide +kernel
theorem dL_yarn_32 : decode cL_yarn 32 = .ok (.if_icmp .ge 18, 3) := by decide +kernel
theorem dL_yarn_35 : decode cL_yarn 35 = .ok (.iload_n 1, 1) := by decide +kernel
theorem dL_yarn_36 : decode cL_yarn 36 = .ok (.aload_n 0, 1) := by decide +kernel
theorem dL_yarn_37 : decode cL_yarn 37 = .ok (.iload_n 2, 1) := by decide +kernel
theorem dL_yarn_38 : decode cL_yarn 38 = .ok (.iconst 2, 1) := by decide +kernel
theorem dL_yarn_39 : decode cL_yarn 39 = .ok (.invokevirtual 28, 3) := by decide +kernel
theorem dL_yarn_42 : decode cL_yarn 42 = .ok (.iadd, 1) := by decide +kernel
theorem dL_yarn_43 : decode cL_yarn 43 = .ok (.istore_n 1, 1) := by decide +kernel
theorem dL_yarn_44 : decode cL_yarn 44 = .ok (.iinc 2 1, 3) := by decide +kernel
theorem dL_yarn_47 : decode cL_yarn 47 = .ok (.goto (-21), 3) := by decide +kernel
theorem dL_yarn_50 : decode cL_yarn 50 = .ok (.iload_n 1, 1) := by decide +kernel
theorem dL_yarn_51 : decode cL_yarn 51 = .ok (.ireturn, 1) := by decide +kernel
theorem dL_law_0 : decode cL_law 0 = .ok (.new 13, 3) := by decide +kernel
theorem dL_law_3 : decode cL_law 3 = .ok (.dup, 1) := by decide +kernel
theorem dL_law_4 : decode cL_law 4 = .ok (.invokespecial 84, 3) := by decide +kernel
theorem dL_law_7 : decode cL_law 7 = .ok (.astore_n 1, 1) := by decide +kernel
theorem dL_law_8 : decode cL_law 8 = .ok (.aload_n 1, 1) := by decide +kernel
theorem dL_law_9 : decode cL_law 9 = .ok (.iconst 1, 1) := by decide +kernel
theorem dL_law_10 : decode cL_law 10 = .ok (.aload_n 0, 1) := by decide +kernel
theorem dL_law_11 : decode cL_law 11 = .ok (.iconst 0, 1) := by decide +kernel
theorem dL_law_12 : decode cL_law 12 = .ok (.invokestatic 85, 3) := by decide +kernel
theorem dL_law_15 : decode cL_law 15 = .ok (.bipush 15, 2) := by decide +kernel
theorem dL_law_17 : decode cL_law 17 = .ok (.invokestatic 35, 3) := by decide +kernel
theorem dL_law_20 : decode cL_law 20 = .ok (.iadd, 1) := by decide +kernel
theorem dL_law_21 : decode cL_law 21 = .ok (.iconst 0, 1) := by decide +kernel
theorem dL_law_22 : decode cL_law 22 = .ok (.invokevirtual 47, 3) := by decide +kernel
theorem dL_law_25 : decode cL_law 25 = .ok (.ifCond .ne 43, 3) := by decide +kernel
theorem dL_law_28 : decode cL_law 28 = .ok (.aload_n 1, 1) := by decide +kernel
theorem dL_law_29 : decode cL_law 29 = .ok (.aload_n 0, 1) := by decide +kernel
theorem dL_law_30 : decode cL_law 30 = .ok (.iconst 1, 1) := by decide +kernel
theorem dL_law_31 : decode cL_law 31 = .ok (.invokestatic 85, 3) := by decide +kernel
theorem dL_law_34 : decode cL_law 34 = .ok (.bipush 16, 2) := by decide +kernel
theorem dL_law_36 : decode cL_law 36 = .ok (.invokestatic 35, 3) := by decide +kernel
theorem dL_law_39 : decode cL_law 39 = .ok (.iconst 1, 1) := by decide +kernel
theorem dL_law_40 : decode cL_law 40 = .ok (.invokevirtual 47, 3) := by decide +kernel
theorem dL_law_43 : decode cL_law 43 = .ok (.iconst 1, 1) := by decide +kernel
theorem dL_law_44 : decode cL_law 44 = .ok (.if_icmp .ne 24, 3) := by decide +kernel
theorem dL_law_47 : decode cL_law 47 = .ok (.aload_n 1, 1) := by decide +kernel
theorem dL_law_48 : decode cL_law 48 = .ok (.iconst 1, 1) := by decide +kernel
theorem dL_law_49 : decode cL_law 49 = .ok (.aload_n 0, 1) := by decide +kernel
theorem dL_law_50 : decode cL_law 50 = .ok (.iconst 2, 1) := by decide +kernel
theorem dL_law_51 : decode cL_law 51 = .ok (.invokestatic 85, 3) := by decide +kernel
theorem dL_law_54 : decode cL_law 54 = .ok (.bipush 80, 2) := by decide +kernel
theorem dL_law_56 : decode cL_law 56 = .ok (.invokestatic 35, 3) := by decide +kernel
theorem dL_law_59 : decode cL_law 59 = .ok (.invokevirtual 59, 3) := by decide +kernel
theorem dL_law_62 : decode cL_law 62 = .ok (.sipush 300, 3) := by decide +kernel
theorem dL_law_65 : decode cL_law 65 = .ok (.if_icmp .eq 5, 3) := by decide +kernel
theorem dL_law_68 : decode cL_law 68 = .ok (.iconst 0, 1) := by decide +kernel
theorem dL_law_69 : decode cL_law 69 = .ok (.ireturn, 1) := by decide +kernel
theorem dL_law_70 : decode cL_law 70 = .ok (.iconst 0, 1) := by decide +kernel
theorem dL_law_71 : decode cL_law 71 = .ok (.istore_n 2, 1) := by decide +kernel
theorem dL_law_72 : decode cL_law 72 = .ok (.iload_n 2, 1) := by decide +kernel
theorem dL_law_73 : decode cL_law 73 = .ok (.bipush 16, 2) := by decide +kernel
theorem dL_law_75 : decode cL_law 75 = .ok (.if_icmp .ge 275, 3) := by decide +kernel
theorem dL_law_78 : decode cL_law 78 = .ok (.aload_n 0, 1) := by decide +kernel
theorem dL_law_79 : decode cL_law 79 = .ok (.iconst 3, 1) := by decide +kernel
theorem dL_law_80 : decode cL_law 80 = .ok (.iload_n 2, 1) := by decide +kernel
theorem dL_law_81 : decode cL_law 81 = .ok (.iadd, 1) := by decide +kernel
theorem dL_law_82 : decode cL_law 82 = .ok (.invokestatic 85, 3) := by decide +kernel
theorem dL_law_85 : decode cL_law 85 = .ok (.istore_n 3, 1) := by decide +kernel
theorem dL_law_86 : decode cL_law 86 = .ok (.aload_n 1, 1) := by decide +kernel
theorem dL_law_87 : decode cL_law 87 = .ok (.invokestatic 88, 3) := by decide +kernel
theorem dL_law_90 : decode cL_law 90 = .ok (.lstore 4, 2) := by decide +kernel
theorem dL_law_92 : decode cL_law 92 = .ok (.aload_n 1, 1) := by decide +kernel
theorem dL_law_93 : decode cL_law 93 = .ok (.invokestatic 92, 3) := by decide +kernel
theorem dL_law_96 : decode cL_law 96 = .ok (.istore 6, 2) := by decide +kernel
theorem dL_law_98 : decode cL_law 98 = .ok (.aload_n 1, 1) := by decide +kernel
theorem dL_law_99 : decode cL_law 99 = .ok (.iload_n 3, 1) := by decide +kernel
theorem dL_law_100 : decode cL_law 100 = .ok (.invokestatic 95, 3) := by decide +kernel
theorem dL_law_103 : decode cL_law 103 = .ok (.istore 7, 2) := by decide +kernel
theorem dL_law_105 : decode cL_law 105 = .ok (.iload 7, 2) := by decide +kernel
theorem dL_law_107 : decode cL_law 107 = .ok (.ifCond .ge 13, 3) := by decide +kernel
theorem dL_law_110 : decode cL_law 110 = .ok (.aload_n 1, 1) := by decide +kernel
theorem dL_law_111 : decode cL_law 111 = .ok (.invokestatic 88, 3) := by decide +kernel
theorem dL_law_114 : decode cL_law 114 = .ok (.lload 4, 2) := by decide +kernel
theorem dL_law_116 : decode cL_law 116 = .ok (.lcmp, 1) := by decide +kernel
theorem dL_law_117 : decode cL_law 117 = .ok (.ifCond .ne 10, 3) := by decide +kernel
theorem dL_law_120 : decode cL_law 120 = .ok (.aload_n 1, 1) := by decide +kernel
theorem dL_law_121 : decode cL_law 121 = .ok (.invokestatic 99, 3) := by decide +kernel
theorem dL_law_124 : decode cL_law 124 = .ok (.ifCond .ne 5, 3) := by decide +kernel
theorem dL_law_127 : decode cL_law 127 = .ok (.iconst 0, 1) := by decide +kernel
theorem dL_law_128 : decode cL_law 128 = .ok (.ireturn, 1) := by decide +kernel
theorem dL_law_129 : decode cL_law 129 = .ok (.iload_n 3, 1) := by decide +kernel
theorem dL_law_130 : decode cL_law 130 = .ok (.bipush 15, 2) := by decide +kernel
theorem dL_law_132 : decode cL_law 132 = .ok (.iand, 1) := by decide +kernel
theorem dL_law_133 : decode cL_law 133 = .ok (.bipush 11, 2) := by decide +kernel
theorem dL_law_135 : decode cL_law 135 = .ok (.if_icmp .gt 21, 3) := by decide +kernel
theorem dL_law_138 : decode cL_law 138 = .ok (.iload_n 3, 1) := by decide +kernel
theorem dL_law_139 : decode cL_law 139 = .ok (.bipush 15, 2) := by decide +kernel
theorem dL_law_141 : decode cL_law 141 = .ok (.iand, 1) := by decide +kernel
theorem dL_law_142 : decode cL_law 142 = .ok (.bipush 9, 2) := by decide +kernel
theorem dL_law_144 : decode cL_law 144 = .ok (.if_icmp .eq 12, 3) := by decide +kernel
theorem dL_law_147 : decode cL_law 147 = .ok (.iload_n 3, 1) := by decide +kernel
theorem dL_law_148 : decode cL_law 148 = .ok (.bipush 15, 2) := by decide +kernel
theorem dL_law_150 : decode cL_law 150 = .ok (.iand, 1) := by decide +kernel
theorem dL_law_151 : decode cL_law 151 = .ok (.bipush 10, 2) := by decide +kernel
theorem dL_law_153 : decode cL_law 153 = .ok (.if_icmp .ne 14, 3) := by decide +kernel
theorem dL_law_156 : decode cL_law 156 = .ok (.aload_n 1, 1) := by decide +kernel
theorem dL_law_157 : decode cL_law 157 = .ok (.invokestatic 92, 3) := by decide +kernel
theorem dL_law_160 : decode cL_law 160 = .ok (.iload 6, 2) := by decide +kernel
theorem dL_law_162 : decode cL_law 162 = .ok (.if_icmp .eq 5, 3) := by decide +kernel
theorem dL_law_165 : decode cL_law 165 = .ok (.iconst 0, 1) := by decide +kernel
theorem dL_law_166 : decode cL_law 166 = .ok (.ireturn, 1) := by decide +kernel
theorem dL_law_167 : decode cL_law 167 = .ok (.iload 7, 2) := by decide +kernel
theorem dL_law_169 : decode cL_law 169 = .ok (.ifCond .lt 55, 3) := by decide +kernel
theorem dL_law_172 : decode cL_law 172 = .ok (.iload_n 2, 1) := by decide +kernel
theorem dL_law_173 : decode cL_law 173 = .ok (.iconst 3, 1) := by decide +kernel
theorem dL_law_174 : decode cL_law 174 = .ok (.iand, 1) := by decide +kernel
theorem dL_law_175 : decode cL_law 175 = .ok (.iconst 1, 1) := by decide +kernel
theorem dL_law_176 : decode cL_law 176 = .ok (.if_icmp .ne 48, 3) := by decide +kernel
theorem dL_law_179 : decode cL_law 179 = .ok (.aload_n 1, 1) := by decide +kernel
theorem dL_law_180 : decode cL_law 180 = .ok (.invokestatic 88, 3) := by decide +kernel
theorem dL_law_183 : decode cL_law 183 = .ok (.lstore 8, 2) := by decide +kernel
theorem dL_law_185 : decode cL_law 185 = .ok (.aload_n 1, 1) := by decide +kernel
theorem dL_law_186 : decode cL_law 186 = .ok (.invokevirtual 103, 3) := by decide +kernel
theorem dL_law_189 : decode cL_law 189 = .ok (.ifCond .lt 33, 3) := by decide +kernel
theorem dL_law_192 : decode cL_law 192 = .ok (.aload_n 1, 1) := by decide +kernel
theorem dL_law_193 : decode cL_law 193 = .ok (.invokestatic 88, 3) := by decide +kernel
theorem dL_law_196 : decode cL_law 196 = .ok (.lload 4, 2) := by decide +kernel
theorem dL_law_198 : decode cL_law 198 = .ok (.lcmp, 1) := by decide +kernel
theorem dL_law_199 : decode cL_law 199 = .ok (.ifCond .ne 23, 3) := by decide +kernel
theorem dL_law_202 : decode cL_law 202 = .ok (.aload_n 1, 1) := by decide +kernel
theorem dL_law_203 : decode cL_law 203 = .ok (.iload_n 3, 1) := by decide +kernel
theorem dL_law_204 : decode cL_law 204 = .ok (.invokestatic 95, 3) := by decide +kernel
theorem dL_law_207 : decode cL_law 207 = .ok (.iload 7, 2) := by decide +kernel
theorem dL_law_209 : decode cL_law 209 = .ok (.if_icmp .ne 13, 3) := by decide +kernel
theorem dL_law_212 : decode cL_law 212 = .ok (.aload_n 1, 1) := by decide +kernel
theorem dL_law_213 : decode cL_law 213 = .ok (.invokestatic 88, 3) := by decide +kernel
theorem dL_law_216 : decode cL_law 216 = .ok (.lload 8, 2) := by decide +kernel
theorem dL_law_218 : decode cL_law 218 = .ok (.lcmp, 1) := by decide +kernel
theorem dL_law_219 : decode cL_law 219 = .ok (.ifCond .eq 5, 3) := by decide +kernel
theorem dL_law_222 : decode cL_law 222 = .ok (.iconst 0, 1) := by decide +kernel
theorem dL_law_223 : decode cL_law 223 = .ok (.ireturn, 1) := by decide +kernel
theorem dL_law_224 : decode cL_law 224 = .ok (.iload_n 2, 1) := by decide +kernel
theorem dL_law_225 : decode cL_law 225 = .ok (.iconst 4, 1) := by decide +kernel
theorem dL_law_226 : decode cL_law 226 = .ok (.irem, 1) := by decide +kernel
theorem dL_law_227 : decode cL_law 227 = .ok (.iconst 2, 1) := by decide +kernel
theorem dL_law_228 : decode cL_law 228 = .ok (.if_icmp .ne 116, 3) := by decide +kernel
theorem dL_law_231 : decode cL_law 231 = .ok (.aload_n 1, 1) := by decide +kernel
theorem dL_law_232 : decode cL_law 232 = .ok (.bipush 6, 2) := by decide +kernel
theorem dL_law_234 : decode cL_law 234 = .ok (.invokevirtual 12, 3) := by decide +kernel
theorem dL_law_237 : decode cL_law 237 = .ok (.ifCond .ne 107, 3) := by decide +kernel
theorem dL_law_240 : decode cL_law 240 = .ok (.aload_n 1, 1) := by decide +kernel
theorem dL_law_241 : decode cL_law 241 = .ok (.iconst 2, 1) := by decide +kernel
theorem dL_law_242 : decode cL_law 242 = .ok (.invokevirtual 12, 3) := by decide +kernel
theorem dL_law_245 : decode cL_law 245 = .ok (.ifCond .le 99, 3) := by decide +kernel
theorem dL_law_248 : decode cL_law 248 = .ok (.aload_n 1, 1) := by decide +kernel
theorem dL_law_249 : decode cL_law 249 = .ok (.iconst 5, 1) := by decide +kernel
theorem dL_law_250 : decode cL_law 250 = .ok (.invokevirtual 12, 3) := by decide +kernel
theorem dL_law_253 : decode cL_law 253 = .ok (.bipush 50, 2) := by decide +kernel
theorem dL_law_255 : decode cL_law 255 = .ok (.if_icmp .ge 89, 3) := by decide +kernel
theorem dL_law_258 : decode cL_law 258 = .ok (.aload_n 1, 1) := by decide +kernel
theorem dL_law_259 : decode cL_law 259 = .ok (.invokestatic 88, 3) := by decide +kernel
theorem dL_law_262 : decode cL_law 262 = .ok (.lstore 8, 2) := by decide +kernel
theorem dL_law_264 : decode cL_law 264 = .ok (.aload_n 1, 1) := by decide +kernel
theorem dL_law_265 : decode cL_law 265 = .ok (.iconst 5, 1) := by decide +kernel
theorem dL_law_266 : decode cL_law 266 = .ok (.invokevirtual 12, 3) := by decide +kernel
theorem dL_law_269 : decode cL_law 269 = .ok (.istore 10, 2) := by decide +kernel
theorem dL_law_271 : decode cL_law 271 = .ok (.aload_n 1, 1) := by decide +kernel
theorem dL_law_272 : decode cL_law 272 = .ok (.iconst 1, 1) := by decide +kernel
theorem dL_law_273 : decode cL_law 273 = .ok (.iload_n 3, 1) := by decide +kernel
theorem dL_law_274 : decode cL_law 274 = .ok (.bipush 6, 2) := by decide +kernel
theorem dL_law_276 : decode cL_law 276 = .ok (.ishr, 1) := by decide +kernel
theorem dL_law_277 : decode cL_law 277 = .ok (.bipush 8, 2) := by decide +kernel
theorem dL_law_279 : decode cL_law 279 = .ok (.invokestatic 35, 3) := by decide +kernel
theorem dL_law_282 : decode cL_law 282 = .ok (.iadd, 1) := by decide +kernel
theorem dL_law_283 : decode cL_law 283 = .ok (.invokevirtual 71, 3) := by decide +kernel
theorem dL_law_286 : decode cL_law 286 = .ok (.istore 11, 2) := by decide +kernel
theorem dL_law_288 : decode cL_law 288 = .ok (.aload_n 1, 1) := by decide +kernel
theorem dL_law_289 : decode cL_law 289 = .ok (.invokestatic 88, 3) := by decide +kernel
theorem dL_law_292 : decode cL_law 292 = .ok (.lstore 12, 2) := by decide +kernel
theorem dL_law_294 : decode cL_law 294 = .ok (.iload 11, 2) := by decide +kernel
theorem dL_law_296 : decode cL_law 296 = .ok (.iconst 1, 1) := by decide +kernel
theorem dL_law_297 : decode cL_law 297 = .ok (.if_icmp .lt 45, 3) := by decide +kernel
theorem dL_law_300 : decode cL_law 300 = .ok (.aload_n 1, 1) := by decide +kernel
theorem dL_law_301 : decode cL_law 301 = .ok (.iload 11, 2) := by decide +kernel
theorem dL_law_303 : decode cL_law 303 = .ok (.invokevirtual 62, 3) := by decide +kernel
theorem dL_law_306 : decode cL_law 306 = .ok (.iload 10, 2) := by decide +kernel
theorem dL_law_308 : decode cL_law 308 = .ok (.if_icmp .ne 34, 3) := by decide +kernel
theorem dL_law_311 : decode cL_law 311 = .ok (.aload_n 1, 1) := by decide +kernel
theorem dL_law_312 : decode cL_law 312 = .ok (.invokestatic 88, 3) := by decide +kernel
theorem dL_law_315 : decode cL_law 315 = .ok (.lload 8, 2) := by decide +kernel
theorem dL_law_317 : decode cL_law 317 = .ok (.lcmp, 1) := by decide +kernel
theorem dL_law_318 : decode cL_law 318 = .ok (.ifCond .ne 24, 3) := by decide +kernel
theorem dL_law_321 : decode cL_law 321 = .ok (.aload_n 1, 1) := by decide +kernel
theorem dL_law_322 : decode cL_law 322 = .ok (.iload 11, 2) := by decide +kernel
theorem dL_law_324 : decode cL_law 324 = .ok (.invokevirtual 71, 3) := by decide +kernel
theorem dL_law_327 : decode cL_law 327 = .ok (.iload 11, 2) := by decide +kernel
theorem dL_law_329 : decode cL_law 329 = .ok (.if_icmp .ne 13, 3) := by decide +kernel
theorem dL_law_332 : decode cL_law 332 = .ok (.aload_n 1, 1) := by decide +kernel
theorem dL_law_333 : decode cL_law 333 = .ok (.invokestatic 88, 3) := by decide +kernel
theorem dL_law_336 : decode cL_law 336 = .ok (.lload 12, 2) := by decide +kernel
theorem dL_law_338 : decode cL_law 338 = .ok (.lcmp, 1) := by decide +kernel
theorem dL_law_339 : decode cL_law 339 = .ok (.ifCond .eq 5, 3) := by decide +kernel
theorem dL_law_342 : decode cL_law 342 = .ok (.iconst 0, 1) := by decide +kernel
theorem dL_law_343 : decode cL_law 343 = .ok (.ireturn, 1) := by decide +kernel
theorem dL_law_344 : decode cL_law 344 = .ok (.iinc 2 1, 3) := by decide +kernel
theorem dL_law_347 : decode cL_law 347 = .ok (.goto (-275), 3) := by decide +kernel
theorem dL_law_350 : decode cL_law 350 = .ok (.aload_n 1, 1) := by decide +kernel
theorem dL_law_351 : decode cL_law 351 = .ok (.invokestatic 88, 3) := by decide +kernel
theorem dL_law_354 : decode cL_law 354 = .ok (.lstore_n 2, 1) := by decide +kernel
theorem dL_law_355 : decode cL_law 355 = .ok (.aload_n 1, 1) := by decide +kernel
theorem dL_law_356 : decode cL_law 356 = .ok (.iconst 1, 1) := by decide +kernel
theorem dL_law_357 : decode cL_law 357 = .ok (.bipush 8, 2) := by decide +kernel
theorem dL_law_359 : decode cL_law 359 = .ok (.invokevirtual 68, 3) := by decide +kernel
theorem dL_law_362 : decode cL_law 362 = .ok (.iconst (-1), 1) := by decide +kernel
theorem dL_law_363 : decode cL_law 363 = .ok (.if_icmp .ne 51, 3) := by decide +kernel
theorem dL_law_366 : decode cL_law 366 = .ok (.aload_n 1, 1) := by decide +kernel
theorem dL_law_367 : decode cL_law 367 = .ok (.iconst 0, 1) := by decide +kernel
theorem dL_law_368 : decode cL_law 368 = .ok (.invokevirtual 71, 3) := by decide +kernel
theorem dL_law_371 : decode cL_law 371 = .ok (.iconst (-1), 1) := by decide +kernel
theorem dL_law_372 : decode cL_law 372 = .ok (.if_icmp .ne 42, 3) := by decide +kernel
theorem dL_law_375 : decode cL_law 375 = .ok (.aload_n 1, 1) := by decide +kernel
theorem dL_law_376 : decode cL_law 376 = .ok (.bipush 65, 2) := by decide +kernel
theorem dL_law_378 : decode cL_law 378 = .ok (.invokevirtual 62, 3) := by decide +kernel
theorem dL_law_381 : decode cL_law 381 = .ok (.iconst (-1), 1) := by decide +kernel
theorem dL_law_382 : decode cL_law 382 = .ok (.if_icmp .ne 32, 3) := by decide +kernel
theorem dL_law_385 : decode cL_law 385 = .ok (.aload_n 1, 1) := by decide +kernel
theorem dL_law_386 : decode cL_law 386 = .ok (.bipush 24, 2) := by decide +kernel
theorem dL_law_388 : decode cL_law 388 = .ok (.iconst 0, 1) := by decide +kernel
theorem dL_law_389 : decode cL_law 389 = .ok (.invokevirtual 22, 3) := by decide +kernel
theorem dL_law_392 : decode cL_law 392 = .ok (.iconst (-1), 1) := by decide +kernel
theorem dL_law_393 : decode cL_law 393 = .ok (.if_icmp .ne 21, 3) := by decide +kernel
theorem dL_law_396 : decode cL_law 396 = .ok (.aload_n 1, 1) := by decide +kernel
theorem dL_law_397 : decode cL_law 397 = .ok (.iconst 2, 1) := by decide +kernel
theorem dL_law_398 : decode cL_law 398 = .ok (.invokevirtual 53, 3) := by decide +kernel
theorem dL_law_401 : decode cL_law 401 = .ok (.iconst (-1), 1) := by decide +kernel
theorem dL_law_402 : decode cL_law 402 = .ok (.if_icmp .ne 12, 3) := by decide +kernel
theorem dL_law_405 : decode cL_law 405 = .ok (.aload_n 1, 1) := by decide +kernel
theorem dL_law_406 : decode cL_law 406 = .ok (.invokestatic 88, 3) := by decide +kernel
theorem dL_law_409 : decode cL_law 409 = .ok (.lload_n 2, 1) := by decide +kernel
theorem dL_law_410 : decode cL_law 410 = .ok (.lcmp, 1) := by decide +kernel
theorem dL_law_411 : decode cL_law 411 = .ok (.ifCond .eq 5, 3) := by decide +kernel
theorem dL_law_414 : decode cL_law 414 = .ok (.iconst 0, 1) := by decide +kernel
theorem dL_law_415 : decode cL_law 415 = .ok (.ireturn, 1) := by decide +kernel
theorem dL_law_416 : decode cL_law 416 = .ok (.aload_n 1, 1) := by decide +kernel
theorem dL_law_417 : decode cL_law 417 = .ok (.invokevirtual 106, 3) := by decide +kernel
theorem dL_law_420 : decode cL_law 420 = .ok (.bipush (-10), 2) := by decide +kernel
theorem dL_law_422 : decode cL_law 422 = .ok (.if_icmp .ne 35, 3) := by decide +kernel
theorem dL_law_425 : decode cL_law 425 = .ok (.aload_n 1, 1) := by decide +kernel
theorem dL_law_426 : decode cL_law 426 = .ok (.invokestatic 88, 3) := by decide +kernel
theorem dL_law_429 : decode cL_law 429 = .ok (.lload_n 2, 1) := by decide +kernel
theorem dL_law_430 : decode cL_law 430 = .ok (.lcmp, 1) := by decide +kernel
theorem dL_law_431 : decode cL_law 431 = .ok (.ifCond .ne 26, 3) := by decide +kernel
theorem dL_law_434 : decode cL_law 434 = .ok (.aload_n 1, 1) := by decide +kernel
theorem dL_law_435 : decode cL_law 435 = .ok (.bipush 10, 2) := by decide +kernel
theorem dL_law_437 : decode cL_law 437 = .ok (.invokevirtual 12, 3) := by decide +kernel
theorem dL_law_440 : decode cL_law 440 = .ok (.iconst (-1), 1) := by decide +kernel
theorem dL_law_441 : decode cL_law 441 = .ok (.if_icmp .ne 16, 3) := by decide +kernel
theorem dL_law_444 : decode cL_law 444 = .ok (.aload_n 1, 1) := by decide +kernel
theorem dL_law_445 : decode cL_law 445 = .ok (.iconst 0, 1) := by decide +kernel
theorem dL_law_446 : decode cL_law 446 = .ok (.invokevirtual 109, 3) := by decide +kernel
theorem dL_law_449 : decode cL_law 449 = .ok (.iconst (-1), 1) := by decide +kernel
theorem dL_law_450 : decode cL_law 450 = .ok (.if_icmp .ne 7, 3) := by decide +kernel
theorem dL_law_453 : decode cL_law 453 = .ok (.iconst 1, 1) := by decide +kernel
theorem dL_law_454 : decode cL_law 454 = .ok (.goto 4, 3) := by decide +kernel
theorem dL_law_457 : decode cL_law 457 = .ok (.iconst 0, 1) := by decide +kernel
theorem dL_law_458 : decode cL_law 458 = .ok (.ireturn, 1) := by decide +kernel
abbrev vwCl : List vw_C := [(RX0, TX0, 5), (RX1, TX1, 7), (RX2, TX2, 7), (RX3, TX3, 3), (RX4, TX4, 1), (RX5, TX5, 4), (RX6, TX6, 5), (RX7, TX7, 5)]
theorem mT1 : ∀ w ∈ wsL_law_r1, w ∈ wsL_law := fun _ h => List.mem_append_left _ (List.mem_append_left _ (List.mem_append_left _ (List.mem_append_left _ (List.mem_append_left _ (List.mem_append_left _ (List.mem_append_left _ (List.mem_append_left _ (List.mem_append_left _ (List.mem_append_left _ h)))))))))
theorem mT2 : ∀ w ∈ wsL_law_r2, w ∈ wsL_law := fun _ h => List.mem_append_left _ (List.mem_append_left _ (List.mem_append_left _ (List.mem_append_left _ (List.mem_append_left _ (List.mem_append_left _ (List.mem_append_left _ (List.mem_append_left _ (List.mem_append_left _ (List.mem_append_right _ (List.mem_append_left _ h))))))))))
theorem mT3 : ∀ w ∈ wsL_law_r3, w ∈ wsL_law := fun _ h => List.mem_append_left _ (List.mem_append_left _ (List.mem_append_left _ (List.mem_append_left _ (List.mem_append_left _ (List.mem_append_left _ (List.mem_append_left _ (List.mem_append_left _ (List.mem_append_left _ (List.mem_append_right _ (List.mem_append_right _ (List.mem_append_left _ h)))))))))))
theorem mT4 : ∀ w ∈ wsL_law_r4, w ∈ wsL_law := fun _ h => List.mem_append_left _ (List.mem_append_left _ (List.mem_append_left _ (List.mem_append_left _ (List.mem_append_left _ (List.mem_append_left _ (List.mem_append_left _ (List.mem_append_left _ (List.mem_append_left _ (List.mem_append_right _ (List.mem_append_right _ (List.mem_append_right _ (List.mem_append_left _ h))))))))))))
theorem mT5 : ∀ w ∈ wsL_law_r5, w ∈ wsL_law := fun _ h => List.mem_append_left _ (List.mem_append_left _ (List.mem_append_left _ (List.mem_append_left _ (List.mem_append_left _ (List.mem_append_left _ (List.mem_append_left _ (List.mem_append_left _ (List.mem_append_left _ (List.mem_append_right _ (List.mem_append_right _ (List.mem_append_right _ (List.mem_append_right _ (List.mem_append_left _ h)))))))))))))
theorem mT6 : ∀ w ∈ wsL_law_r6, w ∈ wsL_law := fun _ h => List.mem_append_left _ (List.mem_append_left _ (List.mem_append_left _ (List.mem_append_left _ (List.mem_append_left _ (List.mem_append_left _ (List.mem_append_left _ (List.mem_append_left _ (List.mem_append_left _ (List.mem_append_right _ (List.mem_append_right _ (List.mem_append_right _ (List.mem_append_right _ (List.mem_append_right _ (List.mem_append_left _ h))))))))))))))
theorem mT7 : ∀ w ∈ wsL_law_r7, w ∈ wsL_law := fun _ h => List.mem_append_left _ (List.mem_append_left _ (List.mem_append_left _ (List.mem_append_left _ (List.mem_append_left _ (List.mem_append_left _ (List.mem_append_left _ (List.mem_append_left _ (List.mem_append_left _ (List.mem_append_right _ (List.mem_append_right _ (List.mem_append_right _ (List.mem_append_right _ (List.mem_append_right _ (List.mem_append_right _ (List.mem_append_left _ h)))))))))))))))
theorem mT8 : ∀ w ∈ wsL_law_r8, w ∈ wsL_law := fun _ h => List.mem_append_left _ (List.mem_append_left _ (List.mem_append_left _ (List.mem_append_left _ (List.mem_append_left _ (List.mem_append_left _ (List.mem_append_left _ (List.mem_append_left _ (List.mem_append_left _ (List.mem_append_right _ (List.mem_append_right _ (List.mem_append_right _ (List.mem_append_right _ (List.mem_append_right _ (List.mem_append_right _ (List.mem_append_right _ (List.mem_append_left _ h))))))))))))))))
theorem mT9 : ∀ w ∈ wsL_law_r9, w ∈ wsL_law := fun _ h => List.mem_append_left _ (List.mem_append_left _ (List.mem_append_left _ (List.mem_append_left _ (List.mem_append_left _ (List.mem_append_left _ (List.mem_append_left _ (List.mem_append_left _ (List.mem_append_left _ (List.mem_append_right _ (List.mem_append_right _ (List.mem_append_right _ (List.mem_append_right _ (List.mem_append_right _ (List.mem_append_right _ (List.mem_append_right _ (List.mem_append_right _ (List.mem_append_left _ h)))))))))))))))))
theorem mT10 : ∀ w ∈ wsL_law_r10, w ∈ wsL_law := fun _ h => List.mem_append_left _ (List.mem_append_left _ (List.mem_append_left _ (List.mem_append_left _ (List.mem_append_left _ (List.mem_append_left _ (List.mem_append_left _ (List.mem_append_left _ (List.mem_append_left _ (List.mem_append_right _ (List.mem_append_right _ (List.mem_append_right _ (List.mem_append_right _ (List.mem_append_right _ (List.mem_append_right _ (List.mem_append_right _ (List.mem_append_right _ (List.mem_append_right _ (List.mem_append_left _ h))))))))))))))))))
theorem mT11 : ∀ w ∈ wsL_law_r11, w ∈ wsL_law := fun _ h => List.mem_append_left _ (List.mem_append_left _ (List.mem_append_left _ (List.mem_append_left _ (List.mem_append_left _ (List.mem_append_left _ (List.mem_append_left _ (List.mem_append_left _ (List.mem_append_left _ (List.mem_append_right _ (List.mem_append_right _ (List.mem_append_right _ (List.mem_append_right _ (List.mem_append_right _ (List.mem_append_right _ (List.mem_append_right _ (List.mem_append_right _ (List.mem_append_right _ (List.mem_append_right _ (List.mem_append_left _ h)))))))))))))))))))
theorem mT12 : ∀ w ∈ wsL_law_r12, w ∈ wsL_law := fun _ h => List.mem_append_left _ (List.mem_append_left _ (List.mem_append_left _ (List.mem_append_left _ (List.mem_append_left _ (List.mem_append_left _ (List.mem_append_left _ (List.mem_append_left _ (List.mem_append_left _ (List.mem_append_right _ (List.mem_append_right _ (List.mem_append_right _ (List.mem_append_right _ (List.mem_append_right _ (List.mem_append_right _ (List.mem_append_right _ (List.mem_append_right _ (List.mem_append_right _ (List.mem_append_right _ (List.mem_append_right _ (List.mem_append_left _ h))))))))))))))))))))
theorem mT13 : ∀ w ∈ wsL_law_r13, w ∈ wsL_law := fun _ h => List.mem_append_left _ (List.mem_append_left _ (List.mem_append_left _ (List.mem_append_left _ (List.mem_append_left _ (List.mem_append_left _ (List.mem_append_left _ (List.mem_append_left _ (List.mem_append_left _ (List.mem_append_right _ (List.mem_append_right _ (List.mem_append_right _ (List.mem_append_right _ (List.mem_append_right _ (List.mem_append_right _ (List.mem_append_right _ (List.mem_append_right _ (List.mem_append_right _ (List.mem_append_right _ (List.mem_append_right _ (List.mem_append_right _ (List.mem_append_left _ h)))))))))))))))))))))
theorem mT14 : ∀ w ∈ wsL_law_r14, w ∈ wsL_law := fun _ h => List.mem_append_left _ (List.mem_append_left _ (List.mem_append_left _ (List.mem_append_left _ (List.mem_append_left _ (List.mem_append_left _ (List.mem_append_left _ (List.mem_append_left _ (List.mem_append_left _ (List.mem_append_right _ (List.mem_append_right _ (List.mem_append_right _ (List.mem_append_right _ (List.mem_append_right _ (List.mem_append_right _ (List.mem_append_right _ (List.mem_append_right _ (List.mem_append_right _ (List.mem_append_right _ (List.mem_append_right _ (List.mem_append_right _ (List.mem_append_right _ (List.mem_append_left _ h))))))))))))))))))))))
theorem mT15 : ∀ w ∈ wsL_law_r15, w ∈ wsL_law := fun _ h => List.mem_append_left _ (List.mem_append_left _ (List.mem_append_left _ (List.mem_append_left _ (List.mem_append_left _ (List.mem_append_left _ (List.mem_append_left _ (List.mem_append_left _ (List.mem_append_left _ (List.mem_append_right _ (List.mem_append_right _ (List.mem_append_right _ (List.mem_append_right _ (List.mem_append_right _ (List.mem_append_right _ (List.mem_append_right _ (List.mem_append_right _ (List.mem_append_right _ (List.mem_append_right _ (List.mem_append_right _ (List.mem_append_right _ (List.mem_append_right _ (List.mem_append_right _ (List.mem_append_left _ h)))))))))))))))))))))))
theorem mT16 : ∀ w ∈ wsL_law_r16, w ∈ wsL_law := fun _ h => List.mem_append_left _ (List.mem_append_left _ (List.mem_append_left _ (List.mem_append_left _ (List.mem_append_left _ (List.mem_append_left _ (List.mem_append_left _ (List.mem_append_left _ (List.mem_append_left _ (List.mem_append_right _ (List.mem_append_right _ (List.mem_append_right _ (List.mem_append_right _ (List.mem_append_right _ (List.mem_append_right _ (List.mem_append_right _ (List.mem_append_right _ (List.mem_append_right _ (List.mem_append_right _ (List.mem_append_right _ (List.mem_append_right _ (List.mem_append_right _ (List.mem_append_right _ (List.mem_append_right _ (List.mem_append_left _ h))))))))))))))))))))))))
theorem mT17 : ∀ w ∈ wsL_law_r17, w ∈ wsL_law := fun _ h => List.mem_append_left _ (List.mem_append_left _ (List.mem_append_left _ (List.mem_append_left _ (List.mem_append_left _ (List.mem_append_left _ (List.mem_append_left _ (List.mem_append_left _ (List.mem_append_left _ (List.mem_append_right _ (List.mem_append_right _ (List.mem_append_right _ (List.mem_append_right _ (List.mem_append_right _ (List.mem_append_right _ (List.mem_append_right _ (List.mem_append_right _ (List.mem_append_right _ (List.mem_append_right _ (List.mem_append_right _ (List.mem_append_right _ (List.mem_append_right _ (List.mem_append_right _ (List.mem_append_right _ (List.mem_append_right _ (List.mem_append_left _ h)))))))))))))))))))))))))
theorem mT18 : ∀ w ∈ wsL_law_r18, w ∈ wsL_law := fun _ h => List.mem_append_left _ (List.mem_append_left _ (List.mem_append_left _ (List.mem_append_left _ (List.mem_append_left _ (List.mem_append_left _ (List.mem_append_left _ (List.mem_append_left _ (List.mem_append_left _ (List.mem_append_right _ (List.mem_append_right _ (List.mem_append_right _ (List.mem_append_right _ (List.mem_append_right _ (List.mem_append_right _ (List.mem_append_right _ (List.mem_append_right _ (List.mem_append_right _ (List.mem_append_right _ (List.mem_append_right _ (List.mem_append_right _ (List.mem_append_right _ (List.mem_append_right _ (List.mem_append_right _ (List.mem_append_right _ (List.mem_append_right _ (List.mem_append_left _ h))))))))))))))))))))))))))
theorem mT19 : ∀ w ∈ wsL_law_r19, w ∈ wsL_law := fun _ h => List.mem_append_left _ (List.mem_append_left _ (List.mem_append_left _ (List.mem_append_left _ (List.mem_append_left _ (List.mem_append_left _ (List.mem_append_left _ (List.mem_append_left _ (List.mem_append_left _ (List.mem_append_right _ (List.mem_append_right _ (List.mem_append_right _ (List.mem_append_right _ (List.mem_append_right _ (List.mem_append_right _ (List.mem_append_right _ (List.mem_append_right _ (List.mem_append_right _ (List.mem_append_right _ (List.mem_append_right _ (List.mem_append_right _ (List.mem_append_right _ (List.mem_append_right _ (List.mem_append_right _ (List.mem_append_right _ (List.mem_append_right _ (List.mem_append_right _ (List.mem_append_left _ h)))))))))))))))))))))))))))
theorem mT20 : ∀ w ∈ wsL_law_r20, w ∈ wsL_law := fun _ h => List.mem_append_left _ (List.mem_append_left _ (List.mem_append_left _ (List.mem_append_left _ (List.mem_append_left _ (List.mem_append_left _ (List.mem_append_left _ (List.mem_append_left _ (List.mem_append_left _ (List.mem_append_right _ (List.mem_append_right _ (List.mem_append_right _ (List.mem_append_right _ (List.mem_append_right _ (List.mem_append_right _ (List.mem_append_right _ (List.mem_append_right _ (List.mem_append_right _ (List.mem_append_right _ (List.mem_append_right _ (List.mem_append_right _ (List.mem_append_right _ (List.mem_append_right _ (List.mem_append_right _ (List.mem_append_right _ (List.mem_append_right _ (List.mem_append_right _ (List.mem_append_right _ (List.mem_append_left _ h))))))))))))))))))))))))))))
theorem mT21 : ∀ w ∈ wsL_law_r21, w ∈ wsL_law := fun _ h => List.mem_append_left _ (List.mem_append_left _ (List.mem_append_left _ (List.mem_append_left _ (List.mem_append_left _ (List.mem_append_left _ (List.mem_append_left _ (List.mem_append_left _ (List.mem_append_left _ (List.mem_append_right _ (List.mem_append_right _ (List.mem_append_right _ (List.mem_append_right _ (List.mem_append_right _ (List.mem_append_right _ (List.mem_append_right _ (List.mem_append_right _ (List.mem_append_right _ (List.mem_append_right _ (List.mem_append_right _ (List.mem_append_right _ (List.mem_append_right _ (List.mem_append_right _ (List.mem_append_right _ (List.mem_append_right _ (List.mem_append_right _ (List.mem_append_right _ (List.mem_append_right _ (List.mem_append_right _ (List.mem_append_left _ h)))))))))))))))))))))))))))))
theorem mT22 : ∀ w ∈ wsL_law_r22, w ∈ wsL_law := fun _ h => List.mem_append_left _ (List.mem_append_left _ (List.mem_append_left _ (List.mem_append_left _ (List.mem_append_left _ (List.mem_append_left _ (List.mem_append_left _ (List.mem_append_left _ (List.mem_append_left _ (List.mem_append_right _ (List.mem_append_right _ (List.mem_append_right _ (List.mem_append_right _ (List.mem_append_right _ (List.mem_append_right _ (List.mem_append_right _ (List.mem_append_right _ (List.mem_append_right _ (List.mem_append_right _ (List.mem_append_right _ (List.mem_append_right _ (List.mem_append_right _ (List.mem_append_right _ (List.mem_append_right _ (List.mem_append_right _ (List.mem_append_right _ (List.mem_append_right _ (List.mem_append_right _ (List.mem_append_right _ (List.mem_append_right _ (List.mem_append_left _ h))))))))))))))))))))))))))))))
theorem mT23 : ∀ w ∈ wsL_law_r23, w ∈ wsL_law := fun _ h => List.mem_append_left _ (List.mem_append_left _ (List.mem_append_left _ (List.mem_append_left _ (List.mem_append_left _ (List.mem_append_left _ (List.mem_append_left _ (List.mem_append_left _ (List.mem_append_left _ (List.mem_append_right _ (List.mem_append_right _ (List.mem_append_right _ (List.mem_append_right _ (List.mem_append_right _ (List.mem_append_right _ (List.mem_append_right _ (List.mem_append_right _ (List.mem_append_right _ (List.mem_append_right _ (List.mem_append_right _ (List.mem_append_right _ (List.mem_append_right _ (List.mem_append_right _ (List.mem_append_right _ (List.mem_append_right _ (List.mem_append_right _ (List.mem_append_right _ (List.mem_append_right _ (List.mem_append_right _ (List.mem_append_right _ (List.mem_append_right _ (List.mem_append_left _ h)))))))))))))))))))))))))))))))
theorem mT24 : ∀ w ∈ wsL_law_r24, w ∈ wsL_law := fun _ h => List.mem_append_left _ (List.mem_append_left _ (List.mem_append_left _ (List.mem_append_left _ (List.mem_append_left _ (List.mem_append_left _ (List.mem_append_left _ (List.mem_append_left _ (List.mem_append_left _ (List.mem_append_right _ (List.mem_append_right _ (List.mem_append_right _ (List.mem_append_right _ (List.mem_append_right _ (List.mem_append_right _ (List.mem_append_right _ (List.mem_append_right _ (List.mem_append_right _ (List.mem_append_right _ (List.mem_append_right _ (List.mem_append_right _ (List.mem_append_right _ (List.mem_append_right _ (List.mem_append_right _ (List.mem_append_right _ (List.mem_append_right _ (List.mem_append_right _ (List.mem_append_right _ (List.mem_append_right _ (List.mem_append_right _ (List.mem_append_right _ (List.mem_append_right _ (h))))))))))))))))))))))))))))))))
theorem gT1 : ∀ w ∈ wsL_law_r1, goodWord w = true := List.all_eq_true.mp (by decide +kernel : wsL_law_r1.all goodWord = true)
theorem gT2 : ∀ w ∈ wsL_law_r2, goodWord w = true := List.all_eq_true.mp (by decide +kernel : wsL_law_r2.all goodWord = true)
theorem gT3 : ∀ w ∈ wsL_law_r3, goodWord w = true := List.all_eq_true.mp (by decide +kernel : wsL_law_r3.all goodWord = true)
theorem gT4 : ∀ w ∈ wsL_law_r4, goodWord w = true := List.all_eq_true.mp (by decide +kernel : wsL_law_r4.all goodWord = true)
theorem gT5 : ∀ w ∈ wsL_law_r5, goodWord w = true := List.all_eq_true.mp (by decide +kernel : wsL_law_r5.all goodWord = true)
theorem gT6 : ∀ w ∈ wsL_law_r6, goodWord w = true := List.all_eq_true.mp (by decide +kernel : wsL_law_r6.all goodWord = true)
theorem gT7 : ∀ w ∈ wsL_law_r7, goodWord w = true := List.all_eq_true.mp (by decide +kernel : wsL_law_r7.all goodWord = true)
theorem gT8 : ∀ w ∈ wsL_law_r8, goodWord w = true := List.all_eq_true.mp (by decide +kernel : wsL_law_r8.all goodWord = true)
theorem gT9 : ∀ w ∈ wsL_law_r9, goodWord w = true := List.all_eq_true.mp (by decide +kernel : wsL_law_r9.all goodWord = true)
theorem gT10 : ∀ w ∈ wsL_law_r10, goodWord w = true := List.all_eq_true.mp (by decide +kernel : wsL_law_r10.all goodWord = true)
theorem gT11 : ∀ w ∈ wsL_law_r11, goodWord w = true := List.all_eq_true.mp (by decide +kernel : wsL_law_r11.all goodWord = true)
theorem gT12 : ∀ w ∈ wsL_law_r12, goodWord w = true := List.all_eq_true.mp (by decide +kernel : wsL_law_r12.all goodWord = true)
theorem gT13 : ∀ w ∈ wsL_law_r13, goodWord w = true := List.all_eq_true.mp (by decide +kernel : wsL_law_r13.all goodWord = true)
theorem gT14 : ∀ w ∈ wsL_law_r14, goodWord w = true := List.all_eq_true.mp (by decide +kernel : wsL_law_r14.all goodWord = true)
theorem gT15 : ∀ w ∈ wsL_law_r15, goodWord w = true := List.all_eq_true.mp (by decide +kernel : wsL_law_r15.all goodWord = true)
theorem gT16 : ∀ w ∈ wsL_law_r16, goodWord w = true := List.all_eq_true.mp (by decide +kernel : wsL_law_r16.all goodWord = true)
theorem gT17 : ∀ w ∈ wsL_law_r17, goodWord w = true := List.all_eq_true.mp (by decide +kernel : wsL_law_r17.all goodWord = true)
theorem gT18 : ∀ w ∈ wsL_law_r18, goodWord w = true := List.all_eq_true.mp (by decide +kernel : wsL_law_r18.all goodWord = true)
theorem gT19 : ∀ w ∈ wsL_law_r19, goodWord w = true := List.all_eq_true.mp (by decide +kernel : wsL_law_r19.all goodWord = true)
theorem gT20 : ∀ w ∈ wsL_law_r20, goodWord w = true := List.all_eq_true.mp (by decide +kernel : wsL_law_r20.all goodWord = true)
theorem gT21 : ∀ w ∈ wsL_law_r21, goodWord w = true := List.all_eq_true.mp (by decide +kernel : wsL_law_r21.all goodWord = true)
theorem gT22 : ∀ w ∈ wsL_law_r22, goodWord w = true := List.all_eq_true.mp (by decide +kernel : wsL_law_r22.all goodWord = true)
theorem gT23 : ∀ w ∈ wsL_law_r23, goodWord w = true := List.all_eq_true.mp (by decide +kernel : wsL_law_r23.all goodWord = true)
theorem gT24 : ∀ w ∈ wsL_law_r24, goodWord w = true := List.all_eq_true.mp (by decide +kernel : wsL_law_r24.all goodWord = true)
theorem gTX7 : ∀ w ∈ wsX70, goodWord w = true := List.all_eq_true.mp (by decide +kernel : wsX70.all goodWord = true)
theorem gTX5 : ∀ w ∈ wsX50, goodWord w = true := List.all_eq_true.mp (by decide +kernel : wsX50.all goodWord = true)
theorem gTX3 : ∀ w ∈ wsX30, goodWord w = true := List.all_eq_true.mp (by decide +kernel : wsX30.all goodWord = true)
theorem gTX1 : ∀ w ∈ wsX10, goodWord w = true := List.all_eq_true.mp (by decide +kernel : wsX10.all goodWord = true)
theorem gTX4 : ∀ w ∈ wsX40, goodWord w = true := List.all_eq_true.mp (by decide +kernel : wsX40.all goodWord = true)
theorem gTX6 : ∀ w ∈ wsX60, goodWord w = true := List.all_eq_true.mp (by decide +kernel : wsX60.all goodWord = true)
theorem gTX0 : ∀ w ∈ wsX00, goodWord w = true := List.all_eq_true.mp (by decide +kernel : wsX00.all goodWord = true)
theorem gTX2 : ∀ w ∈ wsX20, goodWord w = true := List.all_eq_true.mp (by decide +kernel : wsX20.all goodWord = true)
theorem good_T : ∀ w ∈ wsL_law, goodWord w = true := List.forall_mem_append.mpr ⟨List.forall_mem_append.mpr ⟨List.forall_mem_append.mpr ⟨List.forall_mem_append.mpr ⟨List.forall_mem_append.mpr ⟨List.forall_mem_append.mpr ⟨List.forall_mem_append.mpr ⟨List.forall_mem_append.mpr ⟨List.forall_mem_append.mpr ⟨List.forall_mem_append.mpr ⟨gT1, List.forall_mem_append.mpr ⟨gT2, List.forall_mem_append.mpr ⟨gT3, List.forall_mem_append.mpr ⟨gT4, List.forall_mem_append.mpr ⟨gT5, List.forall_mem_append.mpr ⟨gT6, List.forall_mem_append.mpr ⟨gT7, List.forall_mem_append.mpr ⟨gT8, List.forall_mem_append.mpr ⟨gT9, List.forall_mem_append.mpr ⟨gT10, List.forall_mem_append.mpr ⟨gT11, List.forall_mem_append.mpr ⟨gT12, List.forall_mem_append.mpr ⟨gT13, List.forall_mem_append.mpr ⟨gT14, List.forall_mem_append.mpr ⟨gT15, List.forall_mem_append.mpr ⟨gT16, List.forall_mem_append.mpr ⟨gT17, List.forall_mem_append.mpr ⟨gT18, List.forall_mem_append.mpr ⟨gT19, List.forall_mem_append.mpr ⟨gT20, List.forall_mem_append.mpr ⟨gT21, List.forall_mem_append.mpr ⟨gT22, List.forall_mem_append.mpr ⟨gT23, gT24⟩⟩⟩⟩⟩⟩⟩⟩⟩⟩⟩⟩⟩⟩⟩⟩⟩⟩⟩⟩⟩⟩⟩, gTX7⟩, gTX5⟩, gTX3⟩, gTX1⟩, gTX4⟩, gTX6⟩, gTX0⟩, gTX2⟩, fun _ h => absurd h List.not_mem_nil⟩
