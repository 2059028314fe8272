section
/-! part 01: the tables (kit/laws/SKELETON, PART A) and names, field tables, words, decode rows as claim/NAMES.whole prints them -/
/-- a private method of a class that the tables say can be made, by its rows of tables_1 -/
def lw_okq (q : MethodName × Nat) : Prop := (q.1.cls ≠ "java/lang/invoke/MethodHandle" ∧ q.1.cls ≠ "java/lang/invoke/VarHandle") ∧ Cond.instantiable q.1.cls q.2 ∈ tables_1 ∧ Cond.privateMethod q.1 ∈ tables_1 ∧ Cond.instanceMethod q.1 ∈ tables_1
theorem lw_p0 : lw_okq (⟨"DobbyLoom$History", "stateAt", "(I)LDobbyLoom$State;"⟩, 3) := ⟨⟨by decide +kernel, by decide +kernel⟩, List.mem_of_getElem? (i := 188) (by decide +kernel), List.mem_of_getElem? (i := 272) (by decide +kernel), List.mem_of_getElem? (i := 273) (by decide +kernel)⟩
theorem lw_p1 : lw_okq (⟨"DobbyLoom$ChainReader", "openBrackets", "()Z"⟩, 7) := ⟨⟨by decide +kernel, by decide +kernel⟩, List.mem_of_getElem? (i := 208) (by decide +kernel), List.mem_of_getElem? (i := 402) (by decide +kernel), List.mem_of_getElem? (i := 403) (by decide +kernel)⟩
theorem lw_p2 : lw_okq (⟨"DobbyLoom$ChainReader", "isNumberAhead", "()Z"⟩, 7) := ⟨⟨by decide +kernel, by decide +kernel⟩, List.mem_of_getElem? (i := 208) (by decide +kernel), List.mem_of_getElem? (i := 406) (by decide +kernel), List.mem_of_getElem? (i := 407) (by decide +kernel)⟩
theorem lw_p3 : lw_okq (⟨"DobbyLoom$ChainReader", "peek", "()I"⟩, 7) := ⟨⟨by decide +kernel, by decide +kernel⟩, List.mem_of_getElem? (i := 208) (by decide +kernel), List.mem_of_getElem? (i := 410) (by decide +kernel), List.mem_of_getElem? (i := 411) (by decide +kernel)⟩
theorem lw_p4 : lw_okq (⟨"DobbyLoom$ChainReader", "placeBehindSpaces", "(I)I"⟩, 7) := ⟨⟨by decide +kernel, by decide +kernel⟩, List.mem_of_getElem? (i := 208) (by decide +kernel), List.mem_of_getElem? (i := 414) (by decide +kernel), List.mem_of_getElem? (i := 415) (by decide +kernel)⟩
theorem lw_p5 : lw_okq (⟨"DobbyLoom$ChainReader", "characterAt", "(I)I"⟩, 7) := ⟨⟨by decide +kernel, by decide +kernel⟩, List.mem_of_getElem? (i := 208) (by decide +kernel), List.mem_of_getElem? (i := 419) (by decide +kernel), List.mem_of_getElem? (i := 420) (by decide +kernel)⟩
theorem lw_p6 : lw_okq (⟨"DobbyLoom$ChainReader", "isDigit", "(I)Z"⟩, 7) := ⟨⟨by decide +kernel, by decide +kernel⟩, List.mem_of_getElem? (i := 208) (by decide +kernel), List.mem_of_getElem? (i := 423) (by decide +kernel), List.mem_of_getElem? (i := 424) (by decide +kernel)⟩
theorem lw_p7 : lw_okq (⟨"DobbyLoom$ChainReader", "take", "(I)Z"⟩, 7) := ⟨⟨by decide +kernel, by decide +kernel⟩, List.mem_of_getElem? (i := 208) (by decide +kernel), List.mem_of_getElem? (i := 428) (by decide +kernel), List.mem_of_getElem? (i := 429) (by decide +kernel)⟩
theorem lw_p8 : lw_okq (⟨"DobbyLoom$ChainReader", "readBar", "()Z"⟩, 7) := ⟨⟨by decide +kernel, by decide +kernel⟩, List.mem_of_getElem? (i := 208) (by decide +kernel), List.mem_of_getElem? (i := 432) (by decide +kernel), List.mem_of_getElem? (i := 433) (by decide +kernel)⟩
theorem lw_p9 : lw_okq (⟨"DobbyLoom$ChainReader", "isShaft", "(I)Z"⟩, 7) := ⟨⟨by decide +kernel, by decide +kernel⟩, List.mem_of_getElem? (i := 208) (by decide +kernel), List.mem_of_getElem? (i := 437) (by decide +kernel), List.mem_of_getElem? (i := 438) (by decide +kernel)⟩
theorem lw_p10 : lw_okq (⟨"DobbyLoom$ChainReader", "readShafts", "()I"⟩, 7) := ⟨⟨by decide +kernel, by decide +kernel⟩, List.mem_of_getElem? (i := 208) (by decide +kernel), List.mem_of_getElem? (i := 441) (by decide +kernel), List.mem_of_getElem? (i := 442) (by decide +kernel)⟩
theorem lw_p11 : lw_okq (⟨"DobbyLoom$ChainReader", "closeBrackets", "()Z"⟩, 7) := ⟨⟨by decide +kernel, by decide +kernel⟩, List.mem_of_getElem? (i := 208) (by decide +kernel), List.mem_of_getElem? (i := 446) (by decide +kernel), List.mem_of_getElem? (i := 447) (by decide +kernel)⟩
theorem lw_p12 : lw_okq (⟨"DobbyLoom$State", "layWeft", "(III)V"⟩, 4) := ⟨⟨by decide +kernel, by decide +kernel⟩, List.mem_of_getElem? (i := 22) (by decide +kernel), List.mem_of_getElem? (i := 488) (by decide +kernel), List.mem_of_getElem? (i := 489) (by decide +kernel)⟩
theorem lw_p13 : lw_okq (⟨"DobbyLoom$Chain", "barBelow", "(I)I"⟩, 5) := ⟨⟨by decide +kernel, by decide +kernel⟩, List.mem_of_getElem? (i := 70) (by decide +kernel), List.mem_of_getElem? (i := 501) (by decide +kernel), List.mem_of_getElem? (i := 502) (by decide +kernel)⟩
theorem lw_p14 : lw_okq (⟨"DobbyLoom$Chain", "barAbove", "(I)I"⟩, 5) := ⟨⟨by decide +kernel, by decide +kernel⟩, List.mem_of_getElem? (i := 70) (by decide +kernel), List.mem_of_getElem? (i := 505) (by decide +kernel), List.mem_of_getElem? (i := 506) (by decide +kernel)⟩
theorem lw_p15 : lw_okq (⟨"DobbyLoom$Cloth", "sideAlong", "(III)I"⟩, 7) := ⟨⟨by decide +kernel, by decide +kernel⟩, List.mem_of_getElem? (i := 106) (by decide +kernel), List.mem_of_getElem? (i := 568) (by decide +kernel), List.mem_of_getElem? (i := 569) (by decide +kernel)⟩
def lw_privs_1 : List (MethodName × Nat) := [(⟨"DobbyLoom$History", "stateAt", "(I)LDobbyLoom$State;"⟩, 3), (⟨"DobbyLoom$ChainReader", "openBrackets", "()Z"⟩, 7), (⟨"DobbyLoom$ChainReader", "isNumberAhead", "()Z"⟩, 7), (⟨"DobbyLoom$ChainReader", "peek", "()I"⟩, 7), (⟨"DobbyLoom$ChainReader", "placeBehindSpaces", "(I)I"⟩, 7), (⟨"DobbyLoom$ChainReader", "characterAt", "(I)I"⟩, 7), (⟨"DobbyLoom$ChainReader", "isDigit", "(I)Z"⟩, 7), (⟨"DobbyLoom$ChainReader", "take", "(I)Z"⟩, 7), (⟨"DobbyLoom$ChainReader", "readBar", "()Z"⟩, 7), (⟨"DobbyLoom$ChainReader", "isShaft", "(I)Z"⟩, 7), (⟨"DobbyLoom$ChainReader", "readShafts", "()I"⟩, 7), (⟨"DobbyLoom$ChainReader", "closeBrackets", "()Z"⟩, 7), (⟨"DobbyLoom$State", "layWeft", "(III)V"⟩, 4), (⟨"DobbyLoom$Chain", "barBelow", "(I)I"⟩, 5), (⟨"DobbyLoom$Chain", "barAbove", "(I)I"⟩, 5), (⟨"DobbyLoom$Cloth", "sideAlong", "(III)I"⟩, 7)]
theorem lw_r1 : ∀ q ∈ lw_privs_1, lw_okq q := List.forall_mem_cons.mpr ⟨lw_p0, List.forall_mem_cons.mpr ⟨lw_p1, List.forall_mem_cons.mpr ⟨lw_p2, List.forall_mem_cons.mpr ⟨lw_p3, List.forall_mem_cons.mpr ⟨lw_p4, List.forall_mem_cons.mpr ⟨lw_p5, List.forall_mem_cons.mpr ⟨lw_p6, List.forall_mem_cons.mpr ⟨lw_p7, List.forall_mem_cons.mpr ⟨lw_p8, List.forall_mem_cons.mpr ⟨lw_p9, List.forall_mem_cons.mpr ⟨lw_p10, List.forall_mem_cons.mpr ⟨lw_p11, List.forall_mem_cons.mpr ⟨lw_p12, List.forall_mem_cons.mpr ⟨lw_p13, List.forall_mem_cons.mpr ⟨lw_p14, List.forall_mem_cons.mpr ⟨lw_p15, fun _ h => absurd h List.not_mem_nil⟩⟩⟩⟩⟩⟩⟩⟩⟩⟩⟩⟩⟩⟩⟩⟩
theorem lw_p16 : lw_okq (⟨"DobbyLoom$Cloth", "runWith", "(III)I"⟩, 7) := ⟨⟨by decide +kernel, by decide +kernel⟩, List.mem_of_getElem? (i := 106) (by decide +kernel), List.mem_of_getElem? (i := 576) (by decide +kernel), List.mem_of_getElem? (i := 577) (by decide +kernel)⟩
theorem lw_p17 : lw_okq (⟨"DobbyLoom", "seenColor", "(III)I"⟩, 5) := ⟨⟨by decide +kernel, by decide +kernel⟩, List.mem_of_getElem? (i := 14) (by decide +kernel), List.mem_of_getElem? (i := 614) (by decide +kernel), List.mem_of_getElem? (i := 615) (by decide +kernel)⟩
theorem lw_p18 : lw_okq (⟨"DobbyLoom$Cloth", "areAlike", "(II)Z"⟩, 7) := ⟨⟨by decide +kernel, by decide +kernel⟩, List.mem_of_getElem? (i := 106) (by decide +kernel), List.mem_of_getElem? (i := 635) (by decide +kernel), List.mem_of_getElem? (i := 636) (by decide +kernel)⟩
theorem lw_p19 : lw_okq (⟨"DobbyLoom", "readNeeds", "()V"⟩, 5) := ⟨⟨by decide +kernel, by decide +kernel⟩, List.mem_of_getElem? (i := 14) (by decide +kernel), List.mem_of_getElem? (i := 651) (by decide +kernel), List.mem_of_getElem? (i := 652) (by decide +kernel)⟩
theorem lw_p20 : lw_okq (⟨"DobbyLoomModel", "begin", "(II)V"⟩, 13) := ⟨⟨by decide +kernel, by decide +kernel⟩, List.mem_of_getElem? (i := 661) (by decide +kernel), List.mem_of_getElem? (i := 667) (by decide +kernel), List.mem_of_getElem? (i := 668) (by decide +kernel)⟩
theorem lw_p21 : lw_okq (⟨"DobbyLoomModel", "act", "()V"⟩, 13) := ⟨⟨by decide +kernel, by decide +kernel⟩, List.mem_of_getElem? (i := 661) (by decide +kernel), List.mem_of_getElem? (i := 718) (by decide +kernel), List.mem_of_getElem? (i := 719) (by decide +kernel)⟩
theorem lw_p22 : lw_okq (⟨"DobbyLoomModel", "isEnd", "(I)Z"⟩, 13) := ⟨⟨by decide +kernel, by decide +kernel⟩, List.mem_of_getElem? (i := 661) (by decide +kernel), List.mem_of_getElem? (i := 726) (by decide +kernel), List.mem_of_getElem? (i := 727) (by decide +kernel)⟩
theorem lw_p23 : lw_okq (⟨"DobbyLoomModel", "isShaft", "(I)Z"⟩, 13) := ⟨⟨by decide +kernel, by decide +kernel⟩, List.mem_of_getElem? (i := 661) (by decide +kernel), List.mem_of_getElem? (i := 730) (by decide +kernel), List.mem_of_getElem? (i := 731) (by decide +kernel)⟩
theorem lw_p24 : lw_okq (⟨"DobbyLoomModel", "put", "(II)I"⟩, 13) := ⟨⟨by decide +kernel, by decide +kernel⟩, List.mem_of_getElem? (i := 661) (by decide +kernel), List.mem_of_getElem? (i := 741) (by decide +kernel), List.mem_of_getElem? (i := 742) (by decide +kernel)⟩
theorem lw_p25 : lw_okq (⟨"DobbyLoomModel", "isLift", "(I)Z"⟩, 13) := ⟨⟨by decide +kernel, by decide +kernel⟩, List.mem_of_getElem? (i := 661) (by decide +kernel), List.mem_of_getElem? (i := 749) (by decide +kernel), List.mem_of_getElem? (i := 750) (by decide +kernel)⟩
theorem lw_p26 : lw_okq (⟨"DobbyLoomModel", "makeBar", "(III)V"⟩, 13) := ⟨⟨by decide +kernel, by decide +kernel⟩, List.mem_of_getElem? (i := 661) (by decide +kernel), List.mem_of_getElem? (i := 753) (by decide +kernel), List.mem_of_getElem? (i := 754) (by decide +kernel)⟩
theorem lw_p27 : lw_okq (⟨"DobbyLoomModel", "isBar", "(I)Z"⟩, 13) := ⟨⟨by decide +kernel, by decide +kernel⟩, List.mem_of_getElem? (i := 661) (by decide +kernel), List.mem_of_getElem? (i := 761) (by decide +kernel), List.mem_of_getElem? (i := 762) (by decide +kernel)⟩
theorem lw_p28 : lw_okq (⟨"DobbyLoomModel", "readsPart", "()Z"⟩, 13) := ⟨⟨by decide +kernel, by decide +kernel⟩, List.mem_of_getElem? (i := 661) (by decide +kernel), List.mem_of_getElem? (i := 789) (by decide +kernel), List.mem_of_getElem? (i := 790) (by decide +kernel)⟩
theorem lw_p29 : lw_okq (⟨"DobbyLoomModel", "isNumber", "()Z"⟩, 13) := ⟨⟨by decide +kernel, by decide +kernel⟩, List.mem_of_getElem? (i := 661) (by decide +kernel), List.mem_of_getElem? (i := 793) (by decide +kernel), List.mem_of_getElem? (i := 794) (by decide +kernel)⟩
theorem lw_p30 : lw_okq (⟨"DobbyLoomModel", "isDigit", "()Z"⟩, 13) := ⟨⟨by decide +kernel, by decide +kernel⟩, List.mem_of_getElem? (i := 661) (by decide +kernel), List.mem_of_getElem? (i := 797) (by decide +kernel), List.mem_of_getElem? (i := 798) (by decide +kernel)⟩
theorem lw_p31 : lw_okq (⟨"DobbyLoomModel", "here", "()I"⟩, 13) := ⟨⟨by decide +kernel, by decide +kernel⟩, List.mem_of_getElem? (i := 661) (by decide +kernel), List.mem_of_getElem? (i := 801) (by decide +kernel), List.mem_of_getElem? (i := 802) (by decide +kernel)⟩
def lw_privs_2 : List (MethodName × Nat) := [(⟨"DobbyLoom$Cloth", "runWith", "(III)I"⟩, 7), (⟨"DobbyLoom", "seenColor", "(III)I"⟩, 5), (⟨"DobbyLoom$Cloth", "areAlike", "(II)Z"⟩, 7), (⟨"DobbyLoom", "readNeeds", "()V"⟩, 5), (⟨"DobbyLoomModel", "begin", "(II)V"⟩, 13), (⟨"DobbyLoomModel", "act", "()V"⟩, 13), (⟨"DobbyLoomModel", "isEnd", "(I)Z"⟩, 13), (⟨"DobbyLoomModel", "isShaft", "(I)Z"⟩, 13), (⟨"DobbyLoomModel", "put", "(II)I"⟩, 13), (⟨"DobbyLoomModel", "isLift", "(I)Z"⟩, 13), (⟨"DobbyLoomModel", "makeBar", "(III)V"⟩, 13), (⟨"DobbyLoomModel", "isBar", "(I)Z"⟩, 13), (⟨"DobbyLoomModel", "readsPart", "()Z"⟩, 13), (⟨"DobbyLoomModel", "isNumber", "()Z"⟩, 13), (⟨"DobbyLoomModel", "isDigit", "()Z"⟩, 13), (⟨"DobbyLoomModel", "here", "()I"⟩, 13)]
theorem lw_r2 : ∀ q ∈ lw_privs_2, lw_okq q := List.forall_mem_cons.mpr ⟨lw_p16, List.forall_mem_cons.mpr ⟨lw_p17, List.forall_mem_cons.mpr ⟨lw_p18, List.forall_mem_cons.mpr ⟨lw_p19, List.forall_mem_cons.mpr ⟨lw_p20, List.forall_mem_cons.mpr ⟨lw_p21, List.forall_mem_cons.mpr ⟨lw_p22, List.forall_mem_cons.mpr ⟨lw_p23, List.forall_mem_cons.mpr ⟨lw_p24, List.forall_mem_cons.mpr ⟨lw_p25, List.forall_mem_cons.mpr ⟨lw_p26, List.forall_mem_cons.mpr ⟨lw_p27, List.forall_mem_cons.mpr ⟨lw_p28, List.forall_mem_cons.mpr ⟨lw_p29, List.forall_mem_cons.mpr ⟨lw_p30, List.forall_mem_cons.mpr ⟨lw_p31, fun _ h => absurd h List.not_mem_nil⟩⟩⟩⟩⟩⟩⟩⟩⟩⟩⟩⟩⟩⟩⟩⟩
theorem lw_p32 : lw_okq (⟨"DobbyLoomModel", "readsRepeated", "()Z"⟩, 13) := ⟨⟨by decide +kernel, by decide +kernel⟩, List.mem_of_getElem? (i := 661) (by decide +kernel), List.mem_of_getElem? (i := 805) (by decide +kernel), List.mem_of_getElem? (i := 806) (by decide +kernel)⟩
theorem lw_p33 : lw_okq (⟨"DobbyLoomModel", "takes", "(I)Z"⟩, 13) := ⟨⟨by decide +kernel, by decide +kernel⟩, List.mem_of_getElem? (i := 661) (by decide +kernel), List.mem_of_getElem? (i := 809) (by decide +kernel), List.mem_of_getElem? (i := 810) (by decide +kernel)⟩
theorem lw_p34 : lw_okq (⟨"DobbyLoomModel", "readsBars", "()Z"⟩, 13) := ⟨⟨by decide +kernel, by decide +kernel⟩, List.mem_of_getElem? (i := 661) (by decide +kernel), List.mem_of_getElem? (i := 813) (by decide +kernel), List.mem_of_getElem? (i := 814) (by decide +kernel)⟩
theorem lw_p35 : lw_okq (⟨"DobbyLoomModel", "readsBar", "()Z"⟩, 13) := ⟨⟨by decide +kernel, by decide +kernel⟩, List.mem_of_getElem? (i := 661) (by decide +kernel), List.mem_of_getElem? (i := 817) (by decide +kernel), List.mem_of_getElem? (i := 818) (by decide +kernel)⟩
theorem lw_p36 : lw_okq (⟨"DobbyLoomModel", "readsShafts", "()I"⟩, 13) := ⟨⟨by decide +kernel, by decide +kernel⟩, List.mem_of_getElem? (i := 661) (by decide +kernel), List.mem_of_getElem? (i := 821) (by decide +kernel), List.mem_of_getElem? (i := 822) (by decide +kernel)⟩
theorem lw_p37 : lw_okq (⟨"DobbyLoomModel", "stands", "()Z"⟩, 13) := ⟨⟨by decide +kernel, by decide +kernel⟩, List.mem_of_getElem? (i := 661) (by decide +kernel), List.mem_of_getElem? (i := 829) (by decide +kernel), List.mem_of_getElem? (i := 830) (by decide +kernel)⟩
theorem lw_p38 : lw_okq (⟨"DobbyLoomModel", "of", "(II)I"⟩, 13) := ⟨⟨by decide +kernel, by decide +kernel⟩, List.mem_of_getElem? (i := 661) (by decide +kernel), List.mem_of_getElem? (i := 833) (by decide +kernel), List.mem_of_getElem? (i := 834) (by decide +kernel)⟩
theorem lw_p39 : lw_okq (⟨"DobbyLoomModel", "allEnds", "()I"⟩, 13) := ⟨⟨by decide +kernel, by decide +kernel⟩, List.mem_of_getElem? (i := 661) (by decide +kernel), List.mem_of_getElem? (i := 837) (by decide +kernel), List.mem_of_getElem? (i := 838) (by decide +kernel)⟩
theorem lw_p40 : lw_okq (⟨"DobbyLoomModel", "pick", "()V"⟩, 13) := ⟨⟨by decide +kernel, by decide +kernel⟩, List.mem_of_getElem? (i := 661) (by decide +kernel), List.mem_of_getElem? (i := 841) (by decide +kernel), List.mem_of_getElem? (i := 842) (by decide +kernel)⟩
theorem lw_p41 : lw_okq (⟨"DobbyLoomModel", "lifted", "(I)I"⟩, 13) := ⟨⟨by decide +kernel, by decide +kernel⟩, List.mem_of_getElem? (i := 661) (by decide +kernel), List.mem_of_getElem? (i := 845) (by decide +kernel), List.mem_of_getElem? (i := 846) (by decide +kernel)⟩
theorem lw_p42 : lw_okq (⟨"DobbyLoomModel", "endsOn", "(I)I"⟩, 13) := ⟨⟨by decide +kernel, by decide +kernel⟩, List.mem_of_getElem? (i := 661) (by decide +kernel), List.mem_of_getElem? (i := 849) (by decide +kernel), List.mem_of_getElem? (i := 850) (by decide +kernel)⟩
theorem lw_p43 : lw_okq (⟨"DobbyLoomModel", "need", "(III)I"⟩, 13) := ⟨⟨by decide +kernel, by decide +kernel⟩, List.mem_of_getElem? (i := 661) (by decide +kernel), List.mem_of_getElem? (i := 856) (by decide +kernel), List.mem_of_getElem? (i := 857) (by decide +kernel)⟩
theorem lw_p44 : lw_okq (⟨"DobbyLoomModel", "endAt", "(II)I"⟩, 13) := ⟨⟨by decide +kernel, by decide +kernel⟩, List.mem_of_getElem? (i := 661) (by decide +kernel), List.mem_of_getElem? (i := 860) (by decide +kernel), List.mem_of_getElem? (i := 861) (by decide +kernel)⟩
theorem lw_p45 : lw_okq (⟨"DobbyLoomModel", "onward", "()I"⟩, 13) := ⟨⟨by decide +kernel, by decide +kernel⟩, List.mem_of_getElem? (i := 661) (by decide +kernel), List.mem_of_getElem? (i := 864) (by decide +kernel), List.mem_of_getElem? (i := 865) (by decide +kernel)⟩
theorem lw_p46 : lw_okq (⟨"DobbyLoomModel", "step", "(I)V"⟩, 13) := ⟨⟨by decide +kernel, by decide +kernel⟩, List.mem_of_getElem? (i := 661) (by decide +kernel), List.mem_of_getElem? (i := 868) (by decide +kernel), List.mem_of_getElem? (i := 869) (by decide +kernel)⟩
theorem lw_p47 : lw_okq (⟨"DobbyLoomModel", "used", "(I)I"⟩, 13) := ⟨⟨by decide +kernel, by decide +kernel⟩, List.mem_of_getElem? (i := 661) (by decide +kernel), List.mem_of_getElem? (i := 876) (by decide +kernel), List.mem_of_getElem? (i := 877) (by decide +kernel)⟩
def lw_privs_3 : List (MethodName × Nat) := [(⟨"DobbyLoomModel", "readsRepeated", "()Z"⟩, 13), (⟨"DobbyLoomModel", "takes", "(I)Z"⟩, 13), (⟨"DobbyLoomModel", "readsBars", "()Z"⟩, 13), (⟨"DobbyLoomModel", "readsBar", "()Z"⟩, 13), (⟨"DobbyLoomModel", "readsShafts", "()I"⟩, 13), (⟨"DobbyLoomModel", "stands", "()Z"⟩, 13), (⟨"DobbyLoomModel", "of", "(II)I"⟩, 13), (⟨"DobbyLoomModel", "allEnds", "()I"⟩, 13), (⟨"DobbyLoomModel", "pick", "()V"⟩, 13), (⟨"DobbyLoomModel", "lifted", "(I)I"⟩, 13), (⟨"DobbyLoomModel", "endsOn", "(I)I"⟩, 13), (⟨"DobbyLoomModel", "need", "(III)I"⟩, 13), (⟨"DobbyLoomModel", "endAt", "(II)I"⟩, 13), (⟨"DobbyLoomModel", "onward", "()I"⟩, 13), (⟨"DobbyLoomModel", "step", "(I)V"⟩, 13), (⟨"DobbyLoomModel", "used", "(I)I"⟩, 13)]
theorem lw_r3 : ∀ q ∈ lw_privs_3, lw_okq q := List.forall_mem_cons.mpr ⟨lw_p32, List.forall_mem_cons.mpr ⟨lw_p33, List.forall_mem_cons.mpr ⟨lw_p34, List.forall_mem_cons.mpr ⟨lw_p35, List.forall_mem_cons.mpr ⟨lw_p36, List.forall_mem_cons.mpr ⟨lw_p37, List.forall_mem_cons.mpr ⟨lw_p38, List.forall_mem_cons.mpr ⟨lw_p39, List.forall_mem_cons.mpr ⟨lw_p40, List.forall_mem_cons.mpr ⟨lw_p41, List.forall_mem_cons.mpr ⟨lw_p42, List.forall_mem_cons.mpr ⟨lw_p43, List.forall_mem_cons.mpr ⟨lw_p44, List.forall_mem_cons.mpr ⟨lw_p45, List.forall_mem_cons.mpr ⟨lw_p46, List.forall_mem_cons.mpr ⟨lw_p47, fun _ h => absurd h List.not_mem_nil⟩⟩⟩⟩⟩⟩⟩⟩⟩⟩⟩⟩⟩⟩⟩⟩
theorem lw_p48 : lw_okq (⟨"DobbyLoomModel", "allWrong", "()I"⟩, 13) := ⟨⟨by decide +kernel, by decide +kernel⟩, List.mem_of_getElem? (i := 661) (by decide +kernel), List.mem_of_getElem? (i := 892) (by decide +kernel), List.mem_of_getElem? (i := 893) (by decide +kernel)⟩
theorem lw_p49 : lw_okq (⟨"DobbyLoomModel", "wrong", "(I)I"⟩, 13) := ⟨⟨by decide +kernel, by decide +kernel⟩, List.mem_of_getElem? (i := 661) (by decide +kernel), List.mem_of_getElem? (i := 896) (by decide +kernel), List.mem_of_getElem? (i := 897) (by decide +kernel)⟩
theorem lw_p50 : lw_okq (⟨"DobbyLoomModel", "rowsWith", "(II)I"⟩, 13) := ⟨⟨by decide +kernel, by decide +kernel⟩, List.mem_of_getElem? (i := 661) (by decide +kernel), List.mem_of_getElem? (i := 907) (by decide +kernel), List.mem_of_getElem? (i := 908) (by decide +kernel)⟩
theorem lw_p51 : lw_okq (⟨"DobbyLoomModel", "longestOf", "(II)I"⟩, 13) := ⟨⟨by decide +kernel, by decide +kernel⟩, List.mem_of_getElem? (i := 661) (by decide +kernel), List.mem_of_getElem? (i := 911) (by decide +kernel), List.mem_of_getElem? (i := 912) (by decide +kernel)⟩
theorem lw_p52 : lw_okq (⟨"DobbyLoomModel", "measure", "(III)V"⟩, 13) := ⟨⟨by decide +kernel, by decide +kernel⟩, List.mem_of_getElem? (i := 661) (by decide +kernel), List.mem_of_getElem? (i := 915) (by decide +kernel), List.mem_of_getElem? (i := 916) (by decide +kernel)⟩
theorem lw_p53 : lw_okq (⟨"DobbyLoomModel", "side", "(II)I"⟩, 13) := ⟨⟨by decide +kernel, by decide +kernel⟩, List.mem_of_getElem? (i := 661) (by decide +kernel), List.mem_of_getElem? (i := 919) (by decide +kernel), List.mem_of_getElem? (i := 920) (by decide +kernel)⟩
theorem lw_p54 : lw_okq (⟨"DobbyLoomModel", "take", "(II)V"⟩, 13) := ⟨⟨by decide +kernel, by decide +kernel⟩, List.mem_of_getElem? (i := 661) (by decide +kernel), List.mem_of_getElem? (i := 923) (by decide +kernel), List.mem_of_getElem? (i := 924) (by decide +kernel)⟩
theorem lw_p55 : lw_okq (⟨"DobbyLoomModel", "needOf", "(I)I"⟩, 13) := ⟨⟨by decide +kernel, by decide +kernel⟩, List.mem_of_getElem? (i := 661) (by decide +kernel), List.mem_of_getElem? (i := 931) (by decide +kernel), List.mem_of_getElem? (i := 932) (by decide +kernel)⟩
theorem lw_p56 : lw_okq (⟨"DobbyLoomModel", "isRow", "(I)Z"⟩, 13) := ⟨⟨by decide +kernel, by decide +kernel⟩, List.mem_of_getElem? (i := 661) (by decide +kernel), List.mem_of_getElem? (i := 943) (by decide +kernel), List.mem_of_getElem? (i := 944) (by decide +kernel)⟩
theorem lw_p57 : lw_okq (⟨"DobbyLoomModel", "repeats", "(I)Z"⟩, 13) := ⟨⟨by decide +kernel, by decide +kernel⟩, List.mem_of_getElem? (i := 661) (by decide +kernel), List.mem_of_getElem? (i := 959) (by decide +kernel), List.mem_of_getElem? (i := 960) (by decide +kernel)⟩
theorem lw_p58 : lw_okq (⟨"DobbyLoomModel", "areLike", "(II)Z"⟩, 13) := ⟨⟨by decide +kernel, by decide +kernel⟩, List.mem_of_getElem? (i := 661) (by decide +kernel), List.mem_of_getElem? (i := 963) (by decide +kernel), List.mem_of_getElem? (i := 964) (by decide +kernel)⟩
def lw_privs_4 : List (MethodName × Nat) := [(⟨"DobbyLoomModel", "allWrong", "()I"⟩, 13), (⟨"DobbyLoomModel", "wrong", "(I)I"⟩, 13), (⟨"DobbyLoomModel", "rowsWith", "(II)I"⟩, 13), (⟨"DobbyLoomModel", "longestOf", "(II)I"⟩, 13), (⟨"DobbyLoomModel", "measure", "(III)V"⟩, 13), (⟨"DobbyLoomModel", "side", "(II)I"⟩, 13), (⟨"DobbyLoomModel", "take", "(II)V"⟩, 13), (⟨"DobbyLoomModel", "needOf", "(I)I"⟩, 13), (⟨"DobbyLoomModel", "isRow", "(I)Z"⟩, 13), (⟨"DobbyLoomModel", "repeats", "(I)Z"⟩, 13), (⟨"DobbyLoomModel", "areLike", "(II)Z"⟩, 13)]
theorem lw_r4 : ∀ q ∈ lw_privs_4, lw_okq q := List.forall_mem_cons.mpr ⟨lw_p48, List.forall_mem_cons.mpr ⟨lw_p49, List.forall_mem_cons.mpr ⟨lw_p50, List.forall_mem_cons.mpr ⟨lw_p51, List.forall_mem_cons.mpr ⟨lw_p52, List.forall_mem_cons.mpr ⟨lw_p53, List.forall_mem_cons.mpr ⟨lw_p54, List.forall_mem_cons.mpr ⟨lw_p55, List.forall_mem_cons.mpr ⟨lw_p56, List.forall_mem_cons.mpr ⟨lw_p57, List.forall_mem_cons.mpr ⟨lw_p58, fun _ h => absurd h List.not_mem_nil⟩⟩⟩⟩⟩⟩⟩⟩⟩⟩⟩
def lw_privs : List (MethodName × Nat) := lw_privs_1 ++ (lw_privs_2 ++ (lw_privs_3 ++ (lw_privs_4)))
def lw_tbl : List Cond := k2_sels lw_privs ++ tables_1
theorem lw_privs_ok : ∀ q ∈ lw_privs, lw_okq q := by
  show ∀ q ∈ lw_privs_1 ++ (lw_privs_2 ++ (lw_privs_3 ++ (lw_privs_4))), lw_okq q
  exact List.forall_mem_append.mpr ⟨lw_r1, List.forall_mem_append.mpr ⟨lw_r2, List.forall_mem_append.mpr ⟨lw_r3, lw_r4⟩⟩⟩

def RX0 : String := "DobbyLoom$Chain"
def TX0 : u_T := fun k => match k with
  | 0 => ("DobbyLoom$Chain", "bars", "I", false)
  | 1 => ("DobbyLoom$Chain", "present", "I", false)
  | 2 => ("DobbyLoom$Chain", "backward", "I", false)
  | 3 => ("DobbyLoom$Chain", "liftOf", "LDobbyLoom$Numbers;", true)
  | _ => ("DobbyLoom$Chain", "colorOf", "LDobbyLoom$Numbers;", true)
def tyX0 : Nat → FieldType := fun k => match k with
  | 0 => .int
  | 1 => .int
  | 2 => .int
  | 3 => .object "DobbyLoom$Numbers"
  | _ => .object "DobbyLoom$Numbers"
abbrev wsX00 : List Cond := u_ws RX0 TX0 5
theorem nmX0 : ∀ a, a < 5 → ∀ b, b < 5 → a ≠ b → (TX0 a).2.1 ≠ (TX0 b).2.1 := by decide +kernel
theorem tyX0_ok : ∀ k, k < 5 → parseFieldDescriptor (TX0 k).2.2.1 = some (tyX0 k) := by decide +kernel
abbrev cX0_init : ByteArray := prog_2_method_1_code
def yX0_init : MethodName := ⟨RX0, "<init>", "()V"⟩
abbrev cX0_removeBars : ByteArray := prog_2_method_2_code
def yX0_removeBars : MethodName := ⟨RX0, "removeBars", "()V"⟩
abbrev cX0_takeBarsOf : ByteArray := prog_2_method_3_code
def yX0_takeBarsOf : MethodName := ⟨RX0, "takeBarsOf", "(LDobbyLoom$Chain;)V"⟩
abbrev cX0_copyFrom : ByteArray := prog_2_method_4_code
def yX0_copyFrom : MethodName := ⟨RX0, "copyFrom", "(LDobbyLoom$Chain;)V"⟩
abbrev cX0_hasBar : ByteArray := prog_2_method_5_code
def yX0_hasBar : MethodName := ⟨RX0, "hasBar", "(I)Z"⟩
abbrev cX0_isFull : ByteArray := prog_2_method_6_code
def yX0_isFull : MethodName := ⟨RX0, "isFull", "()Z"⟩
abbrev cX0_addLast : ByteArray := prog_2_method_7_code
def yX0_addLast : MethodName := ⟨RX0, "addLast", "(II)V"⟩
abbrev cX0_repeatFrom : ByteArray := prog_2_method_8_code
def yX0_repeatFrom : MethodName := ⟨RX0, "repeatFrom", "(II)Z"⟩
abbrev cX0_barAfter : ByteArray := prog_2_method_9_code
def yX0_barAfter : MethodName := ⟨RX0, "barAfter", "(I)I"⟩
abbrev cX0_barBefore : ByteArray := prog_2_method_10_code
def yX0_barBefore : MethodName := ⟨RX0, "barBefore", "(I)I"⟩
abbrev cX0_barAbove : ByteArray := prog_2_method_11_code
def yX0_barAbove : MethodName := ⟨RX0, "barAbove", "(I)I"⟩
abbrev cX0_barBelow : ByteArray := prog_2_method_12_code
def yX0_barBelow : MethodName := ⟨RX0, "barBelow", "(I)I"⟩
def RX1 : String := "DobbyLoom$ChainReader"
def TX1 : u_T := fun k => match k with
  | 0 => ("DobbyLoom$ChainReader", "text", "LDobbyLoom$Numbers;", true)
  | 1 => ("DobbyLoom$ChainReader", "chain", "LDobbyLoom$Chain;", true)
  | 2 => ("DobbyLoom$ChainReader", "length", "I", false)
  | 3 => ("DobbyLoom$ChainReader", "position", "I", false)
  | 4 => ("DobbyLoom$ChainReader", "shafts", "I", false)
  | 5 => ("DobbyLoom$ChainReader", "times", "I", false)
  | _ => ("DobbyLoom$ChainReader", "firstInBrackets", "I", false)
def tyX1 : Nat → FieldType := fun k => match k with
  | 0 => .object "DobbyLoom$Numbers"
  | 1 => .object "DobbyLoom$Chain"
  | 2 => .int
  | 3 => .int
  | 4 => .int
  | 5 => .int
  | _ => .int
abbrev wsX10 : List Cond := u_ws RX1 TX1 7
theorem nmX1 : ∀ a, a < 7 → ∀ b, b < 7 → a ≠ b → (TX1 a).2.1 ≠ (TX1 b).2.1 := by decide +kernel
theorem tyX1_ok : ∀ k, k < 7 → parseFieldDescriptor (TX1 k).2.2.1 = some (tyX1 k) := by decide +kernel
abbrev cX1_init : ByteArray := prog_3_method_1_code
def yX1_init : MethodName := ⟨RX1, "<init>", "()V"⟩
abbrev cX1_isFull : ByteArray := prog_3_method_2_code
def yX1_isFull : MethodName := ⟨RX1, "isFull", "()Z"⟩
abbrev cX1_addLast : ByteArray := prog_3_method_3_code
def yX1_addLast : MethodName := ⟨RX1, "addLast", "(I)V"⟩
abbrev cX1_readChain : ByteArray := prog_3_method_4_code
def yX1_readChain : MethodName := ⟨RX1, "readChain", "(I)Z"⟩
abbrev cX1_openBrackets : ByteArray := prog_3_method_5_code
def yX1_openBrackets : MethodName := ⟨RX1, "openBrackets", "()Z"⟩
abbrev cX1_closeBrackets : ByteArray := prog_3_method_6_code
def yX1_closeBrackets : MethodName := ⟨RX1, "closeBrackets", "()Z"⟩
abbrev cX1_readBar : ByteArray := prog_3_method_7_code
def yX1_readBar : MethodName := ⟨RX1, "readBar", "()Z"⟩
abbrev cX1_readShafts : ByteArray := prog_3_method_8_code
def yX1_readShafts : MethodName := ⟨RX1, "readShafts", "()I"⟩
abbrev cX1_isNumberAhead : ByteArray := prog_3_method_9_code
def yX1_isNumberAhead : MethodName := ⟨RX1, "isNumberAhead", "()Z"⟩
abbrev cX1_isDigit : ByteArray := prog_3_method_10_code
def yX1_isDigit : MethodName := ⟨RX1, "isDigit", "(I)Z"⟩
abbrev cX1_isShaft : ByteArray := prog_3_method_11_code
def yX1_isShaft : MethodName := ⟨RX1, "isShaft", "(I)Z"⟩
abbrev cX1_peek : ByteArray := prog_3_method_12_code
def yX1_peek : MethodName := ⟨RX1, "peek", "()I"⟩
abbrev cX1_take : ByteArray := prog_3_method_13_code
def yX1_take : MethodName := ⟨RX1, "take", "(I)Z"⟩
abbrev cX1_placeBehindSpaces : ByteArray := prog_3_method_14_code
def yX1_placeBehindSpaces : MethodName := ⟨RX1, "placeBehindSpaces", "(I)I"⟩
abbrev cX1_characterAt : ByteArray := prog_3_method_15_code
def yX1_characterAt : MethodName := ⟨RX1, "characterAt", "(I)I"⟩
def RX2 : String := "DobbyLoom$Cloth"
def TX2 : u_T := fun k => match k with
  | 0 => ("DobbyLoom$Cloth", "rows", "I", false)
  | 1 => ("DobbyLoom$Cloth", "colorOf", "LDobbyLoom$Numbers;", true)
  | 2 => ("DobbyLoom$Cloth", "barOf", "LDobbyLoom$Numbers;", true)
  | 3 => ("DobbyLoom$Cloth", "usedOf", "LDobbyLoom$Numbers;", true)
  | 4 => ("DobbyLoom$Cloth", "aboveOf", "LDobbyLoom$Numbers;", true)
  | 5 => ("DobbyLoom$Cloth", "missingOf", "LDobbyLoom$Numbers;", true)
  | _ => ("DobbyLoom$Cloth", "planOf", "LDobbyLoom$Numbers;", true)
def tyX2 : Nat → FieldType := fun k => match k with
  | 0 => .int
  | 1 => .object "DobbyLoom$Numbers"
  | 2 => .object "DobbyLoom$Numbers"
  | 3 => .object "DobbyLoom$Numbers"
  | 4 => .object "DobbyLoom$Numbers"
  | 5 => .object "DobbyLoom$Numbers"
  | _ => .object "DobbyLoom$Numbers"
abbrev wsX20 : List Cond := u_ws RX2 TX2 7
theorem nmX2 : ∀ a, a < 7 → ∀ b, b < 7 → a ≠ b → (TX2 a).2.1 ≠ (TX2 b).2.1 := by decide +kernel
theorem tyX2_ok : ∀ k, k < 7 → parseFieldDescriptor (TX2 k).2.2.1 = some (tyX2 k) := by decide +kernel
abbrev cX2_init : ByteArray := prog_4_method_1_code
def yX2_init : MethodName := ⟨RX2, "<init>", "()V"⟩
abbrev cX2_copyFrom : ByteArray := prog_4_method_2_code
def yX2_copyFrom : MethodName := ⟨RX2, "copyFrom", "(LDobbyLoom$Cloth;)V"⟩
abbrev cX2_hasRow : ByteArray := prog_4_method_3_code
def yX2_hasRow : MethodName := ⟨RX2, "hasRow", "(I)Z"⟩
abbrev cX2_isFull : ByteArray := prog_4_method_4_code
def yX2_isFull : MethodName := ⟨RX2, "isFull", "()Z"⟩
abbrev cX2_isStanding : ByteArray := prog_4_method_5_code
def yX2_isStanding : MethodName := ⟨RX2, "isStanding", "()Z"⟩
abbrev cX2_wrongEnds : ByteArray := prog_4_method_6_code
def yX2_wrongEnds : MethodName := ⟨RX2, "wrongEnds", "(I)I"⟩
abbrev cX2_wrongPlaces : ByteArray := prog_4_method_7_code
def yX2_wrongPlaces : MethodName := ⟨RX2, "wrongPlaces", "()I"⟩
abbrev cX2_rowsAbove : ByteArray := prog_4_method_8_code
def yX2_rowsAbove : MethodName := ⟨RX2, "rowsAbove", "(I)I"⟩
abbrev cX2_rowsWrong : ByteArray := prog_4_method_9_code
def yX2_rowsWrong : MethodName := ⟨RX2, "rowsWrong", "(I)I"⟩
abbrev cX2_sideAt : ByteArray := prog_4_method_10_code
def yX2_sideAt : MethodName := ⟨RX2, "sideAt", "(II)I"⟩
abbrev cX2_sideAlong : ByteArray := prog_4_method_11_code
def yX2_sideAlong : MethodName := ⟨RX2, "sideAlong", "(III)I"⟩
abbrev cX2_runWith : ByteArray := prog_4_method_12_code
def yX2_runWith : MethodName := ⟨RX2, "runWith", "(III)I"⟩
abbrev cX2_longestFloat : ByteArray := prog_4_method_13_code
def yX2_longestFloat : MethodName := ⟨RX2, "longestFloat", "(III)I"⟩
abbrev cX2_floatsIn : ByteArray := prog_4_method_14_code
def yX2_floatsIn : MethodName := ⟨RX2, "floatsIn", "(IIII)I"⟩
abbrev cX2_areAlike : ByteArray := prog_4_method_15_code
def yX2_areAlike : MethodName := ⟨RX2, "areAlike", "(II)Z"⟩
abbrev cX2_repeatsAfter : ByteArray := prog_4_method_16_code
def yX2_repeatsAfter : MethodName := ⟨RX2, "repeatsAfter", "(I)Z"⟩
abbrev cX2_hasAlikeBefore : ByteArray := prog_4_method_17_code
def yX2_hasAlikeBefore : MethodName := ⟨RX2, "hasAlikeBefore", "(I)Z"⟩
def RX3 : String := "DobbyLoom$History"
def TX3 : u_T := fun k => match k with
  | 0 => ("DobbyLoom$History", "ring", "[LDobbyLoom$State;", true)
  | 1 => ("DobbyLoom$History", "next", "I", false)
  | _ => ("DobbyLoom$History", "kept", "I", false)
def tyX3 : Nat → FieldType := fun k => match k with
  | 0 => .array (.object "DobbyLoom$State")
  | 1 => .int
  | _ => .int
abbrev wsX30 : List Cond := u_ws RX3 TX3 3
theorem nmX3 : ∀ a, a < 3 → ∀ b, b < 3 → a ≠ b → (TX3 a).2.1 ≠ (TX3 b).2.1 := by decide +kernel
theorem tyX3_ok : ∀ k, k < 3 → parseFieldDescriptor (TX3 k).2.2.1 = some (tyX3 k) := by decide +kernel
abbrev cX3_init : ByteArray := prog_5_method_1_code
def yX3_init : MethodName := ⟨RX3, "<init>", "()V"⟩
abbrev cX3_keep : ByteArray := prog_5_method_2_code
def yX3_keep : MethodName := ⟨RX3, "keep", "(LDobbyLoom$State;)V"⟩
abbrev cX3_restoreInto : ByteArray := prog_5_method_3_code
def yX3_restoreInto : MethodName := ⟨RX3, "restoreInto", "(LDobbyLoom$State;)V"⟩
abbrev cX3_stateAt : ByteArray := prog_5_method_4_code
def yX3_stateAt : MethodName := ⟨RX3, "stateAt", "(I)LDobbyLoom$State;"⟩
def RX4 : String := "DobbyLoom$Numbers"
def TX4 : u_T := fun k => match k with
  | _ => ("DobbyLoom$Numbers", "values", "[I", true)
def tyX4 : Nat → FieldType := fun k => match k with
  | _ => .array .int
abbrev wsX40 : List Cond := u_ws RX4 TX4 1
theorem nmX4 : ∀ a, a < 1 → ∀ b, b < 1 → a ≠ b → (TX4 a).2.1 ≠ (TX4 b).2.1 := by decide +kernel
theorem tyX4_ok : ∀ k, k < 1 → parseFieldDescriptor (TX4 k).2.2.1 = some (tyX4 k) := by decide +kernel
abbrev cX4_init : ByteArray := prog_6_method_1_code
def yX4_init : MethodName := ⟨RX4, "<init>", "(I)V"⟩
abbrev cX4_at : ByteArray := prog_6_method_2_code
def yX4_at : MethodName := ⟨RX4, "at", "(I)I"⟩
abbrev cX4_put : ByteArray := prog_6_method_3_code
def yX4_put : MethodName := ⟨RX4, "put", "(II)V"⟩
abbrev cX4_putAll : ByteArray := prog_6_method_4_code
def yX4_putAll : MethodName := ⟨RX4, "putAll", "(I)V"⟩
abbrev cX4_copyFrom : ByteArray := prog_6_method_5_code
def yX4_copyFrom : MethodName := ⟨RX4, "copyFrom", "(LDobbyLoom$Numbers;)V"⟩
def RX5 : String := "DobbyLoom$State"
def TX5 : u_T := fun k => match k with
  | 0 => ("DobbyLoom$State", "warp", "LDobbyLoom$Warp;", true)
  | 1 => ("DobbyLoom$State", "chain", "LDobbyLoom$Chain;", true)
  | 2 => ("DobbyLoom$State", "bobbins", "LDobbyLoom$Numbers;", true)
  | _ => ("DobbyLoom$State", "cloth", "LDobbyLoom$Cloth;", true)
def tyX5 : Nat → FieldType := fun k => match k with
  | 0 => .object "DobbyLoom$Warp"
  | 1 => .object "DobbyLoom$Chain"
  | 2 => .object "DobbyLoom$Numbers"
  | _ => .object "DobbyLoom$Cloth"
abbrev wsX50 : List Cond := u_ws RX5 TX5 4
theorem nmX5 : ∀ a, a < 4 → ∀ b, b < 4 → a ≠ b → (TX5 a).2.1 ≠ (TX5 b).2.1 := by decide +kernel
theorem tyX5_ok : ∀ k, k < 4 → parseFieldDescriptor (TX5 k).2.2.1 = some (tyX5 k) := by decide +kernel
abbrev cX5_init : ByteArray := prog_7_method_1_code
def yX5_init : MethodName := ⟨RX5, "<init>", "()V"⟩
abbrev cX5_reset : ByteArray := prog_7_method_2_code
def yX5_reset : MethodName := ⟨RX5, "reset", "(II)V"⟩
abbrev cX5_copyFrom : ByteArray := prog_7_method_3_code
def yX5_copyFrom : MethodName := ⟨RX5, "copyFrom", "(LDobbyLoom$State;)V"⟩
abbrev cX5_makePick : ByteArray := prog_7_method_4_code
def yX5_makePick : MethodName := ⟨RX5, "makePick", "()V"⟩
abbrev cX5_layWeft : ByteArray := prog_7_method_5_code
def yX5_layWeft : MethodName := ⟨RX5, "layWeft", "(III)V"⟩
abbrev cX5_takeOutLastRow : ByteArray := prog_7_method_6_code
def yX5_takeOutLastRow : MethodName := ⟨RX5, "takeOutLastRow", "()V"⟩
def RX6 : String := "DobbyLoom$Warp"
def TX6 : u_T := fun k => match k with
  | 0 => ("DobbyLoom$Warp", "shafts", "I", false)
  | 1 => ("DobbyLoom$Warp", "ends", "I", false)
  | 2 => ("DobbyLoom$Warp", "shaftOf", "LDobbyLoom$Numbers;", true)
  | 3 => ("DobbyLoom$Warp", "colorOf", "LDobbyLoom$Numbers;", true)
  | _ => ("DobbyLoom$Warp", "faultOf", "LDobbyLoom$Numbers;", true)
def tyX6 : Nat → FieldType := fun k => match k with
  | 0 => .int
  | 1 => .int
  | 2 => .object "DobbyLoom$Numbers"
  | 3 => .object "DobbyLoom$Numbers"
  | _ => .object "DobbyLoom$Numbers"
abbrev wsX60 : List Cond := u_ws RX6 TX6 5
theorem nmX6 : ∀ a, a < 5 → ∀ b, b < 5 → a ≠ b → (TX6 a).2.1 ≠ (TX6 b).2.1 := by decide +kernel
theorem tyX6_ok : ∀ k, k < 5 → parseFieldDescriptor (TX6 k).2.2.1 = some (tyX6 k) := by decide +kernel
abbrev cX6_init : ByteArray := prog_8_method_1_code
def yX6_init : MethodName := ⟨RX6, "<init>", "()V"⟩
abbrev cX6_reset : ByteArray := prog_8_method_2_code
def yX6_reset : MethodName := ⟨RX6, "reset", "(II)V"⟩
abbrev cX6_copyFrom : ByteArray := prog_8_method_3_code
def yX6_copyFrom : MethodName := ⟨RX6, "copyFrom", "(LDobbyLoom$Warp;)V"⟩
abbrev cX6_hasEnd : ByteArray := prog_8_method_4_code
def yX6_hasEnd : MethodName := ⟨RX6, "hasEnd", "(I)Z"⟩
abbrev cX6_hasShaft : ByteArray := prog_8_method_5_code
def yX6_hasShaft : MethodName := ⟨RX6, "hasShaft", "(I)Z"⟩
abbrev cX6_isLift : ByteArray := prog_8_method_6_code
def yX6_isLift : MethodName := ⟨RX6, "isLift", "(I)Z"⟩
abbrev cX6_allEnds : ByteArray := prog_8_method_7_code
def yX6_allEnds : MethodName := ⟨RX6, "allEnds", "()I"⟩
abbrev cX6_liftedShafts : ByteArray := prog_8_method_8_code
def yX6_liftedShafts : MethodName := ⟨RX6, "liftedShafts", "(I)I"⟩
abbrev cX6_endsOn : ByteArray := prog_8_method_9_code
def yX6_endsOn : MethodName := ⟨RX6, "endsOn", "(I)I"⟩
abbrev cX6_yarnOfWholePick : ByteArray := prog_8_method_10_code
def yX6_yarnOfWholePick : MethodName := ⟨RX6, "yarnOfWholePick", "(I)I"⟩
def RX7 : String := "DobbyLoom"
def TX7 : u_T := fun k => match k with
  | 0 => ("DobbyLoom", "now", "LDobbyLoom$State;", true)
  | 1 => ("DobbyLoom", "history", "LDobbyLoom$History;", true)
  | 2 => ("DobbyLoom", "reader", "LDobbyLoom$ChainReader;", true)
  | 3 => ("DobbyLoom", "needs", "LDobbyLoom$Numbers;", true)
  | _ => ("DobbyLoom", "yarnLeft", "LDobbyLoom$Numbers;", true)
def tyX7 : Nat → FieldType := fun k => match k with
  | 0 => .object "DobbyLoom$State"
  | 1 => .object "DobbyLoom$History"
  | 2 => .object "DobbyLoom$ChainReader"
  | 3 => .object "DobbyLoom$Numbers"
  | _ => .object "DobbyLoom$Numbers"
abbrev wsX70 : List Cond := u_ws RX7 TX7 5
theorem nmX7 : ∀ a, a < 5 → ∀ b, b < 5 → a ≠ b → (TX7 a).2.1 ≠ (TX7 b).2.1 := by decide +kernel
theorem tyX7_ok : ∀ k, k < 5 → parseFieldDescriptor (TX7 k).2.2.1 = some (tyX7 k) := by decide +kernel
abbrev cX7_init : ByteArray := prog_1_method_1_code
def yX7_init : MethodName := ⟨RX7, "<init>", "()V"⟩
abbrev cX7_setLoom : ByteArray := prog_1_method_2_code
def yX7_setLoom : MethodName := ⟨RX7, "setLoom", "(II)I"⟩
abbrev cX7_setEnd : ByteArray := prog_1_method_3_code
def yX7_setEnd : MethodName := ⟨RX7, "setEnd", "(III)I"⟩
abbrev cX7_setFault : ByteArray := prog_1_method_4_code
def yX7_setFault : MethodName := ⟨RX7, "setFault", "(II)I"⟩
abbrev cX7_addBar : ByteArray := prog_1_method_5_code
def yX7_addBar : MethodName := ⟨RX7, "addBar", "(II)I"⟩
abbrev cX7_setBar : ByteArray := prog_1_method_6_code
def yX7_setBar : MethodName := ⟨RX7, "setBar", "(III)I"⟩
abbrev cX7_setDirection : ByteArray := prog_1_method_7_code
def yX7_setDirection : MethodName := ⟨RX7, "setDirection", "(I)I"⟩
abbrev cX7_turnTo : ByteArray := prog_1_method_8_code
def yX7_turnTo : MethodName := ⟨RX7, "turnTo", "(I)I"⟩
abbrev cX7_wind : ByteArray := prog_1_method_9_code
def yX7_wind : MethodName := ⟨RX7, "wind", "(II)I"⟩
abbrev cX7_append : ByteArray := prog_1_method_10_code
def yX7_append : MethodName := ⟨RX7, "append", "(I)I"⟩
abbrev cX7_clearText : ByteArray := prog_1_method_11_code
def yX7_clearText : MethodName := ⟨RX7, "clearText", "()I"⟩
abbrev cX7_load : ByteArray := prog_1_method_12_code
def yX7_load : MethodName := ⟨RX7, "load", "()I"⟩
abbrev cX7_weave : ByteArray := prog_1_method_13_code
def yX7_weave : MethodName := ⟨RX7, "weave", "(I)I"⟩
abbrev cX7_takeOut : ByteArray := prog_1_method_14_code
def yX7_takeOut : MethodName := ⟨RX7, "takeOut", "(I)I"⟩
abbrev cX7_cutOff : ByteArray := prog_1_method_15_code
def yX7_cutOff : MethodName := ⟨RX7, "cutOff", "()I"⟩
abbrev cX7_undo : ByteArray := prog_1_method_16_code
def yX7_undo : MethodName := ⟨RX7, "undo", "()I"⟩
abbrev cX7_count : ByteArray := prog_1_method_17_code
def yX7_count : MethodName := ⟨RX7, "count", "(I)I"⟩
abbrev cX7_end : ByteArray := prog_1_method_18_code
def yX7_end : MethodName := ⟨RX7, "end", "(II)I"⟩
abbrev cX7_bar : ByteArray := prog_1_method_19_code
def yX7_bar : MethodName := ⟨RX7, "bar", "(II)I"⟩
abbrev cX7_yarn : ByteArray := prog_1_method_20_code
def yX7_yarn : MethodName := ⟨RX7, "yarn", "(I)I"⟩
abbrev cX7_row : ByteArray := prog_1_method_21_code
def yX7_row : MethodName := ⟨RX7, "row", "(II)I"⟩
abbrev cX7_cell : ByteArray := prog_1_method_22_code
def yX7_cell : MethodName := ⟨RX7, "cell", "(III)I"⟩
abbrev cX7_floats : ByteArray := prog_1_method_23_code
def yX7_floats : MethodName := ⟨RX7, "floats", "(II)I"⟩
abbrev cX7_repeat : ByteArray := prog_1_method_24_code
def yX7_repeat : MethodName := ⟨RX7, "repeat", "()I"⟩
abbrev cX7_differentRows : ByteArray := prog_1_method_25_code
def yX7_differentRows : MethodName := ⟨RX7, "differentRows", "()I"⟩
abbrev cX7_picksLeft : ByteArray := prog_1_method_26_code
def yX7_picksLeft : MethodName := ⟨RX7, "picksLeft", "()I"⟩
abbrev cX7_yarnFor : ByteArray := prog_1_method_27_code
def yX7_yarnFor : MethodName := ⟨RX7, "yarnFor", "(II)I"⟩
abbrev cX7_readNeeds : ByteArray := prog_1_method_28_code
def yX7_readNeeds : MethodName := ⟨RX7, "readNeeds", "()V"⟩
abbrev cX7_seenColor : ByteArray := prog_1_method_29_code
def yX7_seenColor : MethodName := ⟨RX7, "seenColor", "(III)I"⟩
abbrev cX7_isBetween : ByteArray := prog_1_method_30_code
def yX7_isBetween : MethodName := ⟨RX7, "isBetween", "(III)Z"⟩
abbrev cX7_isColor : ByteArray := prog_1_method_31_code
def yX7_isColor : MethodName := ⟨RX7, "isColor", "(I)Z"⟩
abbrev cX7_bitOf : ByteArray := prog_1_method_32_code
def yX7_bitOf : MethodName := ⟨RX7, "bitOf", "(II)I"⟩
def RX8 : String := "DobbyLoomModel"
def TX8 : u_T := fun k => match k with
  | 0 => ("DobbyLoomModel", "thrown", "I", false)
  | 1 => ("DobbyLoomModel", "s", "[I", true)
  | 2 => ("DobbyLoomModel", "aside", "[I", true)
  | 3 => ("DobbyLoomModel", "saved", "[I", true)
  | 4 => ("DobbyLoomModel", "savedMany", "I", false)
  | 5 => ("DobbyLoomModel", "text", "[I", true)
  | 6 => ("DobbyLoomModel", "length", "I", false)
  | 7 => ("DobbyLoomModel", "lifts", "[I", true)
  | 8 => ("DobbyLoomModel", "dyes", "[I", true)
  | 9 => ("DobbyLoomModel", "bars", "I", false)
  | 10 => ("DobbyLoomModel", "next", "I", false)
  | 11 => ("DobbyLoomModel", "counted", "I", false)
  | _ => ("DobbyLoomModel", "longest", "I", false)
def tyX8 : Nat → FieldType := fun k => match k with
  | 0 => .int
  | 1 => .array .int
  | 2 => .array .int
  | 3 => .array .int
  | 4 => .int
  | 5 => .array .int
  | 6 => .int
  | 7 => .array .int
  | 8 => .array .int
  | 9 => .int
  | 10 => .int
  | 11 => .int
  | _ => .int
abbrev wsX80 : List Cond := u_ws RX8 TX8 13
theorem nmX8 : ∀ a, a < 13 → ∀ b, b < 13 → a ≠ b → (TX8 a).2.1 ≠ (TX8 b).2.1 := by decide +kernel
theorem tyX8_ok : ∀ k, k < 13 → parseFieldDescriptor (TX8 k).2.2.1 = some (tyX8 k) := by decide +kernel
abbrev cX8_init : ByteArray := prog_10_method_1_code
def yX8_init : MethodName := ⟨RX8, "<init>", "()V"⟩
abbrev cX8_in : ByteArray := prog_10_method_3_code
def yX8_in : MethodName := ⟨RX8, "in", "(III)Z"⟩
abbrev cX8_begin : ByteArray := prog_10_method_4_code
def yX8_begin : MethodName := ⟨RX8, "begin", "(II)V"⟩
abbrev cX8_act : ByteArray := prog_10_method_5_code
def yX8_act : MethodName := ⟨RX8, "act", "()V"⟩
abbrev cX8_has : ByteArray := prog_10_method_6_code
def yX8_has : MethodName := ⟨RX8, "has", "(II)Z"⟩
abbrev cX8_sizeOf : ByteArray := prog_10_method_7_code
def yX8_sizeOf : MethodName := ⟨RX8, "sizeOf", "(I)I"⟩
abbrev cX8_isEnd : ByteArray := prog_10_method_8_code
def yX8_isEnd : MethodName := ⟨RX8, "isEnd", "(I)Z"⟩
abbrev cX8_isShaft : ByteArray := prog_10_method_9_code
def yX8_isShaft : MethodName := ⟨RX8, "isShaft", "(I)Z"⟩
abbrev cX8_isBar : ByteArray := prog_10_method_10_code
def yX8_isBar : MethodName := ⟨RX8, "isBar", "(I)Z"⟩
abbrev cX8_isRow : ByteArray := prog_10_method_11_code
def yX8_isRow : MethodName := ⟨RX8, "isRow", "(I)Z"⟩
abbrev cX8_isColor : ByteArray := prog_10_method_12_code
def yX8_isColor : MethodName := ⟨RX8, "isColor", "(I)Z"⟩
abbrev cX8_isLift : ByteArray := prog_10_method_13_code
def yX8_isLift : MethodName := ⟨RX8, "isLift", "(I)Z"⟩
abbrev cX8_of : ByteArray := prog_10_method_14_code
def yX8_of : MethodName := ⟨RX8, "of", "(II)I"⟩
abbrev cX8_setLoom : ByteArray := prog_10_method_15_code
def yX8_setLoom : MethodName := ⟨RX8, "setLoom", "(II)I"⟩
abbrev cX8_setEnd : ByteArray := prog_10_method_16_code
def yX8_setEnd : MethodName := ⟨RX8, "setEnd", "(III)I"⟩
abbrev cX8_put : ByteArray := prog_10_method_17_code
def yX8_put : MethodName := ⟨RX8, "put", "(II)I"⟩
abbrev cX8_setFault : ByteArray := prog_10_method_18_code
def yX8_setFault : MethodName := ⟨RX8, "setFault", "(II)I"⟩
abbrev cX8_makeBar : ByteArray := prog_10_method_19_code
def yX8_makeBar : MethodName := ⟨RX8, "makeBar", "(III)V"⟩
abbrev cX8_addBar : ByteArray := prog_10_method_20_code
def yX8_addBar : MethodName := ⟨RX8, "addBar", "(II)I"⟩
abbrev cX8_setBar : ByteArray := prog_10_method_21_code
def yX8_setBar : MethodName := ⟨RX8, "setBar", "(III)I"⟩
abbrev cX8_setDirection : ByteArray := prog_10_method_22_code
def yX8_setDirection : MethodName := ⟨RX8, "setDirection", "(I)I"⟩
abbrev cX8_turnTo : ByteArray := prog_10_method_23_code
def yX8_turnTo : MethodName := ⟨RX8, "turnTo", "(I)I"⟩
abbrev cX8_wind : ByteArray := prog_10_method_24_code
def yX8_wind : MethodName := ⟨RX8, "wind", "(II)I"⟩
abbrev cX8_append : ByteArray := prog_10_method_25_code
def yX8_append : MethodName := ⟨RX8, "append", "(I)I"⟩
abbrev cX8_clearText : ByteArray := prog_10_method_26_code
def yX8_clearText : MethodName := ⟨RX8, "clearText", "()I"⟩
abbrev cX8_here : ByteArray := prog_10_method_27_code
def yX8_here : MethodName := ⟨RX8, "here", "()I"⟩
abbrev cX8_takes : ByteArray := prog_10_method_28_code
def yX8_takes : MethodName := ⟨RX8, "takes", "(I)Z"⟩
abbrev cX8_isDigit : ByteArray := prog_10_method_29_code
def yX8_isDigit : MethodName := ⟨RX8, "isDigit", "()Z"⟩
abbrev cX8_isNumber : ByteArray := prog_10_method_30_code
def yX8_isNumber : MethodName := ⟨RX8, "isNumber", "()Z"⟩
abbrev cX8_readsShafts : ByteArray := prog_10_method_31_code
def yX8_readsShafts : MethodName := ⟨RX8, "readsShafts", "()I"⟩
abbrev cX8_readsBar : ByteArray := prog_10_method_32_code
def yX8_readsBar : MethodName := ⟨RX8, "readsBar", "()Z"⟩
abbrev cX8_readsBars : ByteArray := prog_10_method_33_code
def yX8_readsBars : MethodName := ⟨RX8, "readsBars", "()Z"⟩
abbrev cX8_readsRepeated : ByteArray := prog_10_method_34_code
def yX8_readsRepeated : MethodName := ⟨RX8, "readsRepeated", "()Z"⟩
abbrev cX8_readsPart : ByteArray := prog_10_method_35_code
def yX8_readsPart : MethodName := ⟨RX8, "readsPart", "()Z"⟩
abbrev cX8_load : ByteArray := prog_10_method_36_code
def yX8_load : MethodName := ⟨RX8, "load", "()I"⟩
abbrev cX8_lifted : ByteArray := prog_10_method_37_code
def yX8_lifted : MethodName := ⟨RX8, "lifted", "(I)I"⟩
abbrev cX8_endsOn : ByteArray := prog_10_method_38_code
def yX8_endsOn : MethodName := ⟨RX8, "endsOn", "(I)I"⟩
abbrev cX8_endAt : ByteArray := prog_10_method_39_code
def yX8_endAt : MethodName := ⟨RX8, "endAt", "(II)I"⟩
abbrev cX8_need : ByteArray := prog_10_method_40_code
def yX8_need : MethodName := ⟨RX8, "need", "(III)I"⟩
abbrev cX8_step : ByteArray := prog_10_method_41_code
def yX8_step : MethodName := ⟨RX8, "step", "(I)V"⟩
abbrev cX8_onward : ByteArray := prog_10_method_42_code
def yX8_onward : MethodName := ⟨RX8, "onward", "()I"⟩
abbrev cX8_pick : ByteArray := prog_10_method_43_code
def yX8_pick : MethodName := ⟨RX8, "pick", "()V"⟩
abbrev cX8_allEnds : ByteArray := prog_10_method_44_code
def yX8_allEnds : MethodName := ⟨RX8, "allEnds", "()I"⟩
abbrev cX8_stands : ByteArray := prog_10_method_45_code
def yX8_stands : MethodName := ⟨RX8, "stands", "()Z"⟩
abbrev cX8_used : ByteArray := prog_10_method_46_code
def yX8_used : MethodName := ⟨RX8, "used", "(I)I"⟩
abbrev cX8_weave : ByteArray := prog_10_method_47_code
def yX8_weave : MethodName := ⟨RX8, "weave", "(I)I"⟩
abbrev cX8_takeOut : ByteArray := prog_10_method_48_code
def yX8_takeOut : MethodName := ⟨RX8, "takeOut", "(I)I"⟩
abbrev cX8_cutOff : ByteArray := prog_10_method_49_code
def yX8_cutOff : MethodName := ⟨RX8, "cutOff", "()I"⟩
abbrev cX8_undo : ByteArray := prog_10_method_50_code
def yX8_undo : MethodName := ⟨RX8, "undo", "()I"⟩
abbrev cX8_wrong : ByteArray := prog_10_method_51_code
def yX8_wrong : MethodName := ⟨RX8, "wrong", "(I)I"⟩
abbrev cX8_allWrong : ByteArray := prog_10_method_52_code
def yX8_allWrong : MethodName := ⟨RX8, "allWrong", "()I"⟩
abbrev cX8_count : ByteArray := prog_10_method_53_code
def yX8_count : MethodName := ⟨RX8, "count", "(I)I"⟩
abbrev cX8_side : ByteArray := prog_10_method_54_code
def yX8_side : MethodName := ⟨RX8, "side", "(II)I"⟩
abbrev cX8_take : ByteArray := prog_10_method_55_code
def yX8_take : MethodName := ⟨RX8, "take", "(II)V"⟩
abbrev cX8_measure : ByteArray := prog_10_method_56_code
def yX8_measure : MethodName := ⟨RX8, "measure", "(III)V"⟩
abbrev cX8_longestOf : ByteArray := prog_10_method_57_code
def yX8_longestOf : MethodName := ⟨RX8, "longestOf", "(II)I"⟩
abbrev cX8_rowsWith : ByteArray := prog_10_method_58_code
def yX8_rowsWith : MethodName := ⟨RX8, "rowsWith", "(II)I"⟩
abbrev cX8_end : ByteArray := prog_10_method_59_code
def yX8_end : MethodName := ⟨RX8, "end", "(II)I"⟩
abbrev cX8_needOf : ByteArray := prog_10_method_60_code
def yX8_needOf : MethodName := ⟨RX8, "needOf", "(I)I"⟩
abbrev cX8_bar : ByteArray := prog_10_method_61_code
def yX8_bar : MethodName := ⟨RX8, "bar", "(II)I"⟩
abbrev cX8_yarn : ByteArray := prog_10_method_62_code
def yX8_yarn : MethodName := ⟨RX8, "yarn", "(I)I"⟩
abbrev cX8_row : ByteArray := prog_10_method_63_code
def yX8_row : MethodName := ⟨RX8, "row", "(II)I"⟩
abbrev cX8_cell : ByteArray := prog_10_method_64_code
def yX8_cell : MethodName := ⟨RX8, "cell", "(III)I"⟩
abbrev cX8_floats : ByteArray := prog_10_method_65_code
def yX8_floats : MethodName := ⟨RX8, "floats", "(II)I"⟩
abbrev cX8_areLike : ByteArray := prog_10_method_66_code
def yX8_areLike : MethodName := ⟨RX8, "areLike", "(II)Z"⟩
abbrev cX8_repeats : ByteArray := prog_10_method_67_code
def yX8_repeats : MethodName := ⟨RX8, "repeats", "(I)Z"⟩
abbrev cX8_repeat : ByteArray := prog_10_method_68_code
def yX8_repeat : MethodName := ⟨RX8, "repeat", "()I"⟩
abbrev cX8_differentRows : ByteArray := prog_10_method_69_code
def yX8_differentRows : MethodName := ⟨RX8, "differentRows", "()I"⟩
abbrev cX8_picksLeft : ByteArray := prog_10_method_70_code
def yX8_picksLeft : MethodName := ⟨RX8, "picksLeft", "()I"⟩
abbrev cX8_yarnFor : ByteArray := prog_10_method_71_code
def yX8_yarnFor : MethodName := ⟨RX8, "yarnFor", "(II)I"⟩
def RJ6 : String := "java/lang/Integer"
def TJ6 : u_T := fun k => match k with
  | _ => ("", "", "", false)
def tyJ6 : Nat → FieldType := fun k => match k with
  | _ => .int
abbrev wsJ60 : List Cond := u_ws RJ6 TJ6 0
theorem nmJ6 : ∀ a, a < 0 → ∀ b, b < 0 → a ≠ b → (TJ6 a).2.1 ≠ (TJ6 b).2.1 := by decide +kernel
theorem tyJ6_ok : ∀ k, k < 0 → parseFieldDescriptor (TJ6 k).2.2.1 = some (tyJ6 k) := by decide +kernel
abbrev cJ6_bitCount_0f7a4 : ByteArray := prog_11_method_49_code
def yJ6_bitCount_0f7a4 : MethodName := ⟨RJ6, "bitCount", "(I)I"⟩
def RJ9 : String := "java/lang/Math"
def TJ9 : u_T := fun k => match k with
  | _ => ("", "", "", false)
def tyJ9 : Nat → FieldType := fun k => match k with
  | _ => .int
abbrev wsJ90 : List Cond := u_ws RJ9 TJ9 0
theorem nmJ9 : ∀ a, a < 0 → ∀ b, b < 0 → a ≠ b → (TJ9 a).2.1 ≠ (TJ9 b).2.1 := by decide +kernel
theorem tyJ9_ok : ∀ k, k < 0 → parseFieldDescriptor (TJ9 k).2.2.1 = some (tyJ9 k) := by decide +kernel
abbrev cJ9_max_7cf53 : ByteArray := prog_12_method_65_code
def yJ9_max_7cf53 : MethodName := ⟨RJ9, "max", "(II)I"⟩
abbrev cJ9_min_7cf53 : ByteArray := prog_12_method_69_code
def yJ9_min_7cf53 : MethodName := ⟨RJ9, "min", "(II)I"⟩
def RJ10 : String := "java/lang/System"
def TJ10 : u_T := fun k => match k with
  | _ => ("", "", "", false)
def tyJ10 : Nat → FieldType := fun k => match k with
  | _ => .int
abbrev wsJ100 : List Cond := u_ws RJ10 TJ10 0
theorem nmJ10 : ∀ a, a < 0 → ∀ b, b < 0 → a ≠ b → (TJ10 a).2.1 ≠ (TJ10 b).2.1 := by decide +kernel
theorem tyJ10_ok : ∀ k, k < 0 → parseFieldDescriptor (TJ10 k).2.2.1 = some (tyJ10 k) := by decide +kernel
def RL : String := "DobbyLoomLaw"
abbrev cL_law : ByteArray := code
def yL_law : MethodName := ⟨RL, "law", "([I)Z"⟩
def wsJ6_bitCount_0f7a4 : List Cond := .code yJ6_bitCount_0f7a4 cJ6_bitCount_0f7a4 1 (some .int) :: ([.constant RJ6 265 (1431655765), .constant RJ6 266 (858993459), .constant RJ6 267 (252645135)])
def wsJ9_max_7cf53 : List Cond := .code yJ9_max_7cf53 cJ9_max_7cf53 2 (some .int) :: ([])
def wsJ9_min_7cf53 : List Cond := .code yJ9_min_7cf53 cJ9_min_7cf53 2 (some .int) :: ([])
def wsL_law_r1 : List Cond := [Cond.classLink RL 7 RX7, Cond.instantiable RX7 5, Cond.initialized RX7, Cond.classLink RL 10 RX8, Cond.instantiable RX8 13, Cond.initialized RX8, Cond.methodLink RL 9 yX7_init, Cond.instanceMethod yX7_init, Cond.code yX7_init cX7_init 1 none, Cond.methodLink RX7 1 objectInit, Cond.instanceMethod objectInit, Cond.code objectInit ⟨#[0xb1]⟩ 1 none, Cond.classLink RX7 7 RX5, Cond.instantiable RX5 4, Cond.initialized RX5, Cond.fieldLink RX7 10 "DobbyLoom" "now" "LDobbyLoom$State;", Cond.classLink RX7 16 RX3, Cond.instantiable RX3 3, Cond.initialized RX3, Cond.fieldLink RX7 19 "DobbyLoom" "history" "LDobbyLoom$History;", Cond.classLink RX7 23 RX1, Cond.instantiable RX1 7, Cond.initialized RX1, Cond.fieldLink RX7 26 "DobbyLoom" "reader" "LDobbyLoom$ChainReader;"]
def wsL_law_r2 : List Cond := [Cond.classLink RX7 30 RX4, Cond.instantiable RX4 1, Cond.initialized RX4, Cond.fieldLink RX7 35 "DobbyLoom" "needs" "LDobbyLoom$Numbers;", Cond.fieldLink RX7 39 "DobbyLoom" "yarnLeft" "LDobbyLoom$Numbers;", Cond.methodLink RX7 9 yX5_init, Cond.instanceMethod yX5_init, Cond.code yX5_init cX5_init 1 none, Cond.methodLink RX5 3 objectInit, Cond.classLink RX5 9 RX6, Cond.instantiable RX6 5, Cond.initialized RX6, Cond.fieldLink RX5 12 "DobbyLoom$State" "warp" "LDobbyLoom$Warp;", Cond.classLink RX5 18 RX0, Cond.instantiable RX0 5, Cond.initialized RX0, Cond.fieldLink RX5 21 "DobbyLoom$State" "chain" "LDobbyLoom$Chain;", Cond.classLink RX5 25 RX4, Cond.fieldLink RX5 30 "DobbyLoom$State" "bobbins" "LDobbyLoom$Numbers;", Cond.classLink RX5 34 RX2, Cond.instantiable RX2 7, Cond.initialized RX2, Cond.fieldLink RX5 37 "DobbyLoom$State" "cloth" "LDobbyLoom$Cloth;", Cond.instanceMethod yX6_init]
def wsL_law_r3 : List Cond := [Cond.code yX6_init cX6_init 1 none, Cond.methodLink RX6 3 objectInit, Cond.classLink RX6 9 RX4, Cond.fieldLink RX6 14 "DobbyLoom$Warp" "shaftOf" "LDobbyLoom$Numbers;", Cond.fieldLink RX6 20 "DobbyLoom$Warp" "colorOf" "LDobbyLoom$Numbers;", Cond.fieldLink RX6 23 "DobbyLoom$Warp" "faultOf" "LDobbyLoom$Numbers;", Cond.methodLink RX6 11 yX4_init, Cond.instanceMethod yX4_init, Cond.code yX4_init cX4_init 2 none, Cond.methodLink RX4 1 objectInit, Cond.methodLink RX4 7 Lib.Math.max.name, Cond.static Lib.Math.max.name, Cond.initialized "java/lang/Math", Cond.code Lib.Math.max.name Lib.Math.max.code 2 (some .int), Cond.arrayClass .int, Cond.fieldLink RX4 13 "DobbyLoom$Numbers" "values" "[I", Cond.instanceMethod yX0_init, Cond.code yX0_init cX0_init 1 none, Cond.methodLink RX0 3 objectInit, Cond.classLink RX0 9 RX4, Cond.fieldLink RX0 14 "DobbyLoom$Chain" "liftOf" "LDobbyLoom$Numbers;", Cond.fieldLink RX0 20 "DobbyLoom$Chain" "colorOf" "LDobbyLoom$Numbers;", Cond.methodLink RX0 11 yX4_init, Cond.methodLink RX5 27 yX4_init]
def wsL_law_r4 : List Cond := [Cond.instanceMethod yX2_init, Cond.code yX2_init cX2_init 1 none, Cond.methodLink RX2 3 objectInit, Cond.classLink RX2 9 RX4, Cond.fieldLink RX2 14 "DobbyLoom$Cloth" "colorOf" "LDobbyLoom$Numbers;", Cond.fieldLink RX2 20 "DobbyLoom$Cloth" "barOf" "LDobbyLoom$Numbers;", Cond.fieldLink RX2 23 "DobbyLoom$Cloth" "usedOf" "LDobbyLoom$Numbers;", Cond.fieldLink RX2 26 "DobbyLoom$Cloth" "aboveOf" "LDobbyLoom$Numbers;", Cond.fieldLink RX2 29 "DobbyLoom$Cloth" "missingOf" "LDobbyLoom$Numbers;", Cond.fieldLink RX2 32 "DobbyLoom$Cloth" "planOf" "LDobbyLoom$Numbers;", Cond.methodLink RX2 11 yX4_init, Cond.methodLink RX5 41 yX5_reset, Cond.instanceMethod yX5_reset, Cond.selects RX5 yX5_reset yX5_reset, Cond.code yX5_reset cX5_reset 3 none, Cond.fieldLink RX5 49 "DobbyLoom$Chain" "backward" "I", Cond.fieldLink RX5 56 "DobbyLoom$Cloth" "rows" "I", Cond.methodLink RX5 45 yX6_reset, Cond.instanceMethod yX6_reset, Cond.selects RX6 yX6_reset yX6_reset, Cond.code yX6_reset cX6_reset 5 none, Cond.fieldLink RX6 26 "DobbyLoom$Warp" "shafts" "I", Cond.fieldLink RX6 30 "DobbyLoom$Warp" "ends" "I", Cond.methodLink RX6 33 yX4_putAll]
def wsL_law_r5 : List Cond := [Cond.instanceMethod yX4_putAll, Cond.selects RX4 yX4_putAll yX4_putAll, Cond.code yX4_putAll cX4_putAll 3 none, Cond.methodLink RX6 36 yX4_put, Cond.instanceMethod yX4_put, Cond.selects RX4 yX4_put yX4_put, Cond.code yX4_put cX4_put 3 none, Cond.methodLink RX5 46 yX0_removeBars, Cond.instanceMethod yX0_removeBars, Cond.selects RX0 yX0_removeBars yX0_removeBars, Cond.code yX0_removeBars cX0_removeBars 1 none, Cond.fieldLink RX0 23 "DobbyLoom$Chain" "bars" "I", Cond.fieldLink RX0 27 "DobbyLoom$Chain" "present" "I", Cond.methodLink RX5 53 yX4_putAll, Cond.methodLink RX7 18 yX3_init, Cond.instanceMethod yX3_init, Cond.code yX3_init cX3_init 2 none, Cond.methodLink RX3 3 objectInit, Cond.classLink RX3 9 RX5, Cond.fieldLink RX3 11 "DobbyLoom$History" "ring" "[LDobbyLoom$State;", Cond.methodLink RX3 17 yX5_init, Cond.instanceMethod yX1_init, Cond.code yX1_init cX1_init 1 none, Cond.methodLink RX1 3 objectInit]
def wsL_law_r6 : List Cond := [Cond.classLink RX1 9 RX4, Cond.fieldLink RX1 14 "DobbyLoom$ChainReader" "text" "LDobbyLoom$Numbers;", Cond.classLink RX1 20 RX0, Cond.fieldLink RX1 23 "DobbyLoom$ChainReader" "chain" "LDobbyLoom$Chain;", Cond.methodLink RX1 11 yX4_init, Cond.methodLink RX7 32 yX4_init, Cond.methodLink RL 12 yX8_init, Cond.instanceMethod yX8_init, Cond.code yX8_init cX8_init 1 none, Cond.methodLink RX8 1 objectInit, Cond.fieldLink RX8 7 "DobbyLoomModel" "s" "[I", Cond.fieldLink RX8 13 "DobbyLoomModel" "aside" "[I", Cond.fieldLink RX8 16 "DobbyLoomModel" "saved" "[I", Cond.fieldLink RX8 19 "DobbyLoomModel" "text" "[I", Cond.fieldLink RX8 22 "DobbyLoomModel" "lifts" "[I", Cond.fieldLink RX8 25 "DobbyLoomModel" "dyes" "[I", Cond.fieldLink RX8 28 "DobbyLoomModel" "thrown" "I", Cond.methodLink RX8 32 yX8_begin, Cond.instanceMethod yX8_begin, Cond.selects RX8 yX8_begin yX8_begin, Cond.code yX8_begin cX8_begin 4 none, Cond.methodLink RL 13 yX7_setLoom, Cond.instanceMethod yX7_setLoom, Cond.selects RX7 yX7_setLoom yX7_setLoom]
def wsL_law_r7 : List Cond := [Cond.code yX7_setLoom cX7_setLoom 4 (some .int), Cond.fieldLink RX7 50 "DobbyLoom$State" "cloth" "LDobbyLoom$Cloth;", Cond.fieldLink RX7 54 "DobbyLoom$Cloth" "rows" "I", Cond.methodLink RX7 42 yX7_isBetween, Cond.static yX7_isBetween, Cond.code yX7_isBetween cX7_isBetween 3 (some .boolean), Cond.methodLink RX7 46 yX3_keep, Cond.instanceMethod yX3_keep, Cond.selects RX3 yX3_keep yX3_keep, Cond.code yX3_keep cX3_keep 3 none, Cond.fieldLink RX3 18 "DobbyLoom$History" "next" "I", Cond.fieldLink RX3 30 "DobbyLoom$History" "kept" "I", Cond.methodLink RX3 33 Lib.Math.min.name, Cond.static Lib.Math.min.name, Cond.code Lib.Math.min.name Lib.Math.min.code 2 (some .int), Cond.methodLink RX3 22 yX3_stateAt, Cond.instanceMethod yX3_stateAt, Cond.selects RX3 yX3_stateAt yX3_stateAt, Cond.code yX3_stateAt cX3_stateAt 2 (some (.object "DobbyLoom$State")), Cond.methodLink RX3 26 yX5_copyFrom, Cond.instanceMethod yX5_copyFrom, Cond.selects RX5 yX5_copyFrom yX5_copyFrom, Cond.code yX5_copyFrom cX5_copyFrom 2 none, Cond.methodLink RX5 59 yX6_copyFrom]
def wsL_law_r8 : List Cond := [Cond.instanceMethod yX6_copyFrom, Cond.selects RX6 yX6_copyFrom yX6_copyFrom, Cond.code yX6_copyFrom cX6_copyFrom 2 none, Cond.methodLink RX6 40 yX4_copyFrom, Cond.instanceMethod yX4_copyFrom, Cond.selects RX4 yX4_copyFrom yX4_copyFrom, Cond.code yX4_copyFrom cX4_copyFrom 2 none, Cond.methodLink RX4 19 Lib.Math.min.name, Cond.methodLink RX4 22 arraycopyName, Cond.native arraycopyName, Cond.static arraycopyName, Cond.initialized "java/lang/System", Cond.methodLink RX5 63 yX0_copyFrom, Cond.instanceMethod yX0_copyFrom, Cond.selects RX0 yX0_copyFrom yX0_copyFrom, Cond.code yX0_copyFrom cX0_copyFrom 2 none, Cond.fieldLink RX0 38 "DobbyLoom$Chain" "backward" "I", Cond.methodLink RX0 34 yX0_takeBarsOf, Cond.instanceMethod yX0_takeBarsOf, Cond.selects RX0 yX0_takeBarsOf yX0_takeBarsOf, Cond.code yX0_takeBarsOf cX0_takeBarsOf 2 none, Cond.methodLink RX0 30 yX4_copyFrom, Cond.methodLink RX5 66 yX4_copyFrom, Cond.methodLink RX5 69 yX2_copyFrom]
def wsL_law_r9 : List Cond := [Cond.instanceMethod yX2_copyFrom, Cond.selects RX2 yX2_copyFrom yX2_copyFrom, Cond.code yX2_copyFrom cX2_copyFrom 2 none, Cond.fieldLink RX2 35 "DobbyLoom$Cloth" "rows" "I", Cond.methodLink RX2 39 yX4_copyFrom, Cond.methodLink RX7 60 yX5_reset, Cond.methodLink RL 17 yX8_setLoom, Cond.instanceMethod yX8_setLoom, Cond.selects RX8 yX8_setLoom yX8_setLoom, Cond.code yX8_setLoom cX8_setLoom 4 (some .int), Cond.methodLink RX8 39 yX8_in, Cond.static yX8_in, Cond.code yX8_in cX8_in 3 (some .boolean), Cond.methodLink RX8 43 yX8_act, Cond.instanceMethod yX8_act, Cond.selects RX8 yX8_act yX8_act, Cond.code yX8_act cX8_act 2 none, Cond.fieldLink RX8 36 "DobbyLoomModel" "savedMany" "I", Cond.methodLink RL 18 yX7_setEnd, Cond.instanceMethod yX7_setEnd, Cond.selects RX7 yX7_setEnd yX7_setEnd, Cond.code yX7_setEnd cX7_setEnd 6 (some .int), Cond.fieldLink RX7 64 "DobbyLoom$State" "warp" "LDobbyLoom$Warp;", Cond.fieldLink RX7 80 "DobbyLoom$Warp" "shaftOf" "LDobbyLoom$Numbers;"]
def wsL_law_r10 : List Cond := [Cond.fieldLink RX7 87 "DobbyLoom$Warp" "colorOf" "LDobbyLoom$Numbers;", Cond.methodLink RX7 68 yX6_hasEnd, Cond.instanceMethod yX6_hasEnd, Cond.selects RX6 yX6_hasEnd yX6_hasEnd, Cond.code yX6_hasEnd cX6_hasEnd 2 (some .boolean), Cond.methodLink RX7 74 yX6_hasShaft, Cond.instanceMethod yX6_hasShaft, Cond.selects RX6 yX6_hasShaft yX6_hasShaft, Cond.code yX6_hasShaft cX6_hasShaft 2 (some .boolean), Cond.methodLink RX7 77 yX7_isColor, Cond.static yX7_isColor, Cond.code yX7_isColor cX7_isColor 1 (some .boolean), Cond.methodLink RX7 83 yX4_at, Cond.instanceMethod yX4_at, Cond.selects RX4 yX4_at yX4_at, Cond.code yX4_at cX4_at 2 (some .int), Cond.methodLink RX7 90 yX4_put, Cond.methodLink RL 22 yX8_setEnd, Cond.instanceMethod yX8_setEnd, Cond.selects RX8 yX8_setEnd yX8_setEnd, Cond.code yX8_setEnd cX8_setEnd 5 (some .int), Cond.methodLink RX8 46 yX8_isEnd, Cond.instanceMethod yX8_isEnd, Cond.selects RX8 yX8_isEnd yX8_isEnd]
def wsL_law_r11 : List Cond := [Cond.code yX8_isEnd cX8_isEnd 2 (some .boolean), Cond.methodLink RX8 50 yX8_isShaft, Cond.instanceMethod yX8_isShaft, Cond.selects RX8 yX8_isShaft yX8_isShaft, Cond.code yX8_isShaft cX8_isShaft 2 (some .boolean), Cond.methodLink RX8 53 yX8_isColor, Cond.static yX8_isColor, Cond.code yX8_isColor cX8_isColor 1 (some .boolean), Cond.methodLink RL 23 yX7_setFault, Cond.instanceMethod yX7_setFault, Cond.selects RX7 yX7_setFault yX7_setFault, Cond.code yX7_setFault cX7_setFault 4 (some .int), Cond.fieldLink RX7 93 "DobbyLoom$Warp" "faultOf" "LDobbyLoom$Numbers;", Cond.methodLink RL 26 yX8_setFault, Cond.instanceMethod yX8_setFault, Cond.selects RX8 yX8_setFault yX8_setFault, Cond.code yX8_setFault cX8_setFault 3 (some .int), Cond.methodLink RX8 56 yX8_put, Cond.instanceMethod yX8_put, Cond.selects RX8 yX8_put yX8_put, Cond.code yX8_put cX8_put 4 (some .int), Cond.methodLink RL 27 yX7_addBar, Cond.instanceMethod yX7_addBar, Cond.selects RX7 yX7_addBar yX7_addBar]
def wsL_law_r12 : List Cond := [Cond.code yX7_addBar cX7_addBar 3 (some .int), Cond.fieldLink RX7 99 "DobbyLoom$State" "chain" "LDobbyLoom$Chain;", Cond.fieldLink RX7 112 "DobbyLoom$Chain" "bars" "I", Cond.methodLink RX7 96 yX6_isLift, Cond.instanceMethod yX6_isLift, Cond.selects RX6 yX6_isLift yX6_isLift, Cond.code yX6_isLift cX6_isLift 2 (some .boolean), Cond.methodLink RX7 103 yX0_isFull, Cond.instanceMethod yX0_isFull, Cond.selects RX0 yX0_isFull yX0_isFull, Cond.code yX0_isFull cX0_isFull 1 (some .boolean), Cond.methodLink RX7 109 yX0_addLast, Cond.instanceMethod yX0_addLast, Cond.selects RX0 yX0_addLast yX0_addLast, Cond.code yX0_addLast cX0_addLast 3 none, Cond.methodLink RX0 45 yX0_isFull, Cond.methodLink RX0 49 yX4_put, Cond.methodLink RL 30 yX8_addBar, Cond.instanceMethod yX8_addBar, Cond.selects RX8 yX8_addBar yX8_addBar, Cond.code yX8_addBar cX8_addBar 3 (some .int), Cond.methodLink RX8 60 yX8_isLift, Cond.instanceMethod yX8_isLift, Cond.selects RX8 yX8_isLift yX8_isLift]
def wsL_law_r13 : List Cond := [Cond.code yX8_isLift cX8_isLift 2 (some .boolean), Cond.methodLink RX8 63 yX8_makeBar, Cond.instanceMethod yX8_makeBar, Cond.selects RX8 yX8_makeBar yX8_makeBar, Cond.code yX8_makeBar cX8_makeBar 4 none, Cond.methodLink RL 31 yX7_setBar, Cond.instanceMethod yX7_setBar, Cond.selects RX7 yX7_setBar yX7_setBar, Cond.code yX7_setBar cX7_setBar 6 (some .int), Cond.fieldLink RX7 118 "DobbyLoom$Chain" "liftOf" "LDobbyLoom$Numbers;", Cond.fieldLink RX7 121 "DobbyLoom$Chain" "colorOf" "LDobbyLoom$Numbers;", Cond.methodLink RX7 115 yX0_hasBar, Cond.instanceMethod yX0_hasBar, Cond.selects RX0 yX0_hasBar yX0_hasBar, Cond.code yX0_hasBar cX0_hasBar 2 (some .boolean), Cond.methodLink RL 34 yX8_setBar, Cond.instanceMethod yX8_setBar, Cond.selects RX8 yX8_setBar yX8_setBar, Cond.code yX8_setBar cX8_setBar 5 (some .int), Cond.methodLink RX8 67 yX8_isBar, Cond.instanceMethod yX8_isBar, Cond.selects RX8 yX8_isBar yX8_isBar, Cond.code yX8_isBar cX8_isBar 2 (some .boolean), Cond.methodLink RL 35 yX7_setDirection]
def wsL_law_r14 : List Cond := [Cond.instanceMethod yX7_setDirection, Cond.selects RX7 yX7_setDirection yX7_setDirection, Cond.code yX7_setDirection cX7_setDirection 3 (some .int), Cond.fieldLink RX7 122 "DobbyLoom$Chain" "backward" "I", Cond.methodLink RL 39 yX8_setDirection, Cond.instanceMethod yX8_setDirection, Cond.selects RX8 yX8_setDirection yX8_setDirection, Cond.code yX8_setDirection cX8_setDirection 2 (some .int), Cond.methodLink RL 40 yX7_turnTo, Cond.instanceMethod yX7_turnTo, Cond.selects RX7 yX7_turnTo yX7_turnTo, Cond.code yX7_turnTo cX7_turnTo 3 (some .int), Cond.fieldLink RX7 125 "DobbyLoom$Chain" "present" "I", Cond.methodLink RL 43 yX8_turnTo, Cond.instanceMethod yX8_turnTo, Cond.selects RX8 yX8_turnTo yX8_turnTo, Cond.code yX8_turnTo cX8_turnTo 2 (some .int), Cond.methodLink RL 44 yX7_wind, Cond.instanceMethod yX7_wind, Cond.selects RX7 yX7_wind yX7_wind, Cond.code yX7_wind cX7_wind 4 (some .int), Cond.fieldLink RX7 128 "DobbyLoom$State" "bobbins" "LDobbyLoom$Numbers;", Cond.methodLink RL 47 yX8_wind, Cond.instanceMethod yX8_wind]
def wsL_law_r15 : List Cond := [Cond.selects RX8 yX8_wind yX8_wind, Cond.code yX8_wind cX8_wind 3 (some .int), Cond.methodLink RL 48 yX7_append, Cond.instanceMethod yX7_append, Cond.selects RX7 yX7_append yX7_append, Cond.code yX7_append cX7_append 2 (some .int), Cond.fieldLink RX7 134 "DobbyLoom$ChainReader" "length" "I", Cond.methodLink RX7 131 yX1_isFull, Cond.instanceMethod yX1_isFull, Cond.selects RX1 yX1_isFull yX1_isFull, Cond.code yX1_isFull cX1_isFull 1 (some .boolean), Cond.fieldLink RX1 27 "DobbyLoom$ChainReader" "length" "I", Cond.methodLink RX7 132 yX1_addLast, Cond.instanceMethod yX1_addLast, Cond.selects RX1 yX1_addLast yX1_addLast, Cond.code yX1_addLast cX1_addLast 2 none, Cond.methodLink RX1 31 yX1_isFull, Cond.methodLink RX1 35 yX4_put, Cond.methodLink RL 51 yX8_append, Cond.instanceMethod yX8_append, Cond.selects RX8 yX8_append yX8_append, Cond.code yX8_append cX8_append 2 (some .int), Cond.fieldLink RX8 70 "DobbyLoomModel" "length" "I", Cond.methodLink RL 52 yX7_clearText]
def wsL_law_r16 : List Cond := [Cond.instanceMethod yX7_clearText, Cond.selects RX7 yX7_clearText yX7_clearText, Cond.code yX7_clearText cX7_clearText 2 (some .int), Cond.methodLink RL 56 yX8_clearText, Cond.instanceMethod yX8_clearText, Cond.selects RX8 yX8_clearText yX8_clearText, Cond.code yX8_clearText cX8_clearText 2 (some .int), Cond.methodLink RL 57 yX7_load, Cond.instanceMethod yX7_load, Cond.selects RX7 yX7_load yX7_load, Cond.code yX7_load cX7_load 1 (some .int), Cond.fieldLink RX7 137 "DobbyLoom$Warp" "shafts" "I", Cond.fieldLink RX7 143 "DobbyLoom$ChainReader" "position" "I", Cond.fieldLink RX7 146 "DobbyLoom$ChainReader" "chain" "LDobbyLoom$Chain;", Cond.methodLink RX7 140 yX1_readChain, Cond.instanceMethod yX1_readChain, Cond.selects RX1 yX1_readChain yX1_readChain, Cond.code yX1_readChain cX1_readChain 3 (some .boolean), Cond.fieldLink RX1 39 "DobbyLoom$ChainReader" "shafts" "I", Cond.fieldLink RX1 42 "DobbyLoom$ChainReader" "position" "I", Cond.fieldLink RX1 45 "DobbyLoom$ChainReader" "times" "I", Cond.methodLink RX1 48 yX0_removeBars, Cond.methodLink RX1 51 yX1_openBrackets, Cond.instanceMethod yX1_openBrackets]
def wsL_law_r17 : List Cond := [Cond.selects RX1 yX1_openBrackets yX1_openBrackets, Cond.code yX1_openBrackets cX1_openBrackets 2 (some .boolean), Cond.fieldLink RX1 71 "DobbyLoom$Chain" "bars" "I", Cond.fieldLink RX1 74 "DobbyLoom$ChainReader" "firstInBrackets" "I", Cond.methodLink RX1 68 yX1_isNumberAhead, Cond.instanceMethod yX1_isNumberAhead, Cond.selects RX1 yX1_isNumberAhead yX1_isNumberAhead, Cond.code yX1_isNumberAhead cX1_isNumberAhead 1 (some .boolean), Cond.methodLink RX1 64 yX1_peek, Cond.instanceMethod yX1_peek, Cond.selects RX1 yX1_peek yX1_peek, Cond.code yX1_peek cX1_peek 1 (some .int), Cond.methodLink RX1 94 yX1_placeBehindSpaces, Cond.instanceMethod yX1_placeBehindSpaces, Cond.selects RX1 yX1_placeBehindSpaces yX1_placeBehindSpaces, Cond.code yX1_placeBehindSpaces cX1_placeBehindSpaces 3 (some .int), Cond.methodLink RX1 105 yX4_at, Cond.methodLink RX1 98 yX1_characterAt, Cond.instanceMethod yX1_characterAt, Cond.selects RX1 yX1_characterAt yX1_characterAt, Cond.code yX1_characterAt cX1_characterAt 2 (some .int), Cond.methodLink RX1 88 yX1_isDigit, Cond.instanceMethod yX1_isDigit, Cond.selects RX1 yX1_isDigit yX1_isDigit]
def wsL_law_r18 : List Cond := [Cond.code yX1_isDigit cX1_isDigit 2 (some .boolean), Cond.methodLink RX1 60 yX1_take, Cond.instanceMethod yX1_take, Cond.selects RX1 yX1_take yX1_take, Cond.code yX1_take cX1_take 2 (some .boolean), Cond.methodLink RX1 54 yX1_readBar, Cond.instanceMethod yX1_readBar, Cond.selects RX1 yX1_readBar yX1_readBar, Cond.code yX1_readBar cX1_readBar 4 (some .boolean), Cond.methodLink RX1 81 yX0_isFull, Cond.methodLink RX1 82 yX1_isShaft, Cond.instanceMethod yX1_isShaft, Cond.selects RX1 yX1_isShaft yX1_isShaft, Cond.code yX1_isShaft cX1_isShaft 2 (some .boolean), Cond.methodLink RX1 85 yX1_readShafts, Cond.instanceMethod yX1_readShafts, Cond.selects RX1 yX1_readShafts yX1_readShafts, Cond.code yX1_readShafts cX1_readShafts 3 (some .int), Cond.methodLink RX1 91 yX0_addLast, Cond.methodLink RX1 57 yX1_closeBrackets, Cond.instanceMethod yX1_closeBrackets, Cond.selects RX1 yX1_closeBrackets yX1_closeBrackets, Cond.code yX1_closeBrackets cX1_closeBrackets 1 (some .boolean), Cond.methodLink RX1 77 yX0_repeatFrom]
def wsL_law_r19 : List Cond := [Cond.instanceMethod yX0_repeatFrom, Cond.selects RX0 yX0_repeatFrom yX0_repeatFrom, Cond.code yX0_repeatFrom cX0_repeatFrom 6 (some .boolean), Cond.methodLink RX0 53 yX4_at, Cond.methodLink RX0 57 yX0_addLast, Cond.methodLink RX7 147 yX0_takeBarsOf, Cond.methodLink RL 60 yX8_load, Cond.instanceMethod yX8_load, Cond.selects RX8 yX8_load yX8_load, Cond.code yX8_load cX8_load 3 (some .int), Cond.fieldLink RX8 87 "DobbyLoomModel" "bars" "I", Cond.fieldLink RX8 73 "DobbyLoomModel" "next" "I", Cond.methodLink RX8 105 yX8_readsPart, Cond.instanceMethod yX8_readsPart, Cond.selects RX8 yX8_readsPart yX8_readsPart, Cond.code yX8_readsPart cX8_readsPart 1 (some .boolean), Cond.methodLink RX8 99 yX8_isNumber, Cond.instanceMethod yX8_isNumber, Cond.selects RX8 yX8_isNumber yX8_isNumber, Cond.code yX8_isNumber cX8_isNumber 2 (some .boolean), Cond.methodLink RX8 80 yX8_isDigit, Cond.instanceMethod yX8_isDigit, Cond.selects RX8 yX8_isDigit yX8_isDigit, Cond.code yX8_isDigit cX8_isDigit 1 (some .boolean)]
def wsL_law_r20 : List Cond := [Cond.methodLink RX8 76 yX8_here, Cond.instanceMethod yX8_here, Cond.selects RX8 yX8_here yX8_here, Cond.code yX8_here cX8_here 1 (some .int), Cond.methodLink RX8 102 yX8_readsRepeated, Cond.instanceMethod yX8_readsRepeated, Cond.selects RX8 yX8_readsRepeated yX8_readsRepeated, Cond.code yX8_readsRepeated cX8_readsRepeated 6 (some .boolean), Cond.methodLink RX8 84 yX8_takes, Cond.instanceMethod yX8_takes, Cond.selects RX8 yX8_takes yX8_takes, Cond.code yX8_takes cX8_takes 3 (some .boolean), Cond.methodLink RX8 96 yX8_readsBars, Cond.instanceMethod yX8_readsBars, Cond.selects RX8 yX8_readsBars yX8_readsBars, Cond.code yX8_readsBars cX8_readsBars 2 (some .boolean), Cond.methodLink RX8 93 yX8_readsBar, Cond.instanceMethod yX8_readsBar, Cond.selects RX8 yX8_readsBar yX8_readsBar, Cond.code yX8_readsBar cX8_readsBar 3 (some .boolean), Cond.methodLink RX8 90 yX8_readsShafts, Cond.instanceMethod yX8_readsShafts, Cond.selects RX8 yX8_readsShafts yX8_readsShafts, Cond.code yX8_readsShafts cX8_readsShafts 3 (some .int)]
def wsL_law_r21 : List Cond := [Cond.methodLink RL 61 yX7_weave, Cond.instanceMethod yX7_weave, Cond.selects RX7 yX7_weave yX7_weave, Cond.code yX7_weave cX7_weave 3 (some .int), Cond.methodLink RX7 151 yX2_isStanding, Cond.instanceMethod yX2_isStanding, Cond.selects RX2 yX2_isStanding yX2_isStanding, Cond.code yX2_isStanding cX2_isStanding 1 (some .boolean), Cond.methodLink RX2 47 yX4_at, Cond.methodLink RX7 154 yX2_isFull, Cond.instanceMethod yX2_isFull, Cond.selects RX2 yX2_isFull yX2_isFull, Cond.code yX2_isFull cX2_isFull 1 (some .boolean), Cond.methodLink RX7 155 yX5_makePick, Cond.instanceMethod yX5_makePick, Cond.selects RX5 yX5_makePick yX5_makePick, Cond.code yX5_makePick cX5_makePick 4 none, Cond.fieldLink RX5 72 "DobbyLoom$Chain" "colorOf" "LDobbyLoom$Numbers;", Cond.fieldLink RX5 75 "DobbyLoom$Chain" "present" "I", Cond.fieldLink RX5 82 "DobbyLoom$Chain" "liftOf" "LDobbyLoom$Numbers;", Cond.fieldLink RX5 85 "DobbyLoom$Cloth" "colorOf" "LDobbyLoom$Numbers;", Cond.fieldLink RX5 89 "DobbyLoom$Cloth" "barOf" "LDobbyLoom$Numbers;", Cond.fieldLink RX5 92 "DobbyLoom$Cloth" "planOf" "LDobbyLoom$Numbers;", Cond.fieldLink RX5 105 "DobbyLoom$Cloth" "usedOf" "LDobbyLoom$Numbers;"]
def wsL_law_r22 : List Cond := [Cond.methodLink RX5 78 yX4_at, Cond.methodLink RX5 86 yX4_put, Cond.methodLink RX5 95 yX6_endsOn, Cond.instanceMethod yX6_endsOn, Cond.selects RX6 yX6_endsOn yX6_endsOn, Cond.code yX6_endsOn cX6_endsOn 4 (some .int), Cond.methodLink RX6 48 yX4_at, Cond.static yX7_bitOf, Cond.code yX7_bitOf cX7_bitOf 2 (some .int), Cond.methodLink RX5 98 yX6_liftedShafts, Cond.instanceMethod yX6_liftedShafts, Cond.selects RX6 yX6_liftedShafts yX6_liftedShafts, Cond.code yX6_liftedShafts cX6_liftedShafts 5 (some .int), Cond.methodLink RX5 101 yX5_layWeft, Cond.instanceMethod yX5_layWeft, Cond.selects RX5 yX5_layWeft yX5_layWeft, Cond.code yX5_layWeft cX5_layWeft 12 none, Cond.fieldLink RX5 111 "DobbyLoom$Warp" "ends" "I", Cond.fieldLink RX5 118 "DobbyLoom$Cloth" "aboveOf" "LDobbyLoom$Numbers;", Cond.fieldLink RX5 121 "DobbyLoom$Cloth" "missingOf" "LDobbyLoom$Numbers;", Cond.methodLink RX5 124 yX6_allEnds, Cond.instanceMethod yX6_allEnds, Cond.selects RX6 yX6_allEnds yX6_allEnds, Cond.code yX6_allEnds cX6_allEnds 1 (some .int)]
def wsL_law_r23 : List Cond := [Cond.methodLink RX5 108 yX0_barAfter, Cond.instanceMethod yX0_barAfter, Cond.selects RX0 yX0_barAfter yX0_barAfter, Cond.code yX0_barAfter cX0_barAfter 2 (some .int), Cond.methodLink RX0 60 yX0_barBelow, Cond.instanceMethod yX0_barBelow, Cond.selects RX0 yX0_barBelow yX0_barBelow, Cond.code yX0_barBelow cX0_barBelow 2 (some .int), Cond.methodLink RX0 63 yX0_barAbove, Cond.instanceMethod yX0_barAbove, Cond.selects RX0 yX0_barAbove yX0_barAbove, Cond.code yX0_barAbove cX0_barAbove 2 (some .int), Cond.methodLink RL 64 yX8_weave, Cond.instanceMethod yX8_weave, Cond.selects RX8 yX8_weave yX8_weave, Cond.code yX8_weave cX8_weave 3 (some .int), Cond.methodLink RX8 139 yX8_stands, Cond.instanceMethod yX8_stands, Cond.selects RX8 yX8_stands yX8_stands, Cond.code yX8_stands cX8_stands 1 (some .boolean), Cond.methodLink RX8 133 yX8_of, Cond.instanceMethod yX8_of, Cond.selects RX8 yX8_of yX8_of, Cond.code yX8_of cX8_of 3 (some .int)]
def wsL_law_r24 : List Cond := [Cond.methodLink RX8 136 yX8_allEnds, Cond.instanceMethod yX8_allEnds, Cond.selects RX8 yX8_allEnds yX8_allEnds, Cond.code yX8_allEnds cX8_allEnds 1 (some .int), Cond.methodLink RX8 142 yX8_pick, Cond.instanceMethod yX8_pick, Cond.selects RX8 yX8_pick yX8_pick, Cond.code yX8_pick cX8_pick 9 none, Cond.methodLink RX8 115 yX8_lifted, Cond.instanceMethod yX8_lifted, Cond.selects RX8 yX8_lifted yX8_lifted, Cond.code yX8_lifted cX8_lifted 5 (some .int), Cond.methodLink RX8 119 yX8_endsOn, Cond.instanceMethod yX8_endsOn, Cond.selects RX8 yX8_endsOn yX8_endsOn, Cond.code yX8_endsOn cX8_endsOn 4 (some .int), Cond.methodLink RX8 108 yX8_has, Cond.static yX8_has, Cond.code yX8_has cX8_has 2 (some .boolean), Cond.methodLink RX8 122 yX8_need, Cond.instanceMethod yX8_need, Cond.selects RX8 yX8_need yX8_need, Cond.code yX8_need cX8_need 4 (some .int), Cond.methodLink RX8 112 yX8_endAt]
def wsL_law_r25 : List Cond := [Cond.instanceMethod yX8_endAt, Cond.selects RX8 yX8_endAt yX8_endAt, Cond.code yX8_endAt cX8_endAt 3 (some .int), Cond.methodLink RX8 126 yX8_onward, Cond.instanceMethod yX8_onward, Cond.selects RX8 yX8_onward yX8_onward, Cond.code yX8_onward cX8_onward 1 (some .int), Cond.methodLink RX8 129 yX8_step, Cond.instanceMethod yX8_step, Cond.selects RX8 yX8_step yX8_step, Cond.code yX8_step cX8_step 2 none, Cond.methodLink RL 65 yX7_takeOut, Cond.instanceMethod yX7_takeOut, Cond.selects RX7 yX7_takeOut yX7_takeOut, Cond.code yX7_takeOut cX7_takeOut 3 (some .int), Cond.methodLink RX7 158 yX5_takeOutLastRow, Cond.instanceMethod yX5_takeOutLastRow, Cond.selects RX5 yX5_takeOutLastRow yX5_takeOutLastRow, Cond.code yX5_takeOutLastRow cX5_takeOutLastRow 3 none, Cond.methodLink RX5 128 yX0_barBefore, Cond.instanceMethod yX0_barBefore, Cond.selects RX0 yX0_barBefore yX0_barBefore, Cond.code yX0_barBefore cX0_barBefore 2 (some .int), Cond.methodLink RL 68 yX8_takeOut]
def wsL_law_r26 : List Cond := [Cond.instanceMethod yX8_takeOut, Cond.selects RX8 yX8_takeOut yX8_takeOut, Cond.code yX8_takeOut cX8_takeOut 4 (some .int), Cond.methodLink RX8 145 yX8_used, Cond.instanceMethod yX8_used, Cond.selects RX8 yX8_used yX8_used, Cond.code yX8_used cX8_used 4 (some .int), Cond.methodLink RL 69 yX7_cutOff, Cond.instanceMethod yX7_cutOff, Cond.selects RX7 yX7_cutOff yX7_cutOff, Cond.code yX7_cutOff cX7_cutOff 2 (some .int), Cond.methodLink RL 72 yX8_cutOff, Cond.instanceMethod yX8_cutOff, Cond.selects RX8 yX8_cutOff yX8_cutOff, Cond.code yX8_cutOff cX8_cutOff 1 (some .int), Cond.methodLink RL 73 yX7_undo, Cond.instanceMethod yX7_undo, Cond.selects RX7 yX7_undo yX7_undo, Cond.code yX7_undo cX7_undo 1 (some .int), Cond.fieldLink RX7 161 "DobbyLoom$History" "kept" "I", Cond.methodLink RX7 164 yX3_restoreInto, Cond.instanceMethod yX3_restoreInto, Cond.selects RX3 yX3_restoreInto yX3_restoreInto, Cond.code yX3_restoreInto cX3_restoreInto 4 none]
def wsL_law_r27 : List Cond := [Cond.methodLink RL 76 yX8_undo, Cond.instanceMethod yX8_undo, Cond.selects RX8 yX8_undo yX8_undo, Cond.code yX8_undo cX8_undo 2 (some .int), Cond.methodLink RL 77 yX7_count, Cond.instanceMethod yX7_count, Cond.selects RX7 yX7_count yX7_count, Cond.code yX7_count cX7_count 2 (some .int), Cond.fieldLink RX7 167 "DobbyLoom$Warp" "ends" "I", Cond.methodLink RX7 170 yX2_wrongPlaces, Cond.instanceMethod yX2_wrongPlaces, Cond.selects RX2 yX2_wrongPlaces yX2_wrongPlaces, Cond.code yX2_wrongPlaces cX2_wrongPlaces 3 (some .int), Cond.methodLink RX2 51 yX2_wrongEnds, Cond.instanceMethod yX2_wrongEnds, Cond.selects RX2 yX2_wrongEnds yX2_wrongEnds, Cond.code yX2_wrongEnds cX2_wrongEnds 2 (some .int), Cond.methodLink RX2 54 yJ6_bitCount_0f7a4, Cond.static yJ6_bitCount_0f7a4, Cond.initialized RJ6, Cond.code yJ6_bitCount_0f7a4 cJ6_bitCount_0f7a4 1 (some .int), Cond.constant RJ6 265 (1431655765), Cond.constant RJ6 266 (858993459), Cond.constant RJ6 267 (252645135)]
def wsL_law_r28 : List Cond := [Cond.methodLink RL 80 yX8_count, Cond.instanceMethod yX8_count, Cond.selects RX8 yX8_count yX8_count, Cond.code yX8_count cX8_count 2 (some .int), Cond.methodLink RX8 154 yX8_allWrong, Cond.instanceMethod yX8_allWrong, Cond.selects RX8 yX8_allWrong yX8_allWrong, Cond.code yX8_allWrong cX8_allWrong 3 (some .int), Cond.methodLink RX8 148 yX8_wrong, Cond.instanceMethod yX8_wrong, Cond.selects RX8 yX8_wrong yX8_wrong, Cond.code yX8_wrong cX8_wrong 2 (some .int), Cond.methodLink RX8 151 yX8_sizeOf, Cond.static yX8_sizeOf, Cond.code yX8_sizeOf cX8_sizeOf 3 (some .int), Cond.methodLink RL 81 yX7_end, Cond.instanceMethod yX7_end, Cond.selects RX7 yX7_end yX7_end, Cond.code yX7_end cX7_end 3 (some .int), Cond.methodLink RX7 174 yX2_rowsAbove, Cond.instanceMethod yX2_rowsAbove, Cond.selects RX2 yX2_rowsAbove yX2_rowsAbove, Cond.code yX2_rowsAbove cX2_rowsAbove 4 (some .int), Cond.methodLink RX7 177 yX2_rowsWrong]
def wsL_law_r29 : List Cond := [Cond.instanceMethod yX2_rowsWrong, Cond.selects RX2 yX2_rowsWrong yX2_rowsWrong, Cond.code yX2_rowsWrong cX2_rowsWrong 4 (some .int), Cond.methodLink RX7 180 yX2_longestFloat, Cond.instanceMethod yX2_longestFloat, Cond.selects RX2 yX2_longestFloat yX2_longestFloat, Cond.code yX2_longestFloat cX2_longestFloat 9 (some .int), Cond.methodLink RX2 73 Lib.Math.max.name, Cond.methodLink RX2 66 yX2_sideAlong, Cond.instanceMethod yX2_sideAlong, Cond.selects RX2 yX2_sideAlong yX2_sideAlong, Cond.code yX2_sideAlong cX2_sideAlong 4 (some .int), Cond.methodLink RX2 63 yX2_sideAt, Cond.instanceMethod yX2_sideAt, Cond.selects RX2 yX2_sideAt yX2_sideAt, Cond.code yX2_sideAt cX2_sideAt 3 (some .int), Cond.methodLink RX2 70 yX2_runWith, Cond.instanceMethod yX2_runWith, Cond.selects RX2 yX2_runWith yX2_runWith, Cond.code yX2_runWith cX2_runWith 4 (some .int), Cond.methodLink RL 84 yX8_end, Cond.instanceMethod yX8_end, Cond.selects RX8 yX8_end yX8_end, Cond.code yX8_end cX8_end 3 (some .int)]
def wsL_law_r30 : List Cond := [Cond.methodLink RX8 172 yX8_rowsWith, Cond.instanceMethod yX8_rowsWith, Cond.selects RX8 yX8_rowsWith yX8_rowsWith, Cond.code yX8_rowsWith cX8_rowsWith 5 (some .int), Cond.methodLink RX8 175 yX8_longestOf, Cond.instanceMethod yX8_longestOf, Cond.selects RX8 yX8_longestOf yX8_longestOf, Cond.code yX8_longestOf cX8_longestOf 3 (some .int), Cond.fieldLink RX8 157 "DobbyLoomModel" "counted" "I", Cond.fieldLink RX8 160 "DobbyLoomModel" "longest" "I", Cond.methodLink RX8 169 yX8_measure, Cond.instanceMethod yX8_measure, Cond.selects RX8 yX8_measure yX8_measure, Cond.code yX8_measure cX8_measure 9 none, Cond.methodLink RX8 163 yX8_side, Cond.instanceMethod yX8_side, Cond.selects RX8 yX8_side yX8_side, Cond.code yX8_side cX8_side 3 (some .int), Cond.methodLink RX8 166 yX8_take, Cond.instanceMethod yX8_take, Cond.selects RX8 yX8_take yX8_take, Cond.code yX8_take cX8_take 3 none, Cond.methodLink RL 85 yX7_bar, Cond.instanceMethod yX7_bar]
def wsL_law_r31 : List Cond := [Cond.selects RX7 yX7_bar yX7_bar, Cond.code yX7_bar cX7_bar 4 (some .int), Cond.methodLink RX7 184 yX6_liftedShafts, Cond.methodLink RX7 187 yX6_yarnOfWholePick, Cond.instanceMethod yX6_yarnOfWholePick, Cond.selects RX6 yX6_yarnOfWholePick yX6_yarnOfWholePick, Cond.code yX6_yarnOfWholePick cX6_yarnOfWholePick 4 (some .int), Cond.methodLink RX6 56 yX6_liftedShafts, Cond.methodLink RX6 59 yX6_endsOn, Cond.methodLink RX6 62 yX6_allEnds, Cond.methodLink RX6 66 yJ6_bitCount_0f7a4, Cond.methodLink RL 88 yX8_bar, Cond.instanceMethod yX8_bar, Cond.selects RX8 yX8_bar yX8_bar, Cond.code yX8_bar cX8_bar 3 (some .int), Cond.methodLink RX8 178 yX8_needOf, Cond.instanceMethod yX8_needOf, Cond.selects RX8 yX8_needOf yX8_needOf, Cond.code yX8_needOf cX8_needOf 5 (some .int), Cond.methodLink RL 89 yX7_yarn, Cond.instanceMethod yX7_yarn, Cond.selects RX7 yX7_yarn yX7_yarn, Cond.code yX7_yarn cX7_yarn 2 (some .int), Cond.methodLink RL 92 yX8_yarn]
def wsL_law_r32 : List Cond := [Cond.instanceMethod yX8_yarn, Cond.selects RX8 yX8_yarn yX8_yarn, Cond.code yX8_yarn cX8_yarn 2 (some .int), Cond.methodLink RL 93 yX7_row, Cond.instanceMethod yX7_row, Cond.selects RX7 yX7_row yX7_row, Cond.code yX7_row cX7_row 4 (some .int), Cond.fieldLink RX7 193 "DobbyLoom$Cloth" "colorOf" "LDobbyLoom$Numbers;", Cond.fieldLink RX7 194 "DobbyLoom$Cloth" "barOf" "LDobbyLoom$Numbers;", Cond.fieldLink RX7 197 "DobbyLoom$Cloth" "usedOf" "LDobbyLoom$Numbers;", Cond.fieldLink RX7 200 "DobbyLoom$Cloth" "aboveOf" "LDobbyLoom$Numbers;", Cond.fieldLink RX7 208 "DobbyLoom$Cloth" "missingOf" "LDobbyLoom$Numbers;", Cond.methodLink RX7 190 yX2_hasRow, Cond.instanceMethod yX2_hasRow, Cond.selects RX2 yX2_hasRow yX2_hasRow, Cond.code yX2_hasRow cX2_hasRow 2 (some .boolean), Cond.methodLink RX7 203 yJ6_bitCount_0f7a4, Cond.methodLink RX7 211 yX2_wrongEnds, Cond.methodLink RL 96 yX8_row, Cond.instanceMethod yX8_row, Cond.selects RX8 yX8_row yX8_row, Cond.code yX8_row cX8_row 3 (some .int), Cond.methodLink RX8 181 yX8_isRow, Cond.instanceMethod yX8_isRow]
def wsL_law_r33 : List Cond := [Cond.selects RX8 yX8_isRow yX8_isRow, Cond.code yX8_isRow cX8_isRow 2 (some .boolean), Cond.methodLink RL 97 yX7_cell, Cond.instanceMethod yX7_cell, Cond.selects RX7 yX7_cell yX7_cell, Cond.code yX7_cell cX7_cell 5 (some .int), Cond.fieldLink RX7 224 "DobbyLoom$Cloth" "planOf" "LDobbyLoom$Numbers;", Cond.methodLink RX7 214 yX2_sideAt, Cond.methodLink RX7 218 yX7_seenColor, Cond.instanceMethod yX7_seenColor, Cond.selects RX7 yX7_seenColor yX7_seenColor, Cond.code yX7_seenColor cX7_seenColor 4 (some .int), Cond.methodLink RX7 221 yX7_bitOf, Cond.methodLink RL 100 yX8_cell, Cond.instanceMethod yX8_cell, Cond.selects RX8 yX8_cell yX8_cell, Cond.code yX8_cell cX8_cell 5 (some .int), Cond.methodLink RL 101 yX7_floats, Cond.instanceMethod yX7_floats, Cond.selects RX7 yX7_floats yX7_floats, Cond.code yX7_floats cX7_floats 7 (some .int), Cond.methodLink RX7 227 yX2_floatsIn, Cond.instanceMethod yX2_floatsIn, Cond.selects RX2 yX2_floatsIn yX2_floatsIn]
def wsL_law_r34 : List Cond := [Cond.code yX2_floatsIn cX2_floatsIn 10 (some .int), Cond.methodLink RL 104 yX8_floats, Cond.instanceMethod yX8_floats, Cond.selects RX8 yX8_floats yX8_floats, Cond.code yX8_floats cX8_floats 4 (some .int), Cond.methodLink RL 105 yX7_repeat, Cond.instanceMethod yX7_repeat, Cond.selects RX7 yX7_repeat yX7_repeat, Cond.code yX7_repeat cX7_repeat 3 (some .int), Cond.methodLink RX7 231 yX2_repeatsAfter, Cond.instanceMethod yX2_repeatsAfter, Cond.selects RX2 yX2_repeatsAfter yX2_repeatsAfter, Cond.code yX2_repeatsAfter cX2_repeatsAfter 3 (some .boolean), Cond.methodLink RX2 78 yX2_areAlike, Cond.instanceMethod yX2_areAlike, Cond.selects RX2 yX2_areAlike yX2_areAlike, Cond.code yX2_areAlike cX2_areAlike 3 (some .boolean), Cond.methodLink RL 108 yX8_repeat, Cond.instanceMethod yX8_repeat, Cond.selects RX8 yX8_repeat yX8_repeat, Cond.code yX8_repeat cX8_repeat 2 (some .int), Cond.methodLink RX8 187 yX8_repeats, Cond.instanceMethod yX8_repeats, Cond.selects RX8 yX8_repeats yX8_repeats]
def wsL_law_r35 : List Cond := [Cond.code yX8_repeats cX8_repeats 3 (some .boolean), Cond.methodLink RX8 184 yX8_areLike, Cond.instanceMethod yX8_areLike, Cond.selects RX8 yX8_areLike yX8_areLike, Cond.code yX8_areLike cX8_areLike 3 (some .boolean), Cond.methodLink RL 109 yX7_differentRows, Cond.instanceMethod yX7_differentRows, Cond.selects RX7 yX7_differentRows yX7_differentRows, Cond.code yX7_differentRows cX7_differentRows 3 (some .int), Cond.methodLink RX7 234 yX2_hasAlikeBefore, Cond.instanceMethod yX2_hasAlikeBefore, Cond.selects RX2 yX2_hasAlikeBefore yX2_hasAlikeBefore, Cond.code yX2_hasAlikeBefore cX2_hasAlikeBefore 3 (some .boolean), Cond.methodLink RL 112 yX8_differentRows, Cond.instanceMethod yX8_differentRows, Cond.selects RX8 yX8_differentRows yX8_differentRows, Cond.code yX8_differentRows cX8_differentRows 5 (some .int), Cond.methodLink RL 113 yX7_picksLeft, Cond.instanceMethod yX7_picksLeft, Cond.selects RX7 yX7_picksLeft yX7_picksLeft, Cond.code yX7_picksLeft cX7_picksLeft 5 (some .int), Cond.methodLink RX7 237 yX7_readNeeds, Cond.instanceMethod yX7_readNeeds, Cond.selects RX7 yX7_readNeeds yX7_readNeeds]
def wsL_law_r36 : List Cond := [Cond.code yX7_readNeeds cX7_readNeeds 2 none, Cond.methodLink RX7 240 yX4_copyFrom, Cond.methodLink RX7 244 yX0_barAfter, Cond.methodLink RL 116 yX8_picksLeft, Cond.instanceMethod yX8_picksLeft, Cond.selects RX8 yX8_picksLeft yX8_picksLeft, Cond.code yX8_picksLeft cX8_picksLeft 3 (some .int), Cond.methodLink RL 117 yX7_yarnFor, Cond.instanceMethod yX7_yarnFor, Cond.selects RX7 yX7_yarnFor yX7_yarnFor, Cond.code yX7_yarnFor cX7_yarnFor 6 (some .int), Cond.methodLink RL 120 yX8_yarnFor, Cond.instanceMethod yX8_yarnFor, Cond.selects RX8 yX8_yarnFor yX8_yarnFor, Cond.code yX8_yarnFor cX8_yarnFor 6 (some .int)]
def wsL_law : List Cond := (wsL_law_r1 ++ (wsL_law_r2 ++ (wsL_law_r3 ++ (wsL_law_r4 ++ (wsL_law_r5 ++ (wsL_law_r6 ++ (wsL_law_r7 ++ (wsL_law_r8 ++ (wsL_law_r9 ++ (wsL_law_r10 ++ (wsL_law_r11 ++ (wsL_law_r12 ++ (wsL_law_r13 ++ (wsL_law_r14 ++ (wsL_law_r15 ++ (wsL_law_r16 ++ (wsL_law_r17 ++ (wsL_law_r18 ++ (wsL_law_r19 ++ (wsL_law_r20 ++ (wsL_law_r21 ++ (wsL_law_r22 ++ (wsL_law_r23 ++ (wsL_law_r24 ++ (wsL_law_r25 ++ (wsL_law_r26 ++ (wsL_law_r27 ++ (wsL_law_r28 ++ (wsL_law_r29 ++ (wsL_law_r30 ++ (wsL_law_r31 ++ (wsL_law_r32 ++ (wsL_law_r33 ++ (wsL_law_r34 ++ (wsL_law_r35 ++ wsL_law_r36))))))))))))))))))))))))))))))))))) ++ wsX70 ++ wsX80 ++ wsX50 ++ wsX30 ++ wsX10 ++ wsX40 ++ wsX60 ++ wsX00 ++ wsX20 ++ ([] : List Cond)
theorem inlX0 : ∀ w ∈ wsX00, w ∈ wsL_law := fun _ h => List.mem_append_left _ (List.mem_append_left _ (List.mem_append_right _ h))
theorem inlX1 : ∀ w ∈ wsX10, w ∈ wsL_law := fun _ h => List.mem_append_left _ (List.mem_append_left _ (List.mem_append_left _ (List.mem_append_left _ (List.mem_append_left _ (List.mem_append_right _ h)))))
theorem inlX2 : ∀ w ∈ wsX20, w ∈ wsL_law := fun _ h => List.mem_append_left _ (List.mem_append_right _ h)
theorem inlX3 : ∀ w ∈ wsX30, w ∈ wsL_law := fun _ h => List.mem_append_left _ (List.mem_append_left _ (List.mem_append_left _ (List.mem_append_left _ (List.mem_append_left _ (List.mem_append_left _ (List.mem_append_right _ h))))))
theorem inlX4 : ∀ w ∈ wsX40, w ∈ wsL_law := fun _ h => List.mem_append_left _ (List.mem_append_left _ (List.mem_append_left _ (List.mem_append_left _ (List.mem_append_right _ h))))
theorem inlX5 : ∀ w ∈ wsX50, w ∈ wsL_law := fun _ h => List.mem_append_left _ (List.mem_append_left _ (List.mem_append_left _ (List.mem_append_left _ (List.mem_append_left _ (List.mem_append_left _ (List.mem_append_left _ (List.mem_append_right _ h)))))))
theorem inlX6 : ∀ w ∈ wsX60, w ∈ wsL_law := fun _ h => List.mem_append_left _ (List.mem_append_left _ (List.mem_append_left _ (List.mem_append_right _ h)))
theorem inlX7 : ∀ w ∈ wsX70, w ∈ wsL_law := fun _ h => List.mem_append_left _ (List.mem_append_left _ (List.mem_append_left _ (List.mem_append_left _ (List.mem_append_left _ (List.mem_append_left _ (List.mem_append_left _ (List.mem_append_left _ (List.mem_append_left _ (List.mem_append_right _ h)))))))))
theorem inlX8 : ∀ w ∈ wsX80, w ∈ wsL_law := fun _ h => List.mem_append_left _ (List.mem_append_left _ (List.mem_append_left _ (List.mem_append_left _ (List.mem_append_left _ (List.mem_append_left _ (List.mem_append_left _ (List.mem_append_left _ (List.mem_append_right _ h))))))))
theorem dX0_init_0 : decode cX0_init 0 = .ok (.aload_n 0, 1) := by decide +kernel
theorem dX0_init_1 : decode cX0_init 1 = .ok (.invokespecial 3, 3) := by decide +kernel
theorem dX0_init_4 : decode cX0_init 4 = .ok (.aload_n 0, 1) := by decide +kernel
theorem dX0_init_5 : decode cX0_init 5 = .ok (.new 9, 3) := by decide +kernel
theorem dX0_init_8 : decode cX0_init 8 = .ok (.dup, 1) := by decide +kernel
theorem dX0_init_9 : decode cX0_init 9 = .ok (.bipush 24, 2) := by decide +kernel
theorem dX0_init_11 : decode cX0_init 11 = .ok (.invokespecial 11, 3) := by decide +kernel
theorem dX0_init_14 : decode cX0_init 14 = .ok (.putfield 14, 3) := by decide +kernel
theorem dX0_init_17 : decode cX0_init 17 = .ok (.aload_n 0, 1) := by decide +kernel
theorem dX0_init_18 : decode cX0_init 18 = .ok (.new 9, 3) := by decide +kernel
theorem dX0_init_21 : decode cX0_init 21 = .ok (.dup, 1) := by decide +kernel
theorem dX0_init_22 : decode cX0_init 22 = .ok (.bipush 24, 2) := by decide +kernel
theorem dX0_init_24 : decode cX0_init 24 = .ok (.invokespecial 11, 3) := by decide +kernel
theorem dX0_init_27 : decode cX0_init 27 = .ok (.putfield 20, 3) := by decide +kernel
theorem dX0_init_30 : decode cX0_init 30 = .ok (.return_, 1) := by decide +kernel
theorem dX0_removeBars_0 : decode cX0_removeBars 0 = .ok (.aload_n 0, 1) := by decide +kernel
theorem dX0_removeBars_1 : decode cX0_removeBars 1 = .ok (.iconst 0, 1) := by decide +kernel
theorem dX0_removeBars_2 : decode cX0_removeBars 2 = .ok (.putfield 23, 3) := by decide +kernel
theorem dX0_removeBars_5 : decode cX0_removeBars 5 = .ok (.aload_n 0, 1) := by decide +kernel
theorem dX0_removeBars_6 : decode cX0_removeBars 6 = .ok (.iconst 0, 1) := by decide +kernel
theorem dX0_removeBars_7 : decode cX0_removeBars 7 = .ok (.putfield 27, 3) := by decide +kernel
theorem dX0_removeBars_10 : decode cX0_removeBars 10 = .ok (.return_, 1) := by decide +kernel
theorem dX0_takeBarsOf_0 : decode cX0_takeBarsOf 0 = .ok (.aload_n 0, 1) := by decide +kernel
theorem dX0_takeBarsOf_1 : decode cX0_takeBarsOf 1 = .ok (.aload_n 1, 1) := by decide +kernel
theorem dX0_takeBarsOf_2 : decode cX0_takeBarsOf 2 = .ok (.getfield 23, 3) := by decide +kernel
theorem dX0_takeBarsOf_5 : decode cX0_takeBarsOf 5 = .ok (.putfield 23, 3) := by decide +kernel
theorem dX0_takeBarsOf_8 : decode cX0_takeBarsOf 8 = .ok (.aload_n 0, 1) := by decide +kernel
theorem dX0_takeBarsOf_9 : decode cX0_takeBarsOf 9 = .ok (.iconst 0, 1) := by decide +kernel
theorem dX0_takeBarsOf_10 : decode cX0_takeBarsOf 10 = .ok (.putfield 27, 3) := by decide +kernel
theorem dX0_takeBarsOf_13 : decode cX0_takeBarsOf 13 = .ok (.aload_n 0, 1) := by decide +kernel
theorem dX0_takeBarsOf_14 : decode cX0_takeBarsOf 14 = .ok (.getfield 14, 3) := by decide +kernel
theorem dX0_takeBarsOf_17 : decode cX0_takeBarsOf 17 = .ok (.aload_n 1, 1) := by decide +kernel
theorem dX0_takeBarsOf_18 : decode cX0_takeBarsOf 18 = .ok (.getfield 14, 3) := by decide +kernel
theorem dX0_takeBarsOf_21 : decode cX0_takeBarsOf 21 = .ok (.invokevirtual 30, 3) := by decide +kernel
theorem dX0_takeBarsOf_24 : decode cX0_takeBarsOf 24 = .ok (.aload_n 0, 1) := by decide +kernel
theorem dX0_takeBarsOf_25 : decode cX0_takeBarsOf 25 = .ok (.getfield 20, 3) := by decide +kernel
theorem dX0_takeBarsOf_28 : decode cX0_takeBarsOf 28 = .ok (.aload_n 1, 1) := by decide +kernel
theorem dX0_takeBarsOf_29 : decode cX0_takeBarsOf 29 = .ok (.getfield 20, 3) := by decide +kernel
theorem dX0_takeBarsOf_32 : decode cX0_takeBarsOf 32 = .ok (.invokevirtual 30, 3) := by decide +kernel
theorem dX0_takeBarsOf_35 : decode cX0_takeBarsOf 35 = .ok (.return_, 1) := by decide +kernel
theorem dX0_copyFrom_0 : decode cX0_copyFrom 0 = .ok (.aload_n 0, 1) := by decide +kernel
theorem dX0_copyFrom_1 : decode cX0_copyFrom 1 = .ok (.aload_n 1, 1) := by decide +kernel
theorem dX0_copyFrom_2 : decode cX0_copyFrom 2 = .ok (.invokevirtual 34, 3) := by decide +kernel
theorem dX0_copyFrom_5 : decode cX0_copyFrom 5 = .ok (.aload_n 0, 1) := by decide +kernel
theorem dX0_copyFrom_6 : decode cX0_copyFrom 6 = .ok (.aload_n 1, 1) := by decide +kernel
theorem dX0_copyFrom_7 : decode cX0_copyFrom 7 = .ok (.getfield 27, 3) := by decide +kernel
theorem dX0_copyFrom_10 : decode cX0_copyFrom 10 = .ok (.putfield 27, 3) := by decide +kernel
theorem dX0_copyFrom_13 : decode cX0_copyFrom 13 = .ok (.aload_n 0, 1) := by decide +kernel
theorem dX0_copyFrom_14 : decode cX0_copyFrom 14 = .ok (.aload_n 1, 1) := by decide +kernel
theorem dX0_copyFrom_15 : decode cX0_copyFrom 15 = .ok (.getfield 38, 3) := by decide +kernel
theorem dX0_copyFrom_18 : decode cX0_copyFrom 18 = .ok (.putfield 38, 3) := by decide +kernel
theorem dX0_copyFrom_21 : decode cX0_copyFrom 21 = .ok (.return_, 1) := by decide +kernel
theorem dX0_hasBar_0 : decode cX0_hasBar 0 = .ok (.iload_n 1, 1) := by decide +kernel
theorem dX0_hasBar_1 : decode cX0_hasBar 1 = .ok (.iconst 0, 1) := by decide +kernel
theorem dX0_hasBar_2 : decode cX0_hasBar 2 = .ok (.aload_n 0, 1) := by decide +kernel
theorem dX0_hasBar_3 : decode cX0_hasBar 3 = .ok (.getfield 23, 3) := by decide +kernel
theorem dX0_hasBar_6 : decode cX0_hasBar 6 = .ok (.iconst 1, 1) := by decide +kernel
theorem dX0_hasBar_7 : decode cX0_hasBar 7 = .ok (.isub, 1) := by decide +kernel
theorem dX0_hasBar_8 : decode cX0_hasBar 8 = .ok (.invokestatic 41, 3) := by decide +kernel
theorem dX0_hasBar_11 : decode cX0_hasBar 11 = .ok (.ireturn, 1) := by decide +kernel
theorem dX0_isFull_0 : decode cX0_isFull 0 = .ok (.aload_n 0, 1) := by decide +kernel
theorem dX0_isFull_1 : decode cX0_isFull 1 = .ok (.getfield 23, 3) := by decide +kernel
theorem dX0_isFull_4 : decode cX0_isFull 4 = .ok (.bipush 24, 2) := by decide +kernel
theorem dX0_isFull_6 : decode cX0_isFull 6 = .ok (.if_icmp .lt 7, 3) := by decide +kernel
theorem dX0_isFull_9 : decode cX0_isFull 9 = .ok (.iconst 1, 1) := by decide +kernel
theorem dX0_isFull_10 : decode cX0_isFull 10 = .ok (.goto 4, 3) := by decide +kernel
theorem dX0_isFull_13 : decode cX0_isFull 13 = .ok (.iconst 0, 1) := by decide +kernel
theorem dX0_isFull_14 : decode cX0_isFull 14 = .ok (.ireturn, 1) := by decide +kernel
theorem dX0_addLast_0 : decode cX0_addLast 0 = .ok (.aload_n 0, 1) := by decide +kernel
theorem dX0_addLast_1 : decode cX0_addLast 1 = .ok (.invokevirtual 45, 3) := by decide +kernel
theorem dX0_addLast_4 : decode cX0_addLast 4 = .ok (.ifCond .ne 37, 3) := by decide +kernel
theorem dX0_addLast_7 : decode cX0_addLast 7 = .ok (.aload_n 0, 1) := by decide +kernel
theorem dX0_addLast_8 : decode cX0_addLast 8 = .ok (.getfield 14, 3) := by decide +kernel
theorem dX0_addLast_11 : decode cX0_addLast 11 = .ok (.aload_n 0, 1) := by decide +kernel
theorem dX0_addLast_12 : decode cX0_addLast 12 = .ok (.getfield 23, 3) := by decide +kernel
theorem dX0_addLast_15 : decode cX0_addLast 15 = .ok (.iload_n 1, 1) := by decide +kernel
theorem dX0_addLast_16 : decode cX0_addLast 16 = .ok (.invokevirtual 49, 3) := by decide +kernel
theorem dX0_addLast_19 : decode cX0_addLast 19 = .ok (.aload_n 0, 1) := by decide +kernel
theorem dX0_addLast_20 : decode cX0_addLast 20 = .ok (.getfield 20, 3) := by decide +kernel
theorem dX0_addLast_23 : decode cX0_addLast 23 = .ok (.aload_n 0, 1) := by decide +kernel
theorem dX0_addLast_24 : decode cX0_addLast 24 = .ok (.getfield 23, 3) := by decide +kernel
theorem dX0_addLast_27 : decode cX0_addLast 27 = .ok (.iload_n 2, 1) := by decide +kernel
theorem dX0_addLast_28 : decode cX0_addLast 28 = .ok (.invokevirtual 49, 3) := by decide +kernel
theorem dX0_addLast_31 : decode cX0_addLast 31 = .ok (.aload_n 0, 1) := by decide +kernel
theorem dX0_addLast_32 : decode cX0_addLast 32 = .ok (.dup, 1) := by decide +kernel
theorem dX0_addLast_33 : decode cX0_addLast 33 = .ok (.getfield 23, 3) := by decide +kernel
theorem dX0_addLast_36 : decode cX0_addLast 36 = .ok (.iconst 1, 1) := by decide +kernel
theorem dX0_addLast_37 : decode cX0_addLast 37 = .ok (.iadd, 1) := by decide +kernel
theorem dX0_addLast_38 : decode cX0_addLast 38 = .ok (.putfield 23, 3) := by decide +kernel
theorem dX0_addLast_41 : decode cX0_addLast 41 = .ok (.return_, 1) := by decide +kernel
theorem dX0_repeatFrom_0 : decode cX0_repeatFrom 0 = .ok (.aload_n 0, 1) := by decide +kernel
theorem dX0_repeatFrom_1 : decode cX0_repeatFrom 1 = .ok (.getfield 23, 3) := by decide +kernel
theorem dX0_repeatFrom_4 : decode cX0_repeatFrom 4 = .ok (.istore_n 3, 1) := by decide +kernel
theorem dX0_repeatFrom_5 : decode cX0_repeatFrom 5 = .ok (.iload_n 1, 1) := by decide +kernel
theorem dX0_repeatFrom_6 : decode cX0_repeatFrom 6 = .ok (.iload_n 3, 1) := by decide +kernel
theorem dX0_repeatFrom_7 : decode cX0_repeatFrom 7 = .ok (.iload_n 1, 1) := by decide +kernel
theorem dX0_repeatFrom_8 : decode cX0_repeatFrom 8 = .ok (.isub, 1) := by decide +kernel
theorem dX0_repeatFrom_9 : decode cX0_repeatFrom 9 = .ok (.iload_n 2, 1) := by decide +kernel
theorem dX0_repeatFrom_10 : decode cX0_repeatFrom 10 = .ok (.imul, 1) := by decide +kernel
theorem dX0_repeatFrom_11 : decode cX0_repeatFrom 11 = .ok (.iadd, 1) := by decide +kernel
theorem dX0_repeatFrom_12 : decode cX0_repeatFrom 12 = .ok (.bipush 24, 2) := by decide +kernel
theorem dX0_repeatFrom_14 : decode cX0_repeatFrom 14 = .ok (.if_icmp .le 5, 3) := by decide +kernel
theorem dX0_repeatFrom_17 : decode cX0_repeatFrom 17 = .ok (.iconst 0, 1) := by decide +kernel
theorem dX0_repeatFrom_18 : decode cX0_repeatFrom 18 = .ok (.ireturn, 1) := by decide +kernel
theorem dX0_repeatFrom_19 : decode cX0_repeatFrom 19 = .ok (.iconst 1, 1) := by decide +kernel
theorem dX0_repeatFrom_20 : decode cX0_repeatFrom 20 = .ok (.istore 4, 2) := by decide +kernel
theorem dX0_repeatFrom_22 : decode cX0_repeatFrom 22 = .ok (.iload 4, 2) := by decide +kernel
theorem dX0_repeatFrom_24 : decode cX0_repeatFrom 24 = .ok (.iload_n 2, 1) := by decide +kernel
theorem dX0_repeatFrom_25 : decode cX0_repeatFrom 25 = .ok (.if_icmp .ge 46, 3) := by decide +kernel
theorem dX0_repeatFrom_28 : decode cX0_repeatFrom 28 = .ok (.iload_n 1, 1) := by decide +kernel
theorem dX0_repeatFrom_29 : decode cX0_repeatFrom 29 = .ok (.istore 5, 2) := by decide +kernel
theorem dX0_repeatFrom_31 : decode cX0_repeatFrom 31 = .ok (.iload 5, 2) := by decide +kernel
theorem dX0_repeatFrom_33 : decode cX0_repeatFrom 33 = .ok (.iload_n 3, 1) := by decide +kernel
theorem dX0_repeatFrom_34 : decode cX0_repeatFrom 34 = .ok (.if_icmp .ge 31, 3) := by decide +kernel
theorem dX0_repeatFrom_37 : decode cX0_repeatFrom 37 = .ok (.aload_n 0, 1) := by decide +kernel
theorem dX0_repeatFrom_38 : decode cX0_repeatFrom 38 = .ok (.aload_n 0, 1) := by decide +kernel
theorem dX0_repeatFrom_39 : decode cX0_repeatFrom 39 = .ok (.getfield 14, 3) := by decide +kernel
theorem dX0_repeatFrom_42 : decode cX0_repeatFrom 42 = .ok (.iload 5, 2) := by decide +kernel
theorem dX0_repeatFrom_44 : decode cX0_repeatFrom 44 = .ok (.invokevirtual 53, 3) := by decide +kernel
theorem dX0_repeatFrom_47 : decode cX0_repeatFrom 47 = .ok (.aload_n 0, 1) := by decide +kernel
theorem dX0_repeatFrom_48 : decode cX0_repeatFrom 48 = .ok (.getfield 20, 3) := by decide +kernel
theorem dX0_repeatFrom_51 : decode cX0_repeatFrom 51 = .ok (.iload 5, 2) := by decide +kernel
theorem dX0_repeatFrom_53 : decode cX0_repeatFrom 53 = .ok (.invokevirtual 53, 3) := by decide +kernel
theorem dX0_repeatFrom_56 : decode cX0_repeatFrom 56 = .ok (.invokevirtual 57, 3) := by decide +kernel
theorem dX0_repeatFrom_59 : decode cX0_repeatFrom 59 = .ok (.iinc 5 1, 3) := by decide +kernel
theorem dX0_repeatFrom_62 : decode cX0_repeatFrom 62 = .ok (.goto (-31), 3) := by decide +kernel
theorem dX0_repeatFrom_65 : decode cX0_repeatFrom 65 = .ok (.iinc 4 1, 3) := by decide +kernel
theorem dX0_repeatFrom_68 : decode cX0_repeatFrom 68 = .ok (.goto (-46), 3) := by decide +kernel
theorem dX0_repeatFrom_71 : decode cX0_repeatFrom 71 = .ok (.iconst 1, 1) := by decide +kernel
theorem dX0_repeatFrom_72 : decode cX0_repeatFrom 72 = .ok (.ireturn, 1) := by decide +kernel
theorem dX0_barAfter_0 : decode cX0_barAfter 0 = .ok (.aload_n 0, 1) := by decide +kernel
theorem dX0_barAfter_1 : decode cX0_barAfter 1 = .ok (.getfield 38, 3) := by decide +kernel
theorem dX0_barAfter_4 : decode cX0_barAfter 4 = .ok (.iconst 1, 1) := by decide +kernel
theorem dX0_barAfter_5 : decode cX0_barAfter 5 = .ok (.if_icmp .ne 11, 3) := by decide +kernel
theorem dX0_barAfter_8 : decode cX0_barAfter 8 = .ok (.aload_n 0, 1) := by decide +kernel
theorem dX0_barAfter_9 : decode cX0_barAfter 9 = .ok (.iload_n 1, 1) := by decide +kernel
theorem dX0_barAfter_10 : decode cX0_barAfter 10 = .ok (.invokevirtual 60, 3) := by decide +kernel
theorem dX0_barAfter_13 : decode cX0_barAfter 13 = .ok (.goto 8, 3) := by decide +kernel
theorem dX0_barAfter_16 : decode cX0_barAfter 16 = .ok (.aload_n 0, 1) := by decide +kernel
theorem dX0_barAfter_17 : decode cX0_barAfter 17 = .ok (.iload_n 1, 1) := by decide +kernel
theorem dX0_barAfter_18 : decode cX0_barAfter 18 = .ok (.invokevirtual 63, 3) := by decide +kernel
theorem dX0_barAfter_21 : decode cX0_barAfter 21 = .ok (.ireturn, 1) := by decide +kernel
theorem dX0_barBefore_0 : decode cX0_barBefore 0 = .ok (.aload_n 0, 1) := by decide +kernel
theorem dX0_barBefore_1 : decode cX0_barBefore 1 = .ok (.getfield 38, 3) := by decide +kernel
theorem dX0_barBefore_4 : decode cX0_barBefore 4 = .ok (.iconst 1, 1) := by decide +kernel
theorem dX0_barBefore_5 : decode cX0_barBefore 5 = .ok (.if_icmp .ne 11, 3) := by decide +kernel
theorem dX0_barBefore_8 : decode cX0_barBefore 8 = .ok (.aload_n 0, 1) := by decide +kernel
theorem dX0_barBefore_9 : decode cX0_barBefore 9 = .ok (.iload_n 1, 1) := by decide +kernel
theorem dX0_barBefore_10 : decode cX0_barBefore 10 = .ok (.invokevirtual 63, 3) := by decide +kernel
theorem dX0_barBefore_13 : decode cX0_barBefore 13 = .ok (.goto 8, 3) := by decide +kernel
theorem dX0_barBefore_16 : decode cX0_barBefore 16 = .ok (.aload_n 0, 1) := by decide +kernel
theorem dX0_barBefore_17 : decode cX0_barBefore 17 = .ok (.iload_n 1, 1) := by decide +kernel
theorem dX0_barBefore_18 : decode cX0_barBefore 18 = .ok (.invokevirtual 60, 3) := by decide +kernel
theorem dX0_barBefore_21 : decode cX0_barBefore 21 = .ok (.ireturn, 1) := by decide +kernel
theorem dX0_barAbove_0 : decode cX0_barAbove 0 = .ok (.iload_n 1, 1) := by decide +kernel
theorem dX0_barAbove_1 : decode cX0_barAbove 1 = .ok (.iconst 1, 1) := by decide +kernel
theorem dX0_barAbove_2 : decode cX0_barAbove 2 = .ok (.iadd, 1) := by decide +kernel
theorem dX0_barAbove_3 : decode cX0_barAbove 3 = .ok (.aload_n 0, 1) := by decide +kernel
theorem dX0_barAbove_4 : decode cX0_barAbove 4 = .ok (.getfield 23, 3) := by decide +kernel
theorem dX0_barAbove_7 : decode cX0_barAbove 7 = .ok (.if_icmp .ge 9, 3) := by decide +kernel
theorem dX0_barAbove_10 : decode cX0_barAbove 10 = .ok (.iload_n 1, 1) := by decide +kernel
theorem dX0_barAbove_11 : decode cX0_barAbove 11 = .ok (.iconst 1, 1) := by decide +kernel
theorem dX0_barAbove_12 : decode cX0_barAbove 12 = .ok (.iadd, 1) := by decide +kernel
theorem dX0_barAbove_13 : decode cX0_barAbove 13 = .ok (.goto 4, 3) := by decide +kernel
theorem dX0_barAbove_16 : decode cX0_barAbove 16 = .ok (.iconst 0, 1) := by decide +kernel
theorem dX0_barAbove_17 : decode cX0_barAbove 17 = .ok (.ireturn, 1) := by decide +kernel
theorem dX0_barBelow_0 : decode cX0_barBelow 0 = .ok (.iload_n 1, 1) := by decide +kernel
theorem dX0_barBelow_1 : decode cX0_barBelow 1 = .ok (.ifCond .le 9, 3) := by decide +kernel
theorem dX0_barBelow_4 : decode cX0_barBelow 4 = .ok (.iload_n 1, 1) := by decide +kernel
theorem dX0_barBelow_5 : decode cX0_barBelow 5 = .ok (.iconst 1, 1) := by decide +kernel
theorem dX0_barBelow_6 : decode cX0_barBelow 6 = .ok (.isub, 1) := by decide +kernel
theorem dX0_barBelow_7 : decode cX0_barBelow 7 = .ok (.goto 9, 3) := by decide +kernel
theorem dX0_barBelow_10 : decode cX0_barBelow 10 = .ok (.aload_n 0, 1) := by decide +kernel
theorem dX0_barBelow_11 : decode cX0_barBelow 11 = .ok (.getfield 23, 3) := by decide +kernel
theorem dX0_barBelow_14 : decode cX0_barBelow 14 = .ok (.iconst 1, 1) := by decide +kernel
theorem dX0_barBelow_15 : decode cX0_barBelow 15 = .ok (.isub, 1) := by decide +kernel
theorem dX0_barBelow_16 : decode cX0_barBelow 16 = .ok (.ireturn, 1) := by decide +kernel
theorem dX1_init_0 : decode cX1_init 0 = .ok (.aload_n 0, 1) := by decide +kernel
theorem dX1_init_1 : decode cX1_init 1 = .ok (.invokespecial 3, 3) := by decide +kernel
theorem dX1_init_4 : decode cX1_init 4 = .ok (.aload_n 0, 1) := by decide +kernel
theorem dX1_init_5 : decode cX1_init 5 = .ok (.new 9, 3) := by decide +kernel
theorem dX1_init_8 : decode cX1_init 8 = .ok (.dup, 1) := by decide +kernel
theorem dX1_init_9 : decode cX1_init 9 = .ok (.bipush 120, 2) := by decide +kernel
theorem dX1_init_11 : decode cX1_init 11 = .ok (.invokespecial 11, 3) := by decide +kernel
theorem dX1_init_14 : decode cX1_init 14 = .ok (.putfield 14, 3) := by decide +kernel
theorem dX1_init_17 : decode cX1_init 17 = .ok (.aload_n 0, 1) := by decide +kernel
theorem dX1_init_18 : decode cX1_init 18 = .ok (.new 20, 3) := by decide +kernel
theorem dX1_init_21 : decode cX1_init 21 = .ok (.dup, 1) := by decide +kernel
theorem dX1_init_22 : decode cX1_init 22 = .ok (.invokespecial 22, 3) := by decide +kernel
theorem dX1_init_25 : decode cX1_init 25 = .ok (.putfield 23, 3) := by decide +kernel
theorem dX1_init_28 : decode cX1_init 28 = .ok (.return_, 1) := by decide +kernel
theorem dX1_isFull_0 : decode cX1_isFull 0 = .ok (.aload_n 0, 1) := by decide +kernel
theorem dX1_isFull_1 : decode cX1_isFull 1 = .ok (.getfield 27, 3) := by decide +kernel
theorem dX1_isFull_4 : decode cX1_isFull 4 = .ok (.bipush 120, 2) := by decide +kernel
theorem dX1_isFull_6 : decode cX1_isFull 6 = .ok (.if_icmp .lt 7, 3) := by decide +kernel
theorem dX1_isFull_9 : decode cX1_isFull 9 = .ok (.iconst 1, 1) := by decide +kernel
theorem dX1_isFull_10 : decode cX1_isFull 10 = .ok (.goto 4, 3) := by decide +kernel
theorem dX1_isFull_13 : decode cX1_isFull 13 = .ok (.iconst 0, 1) := by decide +kernel
theorem dX1_isFull_14 : decode cX1_isFull 14 = .ok (.ireturn, 1) := by decide +kernel
theorem dX1_addLast_0 : decode cX1_addLast 0 = .ok (.aload_n 0, 1) := by decide +kernel
theorem dX1_addLast_1 : decode cX1_addLast 1 = .ok (.invokevirtual 31, 3) := by decide +kernel
theorem dX1_addLast_4 : decode cX1_addLast 4 = .ok (.ifCond .ne 25, 3) := by decide +kernel
theorem dX1_addLast_7 : decode cX1_addLast 7 = .ok (.aload_n 0, 1) := by decide +kernel
theorem dX1_addLast_8 : decode cX1_addLast 8 = .ok (.getfield 14, 3) := by decide +kernel
theorem dX1_addLast_11 : decode cX1_addLast 11 = .ok (.aload_n 0, 1) := by decide +kernel
theorem dX1_addLast_12 : decode cX1_addLast 12 = .ok (.getfield 27, 3) := by decide +kernel
theorem dX1_addLast_15 : decode cX1_addLast 15 = .ok (.iload_n 1, 1) := by decide +kernel
theorem dX1_addLast_16 : decode cX1_addLast 16 = .ok (.invokevirtual 35, 3) := by decide +kernel
theorem dX1_addLast_19 : decode cX1_addLast 19 = .ok (.aload_n 0, 1) := by decide +kernel
theorem dX1_addLast_20 : decode cX1_addLast 20 = .ok (.dup, 1) := by decide +kernel
theorem dX1_addLast_21 : decode cX1_addLast 21 = .ok (.getfield 27, 3) := by decide +kernel
theorem dX1_addLast_24 : decode cX1_addLast 24 = .ok (.iconst 1, 1) := by decide +kernel
theorem dX1_addLast_25 : decode cX1_addLast 25 = .ok (.iadd, 1) := by decide +kernel
theorem dX1_addLast_26 : decode cX1_addLast 26 = .ok (.putfield 27, 3) := by decide +kernel
theorem dX1_addLast_29 : decode cX1_addLast 29 = .ok (.return_, 1) := by decide +kernel
theorem dX1_readChain_0 : decode cX1_readChain 0 = .ok (.aload_n 0, 1) := by decide +kernel
theorem dX1_readChain_1 : decode cX1_readChain 1 = .ok (.iload_n 1, 1) := by decide +kernel
theorem dX1_readChain_2 : decode cX1_readChain 2 = .ok (.putfield 39, 3) := by decide +kernel
theorem dX1_readChain_5 : decode cX1_readChain 5 = .ok (.aload_n 0, 1) := by decide +kernel
theorem dX1_readChain_6 : decode cX1_readChain 6 = .ok (.iconst 0, 1) := by decide +kernel
theorem dX1_readChain_7 : decode cX1_readChain 7 = .ok (.putfield 42, 3) := by decide +kernel
theorem dX1_readChain_10 : decode cX1_readChain 10 = .ok (.aload_n 0, 1) := by decide +kernel
theorem dX1_readChain_11 : decode cX1_readChain 11 = .ok (.iconst 0, 1) := by decide +kernel
theorem dX1_readChain_12 : decode cX1_readChain 12 = .ok (.putfield 45, 3) := by decide +kernel
theorem dX1_readChain_15 : decode cX1_readChain 15 = .ok (.aload_n 0, 1) := by decide +kernel
theorem dX1_readChain_16 : decode cX1_readChain 16 = .ok (.getfield 23, 3) := by decide +kernel
theorem dX1_readChain_19 : decode cX1_readChain 19 = .ok (.invokevirtual 48, 3) := by decide +kernel
theorem dX1_readChain_22 : decode cX1_readChain 22 = .ok (.iconst 0, 1) := by decide +kernel
theorem dX1_readChain_23 : decode cX1_readChain 23 = .ok (.istore_n 2, 1) := by decide +kernel
theorem dX1_readChain_24 : decode cX1_readChain 24 = .ok (.iload_n 2, 1) := by decide +kernel
theorem dX1_readChain_25 : decode cX1_readChain 25 = .ok (.bipush 120, 2) := by decide +kernel
theorem dX1_readChain_27 : decode cX1_readChain 27 = .ok (.if_icmp .ge 62, 3) := by decide +kernel
theorem dX1_readChain_30 : decode cX1_readChain 30 = .ok (.aload_n 0, 1) := by decide +kernel
theorem dX1_readChain_31 : decode cX1_readChain 31 = .ok (.invokevirtual 51, 3) := by decide +kernel
theorem dX1_readChain_34 : decode cX1_readChain 34 = .ok (.ifCond .eq 17, 3) := by decide +kernel
theorem dX1_readChain_37 : decode cX1_readChain 37 = .ok (.aload_n 0, 1) := by decide +kernel
theorem dX1_readChain_38 : decode cX1_readChain 38 = .ok (.invokevirtual 54, 3) := by decide +kernel
theorem dX1_readChain_41 : decode cX1_readChain 41 = .ok (.ifCond .eq 10, 3) := by decide +kernel
theorem dX1_readChain_44 : decode cX1_readChain 44 = .ok (.aload_n 0, 1) := by decide +kernel
theorem dX1_readChain_45 : decode cX1_readChain 45 = .ok (.invokevirtual 57, 3) := by decide +kernel
theorem dX1_readChain_48 : decode cX1_readChain 48 = .ok (.ifCond .ne 5, 3) := by decide +kernel
theorem dX1_readChain_51 : decode cX1_readChain 51 = .ok (.iconst 0, 1) := by decide +kernel
theorem dX1_readChain_52 : decode cX1_readChain 52 = .ok (.ireturn, 1) := by decide +kernel
theorem dX1_readChain_53 : decode cX1_readChain 53 = .ok (.aload_n 0, 1) := by decide +kernel
theorem dX1_readChain_54 : decode cX1_readChain 54 = .ok (.bipush 59, 2) := by decide +kernel
theorem dX1_readChain_56 : decode cX1_readChain 56 = .ok (.invokevirtual 60, 3) := by decide +kernel
theorem dX1_readChain_59 : decode cX1_readChain 59 = .ok (.ifCond .ne 24, 3) := by decide +kernel
theorem dX1_readChain_62 : decode cX1_readChain 62 = .ok (.aload_n 0, 1) := by decide +kernel
theorem dX1_readChain_63 : decode cX1_readChain 63 = .ok (.getfield 45, 3) := by decide +kernel
theorem dX1_readChain_66 : decode cX1_readChain 66 = .ok (.ifCond .ne 15, 3) := by decide +kernel
theorem dX1_readChain_69 : decode cX1_readChain 69 = .ok (.aload_n 0, 1) := by decide +kernel
theorem dX1_readChain_70 : decode cX1_readChain 70 = .ok (.invokevirtual 64, 3) := by decide +kernel
theorem dX1_readChain_73 : decode cX1_readChain 73 = .ok (.iconst (-1), 1) := by decide +kernel
theorem dX1_readChain_74 : decode cX1_readChain 74 = .ok (.if_icmp .ne 7, 3) := by decide +kernel
theorem dX1_readChain_77 : decode cX1_readChain 77 = .ok (.iconst 1, 1) := by decide +kernel
theorem dX1_readChain_78 : decode cX1_readChain 78 = .ok (.goto 4, 3) := by decide +kernel
theorem dX1_readChain_81 : decode cX1_readChain 81 = .ok (.iconst 0, 1) := by decide +kernel
theorem dX1_readChain_82 : decode cX1_readChain 82 = .ok (.ireturn, 1) := by decide +kernel
theorem dX1_readChain_83 : decode cX1_readChain 83 = .ok (.iinc 2 1, 3) := by decide +kernel
theorem dX1_readChain_86 : decode cX1_readChain 86 = .ok (.goto (-62), 3) := by decide +kernel
theorem dX1_readChain_89 : decode cX1_readChain 89 = .ok (.iconst 0, 1) := by decide +kernel
theorem dX1_readChain_90 : decode cX1_readChain 90 = .ok (.ireturn, 1) := by decide +kernel
theorem dX1_openBrackets_0 : decode cX1_openBrackets 0 = .ok (.aload_n 0, 1) := by decide +kernel
theorem dX1_openBrackets_1 : decode cX1_openBrackets 1 = .ok (.getfield 45, 3) := by decide +kernel
theorem dX1_openBrackets_4 : decode cX1_openBrackets 4 = .ok (.ifCond .ne 10, 3) := by decide +kernel
theorem dX1_openBrackets_7 : decode cX1_openBrackets 7 = .ok (.aload_n 0, 1) := by decide +kernel
theorem dX1_openBrackets_8 : decode cX1_openBrackets 8 = .ok (.invokevirtual 68, 3) := by decide +kernel
theorem dX1_openBrackets_11 : decode cX1_openBrackets 11 = .ok (.ifCond .ne 5, 3) := by decide +kernel
theorem dX1_openBrackets_14 : decode cX1_openBrackets 14 = .ok (.iconst 1, 1) := by decide +kernel
theorem dX1_openBrackets_15 : decode cX1_openBrackets 15 = .ok (.ireturn, 1) := by decide +kernel
theorem dX1_openBrackets_16 : decode cX1_openBrackets 16 = .ok (.aload_n 0, 1) := by decide +kernel
theorem dX1_openBrackets_17 : decode cX1_openBrackets 17 = .ok (.invokevirtual 64, 3) := by decide +kernel
theorem dX1_openBrackets_20 : decode cX1_openBrackets 20 = .ok (.bipush 48, 2) := by decide +kernel
theorem dX1_openBrackets_22 : decode cX1_openBrackets 22 = .ok (.isub, 1) := by decide +kernel
theorem dX1_openBrackets_23 : decode cX1_openBrackets 23 = .ok (.istore_n 1, 1) := by decide +kernel
theorem dX1_openBrackets_24 : decode cX1_openBrackets 24 = .ok (.iload_n 1, 1) := by decide +kernel
theorem dX1_openBrackets_25 : decode cX1_openBrackets 25 = .ok (.iconst 2, 1) := by decide +kernel
theorem dX1_openBrackets_26 : decode cX1_openBrackets 26 = .ok (.if_icmp .ge 5, 3) := by decide +kernel
theorem dX1_openBrackets_29 : decode cX1_openBrackets 29 = .ok (.iconst 0, 1) := by decide +kernel
theorem dX1_openBrackets_30 : decode cX1_openBrackets 30 = .ok (.ireturn, 1) := by decide +kernel
theorem dX1_openBrackets_31 : decode cX1_openBrackets 31 = .ok (.aload_n 0, 1) := by decide +kernel
theorem dX1_openBrackets_32 : decode cX1_openBrackets 32 = .ok (.dup, 1) := by decide +kernel
theorem dX1_openBrackets_33 : decode cX1_openBrackets 33 = .ok (.getfield 42, 3) := by decide +kernel
theorem dX1_openBrackets_36 : decode cX1_openBrackets 36 = .ok (.iconst 1, 1) := by decide +kernel
theorem dX1_openBrackets_37 : decode cX1_openBrackets 37 = .ok (.iadd, 1) := by decide +kernel
theorem dX1_openBrackets_38 : decode cX1_openBrackets 38 = .ok (.putfield 42, 3) := by decide +kernel
theorem dX1_openBrackets_41 : decode cX1_openBrackets 41 = .ok (.aload_n 0, 1) := by decide +kernel
theorem dX1_openBrackets_42 : decode cX1_openBrackets 42 = .ok (.iload_n 1, 1) := by decide +kernel
theorem dX1_openBrackets_43 : decode cX1_openBrackets 43 = .ok (.putfield 45, 3) := by decide +kernel
theorem dX1_openBrackets_46 : decode cX1_openBrackets 46 = .ok (.aload_n 0, 1) := by decide +kernel
theorem dX1_openBrackets_47 : decode cX1_openBrackets 47 = .ok (.aload_n 0, 1) := by decide +kernel
theorem dX1_openBrackets_48 : decode cX1_openBrackets 48 = .ok (.getfield 23, 3) := by decide +kernel
theorem dX1_openBrackets_51 : decode cX1_openBrackets 51 = .ok (.getfield 71, 3) := by decide +kernel
theorem dX1_openBrackets_54 : decode cX1_openBrackets 54 = .ok (.putfield 74, 3) := by decide +kernel
theorem dX1_openBrackets_57 : decode cX1_openBrackets 57 = .ok (.aload_n 0, 1) := by decide +kernel
theorem dX1_openBrackets_58 : decode cX1_openBrackets 58 = .ok (.bipush 120, 2) := by decide +kernel
theorem dX1_openBrackets_60 : decode cX1_openBrackets 60 = .ok (.invokevirtual 60, 3) := by decide +kernel
theorem dX1_openBrackets_63 : decode cX1_openBrackets 63 = .ok (.ifCond .eq 16, 3) := by decide +kernel
theorem dX1_openBrackets_66 : decode cX1_openBrackets 66 = .ok (.aload_n 0, 1) := by decide +kernel
theorem dX1_openBrackets_67 : decode cX1_openBrackets 67 = .ok (.bipush 40, 2) := by decide +kernel
theorem dX1_openBrackets_69 : decode cX1_openBrackets 69 = .ok (.invokevirtual 60, 3) := by decide +kernel
theorem dX1_openBrackets_72 : decode cX1_openBrackets 72 = .ok (.ifCond .eq 7, 3) := by decide +kernel
theorem dX1_openBrackets_75 : decode cX1_openBrackets 75 = .ok (.iconst 1, 1) := by decide +kernel
theorem dX1_openBrackets_76 : decode cX1_openBrackets 76 = .ok (.goto 4, 3) := by decide +kernel
theorem dX1_openBrackets_79 : decode cX1_openBrackets 79 = .ok (.iconst 0, 1) := by decide +kernel
theorem dX1_openBrackets_80 : decode cX1_openBrackets 80 = .ok (.ireturn, 1) := by decide +kernel
theorem dX1_closeBrackets_0 : decode cX1_closeBrackets 0 = .ok (.aload_n 0, 1) := by decide +kernel
theorem dX1_closeBrackets_1 : decode cX1_closeBrackets 1 = .ok (.getfield 45, 3) := by decide +kernel
theorem dX1_closeBrackets_4 : decode cX1_closeBrackets 4 = .ok (.ifCond .eq 12, 3) := by decide +kernel
theorem dX1_closeBrackets_7 : decode cX1_closeBrackets 7 = .ok (.aload_n 0, 1) := by decide +kernel
theorem dX1_closeBrackets_8 : decode cX1_closeBrackets 8 = .ok (.invokevirtual 64, 3) := by decide +kernel
theorem dX1_closeBrackets_11 : decode cX1_closeBrackets 11 = .ok (.bipush 41, 2) := by decide +kernel
theorem dX1_closeBrackets_13 : decode cX1_closeBrackets 13 = .ok (.if_icmp .eq 5, 3) := by decide +kernel
theorem dX1_closeBrackets_16 : decode cX1_closeBrackets 16 = .ok (.iconst 1, 1) := by decide +kernel
theorem dX1_closeBrackets_17 : decode cX1_closeBrackets 17 = .ok (.ireturn, 1) := by decide +kernel
theorem dX1_closeBrackets_18 : decode cX1_closeBrackets 18 = .ok (.aload_n 0, 1) := by decide +kernel
theorem dX1_closeBrackets_19 : decode cX1_closeBrackets 19 = .ok (.getfield 23, 3) := by decide +kernel
theorem dX1_closeBrackets_22 : decode cX1_closeBrackets 22 = .ok (.aload_n 0, 1) := by decide +kernel
theorem dX1_closeBrackets_23 : decode cX1_closeBrackets 23 = .ok (.getfield 74, 3) := by decide +kernel
theorem dX1_closeBrackets_26 : decode cX1_closeBrackets 26 = .ok (.aload_n 0, 1) := by decide +kernel
theorem dX1_closeBrackets_27 : decode cX1_closeBrackets 27 = .ok (.getfield 45, 3) := by decide +kernel
theorem dX1_closeBrackets_30 : decode cX1_closeBrackets 30 = .ok (.invokevirtual 77, 3) := by decide +kernel
theorem dX1_closeBrackets_33 : decode cX1_closeBrackets 33 = .ok (.ifCond .ne 5, 3) := by decide +kernel
theorem dX1_closeBrackets_36 : decode cX1_closeBrackets 36 = .ok (.iconst 0, 1) := by decide +kernel
theorem dX1_closeBrackets_37 : decode cX1_closeBrackets 37 = .ok (.ireturn, 1) := by decide +kernel
theorem dX1_closeBrackets_38 : decode cX1_closeBrackets 38 = .ok (.aload_n 0, 1) := by decide +kernel
theorem dX1_closeBrackets_39 : decode cX1_closeBrackets 39 = .ok (.iconst 0, 1) := by decide +kernel
theorem dX1_closeBrackets_40 : decode cX1_closeBrackets 40 = .ok (.putfield 45, 3) := by decide +kernel
theorem dX1_closeBrackets_43 : decode cX1_closeBrackets 43 = .ok (.aload_n 0, 1) := by decide +kernel
theorem dX1_closeBrackets_44 : decode cX1_closeBrackets 44 = .ok (.bipush 41, 2) := by decide +kernel
theorem dX1_closeBrackets_46 : decode cX1_closeBrackets 46 = .ok (.invokevirtual 60, 3) := by decide +kernel
theorem dX1_closeBrackets_49 : decode cX1_closeBrackets 49 = .ok (.ireturn, 1) := by decide +kernel
theorem dX1_readBar_0 : decode cX1_readBar 0 = .ok (.aload_n 0, 1) := by decide +kernel
theorem dX1_readBar_1 : decode cX1_readBar 1 = .ok (.invokevirtual 64, 3) := by decide +kernel
theorem dX1_readBar_4 : decode cX1_readBar 4 = .ok (.bipush 45, 2) := by decide +kernel
theorem dX1_readBar_6 : decode cX1_readBar 6 = .ok (.if_icmp .ne 7, 3) := by decide +kernel
theorem dX1_readBar_9 : decode cX1_readBar 9 = .ok (.iconst 1, 1) := by decide +kernel
theorem dX1_readBar_10 : decode cX1_readBar 10 = .ok (.goto 4, 3) := by decide +kernel
theorem dX1_readBar_13 : decode cX1_readBar 13 = .ok (.iconst 0, 1) := by decide +kernel
theorem dX1_readBar_14 : decode cX1_readBar 14 = .ok (.istore_n 1, 1) := by decide +kernel
theorem dX1_readBar_15 : decode cX1_readBar 15 = .ok (.aload_n 0, 1) := by decide +kernel
theorem dX1_readBar_16 : decode cX1_readBar 16 = .ok (.getfield 23, 3) := by decide +kernel
theorem dX1_readBar_19 : decode cX1_readBar 19 = .ok (.invokevirtual 81, 3) := by decide +kernel
theorem dX1_readBar_22 : decode cX1_readBar 22 = .ok (.ifCond .ne 18, 3) := by decide +kernel
theorem dX1_readBar_25 : decode cX1_readBar 25 = .ok (.iload_n 1, 1) := by decide +kernel
theorem dX1_readBar_26 : decode cX1_readBar 26 = .ok (.ifCond .ne 16, 3) := by decide +kernel
theorem dX1_readBar_29 : decode cX1_readBar 29 = .ok (.aload_n 0, 1) := by decide +kernel
theorem dX1_readBar_30 : decode cX1_readBar 30 = .ok (.aload_n 0, 1) := by decide +kernel
theorem dX1_readBar_31 : decode cX1_readBar 31 = .ok (.invokevirtual 64, 3) := by decide +kernel
theorem dX1_readBar_34 : decode cX1_readBar 34 = .ok (.invokevirtual 82, 3) := by decide +kernel
theorem dX1_readBar_37 : decode cX1_readBar 37 = .ok (.ifCond .ne 5, 3) := by decide +kernel
theorem dX1_readBar_40 : decode cX1_readBar 40 = .ok (.iconst 0, 1) := by decide +kernel
theorem dX1_readBar_41 : decode cX1_readBar 41 = .ok (.ireturn, 1) := by decide +kernel
theorem dX1_readBar_42 : decode cX1_readBar 42 = .ok (.iconst 0, 1) := by decide +kernel
theorem dX1_readBar_43 : decode cX1_readBar 43 = .ok (.istore_n 2, 1) := by decide +kernel
theorem dX1_readBar_44 : decode cX1_readBar 44 = .ok (.iload_n 1, 1) := by decide +kernel
theorem dX1_readBar_45 : decode cX1_readBar 45 = .ok (.ifCond .eq 16, 3) := by decide +kernel
theorem dX1_readBar_48 : decode cX1_readBar 48 = .ok (.aload_n 0, 1) := by decide +kernel
theorem dX1_readBar_49 : decode cX1_readBar 49 = .ok (.dup, 1) := by decide +kernel
theorem dX1_readBar_50 : decode cX1_readBar 50 = .ok (.getfield 42, 3) := by decide +kernel
theorem dX1_readBar_53 : decode cX1_readBar 53 = .ok (.iconst 1, 1) := by decide +kernel
theorem dX1_readBar_54 : decode cX1_readBar 54 = .ok (.iadd, 1) := by decide +kernel
theorem dX1_readBar_55 : decode cX1_readBar 55 = .ok (.putfield 42, 3) := by decide +kernel
theorem dX1_readBar_58 : decode cX1_readBar 58 = .ok (.goto 8, 3) := by decide +kernel
theorem dX1_readBar_61 : decode cX1_readBar 61 = .ok (.aload_n 0, 1) := by decide +kernel
theorem dX1_readBar_62 : decode cX1_readBar 62 = .ok (.invokevirtual 85, 3) := by decide +kernel
theorem dX1_readBar_65 : decode cX1_readBar 65 = .ok (.istore_n 2, 1) := by decide +kernel
theorem dX1_readBar_66 : decode cX1_readBar 66 = .ok (.iconst 0, 1) := by decide +kernel
theorem dX1_readBar_67 : decode cX1_readBar 67 = .ok (.istore_n 3, 1) := by decide +kernel
theorem dX1_readBar_68 : decode cX1_readBar 68 = .ok (.aload_n 0, 1) := by decide +kernel
theorem dX1_readBar_69 : decode cX1_readBar 69 = .ok (.bipush 99, 2) := by decide +kernel
theorem dX1_readBar_71 : decode cX1_readBar 71 = .ok (.invokevirtual 60, 3) := by decide +kernel
theorem dX1_readBar_74 : decode cX1_readBar 74 = .ok (.ifCond .eq 34, 3) := by decide +kernel
theorem dX1_readBar_77 : decode cX1_readBar 77 = .ok (.aload_n 0, 1) := by decide +kernel
theorem dX1_readBar_78 : decode cX1_readBar 78 = .ok (.aload_n 0, 1) := by decide +kernel
theorem dX1_readBar_79 : decode cX1_readBar 79 = .ok (.invokevirtual 64, 3) := by decide +kernel
theorem dX1_readBar_82 : decode cX1_readBar 82 = .ok (.invokevirtual 88, 3) := by decide +kernel
theorem dX1_readBar_85 : decode cX1_readBar 85 = .ok (.ifCond .ne 5, 3) := by decide +kernel
theorem dX1_readBar_88 : decode cX1_readBar 88 = .ok (.iconst 0, 1) := by decide +kernel
theorem dX1_readBar_89 : decode cX1_readBar 89 = .ok (.ireturn, 1) := by decide +kernel
theorem dX1_readBar_90 : decode cX1_readBar 90 = .ok (.aload_n 0, 1) := by decide +kernel
theorem dX1_readBar_91 : decode cX1_readBar 91 = .ok (.invokevirtual 64, 3) := by decide +kernel
theorem dX1_readBar_94 : decode cX1_readBar 94 = .ok (.bipush 48, 2) := by decide +kernel
theorem dX1_readBar_96 : decode cX1_readBar 96 = .ok (.isub, 1) := by decide +kernel
theorem dX1_readBar_97 : decode cX1_readBar 97 = .ok (.istore_n 3, 1) := by decide +kernel
theorem dX1_readBar_98 : decode cX1_readBar 98 = .ok (.aload_n 0, 1) := by decide +kernel
theorem dX1_readBar_99 : decode cX1_readBar 99 = .ok (.dup, 1) := by decide +kernel
theorem dX1_readBar_100 : decode cX1_readBar 100 = .ok (.getfield 42, 3) := by decide +kernel
theorem dX1_readBar_103 : decode cX1_readBar 103 = .ok (.iconst 1, 1) := by decide +kernel
theorem dX1_readBar_104 : decode cX1_readBar 104 = .ok (.iadd, 1) := by decide +kernel
theorem dX1_readBar_105 : decode cX1_readBar 105 = .ok (.putfield 42, 3) := by decide +kernel
theorem dX1_readBar_108 : decode cX1_readBar 108 = .ok (.aload_n 0, 1) := by decide +kernel
theorem dX1_readBar_109 : decode cX1_readBar 109 = .ok (.getfield 23, 3) := by decide +kernel
theorem dX1_readBar_112 : decode cX1_readBar 112 = .ok (.iload_n 2, 1) := by decide +kernel
theorem dX1_readBar_113 : decode cX1_readBar 113 = .ok (.iload_n 3, 1) := by decide +kernel
theorem dX1_readBar_114 : decode cX1_readBar 114 = .ok (.invokevirtual 91, 3) := by decide +kernel
theorem dX1_readBar_117 : decode cX1_readBar 117 = .ok (.iconst 1, 1) := by decide +kernel
theorem dX1_readBar_118 : decode cX1_readBar 118 = .ok (.ireturn, 1) := by decide +kernel
theorem dX1_readShafts_0 : decode cX1_readShafts 0 = .ok (.iconst 0, 1) := by decide +kernel
theorem dX1_readShafts_1 : decode cX1_readShafts 1 = .ok (.istore_n 1, 1) := by decide +kernel
theorem dX1_readShafts_2 : decode cX1_readShafts 2 = .ok (.bipush 48, 2) := by decide +kernel
theorem dX1_readShafts_4 : decode cX1_readShafts 4 = .ok (.istore_n 2, 1) := by decide +kernel
theorem dX1_readShafts_5 : decode cX1_readShafts 5 = .ok (.aload_n 0, 1) := by decide +kernel
theorem dX1_readShafts_6 : decode cX1_readShafts 6 = .ok (.getfield 42, 3) := by decide +kernel
theorem dX1_readShafts_9 : decode cX1_readShafts 9 = .ok (.aload_n 0, 1) := by decide +kernel
theorem dX1_readShafts_10 : decode cX1_readShafts 10 = .ok (.getfield 27, 3) := by decide +kernel
theorem dX1_readShafts_13 : decode cX1_readShafts 13 = .ok (.if_icmp .ge 54, 3) := by decide +kernel
theorem dX1_readShafts_16 : decode cX1_readShafts 16 = .ok (.aload_n 0, 1) := by decide +kernel
theorem dX1_readShafts_17 : decode cX1_readShafts 17 = .ok (.aload_n 0, 1) := by decide +kernel
theorem dX1_readShafts_18 : decode cX1_readShafts 18 = .ok (.invokevirtual 64, 3) := by decide +kernel
theorem dX1_readShafts_21 : decode cX1_readShafts 21 = .ok (.invokevirtual 82, 3) := by decide +kernel
theorem dX1_readShafts_24 : decode cX1_readShafts 24 = .ok (.ifCond .eq 43, 3) := by decide +kernel
theorem dX1_readShafts_27 : decode cX1_readShafts 27 = .ok (.aload_n 0, 1) := by decide +kernel
theorem dX1_readShafts_28 : decode cX1_readShafts 28 = .ok (.invokevirtual 64, 3) := by decide +kernel
theorem dX1_readShafts_31 : decode cX1_readShafts 31 = .ok (.iload_n 2, 1) := by decide +kernel
theorem dX1_readShafts_32 : decode cX1_readShafts 32 = .ok (.if_icmp .lt 35, 3) := by decide +kernel
theorem dX1_readShafts_35 : decode cX1_readShafts 35 = .ok (.iload_n 1, 1) := by decide +kernel
theorem dX1_readShafts_36 : decode cX1_readShafts 36 = .ok (.iconst 1, 1) := by decide +kernel
theorem dX1_readShafts_37 : decode cX1_readShafts 37 = .ok (.aload_n 0, 1) := by decide +kernel
theorem dX1_readShafts_38 : decode cX1_readShafts 38 = .ok (.invokevirtual 64, 3) := by decide +kernel
theorem dX1_readShafts_41 : decode cX1_readShafts 41 = .ok (.bipush 48, 2) := by decide +kernel
theorem dX1_readShafts_43 : decode cX1_readShafts 43 = .ok (.isub, 1) := by decide +kernel
theorem dX1_readShafts_44 : decode cX1_readShafts 44 = .ok (.ishl, 1) := by decide +kernel
theorem dX1_readShafts_45 : decode cX1_readShafts 45 = .ok (.ior, 1) := by decide +kernel
theorem dX1_readShafts_46 : decode cX1_readShafts 46 = .ok (.istore_n 1, 1) := by decide +kernel
theorem dX1_readShafts_47 : decode cX1_readShafts 47 = .ok (.aload_n 0, 1) := by decide +kernel
theorem dX1_readShafts_48 : decode cX1_readShafts 48 = .ok (.invokevirtual 64, 3) := by decide +kernel
theorem dX1_readShafts_51 : decode cX1_readShafts 51 = .ok (.iconst 1, 1) := by decide +kernel
theorem dX1_readShafts_52 : decode cX1_readShafts 52 = .ok (.iadd, 1) := by decide +kernel
theorem dX1_readShafts_53 : decode cX1_readShafts 53 = .ok (.istore_n 2, 1) := by decide +kernel
theorem dX1_readShafts_54 : decode cX1_readShafts 54 = .ok (.aload_n 0, 1) := by decide +kernel
theorem dX1_readShafts_55 : decode cX1_readShafts 55 = .ok (.dup, 1) := by decide +kernel
theorem dX1_readShafts_56 : decode cX1_readShafts 56 = .ok (.getfield 42, 3) := by decide +kernel
theorem dX1_readShafts_59 : decode cX1_readShafts 59 = .ok (.iconst 1, 1) := by decide +kernel
theorem dX1_readShafts_60 : decode cX1_readShafts 60 = .ok (.iadd, 1) := by decide +kernel
theorem dX1_readShafts_61 : decode cX1_readShafts 61 = .ok (.putfield 42, 3) := by decide +kernel
theorem dX1_readShafts_64 : decode cX1_readShafts 64 = .ok (.goto (-59), 3) := by decide +kernel
theorem dX1_readShafts_67 : decode cX1_readShafts 67 = .ok (.iload_n 1, 1) := by decide +kernel
theorem dX1_readShafts_68 : decode cX1_readShafts 68 = .ok (.ireturn, 1) := by decide +kernel
theorem dX1_isNumberAhead_0 : decode cX1_isNumberAhead 0 = .ok (.aload_n 0, 1) := by decide +kernel
theorem dX1_isNumberAhead_1 : decode cX1_isNumberAhead 1 = .ok (.aload_n 0, 1) := by decide +kernel
theorem dX1_isNumberAhead_2 : decode cX1_isNumberAhead 2 = .ok (.invokevirtual 64, 3) := by decide +kernel
theorem dX1_isNumberAhead_5 : decode cX1_isNumberAhead 5 = .ok (.invokevirtual 88, 3) := by decide +kernel
theorem dX1_isNumberAhead_8 : decode cX1_isNumberAhead 8 = .ok (.ifCond .eq 26, 3) := by decide +kernel
theorem dX1_isNumberAhead_11 : decode cX1_isNumberAhead 11 = .ok (.aload_n 0, 1) := by decide +kernel
theorem dX1_isNumberAhead_12 : decode cX1_isNumberAhead 12 = .ok (.aload_n 0, 1) := by decide +kernel
theorem dX1_isNumberAhead_13 : decode cX1_isNumberAhead 13 = .ok (.aload_n 0, 1) := by decide +kernel
theorem dX1_isNumberAhead_14 : decode cX1_isNumberAhead 14 = .ok (.getfield 42, 3) := by decide +kernel
theorem dX1_isNumberAhead_17 : decode cX1_isNumberAhead 17 = .ok (.iconst 1, 1) := by decide +kernel
theorem dX1_isNumberAhead_18 : decode cX1_isNumberAhead 18 = .ok (.iadd, 1) := by decide +kernel
theorem dX1_isNumberAhead_19 : decode cX1_isNumberAhead 19 = .ok (.invokevirtual 94, 3) := by decide +kernel
theorem dX1_isNumberAhead_22 : decode cX1_isNumberAhead 22 = .ok (.invokevirtual 98, 3) := by decide +kernel
theorem dX1_isNumberAhead_25 : decode cX1_isNumberAhead 25 = .ok (.bipush 120, 2) := by decide +kernel
theorem dX1_isNumberAhead_27 : decode cX1_isNumberAhead 27 = .ok (.if_icmp .ne 7, 3) := by decide +kernel
theorem dX1_isNumberAhead_30 : decode cX1_isNumberAhead 30 = .ok (.iconst 1, 1) := by decide +kernel
theorem dX1_isNumberAhead_31 : decode cX1_isNumberAhead 31 = .ok (.goto 4, 3) := by decide +kernel
theorem dX1_isNumberAhead_34 : decode cX1_isNumberAhead 34 = .ok (.iconst 0, 1) := by decide +kernel
theorem dX1_isNumberAhead_35 : decode cX1_isNumberAhead 35 = .ok (.ireturn, 1) := by decide +kernel
theorem dX1_isDigit_0 : decode cX1_isDigit 0 = .ok (.iload_n 1, 1) := by decide +kernel
theorem dX1_isDigit_1 : decode cX1_isDigit 1 = .ok (.bipush 48, 2) := by decide +kernel
theorem dX1_isDigit_3 : decode cX1_isDigit 3 = .ok (.bipush 57, 2) := by decide +kernel
theorem dX1_isDigit_5 : decode cX1_isDigit 5 = .ok (.invokestatic 101, 3) := by decide +kernel
theorem dX1_isDigit_8 : decode cX1_isDigit 8 = .ok (.ireturn, 1) := by decide +kernel
theorem dX1_isShaft_0 : decode cX1_isShaft 0 = .ok (.iload_n 1, 1) := by decide +kernel
theorem dX1_isShaft_1 : decode cX1_isShaft 1 = .ok (.bipush 48, 2) := by decide +kernel
theorem dX1_isShaft_3 : decode cX1_isShaft 3 = .ok (.bipush 48, 2) := by decide +kernel
theorem dX1_isShaft_5 : decode cX1_isShaft 5 = .ok (.aload_n 0, 1) := by decide +kernel
theorem dX1_isShaft_6 : decode cX1_isShaft 6 = .ok (.getfield 39, 3) := by decide +kernel
theorem dX1_isShaft_9 : decode cX1_isShaft 9 = .ok (.iadd, 1) := by decide +kernel
theorem dX1_isShaft_10 : decode cX1_isShaft 10 = .ok (.iconst 1, 1) := by decide +kernel
theorem dX1_isShaft_11 : decode cX1_isShaft 11 = .ok (.isub, 1) := by decide +kernel
theorem dX1_isShaft_12 : decode cX1_isShaft 12 = .ok (.invokestatic 101, 3) := by decide +kernel
theorem dX1_isShaft_15 : decode cX1_isShaft 15 = .ok (.ireturn, 1) := by decide +kernel
theorem dX1_peek_0 : decode cX1_peek 0 = .ok (.aload_n 0, 1) := by decide +kernel
theorem dX1_peek_1 : decode cX1_peek 1 = .ok (.aload_n 0, 1) := by decide +kernel
theorem dX1_peek_2 : decode cX1_peek 2 = .ok (.aload_n 0, 1) := by decide +kernel
theorem dX1_peek_3 : decode cX1_peek 3 = .ok (.getfield 42, 3) := by decide +kernel
theorem dX1_peek_6 : decode cX1_peek 6 = .ok (.invokevirtual 94, 3) := by decide +kernel
theorem dX1_peek_9 : decode cX1_peek 9 = .ok (.putfield 42, 3) := by decide +kernel
theorem dX1_peek_12 : decode cX1_peek 12 = .ok (.aload_n 0, 1) := by decide +kernel
theorem dX1_peek_13 : decode cX1_peek 13 = .ok (.aload_n 0, 1) := by decide +kernel
theorem dX1_peek_14 : decode cX1_peek 14 = .ok (.getfield 42, 3) := by decide +kernel
theorem dX1_peek_17 : decode cX1_peek 17 = .ok (.invokevirtual 98, 3) := by decide +kernel
theorem dX1_peek_20 : decode cX1_peek 20 = .ok (.ireturn, 1) := by decide +kernel
theorem dX1_take_0 : decode cX1_take 0 = .ok (.aload_n 0, 1) := by decide +kernel
theorem dX1_take_1 : decode cX1_take 1 = .ok (.invokevirtual 64, 3) := by decide +kernel
theorem dX1_take_4 : decode cX1_take 4 = .ok (.iload_n 1, 1) := by decide +kernel
theorem dX1_take_5 : decode cX1_take 5 = .ok (.if_icmp .eq 5, 3) := by decide +kernel
theorem dX1_take_8 : decode cX1_take 8 = .ok (.iconst 0, 1) := by decide +kernel
theorem dX1_take_9 : decode cX1_take 9 = .ok (.ireturn, 1) := by decide +kernel
theorem dX1_take_10 : decode cX1_take 10 = .ok (.aload_n 0, 1) := by decide +kernel
theorem dX1_take_11 : decode cX1_take 11 = .ok (.dup, 1) := by decide +kernel
theorem dX1_take_12 : decode cX1_take 12 = .ok (.getfield 42, 3) := by decide +kernel
theorem dX1_take_15 : decode cX1_take 15 = .ok (.iconst 1, 1) := by decide +kernel
theorem dX1_take_16 : decode cX1_take 16 = .ok (.iadd, 1) := by decide +kernel
theorem dX1_take_17 : decode cX1_take 17 = .ok (.putfield 42, 3) := by decide +kernel
theorem dX1_take_20 : decode cX1_take 20 = .ok (.iconst 1, 1) := by decide +kernel
theorem dX1_take_21 : decode cX1_take 21 = .ok (.ireturn, 1) := by decide +kernel
theorem dX1_placeBehindSpaces_0 : decode cX1_placeBehindSpaces 0 = .ok (.iload_n 1, 1) := by decide +kernel
theorem dX1_placeBehindSpaces_1 : decode cX1_placeBehindSpaces 1 = .ok (.istore_n 2, 1) := by decide +kernel
theorem dX1_placeBehindSpaces_2 : decode cX1_placeBehindSpaces 2 = .ok (.iload_n 2, 1) := by decide +kernel
theorem dX1_placeBehindSpaces_3 : decode cX1_placeBehindSpaces 3 = .ok (.aload_n 0, 1) := by decide +kernel
theorem dX1_placeBehindSpaces_4 : decode cX1_placeBehindSpaces 4 = .ok (.getfield 27, 3) := by decide +kernel
theorem dX1_placeBehindSpaces_7 : decode cX1_placeBehindSpaces 7 = .ok (.if_icmp .ge 22, 3) := by decide +kernel
theorem dX1_placeBehindSpaces_10 : decode cX1_placeBehindSpaces 10 = .ok (.aload_n 0, 1) := by decide +kernel
theorem dX1_placeBehindSpaces_11 : decode cX1_placeBehindSpaces 11 = .ok (.getfield 14, 3) := by decide +kernel
theorem dX1_placeBehindSpaces_14 : decode cX1_placeBehindSpaces 14 = .ok (.iload_n 2, 1) := by decide +kernel
theorem dX1_placeBehindSpaces_15 : decode cX1_placeBehindSpaces 15 = .ok (.invokevirtual 105, 3) := by decide +kernel
theorem dX1_placeBehindSpaces_18 : decode cX1_placeBehindSpaces 18 = .ok (.bipush 32, 2) := by decide +kernel
theorem dX1_placeBehindSpaces_20 : decode cX1_placeBehindSpaces 20 = .ok (.if_icmp .ne 9, 3) := by decide +kernel
theorem dX1_placeBehindSpaces_23 : decode cX1_placeBehindSpaces 23 = .ok (.iinc 2 1, 3) := by decide +kernel
theorem dX1_placeBehindSpaces_26 : decode cX1_placeBehindSpaces 26 = .ok (.goto (-24), 3) := by decide +kernel
theorem dX1_placeBehindSpaces_29 : decode cX1_placeBehindSpaces 29 = .ok (.iload_n 2, 1) := by decide +kernel
theorem dX1_placeBehindSpaces_30 : decode cX1_placeBehindSpaces 30 = .ok (.ireturn, 1) := by decide +kernel
theorem dX1_characterAt_0 : decode cX1_characterAt 0 = .ok (.iload_n 1, 1) := by decide +kernel
theorem dX1_characterAt_1 : decode cX1_characterAt 1 = .ok (.aload_n 0, 1) := by decide +kernel
theorem dX1_characterAt_2 : decode cX1_characterAt 2 = .ok (.getfield 27, 3) := by decide +kernel
theorem dX1_characterAt_5 : decode cX1_characterAt 5 = .ok (.if_icmp .ge 14, 3) := by decide +kernel
theorem dX1_characterAt_8 : decode cX1_characterAt 8 = .ok (.aload_n 0, 1) := by decide +kernel
theorem dX1_characterAt_9 : decode cX1_characterAt 9 = .ok (.getfield 14, 3) := by decide +kernel
theorem dX1_characterAt_12 : decode cX1_characterAt 12 = .ok (.iload_n 1, 1) := by decide +kernel
theorem dX1_characterAt_13 : decode cX1_characterAt 13 = .ok (.invokevirtual 105, 3) := by decide +kernel
theorem dX1_characterAt_16 : decode cX1_characterAt 16 = .ok (.goto 4, 3) := by decide +kernel
theorem dX1_characterAt_19 : decode cX1_characterAt 19 = .ok (.iconst (-1), 1) := by decide +kernel
theorem dX1_characterAt_20 : decode cX1_characterAt 20 = .ok (.ireturn, 1) := by decide +kernel
theorem dX2_init_0 : decode cX2_init 0 = .ok (.aload_n 0, 1) := by decide +kernel
theorem dX2_init_1 : decode cX2_init 1 = .ok (.invokespecial 3, 3) := by decide +kernel
theorem dX2_init_4 : decode cX2_init 4 = .ok (.aload_n 0, 1) := by decide +kernel
theorem dX2_init_5 : decode cX2_init 5 = .ok (.new 9, 3) := by decide +kernel
theorem dX2_init_8 : decode cX2_init 8 = .ok (.dup, 1) := by decide +kernel
theorem dX2_init_9 : decode cX2_init 9 = .ok (.bipush 64, 2) := by decide +kernel
theorem dX2_init_11 : decode cX2_init 11 = .ok (.invokespecial 11, 3) := by decide +kernel
theorem dX2_init_14 : decode cX2_init 14 = .ok (.putfield 14, 3) := by decide +kernel
theorem dX2_init_17 : decode cX2_init 17 = .ok (.aload_n 0, 1) := by decide +kernel
theorem dX2_init_18 : decode cX2_init 18 = .ok (.new 9, 3) := by decide +kernel
theorem dX2_init_21 : decode cX2_init 21 = .ok (.dup, 1) := by decide +kernel
theorem dX2_init_22 : decode cX2_init 22 = .ok (.bipush 64, 2) := by decide +kernel
theorem dX2_init_24 : decode cX2_init 24 = .ok (.invokespecial 11, 3) := by decide +kernel
theorem dX2_init_27 : decode cX2_init 27 = .ok (.putfield 20, 3) := by decide +kernel
theorem dX2_init_30 : decode cX2_init 30 = .ok (.aload_n 0, 1) := by decide +kernel
theorem dX2_init_31 : decode cX2_init 31 = .ok (.new 9, 3) := by decide +kernel
theorem dX2_init_34 : decode cX2_init 34 = .ok (.dup, 1) := by decide +kernel
theorem dX2_init_35 : decode cX2_init 35 = .ok (.bipush 64, 2) := by decide +kernel
theorem dX2_init_37 : decode cX2_init 37 = .ok (.invokespecial 11, 3) := by decide +kernel
theorem dX2_init_40 : decode cX2_init 40 = .ok (.putfield 23, 3) := by decide +kernel
theorem dX2_init_43 : decode cX2_init 43 = .ok (.aload_n 0, 1) := by decide +kernel
theorem dX2_init_44 : decode cX2_init 44 = .ok (.new 9, 3) := by decide +kernel
theorem dX2_init_47 : decode cX2_init 47 = .ok (.dup, 1) := by decide +kernel
theorem dX2_init_48 : decode cX2_init 48 = .ok (.bipush 64, 2) := by decide +kernel
theorem dX2_init_50 : decode cX2_init 50 = .ok (.invokespecial 11, 3) := by decide +kernel
theorem dX2_init_53 : decode cX2_init 53 = .ok (.putfield 26, 3) := by decide +kernel
theorem dX2_init_56 : decode cX2_init 56 = .ok (.aload_n 0, 1) := by decide +kernel
theorem dX2_init_57 : decode cX2_init 57 = .ok (.new 9, 3) := by decide +kernel
theorem dX2_init_60 : decode cX2_init 60 = .ok (.dup, 1) := by decide +kernel
theorem dX2_init_61 : decode cX2_init 61 = .ok (.bipush 64, 2) := by decide +kernel
theorem dX2_init_63 : decode cX2_init 63 = .ok (.invokespecial 11, 3) := by decide +kernel
theorem dX2_init_66 : decode cX2_init 66 = .ok (.putfield 29, 3) := by decide +kernel
theorem dX2_init_69 : decode cX2_init 69 = .ok (.aload_n 0, 1) := by decide +kernel
theorem dX2_init_70 : decode cX2_init 70 = .ok (.new 9, 3) := by decide +kernel
theorem dX2_init_73 : decode cX2_init 73 = .ok (.dup, 1) := by decide +kernel
theorem dX2_init_74 : decode cX2_init 74 = .ok (.bipush 64, 2) := by decide +kernel
theorem dX2_init_76 : decode cX2_init 76 = .ok (.invokespecial 11, 3) := by decide +kernel
theorem dX2_init_79 : decode cX2_init 79 = .ok (.putfield 32, 3) := by decide +kernel
theorem dX2_init_82 : decode cX2_init 82 = .ok (.return_, 1) := by decide +kernel
theorem dX2_copyFrom_0 : decode cX2_copyFrom 0 = .ok (.aload_n 0, 1) := by decide +kernel
theorem dX2_copyFrom_1 : decode cX2_copyFrom 1 = .ok (.aload_n 1, 1) := by decide +kernel
theorem dX2_copyFrom_2 : decode cX2_copyFrom 2 = .ok (.getfield 35, 3) := by decide +kernel
theorem dX2_copyFrom_5 : decode cX2_copyFrom 5 = .ok (.putfield 35, 3) := by decide +kernel
theorem dX2_copyFrom_8 : decode cX2_copyFrom 8 = .ok (.aload_n 0, 1) := by decide +kernel
theorem dX2_copyFrom_9 : decode cX2_copyFrom 9 = .ok (.getfield 14, 3) := by decide +kernel
theorem dX2_copyFrom_12 : decode cX2_copyFrom 12 = .ok (.aload_n 1, 1) := by decide +kernel
theorem dX2_copyFrom_13 : decode cX2_copyFrom 13 = .ok (.getfield 14, 3) := by decide +kernel
theorem dX2_copyFrom_16 : decode cX2_copyFrom 16 = .ok (.invokevirtual 39, 3) := by decide +kernel
theorem dX2_copyFrom_19 : decode cX2_copyFrom 19 = .ok (.aload_n 0, 1) := by decide +kernel
theorem dX2_copyFrom_20 : decode cX2_copyFrom 20 = .ok (.getfield 20, 3) := by decide +kernel
theorem dX2_copyFrom_23 : decode cX2_copyFrom 23 = .ok (.aload_n 1, 1) := by decide +kernel
theorem dX2_copyFrom_24 : decode cX2_copyFrom 24 = .ok (.getfield 20, 3) := by decide +kernel
theorem dX2_copyFrom_27 : decode cX2_copyFrom 27 = .ok (.invokevirtual 39, 3) := by decide +kernel
theorem dX2_copyFrom_30 : decode cX2_copyFrom 30 = .ok (.aload_n 0, 1) := by decide +kernel
theorem dX2_copyFrom_31 : decode cX2_copyFrom 31 = .ok (.getfield 23, 3) := by decide +kernel
theorem dX2_copyFrom_34 : decode cX2_copyFrom 34 = .ok (.aload_n 1, 1) := by decide +kernel
theorem dX2_copyFrom_35 : decode cX2_copyFrom 35 = .ok (.getfield 23, 3) := by decide +kernel
theorem dX2_copyFrom_38 : decode cX2_copyFrom 38 = .ok (.invokevirtual 39, 3) := by decide +kernel
theorem dX2_copyFrom_41 : decode cX2_copyFrom 41 = .ok (.aload_n 0, 1) := by decide +kernel
theorem dX2_copyFrom_42 : decode cX2_copyFrom 42 = .ok (.getfield 26, 3) := by decide +kernel
theorem dX2_copyFrom_45 : decode cX2_copyFrom 45 = .ok (.aload_n 1, 1) := by decide +kernel
theorem dX2_copyFrom_46 : decode cX2_copyFrom 46 = .ok (.getfield 26, 3) := by decide +kernel
theorem dX2_copyFrom_49 : decode cX2_copyFrom 49 = .ok (.invokevirtual 39, 3) := by decide +kernel
theorem dX2_copyFrom_52 : decode cX2_copyFrom 52 = .ok (.aload_n 0, 1) := by decide +kernel
theorem dX2_copyFrom_53 : decode cX2_copyFrom 53 = .ok (.getfield 29, 3) := by decide +kernel
theorem dX2_copyFrom_56 : decode cX2_copyFrom 56 = .ok (.aload_n 1, 1) := by decide +kernel
theorem dX2_copyFrom_57 : decode cX2_copyFrom 57 = .ok (.getfield 29, 3) := by decide +kernel
theorem dX2_copyFrom_60 : decode cX2_copyFrom 60 = .ok (.invokevirtual 39, 3) := by decide +kernel
theorem dX2_copyFrom_63 : decode cX2_copyFrom 63 = .ok (.aload_n 0, 1) := by decide +kernel
theorem dX2_copyFrom_64 : decode cX2_copyFrom 64 = .ok (.getfield 32, 3) := by decide +kernel
theorem dX2_copyFrom_67 : decode cX2_copyFrom 67 = .ok (.aload_n 1, 1) := by decide +kernel
theorem dX2_copyFrom_68 : decode cX2_copyFrom 68 = .ok (.getfield 32, 3) := by decide +kernel
theorem dX2_copyFrom_71 : decode cX2_copyFrom 71 = .ok (.invokevirtual 39, 3) := by decide +kernel
theorem dX2_copyFrom_74 : decode cX2_copyFrom 74 = .ok (.return_, 1) := by decide +kernel
theorem dX2_hasRow_0 : decode cX2_hasRow 0 = .ok (.iload_n 1, 1) := by decide +kernel
theorem dX2_hasRow_1 : decode cX2_hasRow 1 = .ok (.iconst 0, 1) := by decide +kernel
theorem dX2_hasRow_2 : decode cX2_hasRow 2 = .ok (.aload_n 0, 1) := by decide +kernel
theorem dX2_hasRow_3 : decode cX2_hasRow 3 = .ok (.getfield 35, 3) := by decide +kernel
theorem dX2_hasRow_6 : decode cX2_hasRow 6 = .ok (.iconst 1, 1) := by decide +kernel
theorem dX2_hasRow_7 : decode cX2_hasRow 7 = .ok (.isub, 1) := by decide +kernel
theorem dX2_hasRow_8 : decode cX2_hasRow 8 = .ok (.invokestatic 43, 3) := by decide +kernel
theorem dX2_hasRow_11 : decode cX2_hasRow 11 = .ok (.ireturn, 1) := by decide +kernel
theorem dX2_isFull_0 : decode cX2_isFull 0 = .ok (.aload_n 0, 1) := by decide +kernel
theorem dX2_isFull_1 : decode cX2_isFull 1 = .ok (.getfield 35, 3) := by decide +kernel
theorem dX2_isFull_4 : decode cX2_isFull 4 = .ok (.bipush 64, 2) := by decide +kernel
theorem dX2_isFull_6 : decode cX2_isFull 6 = .ok (.if_icmp .lt 7, 3) := by decide +kernel
theorem dX2_isFull_9 : decode cX2_isFull 9 = .ok (.iconst 1, 1) := by decide +kernel
theorem dX2_isFull_10 : decode cX2_isFull 10 = .ok (.goto 4, 3) := by decide +kernel
theorem dX2_isFull_13 : decode cX2_isFull 13 = .ok (.iconst 0, 1) := by decide +kernel
theorem dX2_isFull_14 : decode cX2_isFull 14 = .ok (.ireturn, 1) := by decide +kernel
theorem dX2_isStanding_0 : decode cX2_isStanding 0 = .ok (.aload_n 0, 1) := by decide +kernel
theorem dX2_isStanding_1 : decode cX2_isStanding 1 = .ok (.getfield 35, 3) := by decide +kernel
theorem dX2_isStanding_4 : decode cX2_isStanding 4 = .ok (.ifCond .le 23, 3) := by decide +kernel
theorem dX2_isStanding_7 : decode cX2_isStanding 7 = .ok (.aload_n 0, 1) := by decide +kernel
theorem dX2_isStanding_8 : decode cX2_isStanding 8 = .ok (.getfield 29, 3) := by decide +kernel
theorem dX2_isStanding_11 : decode cX2_isStanding 11 = .ok (.aload_n 0, 1) := by decide +kernel
theorem dX2_isStanding_12 : decode cX2_isStanding 12 = .ok (.getfield 35, 3) := by decide +kernel
theorem dX2_isStanding_15 : decode cX2_isStanding 15 = .ok (.iconst 1, 1) := by decide +kernel
theorem dX2_isStanding_16 : decode cX2_isStanding 16 = .ok (.isub, 1) := by decide +kernel
theorem dX2_isStanding_17 : decode cX2_isStanding 17 = .ok (.invokevirtual 47, 3) := by decide +kernel
theorem dX2_isStanding_20 : decode cX2_isStanding 20 = .ok (.ifCond .eq 7, 3) := by decide +kernel
theorem dX2_isStanding_23 : decode cX2_isStanding 23 = .ok (.iconst 1, 1) := by decide +kernel
theorem dX2_isStanding_24 : decode cX2_isStanding 24 = .ok (.goto 4, 3) := by decide +kernel
theorem dX2_isStanding_27 : decode cX2_isStanding 27 = .ok (.iconst 0, 1) := by decide +kernel
theorem dX2_isStanding_28 : decode cX2_isStanding 28 = .ok (.ireturn, 1) := by decide +kernel
theorem dX2_wrongEnds_0 : decode cX2_wrongEnds 0 = .ok (.aload_n 0, 1) := by decide +kernel
theorem dX2_wrongEnds_1 : decode cX2_wrongEnds 1 = .ok (.getfield 29, 3) := by decide +kernel
theorem dX2_wrongEnds_4 : decode cX2_wrongEnds 4 = .ok (.iload_n 1, 1) := by decide +kernel
theorem dX2_wrongEnds_5 : decode cX2_wrongEnds 5 = .ok (.invokevirtual 47, 3) := by decide +kernel
theorem dX2_wrongEnds_8 : decode cX2_wrongEnds 8 = .ok (.aload_n 0, 1) := by decide +kernel
theorem dX2_wrongEnds_9 : decode cX2_wrongEnds 9 = .ok (.getfield 26, 3) := by decide +kernel
theorem dX2_wrongEnds_12 : decode cX2_wrongEnds 12 = .ok (.iload_n 1, 1) := by decide +kernel
theorem dX2_wrongEnds_13 : decode cX2_wrongEnds 13 = .ok (.invokevirtual 47, 3) := by decide +kernel
theorem dX2_wrongEnds_16 : decode cX2_wrongEnds 16 = .ok (.aload_n 0, 1) := by decide +kernel
theorem dX2_wrongEnds_17 : decode cX2_wrongEnds 17 = .ok (.getfield 32, 3) := by decide +kernel
theorem dX2_wrongEnds_20 : decode cX2_wrongEnds 20 = .ok (.iload_n 1, 1) := by decide +kernel
theorem dX2_wrongEnds_21 : decode cX2_wrongEnds 21 = .ok (.invokevirtual 47, 3) := by decide +kernel
theorem dX2_wrongEnds_24 : decode cX2_wrongEnds 24 = .ok (.ixor, 1) := by decide +kernel
theorem dX2_wrongEnds_25 : decode cX2_wrongEnds 25 = .ok (.ior, 1) := by decide +kernel
theorem dX2_wrongEnds_26 : decode cX2_wrongEnds 26 = .ok (.ireturn, 1) := by decide +kernel
theorem dX2_wrongPlaces_0 : decode cX2_wrongPlaces 0 = .ok (.iconst 0, 1) := by decide +kernel
theorem dX2_wrongPlaces_1 : decode cX2_wrongPlaces 1 = .ok (.istore_n 1, 1) := by decide +kernel
theorem dX2_wrongPlaces_2 : decode cX2_wrongPlaces 2 = .ok (.iconst 0, 1) := by decide +kernel
theorem dX2_wrongPlaces_3 : decode cX2_wrongPlaces 3 = .ok (.istore_n 2, 1) := by decide +kernel
theorem dX2_wrongPlaces_4 : decode cX2_wrongPlaces 4 = .ok (.iload_n 2, 1) := by decide +kernel
theorem dX2_wrongPlaces_5 : decode cX2_wrongPlaces 5 = .ok (.aload_n 0, 1) := by decide +kernel
theorem dX2_wrongPlaces_6 : decode cX2_wrongPlaces 6 = .ok (.getfield 35, 3) := by decide +kernel
theorem dX2_wrongPlaces_9 : decode cX2_wrongPlaces 9 = .ok (.if_icmp .ge 20, 3) := by decide +kernel
theorem dX2_wrongPlaces_12 : decode cX2_wrongPlaces 12 = .ok (.iload_n 1, 1) := by decide +kernel
theorem dX2_wrongPlaces_13 : decode cX2_wrongPlaces 13 = .ok (.aload_n 0, 1) := by decide +kernel
theorem dX2_wrongPlaces_14 : decode cX2_wrongPlaces 14 = .ok (.iload_n 2, 1) := by decide +kernel
theorem dX2_wrongPlaces_15 : decode cX2_wrongPlaces 15 = .ok (.invokevirtual 51, 3) := by decide +kernel
theorem dX2_wrongPlaces_18 : decode cX2_wrongPlaces 18 = .ok (.invokestatic 54, 3) := by decide +kernel
theorem dX2_wrongPlaces_21 : decode cX2_wrongPlaces 21 = .ok (.iadd, 1) := by decide +kernel
theorem dX2_wrongPlaces_22 : decode cX2_wrongPlaces 22 = .ok (.istore_n 1, 1) := by decide +kernel
theorem dX2_wrongPlaces_23 : decode cX2_wrongPlaces 23 = .ok (.iinc 2 1, 3) := by decide +kernel
theorem dX2_wrongPlaces_26 : decode cX2_wrongPlaces 26 = .ok (.goto (-22), 3) := by decide +kernel
theorem dX2_wrongPlaces_29 : decode cX2_wrongPlaces 29 = .ok (.iload_n 1, 1) := by decide +kernel
theorem dX2_wrongPlaces_30 : decode cX2_wrongPlaces 30 = .ok (.ireturn, 1) := by decide +kernel
theorem dX2_rowsAbove_0 : decode cX2_rowsAbove 0 = .ok (.iconst 0, 1) := by decide +kernel
theorem dX2_rowsAbove_1 : decode cX2_rowsAbove 1 = .ok (.istore_n 2, 1) := by decide +kernel
theorem dX2_rowsAbove_2 : decode cX2_rowsAbove 2 = .ok (.iconst 0, 1) := by decide +kernel
theorem dX2_rowsAbove_3 : decode cX2_rowsAbove 3 = .ok (.istore_n 3, 1) := by decide +kernel
theorem dX2_rowsAbove_4 : decode cX2_rowsAbove 4 = .ok (.iload_n 3, 1) := by decide +kernel
theorem dX2_rowsAbove_5 : decode cX2_rowsAbove 5 = .ok (.aload_n 0, 1) := by decide +kernel
theorem dX2_rowsAbove_6 : decode cX2_rowsAbove 6 = .ok (.getfield 35, 3) := by decide +kernel
theorem dX2_rowsAbove_9 : decode cX2_rowsAbove 9 = .ok (.if_icmp .ge 24, 3) := by decide +kernel
theorem dX2_rowsAbove_12 : decode cX2_rowsAbove 12 = .ok (.iload_n 2, 1) := by decide +kernel
theorem dX2_rowsAbove_13 : decode cX2_rowsAbove 13 = .ok (.aload_n 0, 1) := by decide +kernel
theorem dX2_rowsAbove_14 : decode cX2_rowsAbove 14 = .ok (.getfield 26, 3) := by decide +kernel
theorem dX2_rowsAbove_17 : decode cX2_rowsAbove 17 = .ok (.iload_n 3, 1) := by decide +kernel
theorem dX2_rowsAbove_18 : decode cX2_rowsAbove 18 = .ok (.invokevirtual 47, 3) := by decide +kernel
theorem dX2_rowsAbove_21 : decode cX2_rowsAbove 21 = .ok (.iload_n 1, 1) := by decide +kernel
theorem dX2_rowsAbove_22 : decode cX2_rowsAbove 22 = .ok (.invokestatic 59, 3) := by decide +kernel
theorem dX2_rowsAbove_25 : decode cX2_rowsAbove 25 = .ok (.iadd, 1) := by decide +kernel
theorem dX2_rowsAbove_26 : decode cX2_rowsAbove 26 = .ok (.istore_n 2, 1) := by decide +kernel
theorem dX2_rowsAbove_27 : decode cX2_rowsAbove 27 = .ok (.iinc 3 1, 3) := by decide +kernel
theorem dX2_rowsAbove_30 : decode cX2_rowsAbove 30 = .ok (.goto (-26), 3) := by decide +kernel
theorem dX2_rowsAbove_33 : decode cX2_rowsAbove 33 = .ok (.iload_n 2, 1) := by decide +kernel
theorem dX2_rowsAbove_34 : decode cX2_rowsAbove 34 = .ok (.ireturn, 1) := by decide +kernel
theorem dX2_rowsWrong_0 : decode cX2_rowsWrong 0 = .ok (.iconst 0, 1) := by decide +kernel
theorem dX2_rowsWrong_1 : decode cX2_rowsWrong 1 = .ok (.istore_n 2, 1) := by decide +kernel
theorem dX2_rowsWrong_2 : decode cX2_rowsWrong 2 = .ok (.iconst 0, 1) := by decide +kernel
theorem dX2_rowsWrong_3 : decode cX2_rowsWrong 3 = .ok (.istore_n 3, 1) := by decide +kernel
theorem dX2_rowsWrong_4 : decode cX2_rowsWrong 4 = .ok (.iload_n 3, 1) := by decide +kernel
theorem dX2_rowsWrong_5 : decode cX2_rowsWrong 5 = .ok (.aload_n 0, 1) := by decide +kernel
theorem dX2_rowsWrong_6 : decode cX2_rowsWrong 6 = .ok (.getfield 35, 3) := by decide +kernel
theorem dX2_rowsWrong_9 : decode cX2_rowsWrong 9 = .ok (.if_icmp .ge 21, 3) := by decide +kernel
theorem dX2_rowsWrong_12 : decode cX2_rowsWrong 12 = .ok (.iload_n 2, 1) := by decide +kernel
theorem dX2_rowsWrong_13 : decode cX2_rowsWrong 13 = .ok (.aload_n 0, 1) := by decide +kernel
theorem dX2_rowsWrong_14 : decode cX2_rowsWrong 14 = .ok (.iload_n 3, 1) := by decide +kernel
theorem dX2_rowsWrong_15 : decode cX2_rowsWrong 15 = .ok (.invokevirtual 51, 3) := by decide +kernel
theorem dX2_rowsWrong_18 : decode cX2_rowsWrong 18 = .ok (.iload_n 1, 1) := by decide +kernel
theorem dX2_rowsWrong_19 : decode cX2_rowsWrong 19 = .ok (.invokestatic 59, 3) := by decide +kernel
theorem dX2_rowsWrong_22 : decode cX2_rowsWrong 22 = .ok (.iadd, 1) := by decide +kernel
theorem dX2_rowsWrong_23 : decode cX2_rowsWrong 23 = .ok (.istore_n 2, 1) := by decide +kernel
theorem dX2_rowsWrong_24 : decode cX2_rowsWrong 24 = .ok (.iinc 3 1, 3) := by decide +kernel
theorem dX2_rowsWrong_27 : decode cX2_rowsWrong 27 = .ok (.goto (-23), 3) := by decide +kernel
theorem dX2_rowsWrong_30 : decode cX2_rowsWrong 30 = .ok (.iload_n 2, 1) := by decide +kernel
theorem dX2_rowsWrong_31 : decode cX2_rowsWrong 31 = .ok (.ireturn, 1) := by decide +kernel
theorem dX2_sideAt_0 : decode cX2_sideAt 0 = .ok (.aload_n 0, 1) := by decide +kernel
theorem dX2_sideAt_1 : decode cX2_sideAt 1 = .ok (.getfield 29, 3) := by decide +kernel
theorem dX2_sideAt_4 : decode cX2_sideAt 4 = .ok (.iload_n 1, 1) := by decide +kernel
theorem dX2_sideAt_5 : decode cX2_sideAt 5 = .ok (.invokevirtual 47, 3) := by decide +kernel
theorem dX2_sideAt_8 : decode cX2_sideAt 8 = .ok (.iload_n 2, 1) := by decide +kernel
theorem dX2_sideAt_9 : decode cX2_sideAt 9 = .ok (.invokestatic 59, 3) := by decide +kernel
theorem dX2_sideAt_12 : decode cX2_sideAt 12 = .ok (.iconst 1, 1) := by decide +kernel
theorem dX2_sideAt_13 : decode cX2_sideAt 13 = .ok (.if_icmp .ne 7, 3) := by decide +kernel
theorem dX2_sideAt_16 : decode cX2_sideAt 16 = .ok (.iconst (-1), 1) := by decide +kernel
theorem dX2_sideAt_17 : decode cX2_sideAt 17 = .ok (.goto 15, 3) := by decide +kernel
theorem dX2_sideAt_20 : decode cX2_sideAt 20 = .ok (.aload_n 0, 1) := by decide +kernel
theorem dX2_sideAt_21 : decode cX2_sideAt 21 = .ok (.getfield 26, 3) := by decide +kernel
theorem dX2_sideAt_24 : decode cX2_sideAt 24 = .ok (.iload_n 1, 1) := by decide +kernel
theorem dX2_sideAt_25 : decode cX2_sideAt 25 = .ok (.invokevirtual 47, 3) := by decide +kernel
theorem dX2_sideAt_28 : decode cX2_sideAt 28 = .ok (.iload_n 2, 1) := by decide +kernel
theorem dX2_sideAt_29 : decode cX2_sideAt 29 = .ok (.invokestatic 59, 3) := by decide +kernel
theorem dX2_sideAt_32 : decode cX2_sideAt 32 = .ok (.ireturn, 1) := by decide +kernel
theorem dX2_sideAlong_0 : decode cX2_sideAlong 0 = .ok (.iload_n 1, 1) := by decide +kernel
theorem dX2_sideAlong_1 : decode cX2_sideAlong 1 = .ok (.ifCond .ne 12, 3) := by decide +kernel
theorem dX2_sideAlong_4 : decode cX2_sideAlong 4 = .ok (.aload_n 0, 1) := by decide +kernel
theorem dX2_sideAlong_5 : decode cX2_sideAlong 5 = .ok (.iload_n 3, 1) := by decide +kernel
theorem dX2_sideAlong_6 : decode cX2_sideAlong 6 = .ok (.iload_n 2, 1) := by decide +kernel
theorem dX2_sideAlong_7 : decode cX2_sideAlong 7 = .ok (.invokevirtual 63, 3) := by decide +kernel
theorem dX2_sideAlong_10 : decode cX2_sideAlong 10 = .ok (.goto 9, 3) := by decide +kernel
theorem dX2_sideAlong_13 : decode cX2_sideAlong 13 = .ok (.aload_n 0, 1) := by decide +kernel
theorem dX2_sideAlong_14 : decode cX2_sideAlong 14 = .ok (.iload_n 2, 1) := by decide +kernel
theorem dX2_sideAlong_15 : decode cX2_sideAlong 15 = .ok (.iload_n 3, 1) := by decide +kernel
theorem dX2_sideAlong_16 : decode cX2_sideAlong 16 = .ok (.invokevirtual 63, 3) := by decide +kernel
theorem dX2_sideAlong_19 : decode cX2_sideAlong 19 = .ok (.ireturn, 1) := by decide +kernel
theorem dX2_runWith_0 : decode cX2_runWith 0 = .ok (.iload_n 1, 1) := by decide +kernel
theorem dX2_runWith_1 : decode cX2_runWith 1 = .ok (.iconst (-1), 1) := by decide +kernel
theorem dX2_runWith_2 : decode cX2_runWith 2 = .ok (.if_icmp .ne 5, 3) := by decide +kernel
theorem dX2_runWith_5 : decode cX2_runWith 5 = .ok (.iconst 0, 1) := by decide +kernel
theorem dX2_runWith_6 : decode cX2_runWith 6 = .ok (.ireturn, 1) := by decide +kernel
theorem dX2_runWith_7 : decode cX2_runWith 7 = .ok (.iload_n 1, 1) := by decide +kernel
theorem dX2_runWith_8 : decode cX2_runWith 8 = .ok (.iload_n 2, 1) := by decide +kernel
theorem dX2_runWith_9 : decode cX2_runWith 9 = .ok (.if_icmp .ne 9, 3) := by decide +kernel
theorem dX2_runWith_12 : decode cX2_runWith 12 = .ok (.iload_n 3, 1) := by decide +kernel
theorem dX2_runWith_13 : decode cX2_runWith 13 = .ok (.iconst 1, 1) := by decide +kernel
theorem dX2_runWith_14 : decode cX2_runWith 14 = .ok (.iadd, 1) := by decide +kernel
theorem dX2_runWith_15 : decode cX2_runWith 15 = .ok (.goto 4, 3) := by decide +kernel
theorem dX2_runWith_18 : decode cX2_runWith 18 = .ok (.iconst 1, 1) := by decide +kernel
theorem dX2_runWith_19 : decode cX2_runWith 19 = .ok (.ireturn, 1) := by decide +kernel
theorem dX2_longestFloat_0 : decode cX2_longestFloat 0 = .ok (.iconst 0, 1) := by decide +kernel
theorem dX2_longestFloat_1 : decode cX2_longestFloat 1 = .ok (.istore 4, 2) := by decide +kernel
theorem dX2_longestFloat_3 : decode cX2_longestFloat 3 = .ok (.iconst 0, 1) := by decide +kernel
theorem dX2_longestFloat_4 : decode cX2_longestFloat 4 = .ok (.istore 5, 2) := by decide +kernel
theorem dX2_longestFloat_6 : decode cX2_longestFloat 6 = .ok (.iconst (-1), 1) := by decide +kernel
theorem dX2_longestFloat_7 : decode cX2_longestFloat 7 = .ok (.istore 6, 2) := by decide +kernel
theorem dX2_longestFloat_9 : decode cX2_longestFloat 9 = .ok (.iconst 0, 1) := by decide +kernel
theorem dX2_longestFloat_10 : decode cX2_longestFloat 10 = .ok (.istore 7, 2) := by decide +kernel
theorem dX2_longestFloat_12 : decode cX2_longestFloat 12 = .ok (.iload 7, 2) := by decide +kernel
theorem dX2_longestFloat_14 : decode cX2_longestFloat 14 = .ok (.iload_n 3, 1) := by decide +kernel
theorem dX2_longestFloat_15 : decode cX2_longestFloat 15 = .ok (.if_icmp .ge 44, 3) := by decide +kernel
theorem dX2_longestFloat_18 : decode cX2_longestFloat 18 = .ok (.aload_n 0, 1) := by decide +kernel
theorem dX2_longestFloat_19 : decode cX2_longestFloat 19 = .ok (.iload_n 1, 1) := by decide +kernel
theorem dX2_longestFloat_20 : decode cX2_longestFloat 20 = .ok (.iload_n 2, 1) := by decide +kernel
theorem dX2_longestFloat_21 : decode cX2_longestFloat 21 = .ok (.iload 7, 2) := by decide +kernel
theorem dX2_longestFloat_23 : decode cX2_longestFloat 23 = .ok (.invokevirtual 66, 3) := by decide +kernel
theorem dX2_longestFloat_26 : decode cX2_longestFloat 26 = .ok (.istore 8, 2) := by decide +kernel
theorem dX2_longestFloat_28 : decode cX2_longestFloat 28 = .ok (.aload_n 0, 1) := by decide +kernel
theorem dX2_longestFloat_29 : decode cX2_longestFloat 29 = .ok (.iload 8, 2) := by decide +kernel
theorem dX2_longestFloat_31 : decode cX2_longestFloat 31 = .ok (.iload 6, 2) := by decide +kernel
theorem dX2_longestFloat_33 : decode cX2_longestFloat 33 = .ok (.iload 5, 2) := by decide +kernel
theorem dX2_longestFloat_35 : decode cX2_longestFloat 35 = .ok (.invokevirtual 70, 3) := by decide +kernel
theorem dX2_longestFloat_38 : decode cX2_longestFloat 38 = .ok (.istore 5, 2) := by decide +kernel
theorem dX2_longestFloat_40 : decode cX2_longestFloat 40 = .ok (.iload 8, 2) := by decide +kernel
theorem dX2_longestFloat_42 : decode cX2_longestFloat 42 = .ok (.istore 6, 2) := by decide +kernel
theorem dX2_longestFloat_44 : decode cX2_longestFloat 44 = .ok (.iload 4, 2) := by decide +kernel
theorem dX2_longestFloat_46 : decode cX2_longestFloat 46 = .ok (.iload 5, 2) := by decide +kernel
theorem dX2_longestFloat_48 : decode cX2_longestFloat 48 = .ok (.invokestatic 73, 3) := by decide +kernel
theorem dX2_longestFloat_51 : decode cX2_longestFloat 51 = .ok (.istore 4, 2) := by decide +kernel
theorem dX2_longestFloat_53 : decode cX2_longestFloat 53 = .ok (.iinc 7 1, 3) := by decide +kernel
theorem dX2_longestFloat_56 : decode cX2_longestFloat 56 = .ok (.goto (-44), 3) := by decide +kernel
theorem dX2_longestFloat_59 : decode cX2_longestFloat 59 = .ok (.iload 4, 2) := by decide +kernel
theorem dX2_longestFloat_61 : decode cX2_longestFloat 61 = .ok (.ireturn, 1) := by decide +kernel
theorem dX2_floatsIn_0 : decode cX2_floatsIn 0 = .ok (.iconst 0, 1) := by decide +kernel
theorem dX2_floatsIn_1 : decode cX2_floatsIn 1 = .ok (.istore 5, 2) := by decide +kernel
theorem dX2_floatsIn_3 : decode cX2_floatsIn 3 = .ok (.iconst 0, 1) := by decide +kernel
theorem dX2_floatsIn_4 : decode cX2_floatsIn 4 = .ok (.istore 6, 2) := by decide +kernel
theorem dX2_floatsIn_6 : decode cX2_floatsIn 6 = .ok (.iconst (-1), 1) := by decide +kernel
theorem dX2_floatsIn_7 : decode cX2_floatsIn 7 = .ok (.istore 7, 2) := by decide +kernel
theorem dX2_floatsIn_9 : decode cX2_floatsIn 9 = .ok (.iconst 0, 1) := by decide +kernel
theorem dX2_floatsIn_10 : decode cX2_floatsIn 10 = .ok (.istore 8, 2) := by decide +kernel
theorem dX2_floatsIn_12 : decode cX2_floatsIn 12 = .ok (.iload 8, 2) := by decide +kernel
theorem dX2_floatsIn_14 : decode cX2_floatsIn 14 = .ok (.iload_n 3, 1) := by decide +kernel
theorem dX2_floatsIn_15 : decode cX2_floatsIn 15 = .ok (.if_icmp .ge 45, 3) := by decide +kernel
theorem dX2_floatsIn_18 : decode cX2_floatsIn 18 = .ok (.aload_n 0, 1) := by decide +kernel
theorem dX2_floatsIn_19 : decode cX2_floatsIn 19 = .ok (.iload_n 1, 1) := by decide +kernel
theorem dX2_floatsIn_20 : decode cX2_floatsIn 20 = .ok (.iload_n 2, 1) := by decide +kernel
theorem dX2_floatsIn_21 : decode cX2_floatsIn 21 = .ok (.iload 8, 2) := by decide +kernel
theorem dX2_floatsIn_23 : decode cX2_floatsIn 23 = .ok (.invokevirtual 66, 3) := by decide +kernel
theorem dX2_floatsIn_26 : decode cX2_floatsIn 26 = .ok (.istore 9, 2) := by decide +kernel
theorem dX2_floatsIn_28 : decode cX2_floatsIn 28 = .ok (.aload_n 0, 1) := by decide +kernel
theorem dX2_floatsIn_29 : decode cX2_floatsIn 29 = .ok (.iload 9, 2) := by decide +kernel
theorem dX2_floatsIn_31 : decode cX2_floatsIn 31 = .ok (.iload 7, 2) := by decide +kernel
theorem dX2_floatsIn_33 : decode cX2_floatsIn 33 = .ok (.iload 6, 2) := by decide +kernel
theorem dX2_floatsIn_35 : decode cX2_floatsIn 35 = .ok (.invokevirtual 70, 3) := by decide +kernel
theorem dX2_floatsIn_38 : decode cX2_floatsIn 38 = .ok (.istore 6, 2) := by decide +kernel
theorem dX2_floatsIn_40 : decode cX2_floatsIn 40 = .ok (.iload 9, 2) := by decide +kernel
theorem dX2_floatsIn_42 : decode cX2_floatsIn 42 = .ok (.istore 7, 2) := by decide +kernel
theorem dX2_floatsIn_44 : decode cX2_floatsIn 44 = .ok (.iload 6, 2) := by decide +kernel
theorem dX2_floatsIn_46 : decode cX2_floatsIn 46 = .ok (.iload 4, 2) := by decide +kernel
theorem dX2_floatsIn_48 : decode cX2_floatsIn 48 = .ok (.if_icmp .ne 6, 3) := by decide +kernel
theorem dX2_floatsIn_51 : decode cX2_floatsIn 51 = .ok (.iinc 5 1, 3) := by decide +kernel
theorem dX2_floatsIn_54 : decode cX2_floatsIn 54 = .ok (.iinc 8 1, 3) := by decide +kernel
theorem dX2_floatsIn_57 : decode cX2_floatsIn 57 = .ok (.goto (-45), 3) := by decide +kernel
theorem dX2_floatsIn_60 : decode cX2_floatsIn 60 = .ok (.iload 5, 2) := by decide +kernel
theorem dX2_floatsIn_62 : decode cX2_floatsIn 62 = .ok (.ireturn, 1) := by decide +kernel
theorem dX2_areAlike_0 : decode cX2_areAlike 0 = .ok (.aload_n 0, 1) := by decide +kernel
theorem dX2_areAlike_1 : decode cX2_areAlike 1 = .ok (.getfield 14, 3) := by decide +kernel
theorem dX2_areAlike_4 : decode cX2_areAlike 4 = .ok (.iload_n 1, 1) := by decide +kernel
theorem dX2_areAlike_5 : decode cX2_areAlike 5 = .ok (.invokevirtual 47, 3) := by decide +kernel
theorem dX2_areAlike_8 : decode cX2_areAlike 8 = .ok (.aload_n 0, 1) := by decide +kernel
theorem dX2_areAlike_9 : decode cX2_areAlike 9 = .ok (.getfield 14, 3) := by decide +kernel
theorem dX2_areAlike_12 : decode cX2_areAlike 12 = .ok (.iload_n 2, 1) := by decide +kernel
theorem dX2_areAlike_13 : decode cX2_areAlike 13 = .ok (.invokevirtual 47, 3) := by decide +kernel
theorem dX2_areAlike_16 : decode cX2_areAlike 16 = .ok (.if_icmp .ne 45, 3) := by decide +kernel
theorem dX2_areAlike_19 : decode cX2_areAlike 19 = .ok (.aload_n 0, 1) := by decide +kernel
theorem dX2_areAlike_20 : decode cX2_areAlike 20 = .ok (.getfield 26, 3) := by decide +kernel
theorem dX2_areAlike_23 : decode cX2_areAlike 23 = .ok (.iload_n 1, 1) := by decide +kernel
theorem dX2_areAlike_24 : decode cX2_areAlike 24 = .ok (.invokevirtual 47, 3) := by decide +kernel
theorem dX2_areAlike_27 : decode cX2_areAlike 27 = .ok (.aload_n 0, 1) := by decide +kernel
theorem dX2_areAlike_28 : decode cX2_areAlike 28 = .ok (.getfield 26, 3) := by decide +kernel
theorem dX2_areAlike_31 : decode cX2_areAlike 31 = .ok (.iload_n 2, 1) := by decide +kernel
theorem dX2_areAlike_32 : decode cX2_areAlike 32 = .ok (.invokevirtual 47, 3) := by decide +kernel
theorem dX2_areAlike_35 : decode cX2_areAlike 35 = .ok (.if_icmp .ne 26, 3) := by decide +kernel
theorem dX2_areAlike_38 : decode cX2_areAlike 38 = .ok (.aload_n 0, 1) := by decide +kernel
theorem dX2_areAlike_39 : decode cX2_areAlike 39 = .ok (.getfield 29, 3) := by decide +kernel
theorem dX2_areAlike_42 : decode cX2_areAlike 42 = .ok (.iload_n 1, 1) := by decide +kernel
theorem dX2_areAlike_43 : decode cX2_areAlike 43 = .ok (.invokevirtual 47, 3) := by decide +kernel
theorem dX2_areAlike_46 : decode cX2_areAlike 46 = .ok (.aload_n 0, 1) := by decide +kernel
theorem dX2_areAlike_47 : decode cX2_areAlike 47 = .ok (.getfield 29, 3) := by decide +kernel
theorem dX2_areAlike_50 : decode cX2_areAlike 50 = .ok (.iload_n 2, 1) := by decide +kernel
theorem dX2_areAlike_51 : decode cX2_areAlike 51 = .ok (.invokevirtual 47, 3) := by decide +kernel
theorem dX2_areAlike_54 : decode cX2_areAlike 54 = .ok (.if_icmp .ne 7, 3) := by decide +kernel
theorem dX2_areAlike_57 : decode cX2_areAlike 57 = .ok (.iconst 1, 1) := by decide +kernel
theorem dX2_areAlike_58 : decode cX2_areAlike 58 = .ok (.goto 4, 3) := by decide +kernel
theorem dX2_areAlike_61 : decode cX2_areAlike 61 = .ok (.iconst 0, 1) := by decide +kernel
theorem dX2_areAlike_62 : decode cX2_areAlike 62 = .ok (.ireturn, 1) := by decide +kernel
theorem dX2_repeatsAfter_0 : decode cX2_repeatsAfter 0 = .ok (.iload_n 1, 1) := by decide +kernel
theorem dX2_repeatsAfter_1 : decode cX2_repeatsAfter 1 = .ok (.istore_n 2, 1) := by decide +kernel
theorem dX2_repeatsAfter_2 : decode cX2_repeatsAfter 2 = .ok (.iload_n 2, 1) := by decide +kernel
theorem dX2_repeatsAfter_3 : decode cX2_repeatsAfter 3 = .ok (.aload_n 0, 1) := by decide +kernel
theorem dX2_repeatsAfter_4 : decode cX2_repeatsAfter 4 = .ok (.getfield 35, 3) := by decide +kernel
theorem dX2_repeatsAfter_7 : decode cX2_repeatsAfter 7 = .ok (.if_icmp .ge 22, 3) := by decide +kernel
theorem dX2_repeatsAfter_10 : decode cX2_repeatsAfter 10 = .ok (.aload_n 0, 1) := by decide +kernel
theorem dX2_repeatsAfter_11 : decode cX2_repeatsAfter 11 = .ok (.iload_n 2, 1) := by decide +kernel
theorem dX2_repeatsAfter_12 : decode cX2_repeatsAfter 12 = .ok (.iload_n 2, 1) := by decide +kernel
theorem dX2_repeatsAfter_13 : decode cX2_repeatsAfter 13 = .ok (.iload_n 1, 1) := by decide +kernel
theorem dX2_repeatsAfter_14 : decode cX2_repeatsAfter 14 = .ok (.isub, 1) := by decide +kernel
theorem dX2_repeatsAfter_15 : decode cX2_repeatsAfter 15 = .ok (.invokevirtual 78, 3) := by decide +kernel
theorem dX2_repeatsAfter_18 : decode cX2_repeatsAfter 18 = .ok (.ifCond .ne 5, 3) := by decide +kernel
theorem dX2_repeatsAfter_21 : decode cX2_repeatsAfter 21 = .ok (.iconst 0, 1) := by decide +kernel
theorem dX2_repeatsAfter_22 : decode cX2_repeatsAfter 22 = .ok (.ireturn, 1) := by decide +kernel
theorem dX2_repeatsAfter_23 : decode cX2_repeatsAfter 23 = .ok (.iinc 2 1, 3) := by decide +kernel
theorem dX2_repeatsAfter_26 : decode cX2_repeatsAfter 26 = .ok (.goto (-24), 3) := by decide +kernel
theorem dX2_repeatsAfter_29 : decode cX2_repeatsAfter 29 = .ok (.iconst 1, 1) := by decide +kernel
theorem dX2_repeatsAfter_30 : decode cX2_repeatsAfter 30 = .ok (.ireturn, 1) := by decide +kernel
theorem dX2_hasAlikeBefore_0 : decode cX2_hasAlikeBefore 0 = .ok (.iconst 0, 1) := by decide +kernel
theorem dX2_hasAlikeBefore_1 : decode cX2_hasAlikeBefore 1 = .ok (.istore_n 2, 1) := by decide +kernel
theorem dX2_hasAlikeBefore_2 : decode cX2_hasAlikeBefore 2 = .ok (.iload_n 2, 1) := by decide +kernel
theorem dX2_hasAlikeBefore_3 : decode cX2_hasAlikeBefore 3 = .ok (.iload_n 1, 1) := by decide +kernel
theorem dX2_hasAlikeBefore_4 : decode cX2_hasAlikeBefore 4 = .ok (.if_icmp .ge 20, 3) := by decide +kernel
theorem dX2_hasAlikeBefore_7 : decode cX2_hasAlikeBefore 7 = .ok (.aload_n 0, 1) := by decide +kernel
theorem dX2_hasAlikeBefore_8 : decode cX2_hasAlikeBefore 8 = .ok (.iload_n 1, 1) := by decide +kernel
theorem dX2_hasAlikeBefore_9 : decode cX2_hasAlikeBefore 9 = .ok (.iload_n 2, 1) := by decide +kernel
theorem dX2_hasAlikeBefore_10 : decode cX2_hasAlikeBefore 10 = .ok (.invokevirtual 78, 3) := by decide +kernel
theorem dX2_hasAlikeBefore_13 : decode cX2_hasAlikeBefore 13 = .ok (.ifCond .eq 5, 3) := by decide +kernel
theorem dX2_hasAlikeBefore_16 : decode cX2_hasAlikeBefore 16 = .ok (.iconst 1, 1) := by decide +kernel
theorem dX2_hasAlikeBefore_17 : decode cX2_hasAlikeBefore 17 = .ok (.ireturn, 1) := by decide +kernel
theorem dX2_hasAlikeBefore_18 : decode cX2_hasAlikeBefore 18 = .ok (.iinc 2 1, 3) := by decide +kernel
theorem dX2_hasAlikeBefore_21 : decode cX2_hasAlikeBefore 21 = .ok (.goto (-19), 3) := by decide +kernel
theorem dX2_hasAlikeBefore_24 : decode cX2_hasAlikeBefore 24 = .ok (.iconst 0, 1) := by decide +kernel
theorem dX2_hasAlikeBefore_25 : decode cX2_hasAlikeBefore 25 = .ok (.ireturn, 1) := by decide +kernel
theorem dX3_init_0 : decode cX3_init 0 = .ok (.aload_n 0, 1) := by decide +kernel
theorem dX3_init_1 : decode cX3_init 1 = .ok (.invokespecial 3, 3) := by decide +kernel
theorem dX3_init_4 : decode cX3_init 4 = .ok (.aload_n 0, 1) := by decide +kernel
theorem dX3_init_5 : decode cX3_init 5 = .ok (.iconst 5, 1) := by decide +kernel
theorem dX3_init_6 : decode cX3_init 6 = .ok (.anewarray 9, 3) := by decide +kernel
theorem dX3_init_9 : decode cX3_init 9 = .ok (.putfield 11, 3) := by decide +kernel
theorem dX3_init_12 : decode cX3_init 12 = .ok (.iconst 0, 1) := by decide +kernel
theorem dX3_init_13 : decode cX3_init 13 = .ok (.istore_n 1, 1) := by decide +kernel
theorem dX3_init_14 : decode cX3_init 14 = .ok (.iload_n 1, 1) := by decide +kernel
theorem dX3_init_15 : decode cX3_init 15 = .ok (.aload_n 0, 1) := by decide +kernel
theorem dX3_init_16 : decode cX3_init 16 = .ok (.getfield 11, 3) := by decide +kernel
theorem dX3_init_19 : decode cX3_init 19 = .ok (.arraylength, 1) := by decide +kernel
theorem dX3_init_20 : decode cX3_init 20 = .ok (.if_icmp .ge 22, 3) := by decide +kernel
theorem dX3_init_23 : decode cX3_init 23 = .ok (.aload_n 0, 1) := by decide +kernel
theorem dX3_init_24 : decode cX3_init 24 = .ok (.getfield 11, 3) := by decide +kernel
theorem dX3_init_27 : decode cX3_init 27 = .ok (.iload_n 1, 1) := by decide +kernel
theorem dX3_init_28 : decode cX3_init 28 = .ok (.new 9, 3) := by decide +kernel
theorem dX3_init_31 : decode cX3_init 31 = .ok (.dup, 1) := by decide +kernel
theorem dX3_init_32 : decode cX3_init 32 = .ok (.invokespecial 17, 3) := by decide +kernel
theorem dX3_init_35 : decode cX3_init 35 = .ok (.aastore, 1) := by decide +kernel
theorem dX3_init_36 : decode cX3_init 36 = .ok (.iinc 1 1, 3) := by decide +kernel
theorem dX3_init_39 : decode cX3_init 39 = .ok (.goto (-25), 3) := by decide +kernel
theorem dX3_init_42 : decode cX3_init 42 = .ok (.return_, 1) := by decide +kernel
theorem dX3_keep_0 : decode cX3_keep 0 = .ok (.aload_n 0, 1) := by decide +kernel
theorem dX3_keep_1 : decode cX3_keep 1 = .ok (.aload_n 0, 1) := by decide +kernel
theorem dX3_keep_2 : decode cX3_keep 2 = .ok (.getfield 18, 3) := by decide +kernel
theorem dX3_keep_5 : decode cX3_keep 5 = .ok (.invokevirtual 22, 3) := by decide +kernel
theorem dX3_keep_8 : decode cX3_keep 8 = .ok (.astore_n 2, 1) := by decide +kernel
theorem dX3_keep_9 : decode cX3_keep 9 = .ok (.aload_n 2, 1) := by decide +kernel
theorem dX3_keep_10 : decode cX3_keep 10 = .ok (.ifnull 46, 3) := by decide +kernel
theorem dX3_keep_13 : decode cX3_keep 13 = .ok (.aload_n 2, 1) := by decide +kernel
theorem dX3_keep_14 : decode cX3_keep 14 = .ok (.aload_n 1, 1) := by decide +kernel
theorem dX3_keep_15 : decode cX3_keep 15 = .ok (.invokevirtual 26, 3) := by decide +kernel
theorem dX3_keep_18 : decode cX3_keep 18 = .ok (.aload_n 0, 1) := by decide +kernel
theorem dX3_keep_19 : decode cX3_keep 19 = .ok (.aload_n 0, 1) := by decide +kernel
theorem dX3_keep_20 : decode cX3_keep 20 = .ok (.getfield 18, 3) := by decide +kernel
theorem dX3_keep_23 : decode cX3_keep 23 = .ok (.iconst 1, 1) := by decide +kernel
theorem dX3_keep_24 : decode cX3_keep 24 = .ok (.iadd, 1) := by decide +kernel
theorem dX3_keep_25 : decode cX3_keep 25 = .ok (.iconst 5, 1) := by decide +kernel
theorem dX3_keep_26 : decode cX3_keep 26 = .ok (.if_icmp .ge 12, 3) := by decide +kernel
theorem dX3_keep_29 : decode cX3_keep 29 = .ok (.aload_n 0, 1) := by decide +kernel
theorem dX3_keep_30 : decode cX3_keep 30 = .ok (.getfield 18, 3) := by decide +kernel
theorem dX3_keep_33 : decode cX3_keep 33 = .ok (.iconst 1, 1) := by decide +kernel
theorem dX3_keep_34 : decode cX3_keep 34 = .ok (.iadd, 1) := by decide +kernel
theorem dX3_keep_35 : decode cX3_keep 35 = .ok (.goto 4, 3) := by decide +kernel
theorem dX3_keep_38 : decode cX3_keep 38 = .ok (.iconst 0, 1) := by decide +kernel
theorem dX3_keep_39 : decode cX3_keep 39 = .ok (.putfield 18, 3) := by decide +kernel
theorem dX3_keep_42 : decode cX3_keep 42 = .ok (.aload_n 0, 1) := by decide +kernel
theorem dX3_keep_43 : decode cX3_keep 43 = .ok (.aload_n 0, 1) := by decide +kernel
theorem dX3_keep_44 : decode cX3_keep 44 = .ok (.getfield 30, 3) := by decide +kernel
theorem dX3_keep_47 : decode cX3_keep 47 = .ok (.iconst 1, 1) := by decide +kernel
theorem dX3_keep_48 : decode cX3_keep 48 = .ok (.iadd, 1) := by decide +kernel
theorem dX3_keep_49 : decode cX3_keep 49 = .ok (.iconst 5, 1) := by decide +kernel
theorem dX3_keep_50 : decode cX3_keep 50 = .ok (.invokestatic 33, 3) := by decide +kernel
theorem dX3_keep_53 : decode cX3_keep 53 = .ok (.putfield 30, 3) := by decide +kernel
theorem dX3_keep_56 : decode cX3_keep 56 = .ok (.return_, 1) := by decide +kernel
theorem dX3_restoreInto_0 : decode cX3_restoreInto 0 = .ok (.aload_n 0, 1) := by decide +kernel
theorem dX3_restoreInto_1 : decode cX3_restoreInto 1 = .ok (.getfield 18, 3) := by decide +kernel
theorem dX3_restoreInto_4 : decode cX3_restoreInto 4 = .ok (.ifCond .le 12, 3) := by decide +kernel
theorem dX3_restoreInto_7 : decode cX3_restoreInto 7 = .ok (.aload_n 0, 1) := by decide +kernel
theorem dX3_restoreInto_8 : decode cX3_restoreInto 8 = .ok (.getfield 18, 3) := by decide +kernel
theorem dX3_restoreInto_11 : decode cX3_restoreInto 11 = .ok (.iconst 1, 1) := by decide +kernel
theorem dX3_restoreInto_12 : decode cX3_restoreInto 12 = .ok (.isub, 1) := by decide +kernel
theorem dX3_restoreInto_13 : decode cX3_restoreInto 13 = .ok (.goto 4, 3) := by decide +kernel
theorem dX3_restoreInto_16 : decode cX3_restoreInto 16 = .ok (.iconst 4, 1) := by decide +kernel
theorem dX3_restoreInto_17 : decode cX3_restoreInto 17 = .ok (.istore_n 2, 1) := by decide +kernel
theorem dX3_restoreInto_18 : decode cX3_restoreInto 18 = .ok (.aload_n 0, 1) := by decide +kernel
theorem dX3_restoreInto_19 : decode cX3_restoreInto 19 = .ok (.iload_n 2, 1) := by decide +kernel
theorem dX3_restoreInto_20 : decode cX3_restoreInto 20 = .ok (.invokevirtual 22, 3) := by decide +kernel
theorem dX3_restoreInto_23 : decode cX3_restoreInto 23 = .ok (.astore_n 3, 1) := by decide +kernel
theorem dX3_restoreInto_24 : decode cX3_restoreInto 24 = .ok (.aload_n 3, 1) := by decide +kernel
theorem dX3_restoreInto_25 : decode cX3_restoreInto 25 = .ok (.ifnull 30, 3) := by decide +kernel
theorem dX3_restoreInto_28 : decode cX3_restoreInto 28 = .ok (.aload_n 0, 1) := by decide +kernel
theorem dX3_restoreInto_29 : decode cX3_restoreInto 29 = .ok (.getfield 30, 3) := by decide +kernel
theorem dX3_restoreInto_32 : decode cX3_restoreInto 32 = .ok (.ifCond .le 23, 3) := by decide +kernel
theorem dX3_restoreInto_35 : decode cX3_restoreInto 35 = .ok (.aload_n 1, 1) := by decide +kernel
theorem dX3_restoreInto_36 : decode cX3_restoreInto 36 = .ok (.aload_n 3, 1) := by decide +kernel
theorem dX3_restoreInto_37 : decode cX3_restoreInto 37 = .ok (.invokevirtual 26, 3) := by decide +kernel
theorem dX3_restoreInto_40 : decode cX3_restoreInto 40 = .ok (.aload_n 0, 1) := by decide +kernel
theorem dX3_restoreInto_41 : decode cX3_restoreInto 41 = .ok (.iload_n 2, 1) := by decide +kernel
theorem dX3_restoreInto_42 : decode cX3_restoreInto 42 = .ok (.putfield 18, 3) := by decide +kernel
theorem dX3_restoreInto_45 : decode cX3_restoreInto 45 = .ok (.aload_n 0, 1) := by decide +kernel
theorem dX3_restoreInto_46 : decode cX3_restoreInto 46 = .ok (.dup, 1) := by decide +kernel
theorem dX3_restoreInto_47 : decode cX3_restoreInto 47 = .ok (.getfield 30, 3) := by decide +kernel
theorem dX3_restoreInto_50 : decode cX3_restoreInto 50 = .ok (.iconst 1, 1) := by decide +kernel
theorem dX3_restoreInto_51 : decode cX3_restoreInto 51 = .ok (.isub, 1) := by decide +kernel
theorem dX3_restoreInto_52 : decode cX3_restoreInto 52 = .ok (.putfield 30, 3) := by decide +kernel
theorem dX3_restoreInto_55 : decode cX3_restoreInto 55 = .ok (.return_, 1) := by decide +kernel
theorem dX3_stateAt_0 : decode cX3_stateAt 0 = .ok (.iload_n 1, 1) := by decide +kernel
theorem dX3_stateAt_1 : decode cX3_stateAt 1 = .ok (.ifCond .lt 21, 3) := by decide +kernel
theorem dX3_stateAt_4 : decode cX3_stateAt 4 = .ok (.iload_n 1, 1) := by decide +kernel
theorem dX3_stateAt_5 : decode cX3_stateAt 5 = .ok (.aload_n 0, 1) := by decide +kernel
theorem dX3_stateAt_6 : decode cX3_stateAt 6 = .ok (.getfield 11, 3) := by decide +kernel
theorem dX3_stateAt_9 : decode cX3_stateAt 9 = .ok (.arraylength, 1) := by decide +kernel
theorem dX3_stateAt_10 : decode cX3_stateAt 10 = .ok (.if_icmp .ge 12, 3) := by decide +kernel
theorem dX3_stateAt_13 : decode cX3_stateAt 13 = .ok (.aload_n 0, 1) := by decide +kernel
theorem dX3_stateAt_14 : decode cX3_stateAt 14 = .ok (.getfield 11, 3) := by decide +kernel
theorem dX3_stateAt_17 : decode cX3_stateAt 17 = .ok (.iload_n 1, 1) := by decide +kernel
theorem dX3_stateAt_18 : decode cX3_stateAt 18 = .ok (.aaload, 1) := by decide +kernel
theorem dX3_stateAt_19 : decode cX3_stateAt 19 = .ok (.goto 4, 3) := by decide +kernel
theorem dX3_stateAt_22 : decode cX3_stateAt 22 = .ok (.aconst_null, 1) := by decide +kernel
theorem dX3_stateAt_23 : decode cX3_stateAt 23 = .ok (.areturn, 1) := by decide +kernel
theorem dX4_init_0 : decode cX4_init 0 = .ok (.aload_n 0, 1) := by decide +kernel
theorem dX4_init_1 : decode cX4_init 1 = .ok (.invokespecial 1, 3) := by decide +kernel
theorem dX4_init_4 : decode cX4_init 4 = .ok (.aload_n 0, 1) := by decide +kernel
theorem dX4_init_5 : decode cX4_init 5 = .ok (.iload_n 1, 1) := by decide +kernel
theorem dX4_init_6 : decode cX4_init 6 = .ok (.iconst 0, 1) := by decide +kernel
theorem dX4_init_7 : decode cX4_init 7 = .ok (.invokestatic 7, 3) := by decide +kernel
theorem dX4_init_10 : decode cX4_init 10 = .ok (.newarray .int, 2) := by decide +kernel
theorem dX4_init_12 : decode cX4_init 12 = .ok (.putfield 13, 3) := by decide +kernel
theorem dX4_init_15 : decode cX4_init 15 = .ok (.return_, 1) := by decide +kernel
theorem dX4_at_0 : decode cX4_at 0 = .ok (.iload_n 1, 1) := by decide +kernel
theorem dX4_at_1 : decode cX4_at 1 = .ok (.ifCond .lt 21, 3) := by decide +kernel
theorem dX4_at_4 : decode cX4_at 4 = .ok (.iload_n 1, 1) := by decide +kernel
theorem dX4_at_5 : decode cX4_at 5 = .ok (.aload_n 0, 1) := by decide +kernel
theorem dX4_at_6 : decode cX4_at 6 = .ok (.getfield 13, 3) := by decide +kernel
theorem dX4_at_9 : decode cX4_at 9 = .ok (.arraylength, 1) := by decide +kernel
theorem dX4_at_10 : decode cX4_at 10 = .ok (.if_icmp .ge 12, 3) := by decide +kernel
theorem dX4_at_13 : decode cX4_at 13 = .ok (.aload_n 0, 1) := by decide +kernel
theorem dX4_at_14 : decode cX4_at 14 = .ok (.getfield 13, 3) := by decide +kernel
theorem dX4_at_17 : decode cX4_at 17 = .ok (.iload_n 1, 1) := by decide +kernel
theorem dX4_at_18 : decode cX4_at 18 = .ok (.iaload, 1) := by decide +kernel
theorem dX4_at_19 : decode cX4_at 19 = .ok (.goto 4, 3) := by decide +kernel
theorem dX4_at_22 : decode cX4_at 22 = .ok (.iconst 0, 1) := by decide +kernel
theorem dX4_at_23 : decode cX4_at 23 = .ok (.ireturn, 1) := by decide +kernel
theorem dX4_put_0 : decode cX4_put 0 = .ok (.iload_n 1, 1) := by decide +kernel
theorem dX4_put_1 : decode cX4_put 1 = .ok (.ifCond .lt 19, 3) := by decide +kernel
theorem dX4_put_4 : decode cX4_put 4 = .ok (.iload_n 1, 1) := by decide +kernel
theorem dX4_put_5 : decode cX4_put 5 = .ok (.aload_n 0, 1) := by decide +kernel
theorem dX4_put_6 : decode cX4_put 6 = .ok (.getfield 13, 3) := by decide +kernel
theorem dX4_put_9 : decode cX4_put 9 = .ok (.arraylength, 1) := by decide +kernel
theorem dX4_put_10 : decode cX4_put 10 = .ok (.if_icmp .ge 10, 3) := by decide +kernel
theorem dX4_put_13 : decode cX4_put 13 = .ok (.aload_n 0, 1) := by decide +kernel
theorem dX4_put_14 : decode cX4_put 14 = .ok (.getfield 13, 3) := by decide +kernel
theorem dX4_put_17 : decode cX4_put 17 = .ok (.iload_n 1, 1) := by decide +kernel
theorem dX4_put_18 : decode cX4_put 18 = .ok (.iload_n 2, 1) := by decide +kernel
theorem dX4_put_19 : decode cX4_put 19 = .ok (.iastore, 1) := by decide +kernel
theorem dX4_put_20 : decode cX4_put 20 = .ok (.return_, 1) := by decide +kernel
theorem dX4_putAll_0 : decode cX4_putAll 0 = .ok (.iconst 0, 1) := by decide +kernel
theorem dX4_putAll_1 : decode cX4_putAll 1 = .ok (.istore_n 2, 1) := by decide +kernel
theorem dX4_putAll_2 : decode cX4_putAll 2 = .ok (.iload_n 2, 1) := by decide +kernel
theorem dX4_putAll_3 : decode cX4_putAll 3 = .ok (.aload_n 0, 1) := by decide +kernel
theorem dX4_putAll_4 : decode cX4_putAll 4 = .ok (.getfield 13, 3) := by decide +kernel
theorem dX4_putAll_7 : decode cX4_putAll 7 = .ok (.arraylength, 1) := by decide +kernel
theorem dX4_putAll_8 : decode cX4_putAll 8 = .ok (.if_icmp .ge 16, 3) := by decide +kernel
theorem dX4_putAll_11 : decode cX4_putAll 11 = .ok (.aload_n 0, 1) := by decide +kernel
theorem dX4_putAll_12 : decode cX4_putAll 12 = .ok (.getfield 13, 3) := by decide +kernel
theorem dX4_putAll_15 : decode cX4_putAll 15 = .ok (.iload_n 2, 1) := by decide +kernel
theorem dX4_putAll_16 : decode cX4_putAll 16 = .ok (.iload_n 1, 1) := by decide +kernel
theorem dX4_putAll_17 : decode cX4_putAll 17 = .ok (.iastore, 1) := by decide +kernel
theorem dX4_putAll_18 : decode cX4_putAll 18 = .ok (.iinc 2 1, 3) := by decide +kernel
theorem dX4_putAll_21 : decode cX4_putAll 21 = .ok (.goto (-19), 3) := by decide +kernel
theorem dX4_putAll_24 : decode cX4_putAll 24 = .ok (.return_, 1) := by decide +kernel
theorem dX4_copyFrom_0 : decode cX4_copyFrom 0 = .ok (.aload_n 1, 1) := by decide +kernel
theorem dX4_copyFrom_1 : decode cX4_copyFrom 1 = .ok (.getfield 13, 3) := by decide +kernel
theorem dX4_copyFrom_4 : decode cX4_copyFrom 4 = .ok (.iconst 0, 1) := by decide +kernel
theorem dX4_copyFrom_5 : decode cX4_copyFrom 5 = .ok (.aload_n 0, 1) := by decide +kernel
theorem dX4_copyFrom_6 : decode cX4_copyFrom 6 = .ok (.getfield 13, 3) := by decide +kernel
theorem dX4_copyFrom_9 : decode cX4_copyFrom 9 = .ok (.iconst 0, 1) := by decide +kernel
theorem dX4_copyFrom_10 : decode cX4_copyFrom 10 = .ok (.aload_n 0, 1) := by decide +kernel
theorem dX4_copyFrom_11 : decode cX4_copyFrom 11 = .ok (.getfield 13, 3) := by decide +kernel
theorem dX4_copyFrom_14 : decode cX4_copyFrom 14 = .ok (.arraylength, 1) := by decide +kernel
theorem dX4_copyFrom_15 : decode cX4_copyFrom 15 = .ok (.aload_n 1, 1) := by decide +kernel
theorem dX4_copyFrom_16 : decode cX4_copyFrom 16 = .ok (.getfield 13, 3) := by decide +kernel
theorem dX4_copyFrom_19 : decode cX4_copyFrom 19 = .ok (.arraylength, 1) := by decide +kernel
theorem dX4_copyFrom_20 : decode cX4_copyFrom 20 = .ok (.invokestatic 19, 3) := by decide +kernel
theorem dX4_copyFrom_23 : decode cX4_copyFrom 23 = .ok (.invokestatic 22, 3) := by decide +kernel
theorem dX4_copyFrom_26 : decode cX4_copyFrom 26 = .ok (.return_, 1) := by decide +kernel
theorem dX5_init_0 : decode cX5_init 0 = .ok (.aload_n 0, 1) := by decide +kernel
theorem dX5_init_1 : decode cX5_init 1 = .ok (.invokespecial 3, 3) := by decide +kernel
theorem dX5_init_4 : decode cX5_init 4 = .ok (.aload_n 0, 1) := by decide +kernel
theorem dX5_init_5 : decode cX5_init 5 = .ok (.new 9, 3) := by decide +kernel
theorem dX5_init_8 : decode cX5_init 8 = .ok (.dup, 1) := by decide +kernel
theorem dX5_init_9 : decode cX5_init 9 = .ok (.invokespecial 11, 3) := by decide +kernel
theorem dX5_init_12 : decode cX5_init 12 = .ok (.putfield 12, 3) := by decide +kernel
theorem dX5_init_15 : decode cX5_init 15 = .ok (.aload_n 0, 1) := by decide +kernel
theorem dX5_init_16 : decode cX5_init 16 = .ok (.new 18, 3) := by decide +kernel
theorem dX5_init_19 : decode cX5_init 19 = .ok (.dup, 1) := by decide +kernel
theorem dX5_init_20 : decode cX5_init 20 = .ok (.invokespecial 20, 3) := by decide +kernel
theorem dX5_init_23 : decode cX5_init 23 = .ok (.putfield 21, 3) := by decide +kernel
theorem dX5_init_26 : decode cX5_init 26 = .ok (.aload_n 0, 1) := by decide +kernel
theorem dX5_init_27 : decode cX5_init 27 = .ok (.new 25, 3) := by decide +kernel
theorem dX5_init_30 : decode cX5_init 30 = .ok (.dup, 1) := by decide +kernel
theorem dX5_init_31 : decode cX5_init 31 = .ok (.bipush 10, 2) := by decide +kernel
theorem dX5_init_33 : decode cX5_init 33 = .ok (.invokespecial 27, 3) := by decide +kernel
theorem dX5_init_36 : decode cX5_init 36 = .ok (.putfield 30, 3) := by decide +kernel
theorem dX5_init_39 : decode cX5_init 39 = .ok (.aload_n 0, 1) := by decide +kernel
theorem dX5_init_40 : decode cX5_init 40 = .ok (.new 34, 3) := by decide +kernel
theorem dX5_init_43 : decode cX5_init 43 = .ok (.dup, 1) := by decide +kernel
theorem dX5_init_44 : decode cX5_init 44 = .ok (.invokespecial 36, 3) := by decide +kernel
theorem dX5_init_47 : decode cX5_init 47 = .ok (.putfield 37, 3) := by decide +kernel
theorem dX5_init_50 : decode cX5_init 50 = .ok (.aload_n 0, 1) := by decide +kernel
theorem dX5_init_51 : decode cX5_init 51 = .ok (.iconst 4, 1) := by decide +kernel
theorem dX5_init_52 : decode cX5_init 52 = .ok (.bipush 8, 2) := by decide +kernel
theorem dX5_init_54 : decode cX5_init 54 = .ok (.invokevirtual 41, 3) := by decide +kernel
theorem dX5_init_57 : decode cX5_init 57 = .ok (.return_, 1) := by decide +kernel
theorem dX5_reset_0 : decode cX5_reset 0 = .ok (.aload_n 0, 1) := by decide +kernel
theorem dX5_reset_1 : decode cX5_reset 1 = .ok (.getfield 12, 3) := by decide +kernel
theorem dX5_reset_4 : decode cX5_reset 4 = .ok (.iload_n 1, 1) := by decide +kernel
theorem dX5_reset_5 : decode cX5_reset 5 = .ok (.iload_n 2, 1) := by decide +kernel
theorem dX5_reset_6 : decode cX5_reset 6 = .ok (.invokevirtual 45, 3) := by decide +kernel
theorem dX5_reset_9 : decode cX5_reset 9 = .ok (.aload_n 0, 1) := by decide +kernel
theorem dX5_reset_10 : decode cX5_reset 10 = .ok (.getfield 21, 3) := by decide +kernel
theorem dX5_reset_13 : decode cX5_reset 13 = .ok (.invokevirtual 46, 3) := by decide +kernel
theorem dX5_reset_16 : decode cX5_reset 16 = .ok (.aload_n 0, 1) := by decide +kernel
theorem dX5_reset_17 : decode cX5_reset 17 = .ok (.getfield 21, 3) := by decide +kernel
theorem dX5_reset_20 : decode cX5_reset 20 = .ok (.iconst 0, 1) := by decide +kernel
theorem dX5_reset_21 : decode cX5_reset 21 = .ok (.putfield 49, 3) := by decide +kernel
theorem dX5_reset_24 : decode cX5_reset 24 = .ok (.aload_n 0, 1) := by decide +kernel
theorem dX5_reset_25 : decode cX5_reset 25 = .ok (.getfield 30, 3) := by decide +kernel
theorem dX5_reset_28 : decode cX5_reset 28 = .ok (.sipush 300, 3) := by decide +kernel
theorem dX5_reset_31 : decode cX5_reset 31 = .ok (.invokevirtual 53, 3) := by decide +kernel
theorem dX5_reset_34 : decode cX5_reset 34 = .ok (.aload_n 0, 1) := by decide +kernel
theorem dX5_reset_35 : decode cX5_reset 35 = .ok (.getfield 37, 3) := by decide +kernel
theorem dX5_reset_38 : decode cX5_reset 38 = .ok (.iconst 0, 1) := by decide +kernel
theorem dX5_reset_39 : decode cX5_reset 39 = .ok (.putfield 56, 3) := by decide +kernel
theorem dX5_reset_42 : decode cX5_reset 42 = .ok (.return_, 1) := by decide +kernel
theorem dX5_copyFrom_0 : decode cX5_copyFrom 0 = .ok (.aload_n 0, 1) := by decide +kernel
theorem dX5_copyFrom_1 : decode cX5_copyFrom 1 = .ok (.getfield 12, 3) := by decide +kernel
theorem dX5_copyFrom_4 : decode cX5_copyFrom 4 = .ok (.aload_n 1, 1) := by decide +kernel
theorem dX5_copyFrom_5 : decode cX5_copyFrom 5 = .ok (.getfield 12, 3) := by decide +kernel
theorem dX5_copyFrom_8 : decode cX5_copyFrom 8 = .ok (.invokevirtual 59, 3) := by decide +kernel
theorem dX5_copyFrom_11 : decode cX5_copyFrom 11 = .ok (.aload_n 0, 1) := by decide +kernel
theorem dX5_copyFrom_12 : decode cX5_copyFrom 12 = .ok (.getfield 21, 3) := by decide +kernel
theorem dX5_copyFrom_15 : decode cX5_copyFrom 15 = .ok (.aload_n 1, 1) := by decide +kernel
theorem dX5_copyFrom_16 : decode cX5_copyFrom 16 = .ok (.getfield 21, 3) := by decide +kernel
theorem dX5_copyFrom_19 : decode cX5_copyFrom 19 = .ok (.invokevirtual 63, 3) := by decide +kernel
theorem dX5_copyFrom_22 : decode cX5_copyFrom 22 = .ok (.aload_n 0, 1) := by decide +kernel
theorem dX5_copyFrom_23 : decode cX5_copyFrom 23 = .ok (.getfield 30, 3) := by decide +kernel
theorem dX5_copyFrom_26 : decode cX5_copyFrom 26 = .ok (.aload_n 1, 1) := by decide +kernel
theorem dX5_copyFrom_27 : decode cX5_copyFrom 27 = .ok (.getfield 30, 3) := by decide +kernel
theorem dX5_copyFrom_30 : decode cX5_copyFrom 30 = .ok (.invokevirtual 66, 3) := by decide +kernel
theorem dX5_copyFrom_33 : decode cX5_copyFrom 33 = .ok (.aload_n 0, 1) := by decide +kernel
theorem dX5_copyFrom_34 : decode cX5_copyFrom 34 = .ok (.getfield 37, 3) := by decide +kernel
theorem dX5_copyFrom_37 : decode cX5_copyFrom 37 = .ok (.aload_n 1, 1) := by decide +kernel
theorem dX5_copyFrom_38 : decode cX5_copyFrom 38 = .ok (.getfield 37, 3) := by decide +kernel
theorem dX5_copyFrom_41 : decode cX5_copyFrom 41 = .ok (.invokevirtual 69, 3) := by decide +kernel
theorem dX5_copyFrom_44 : decode cX5_copyFrom 44 = .ok (.return_, 1) := by decide +kernel
theorem dX5_makePick_0 : decode cX5_makePick 0 = .ok (.aload_n 0, 1) := by decide +kernel
theorem dX5_makePick_1 : decode cX5_makePick 1 = .ok (.getfield 37, 3) := by decide +kernel
theorem dX5_makePick_4 : decode cX5_makePick 4 = .ok (.getfield 56, 3) := by decide +kernel
theorem dX5_makePick_7 : decode cX5_makePick 7 = .ok (.istore_n 1, 1) := by decide +kernel
theorem dX5_makePick_8 : decode cX5_makePick 8 = .ok (.aload_n 0, 1) := by decide +kernel
theorem dX5_makePick_9 : decode cX5_makePick 9 = .ok (.getfield 21, 3) := by decide +kernel
theorem dX5_makePick_12 : decode cX5_makePick 12 = .ok (.getfield 72, 3) := by decide +kernel
theorem dX5_makePick_15 : decode cX5_makePick 15 = .ok (.aload_n 0, 1) := by decide +kernel
theorem dX5_makePick_16 : decode cX5_makePick 16 = .ok (.getfield 21, 3) := by decide +kernel
theorem dX5_makePick_19 : decode cX5_makePick 19 = .ok (.getfield 75, 3) := by decide +kernel
theorem dX5_makePick_22 : decode cX5_makePick 22 = .ok (.invokevirtual 78, 3) := by decide +kernel
theorem dX5_makePick_25 : decode cX5_makePick 25 = .ok (.istore_n 2, 1) := by decide +kernel
theorem dX5_makePick_26 : decode cX5_makePick 26 = .ok (.aload_n 0, 1) := by decide +kernel
theorem dX5_makePick_27 : decode cX5_makePick 27 = .ok (.getfield 21, 3) := by decide +kernel
theorem dX5_makePick_30 : decode cX5_makePick 30 = .ok (.getfield 82, 3) := by decide +kernel
theorem dX5_makePick_33 : decode cX5_makePick 33 = .ok (.aload_n 0, 1) := by decide +kernel
theorem dX5_makePick_34 : decode cX5_makePick 34 = .ok (.getfield 21, 3) := by decide +kernel
theorem dX5_makePick_37 : decode cX5_makePick 37 = .ok (.getfield 75, 3) := by decide +kernel
theorem dX5_makePick_40 : decode cX5_makePick 40 = .ok (.invokevirtual 78, 3) := by decide +kernel
theorem dX5_makePick_43 : decode cX5_makePick 43 = .ok (.istore_n 3, 1) := by decide +kernel
theorem dX5_makePick_44 : decode cX5_makePick 44 = .ok (.aload_n 0, 1) := by decide +kernel
theorem dX5_makePick_45 : decode cX5_makePick 45 = .ok (.getfield 37, 3) := by decide +kernel
theorem dX5_makePick_48 : decode cX5_makePick 48 = .ok (.getfield 85, 3) := by decide +kernel
theorem dX5_makePick_51 : decode cX5_makePick 51 = .ok (.iload_n 1, 1) := by decide +kernel
theorem dX5_makePick_52 : decode cX5_makePick 52 = .ok (.iload_n 2, 1) := by decide +kernel
theorem dX5_makePick_53 : decode cX5_makePick 53 = .ok (.invokevirtual 86, 3) := by decide +kernel
theorem dX5_makePick_56 : decode cX5_makePick 56 = .ok (.aload_n 0, 1) := by decide +kernel
theorem dX5_makePick_57 : decode cX5_makePick 57 = .ok (.getfield 37, 3) := by decide +kernel
theorem dX5_makePick_60 : decode cX5_makePick 60 = .ok (.getfield 89, 3) := by decide +kernel
theorem dX5_makePick_63 : decode cX5_makePick 63 = .ok (.iload_n 1, 1) := by decide +kernel
theorem dX5_makePick_64 : decode cX5_makePick 64 = .ok (.aload_n 0, 1) := by decide +kernel
theorem dX5_makePick_65 : decode cX5_makePick 65 = .ok (.getfield 21, 3) := by decide +kernel
theorem dX5_makePick_68 : decode cX5_makePick 68 = .ok (.getfield 75, 3) := by decide +kernel
theorem dX5_makePick_71 : decode cX5_makePick 71 = .ok (.invokevirtual 86, 3) := by decide +kernel
theorem dX5_makePick_74 : decode cX5_makePick 74 = .ok (.aload_n 0, 1) := by decide +kernel
theorem dX5_makePick_75 : decode cX5_makePick 75 = .ok (.getfield 37, 3) := by decide +kernel
theorem dX5_makePick_78 : decode cX5_makePick 78 = .ok (.getfield 92, 3) := by decide +kernel
theorem dX5_makePick_81 : decode cX5_makePick 81 = .ok (.iload_n 1, 1) := by decide +kernel
theorem dX5_makePick_82 : decode cX5_makePick 82 = .ok (.aload_n 0, 1) := by decide +kernel
theorem dX5_makePick_83 : decode cX5_makePick 83 = .ok (.getfield 12, 3) := by decide +kernel
theorem dX5_makePick_86 : decode cX5_makePick 86 = .ok (.iload_n 3, 1) := by decide +kernel
theorem dX5_makePick_87 : decode cX5_makePick 87 = .ok (.invokevirtual 95, 3) := by decide +kernel
theorem dX5_makePick_90 : decode cX5_makePick 90 = .ok (.invokevirtual 86, 3) := by decide +kernel
theorem dX5_makePick_93 : decode cX5_makePick 93 = .ok (.aload_n 0, 1) := by decide +kernel
theorem dX5_makePick_94 : decode cX5_makePick 94 = .ok (.iload_n 1, 1) := by decide +kernel
theorem dX5_makePick_95 : decode cX5_makePick 95 = .ok (.aload_n 0, 1) := by decide +kernel
theorem dX5_makePick_96 : decode cX5_makePick 96 = .ok (.getfield 12, 3) := by decide +kernel
theorem dX5_makePick_99 : decode cX5_makePick 99 = .ok (.aload_n 0, 1) := by decide +kernel
theorem dX5_makePick_100 : decode cX5_makePick 100 = .ok (.getfield 12, 3) := by decide +kernel
theorem dX5_makePick_103 : decode cX5_makePick 103 = .ok (.iload_n 3, 1) := by decide +kernel
theorem dX5_makePick_104 : decode cX5_makePick 104 = .ok (.invokevirtual 98, 3) := by decide +kernel
theorem dX5_makePick_107 : decode cX5_makePick 107 = .ok (.invokevirtual 95, 3) := by decide +kernel
theorem dX5_makePick_110 : decode cX5_makePick 110 = .ok (.aload_n 0, 1) := by decide +kernel
theorem dX5_makePick_111 : decode cX5_makePick 111 = .ok (.getfield 30, 3) := by decide +kernel
theorem dX5_makePick_114 : decode cX5_makePick 114 = .ok (.iload_n 2, 1) := by decide +kernel
theorem dX5_makePick_115 : decode cX5_makePick 115 = .ok (.invokevirtual 78, 3) := by decide +kernel
theorem dX5_makePick_118 : decode cX5_makePick 118 = .ok (.invokevirtual 101, 3) := by decide +kernel
theorem dX5_makePick_121 : decode cX5_makePick 121 = .ok (.aload_n 0, 1) := by decide +kernel
theorem dX5_makePick_122 : decode cX5_makePick 122 = .ok (.getfield 30, 3) := by decide +kernel
theorem dX5_makePick_125 : decode cX5_makePick 125 = .ok (.iload_n 2, 1) := by decide +kernel
theorem dX5_makePick_126 : decode cX5_makePick 126 = .ok (.aload_n 0, 1) := by decide +kernel
theorem dX5_makePick_127 : decode cX5_makePick 127 = .ok (.getfield 30, 3) := by decide +kernel
theorem dX5_makePick_130 : decode cX5_makePick 130 = .ok (.iload_n 2, 1) := by decide +kernel
theorem dX5_makePick_131 : decode cX5_makePick 131 = .ok (.invokevirtual 78, 3) := by decide +kernel
theorem dX5_makePick_134 : decode cX5_makePick 134 = .ok (.aload_n 0, 1) := by decide +kernel
theorem dX5_makePick_135 : decode cX5_makePick 135 = .ok (.getfield 37, 3) := by decide +kernel
theorem dX5_makePick_138 : decode cX5_makePick 138 = .ok (.getfield 105, 3) := by decide +kernel
theorem dX5_makePick_141 : decode cX5_makePick 141 = .ok (.iload_n 1, 1) := by decide +kernel
theorem dX5_makePick_142 : decode cX5_makePick 142 = .ok (.invokevirtual 78, 3) := by decide +kernel
theorem dX5_makePick_145 : decode cX5_makePick 145 = .ok (.isub, 1) := by decide +kernel
theorem dX5_makePick_146 : decode cX5_makePick 146 = .ok (.invokevirtual 86, 3) := by decide +kernel
theorem dX5_makePick_149 : decode cX5_makePick 149 = .ok (.aload_n 0, 1) := by decide +kernel
theorem dX5_makePick_150 : decode cX5_makePick 150 = .ok (.getfield 37, 3) := by decide +kernel
theorem dX5_makePick_153 : decode cX5_makePick 153 = .ok (.iload_n 1, 1) := by decide +kernel
theorem dX5_makePick_154 : decode cX5_makePick 154 = .ok (.iconst 1, 1) := by decide +kernel
theorem dX5_makePick_155 : decode cX5_makePick 155 = .ok (.iadd, 1) := by decide +kernel
theorem dX5_makePick_156 : decode cX5_makePick 156 = .ok (.putfield 56, 3) := by decide +kernel
theorem dX5_makePick_159 : decode cX5_makePick 159 = .ok (.aload_n 0, 1) := by decide +kernel
theorem dX5_makePick_160 : decode cX5_makePick 160 = .ok (.getfield 21, 3) := by decide +kernel
theorem dX5_makePick_163 : decode cX5_makePick 163 = .ok (.aload_n 0, 1) := by decide +kernel
theorem dX5_makePick_164 : decode cX5_makePick 164 = .ok (.getfield 21, 3) := by decide +kernel
theorem dX5_makePick_167 : decode cX5_makePick 167 = .ok (.aload_n 0, 1) := by decide +kernel
theorem dX5_makePick_168 : decode cX5_makePick 168 = .ok (.getfield 21, 3) := by decide +kernel
theorem dX5_makePick_171 : decode cX5_makePick 171 = .ok (.getfield 75, 3) := by decide +kernel
theorem dX5_makePick_174 : decode cX5_makePick 174 = .ok (.invokevirtual 108, 3) := by decide +kernel
theorem dX5_makePick_177 : decode cX5_makePick 177 = .ok (.putfield 75, 3) := by decide +kernel
theorem dX5_makePick_180 : decode cX5_makePick 180 = .ok (.return_, 1) := by decide +kernel
theorem dX5_layWeft_0 : decode cX5_layWeft 0 = .ok (.iload_n 1, 1) := by decide +kernel
theorem dX5_layWeft_1 : decode cX5_layWeft 1 = .ok (.iconst 1, 1) := by decide +kernel
theorem dX5_layWeft_2 : decode cX5_layWeft 2 = .ok (.iand, 1) := by decide +kernel
theorem dX5_layWeft_3 : decode cX5_layWeft 3 = .ok (.ifCond .ne 7, 3) := by decide +kernel
theorem dX5_layWeft_6 : decode cX5_layWeft 6 = .ok (.iconst 1, 1) := by decide +kernel
theorem dX5_layWeft_7 : decode cX5_layWeft 7 = .ok (.goto 4, 3) := by decide +kernel
theorem dX5_layWeft_10 : decode cX5_layWeft 10 = .ok (.iconst 0, 1) := by decide +kernel
theorem dX5_layWeft_11 : decode cX5_layWeft 11 = .ok (.istore 4, 2) := by decide +kernel
theorem dX5_layWeft_13 : decode cX5_layWeft 13 = .ok (.iconst 0, 1) := by decide +kernel
theorem dX5_layWeft_14 : decode cX5_layWeft 14 = .ok (.istore 5, 2) := by decide +kernel
theorem dX5_layWeft_16 : decode cX5_layWeft 16 = .ok (.iconst 0, 1) := by decide +kernel
theorem dX5_layWeft_17 : decode cX5_layWeft 17 = .ok (.istore 6, 2) := by decide +kernel
theorem dX5_layWeft_19 : decode cX5_layWeft 19 = .ok (.iconst (-1), 1) := by decide +kernel
theorem dX5_layWeft_20 : decode cX5_layWeft 20 = .ok (.istore 7, 2) := by decide +kernel
theorem dX5_layWeft_22 : decode cX5_layWeft 22 = .ok (.iconst 0, 1) := by decide +kernel
theorem dX5_layWeft_23 : decode cX5_layWeft 23 = .ok (.istore 8, 2) := by decide +kernel
theorem dX5_layWeft_25 : decode cX5_layWeft 25 = .ok (.iload 8, 2) := by decide +kernel
theorem dX5_layWeft_27 : decode cX5_layWeft 27 = .ok (.aload_n 0, 1) := by decide +kernel
theorem dX5_layWeft_28 : decode cX5_layWeft 28 = .ok (.getfield 12, 3) := by decide +kernel
theorem dX5_layWeft_31 : decode cX5_layWeft 31 = .ok (.getfield 111, 3) := by decide +kernel
theorem dX5_layWeft_34 : decode cX5_layWeft 34 = .ok (.if_icmp .ge 92, 3) := by decide +kernel
theorem dX5_layWeft_37 : decode cX5_layWeft 37 = .ok (.iload 4, 2) := by decide +kernel
theorem dX5_layWeft_39 : decode cX5_layWeft 39 = .ok (.ifCond .eq 8, 3) := by decide +kernel
theorem dX5_layWeft_42 : decode cX5_layWeft 42 = .ok (.iload 8, 2) := by decide +kernel
theorem dX5_layWeft_44 : decode cX5_layWeft 44 = .ok (.goto 15, 3) := by decide +kernel
theorem dX5_layWeft_47 : decode cX5_layWeft 47 = .ok (.aload_n 0, 1) := by decide +kernel
theorem dX5_layWeft_48 : decode cX5_layWeft 48 = .ok (.getfield 12, 3) := by decide +kernel
theorem dX5_layWeft_51 : decode cX5_layWeft 51 = .ok (.getfield 111, 3) := by decide +kernel
theorem dX5_layWeft_54 : decode cX5_layWeft 54 = .ok (.iconst 1, 1) := by decide +kernel
theorem dX5_layWeft_55 : decode cX5_layWeft 55 = .ok (.isub, 1) := by decide +kernel
theorem dX5_layWeft_56 : decode cX5_layWeft 56 = .ok (.iload 8, 2) := by decide +kernel
theorem dX5_layWeft_58 : decode cX5_layWeft 58 = .ok (.isub, 1) := by decide +kernel
theorem dX5_layWeft_59 : decode cX5_layWeft 59 = .ok (.istore 9, 2) := by decide +kernel
theorem dX5_layWeft_61 : decode cX5_layWeft 61 = .ok (.iload_n 2, 1) := by decide +kernel
theorem dX5_layWeft_62 : decode cX5_layWeft 62 = .ok (.iload 9, 2) := by decide +kernel
theorem dX5_layWeft_64 : decode cX5_layWeft 64 = .ok (.invokestatic 114, 3) := by decide +kernel
theorem dX5_layWeft_67 : decode cX5_layWeft 67 = .ok (.istore 10, 2) := by decide +kernel
theorem dX5_layWeft_69 : decode cX5_layWeft 69 = .ok (.iload 8, 2) := by decide +kernel
theorem dX5_layWeft_71 : decode cX5_layWeft 71 = .ok (.ifCond .eq 10, 3) := by decide +kernel
theorem dX5_layWeft_74 : decode cX5_layWeft 74 = .ok (.iload 10, 2) := by decide +kernel
theorem dX5_layWeft_76 : decode cX5_layWeft 76 = .ok (.iload 7, 2) := by decide +kernel
theorem dX5_layWeft_78 : decode cX5_layWeft 78 = .ok (.if_icmp .ne 7, 3) := by decide +kernel
theorem dX5_layWeft_81 : decode cX5_layWeft 81 = .ok (.iconst 1, 1) := by decide +kernel
theorem dX5_layWeft_82 : decode cX5_layWeft 82 = .ok (.goto 4, 3) := by decide +kernel
theorem dX5_layWeft_85 : decode cX5_layWeft 85 = .ok (.iconst 2, 1) := by decide +kernel
theorem dX5_layWeft_86 : decode cX5_layWeft 86 = .ok (.istore 11, 2) := by decide +kernel
theorem dX5_layWeft_88 : decode cX5_layWeft 88 = .ok (.iload 11, 2) := by decide +kernel
theorem dX5_layWeft_90 : decode cX5_layWeft 90 = .ok (.iload_n 3, 1) := by decide +kernel
theorem dX5_layWeft_91 : decode cX5_layWeft 91 = .ok (.iload 6, 2) := by decide +kernel
theorem dX5_layWeft_93 : decode cX5_layWeft 93 = .ok (.isub, 1) := by decide +kernel
theorem dX5_layWeft_94 : decode cX5_layWeft 94 = .ok (.if_icmp .le 6, 3) := by decide +kernel
theorem dX5_layWeft_97 : decode cX5_layWeft 97 = .ok (.goto 29, 3) := by decide +kernel
theorem dX5_layWeft_100 : decode cX5_layWeft 100 = .ok (.iload 6, 2) := by decide +kernel
theorem dX5_layWeft_102 : decode cX5_layWeft 102 = .ok (.iload 11, 2) := by decide +kernel
theorem dX5_layWeft_104 : decode cX5_layWeft 104 = .ok (.iadd, 1) := by decide +kernel
theorem dX5_layWeft_105 : decode cX5_layWeft 105 = .ok (.istore 6, 2) := by decide +kernel
theorem dX5_layWeft_107 : decode cX5_layWeft 107 = .ok (.iload 5, 2) := by decide +kernel
theorem dX5_layWeft_109 : decode cX5_layWeft 109 = .ok (.iconst 1, 1) := by decide +kernel
theorem dX5_layWeft_110 : decode cX5_layWeft 110 = .ok (.iload 9, 2) := by decide +kernel
theorem dX5_layWeft_112 : decode cX5_layWeft 112 = .ok (.ishl, 1) := by decide +kernel
theorem dX5_layWeft_113 : decode cX5_layWeft 113 = .ok (.ior, 1) := by decide +kernel
theorem dX5_layWeft_114 : decode cX5_layWeft 114 = .ok (.istore 5, 2) := by decide +kernel
theorem dX5_layWeft_116 : decode cX5_layWeft 116 = .ok (.iload 10, 2) := by decide +kernel
theorem dX5_layWeft_118 : decode cX5_layWeft 118 = .ok (.istore 7, 2) := by decide +kernel
theorem dX5_layWeft_120 : decode cX5_layWeft 120 = .ok (.iinc 8 1, 3) := by decide +kernel
theorem dX5_layWeft_123 : decode cX5_layWeft 123 = .ok (.goto (-98), 3) := by decide +kernel
theorem dX5_layWeft_126 : decode cX5_layWeft 126 = .ok (.aload_n 0, 1) := by decide +kernel
theorem dX5_layWeft_127 : decode cX5_layWeft 127 = .ok (.getfield 37, 3) := by decide +kernel
theorem dX5_layWeft_130 : decode cX5_layWeft 130 = .ok (.getfield 118, 3) := by decide +kernel
theorem dX5_layWeft_133 : decode cX5_layWeft 133 = .ok (.iload_n 1, 1) := by decide +kernel
theorem dX5_layWeft_134 : decode cX5_layWeft 134 = .ok (.iload_n 2, 1) := by decide +kernel
theorem dX5_layWeft_135 : decode cX5_layWeft 135 = .ok (.iload 5, 2) := by decide +kernel
theorem dX5_layWeft_137 : decode cX5_layWeft 137 = .ok (.iand, 1) := by decide +kernel
theorem dX5_layWeft_138 : decode cX5_layWeft 138 = .ok (.invokevirtual 86, 3) := by decide +kernel
theorem dX5_layWeft_141 : decode cX5_layWeft 141 = .ok (.aload_n 0, 1) := by decide +kernel
theorem dX5_layWeft_142 : decode cX5_layWeft 142 = .ok (.getfield 37, 3) := by decide +kernel
theorem dX5_layWeft_145 : decode cX5_layWeft 145 = .ok (.getfield 121, 3) := by decide +kernel
theorem dX5_layWeft_148 : decode cX5_layWeft 148 = .ok (.iload_n 1, 1) := by decide +kernel
theorem dX5_layWeft_149 : decode cX5_layWeft 149 = .ok (.aload_n 0, 1) := by decide +kernel
theorem dX5_layWeft_150 : decode cX5_layWeft 150 = .ok (.getfield 12, 3) := by decide +kernel
theorem dX5_layWeft_153 : decode cX5_layWeft 153 = .ok (.invokevirtual 124, 3) := by decide +kernel
theorem dX5_layWeft_156 : decode cX5_layWeft 156 = .ok (.iload 5, 2) := by decide +kernel
theorem dX5_layWeft_158 : decode cX5_layWeft 158 = .ok (.iconst (-1), 1) := by decide +kernel
theorem dX5_layWeft_159 : decode cX5_layWeft 159 = .ok (.ixor, 1) := by decide +kernel
theorem dX5_layWeft_160 : decode cX5_layWeft 160 = .ok (.iand, 1) := by decide +kernel
theorem dX5_layWeft_161 : decode cX5_layWeft 161 = .ok (.invokevirtual 86, 3) := by decide +kernel
theorem dX5_layWeft_164 : decode cX5_layWeft 164 = .ok (.aload_n 0, 1) := by decide +kernel
theorem dX5_layWeft_165 : decode cX5_layWeft 165 = .ok (.getfield 37, 3) := by decide +kernel
theorem dX5_layWeft_168 : decode cX5_layWeft 168 = .ok (.getfield 105, 3) := by decide +kernel
theorem dX5_layWeft_171 : decode cX5_layWeft 171 = .ok (.iload_n 1, 1) := by decide +kernel
theorem dX5_layWeft_172 : decode cX5_layWeft 172 = .ok (.iload 6, 2) := by decide +kernel
theorem dX5_layWeft_174 : decode cX5_layWeft 174 = .ok (.invokevirtual 86, 3) := by decide +kernel
theorem dX5_layWeft_177 : decode cX5_layWeft 177 = .ok (.return_, 1) := by decide +kernel
theorem dX5_takeOutLastRow_0 : decode cX5_takeOutLastRow 0 = .ok (.aload_n 0, 1) := by decide +kernel
theorem dX5_takeOutLastRow_1 : decode cX5_takeOutLastRow 1 = .ok (.getfield 37, 3) := by decide +kernel
theorem dX5_takeOutLastRow_4 : decode cX5_takeOutLastRow 4 = .ok (.getfield 56, 3) := by decide +kernel
theorem dX5_takeOutLastRow_7 : decode cX5_takeOutLastRow 7 = .ok (.iconst 1, 1) := by decide +kernel
theorem dX5_takeOutLastRow_8 : decode cX5_takeOutLastRow 8 = .ok (.isub, 1) := by decide +kernel
theorem dX5_takeOutLastRow_9 : decode cX5_takeOutLastRow 9 = .ok (.istore_n 1, 1) := by decide +kernel
theorem dX5_takeOutLastRow_10 : decode cX5_takeOutLastRow 10 = .ok (.aload_n 0, 1) := by decide +kernel
theorem dX5_takeOutLastRow_11 : decode cX5_takeOutLastRow 11 = .ok (.getfield 37, 3) := by decide +kernel
theorem dX5_takeOutLastRow_14 : decode cX5_takeOutLastRow 14 = .ok (.getfield 85, 3) := by decide +kernel
theorem dX5_takeOutLastRow_17 : decode cX5_takeOutLastRow 17 = .ok (.iload_n 1, 1) := by decide +kernel
theorem dX5_takeOutLastRow_18 : decode cX5_takeOutLastRow 18 = .ok (.invokevirtual 78, 3) := by decide +kernel
theorem dX5_takeOutLastRow_21 : decode cX5_takeOutLastRow 21 = .ok (.istore_n 2, 1) := by decide +kernel
theorem dX5_takeOutLastRow_22 : decode cX5_takeOutLastRow 22 = .ok (.aload_n 0, 1) := by decide +kernel
theorem dX5_takeOutLastRow_23 : decode cX5_takeOutLastRow 23 = .ok (.getfield 30, 3) := by decide +kernel
theorem dX5_takeOutLastRow_26 : decode cX5_takeOutLastRow 26 = .ok (.iload_n 2, 1) := by decide +kernel
theorem dX5_takeOutLastRow_27 : decode cX5_takeOutLastRow 27 = .ok (.aload_n 0, 1) := by decide +kernel
theorem dX5_takeOutLastRow_28 : decode cX5_takeOutLastRow 28 = .ok (.getfield 30, 3) := by decide +kernel
theorem dX5_takeOutLastRow_31 : decode cX5_takeOutLastRow 31 = .ok (.iload_n 2, 1) := by decide +kernel
theorem dX5_takeOutLastRow_32 : decode cX5_takeOutLastRow 32 = .ok (.invokevirtual 78, 3) := by decide +kernel
theorem dX5_takeOutLastRow_35 : decode cX5_takeOutLastRow 35 = .ok (.aload_n 0, 1) := by decide +kernel
theorem dX5_takeOutLastRow_36 : decode cX5_takeOutLastRow 36 = .ok (.getfield 37, 3) := by decide +kernel
theorem dX5_takeOutLastRow_39 : decode cX5_takeOutLastRow 39 = .ok (.getfield 105, 3) := by decide +kernel
theorem dX5_takeOutLastRow_42 : decode cX5_takeOutLastRow 42 = .ok (.iload_n 1, 1) := by decide +kernel
theorem dX5_takeOutLastRow_43 : decode cX5_takeOutLastRow 43 = .ok (.invokevirtual 78, 3) := by decide +kernel
theorem dX5_takeOutLastRow_46 : decode cX5_takeOutLastRow 46 = .ok (.iadd, 1) := by decide +kernel
theorem dX5_takeOutLastRow_47 : decode cX5_takeOutLastRow 47 = .ok (.invokevirtual 86, 3) := by decide +kernel
theorem dX5_takeOutLastRow_50 : decode cX5_takeOutLastRow 50 = .ok (.aload_n 0, 1) := by decide +kernel
theorem dX5_takeOutLastRow_51 : decode cX5_takeOutLastRow 51 = .ok (.getfield 37, 3) := by decide +kernel
theorem dX5_takeOutLastRow_54 : decode cX5_takeOutLastRow 54 = .ok (.iload_n 1, 1) := by decide +kernel
theorem dX5_takeOutLastRow_55 : decode cX5_takeOutLastRow 55 = .ok (.putfield 56, 3) := by decide +kernel
theorem dX5_takeOutLastRow_58 : decode cX5_takeOutLastRow 58 = .ok (.aload_n 0, 1) := by decide +kernel
theorem dX5_takeOutLastRow_59 : decode cX5_takeOutLastRow 59 = .ok (.getfield 21, 3) := by decide +kernel
theorem dX5_takeOutLastRow_62 : decode cX5_takeOutLastRow 62 = .ok (.aload_n 0, 1) := by decide +kernel
theorem dX5_takeOutLastRow_63 : decode cX5_takeOutLastRow 63 = .ok (.getfield 21, 3) := by decide +kernel
theorem dX5_takeOutLastRow_66 : decode cX5_takeOutLastRow 66 = .ok (.aload_n 0, 1) := by decide +kernel
theorem dX5_takeOutLastRow_67 : decode cX5_takeOutLastRow 67 = .ok (.getfield 21, 3) := by decide +kernel
theorem dX5_takeOutLastRow_70 : decode cX5_takeOutLastRow 70 = .ok (.getfield 75, 3) := by decide +kernel
theorem dX5_takeOutLastRow_73 : decode cX5_takeOutLastRow 73 = .ok (.invokevirtual 128, 3) := by decide +kernel
theorem dX5_takeOutLastRow_76 : decode cX5_takeOutLastRow 76 = .ok (.putfield 75, 3) := by decide +kernel
theorem dX5_takeOutLastRow_79 : decode cX5_takeOutLastRow 79 = .ok (.return_, 1) := by decide +kernel
theorem dX6_init_0 : decode cX6_init 0 = .ok (.aload_n 0, 1) := by decide +kernel
theorem dX6_init_1 : decode cX6_init 1 = .ok (.invokespecial 3, 3) := by decide +kernel
theorem dX6_init_4 : decode cX6_init 4 = .ok (.aload_n 0, 1) := by decide +kernel
theorem dX6_init_5 : decode cX6_init 5 = .ok (.new 9, 3) := by decide +kernel
theorem dX6_init_8 : decode cX6_init 8 = .ok (.dup, 1) := by decide +kernel
theorem dX6_init_9 : decode cX6_init 9 = .ok (.bipush 32, 2) := by decide +kernel
theorem dX6_init_11 : decode cX6_init 11 = .ok (.invokespecial 11, 3) := by decide +kernel
theorem dX6_init_14 : decode cX6_init 14 = .ok (.putfield 14, 3) := by decide +kernel
theorem dX6_init_17 : decode cX6_init 17 = .ok (.aload_n 0, 1) := by decide +kernel
theorem dX6_init_18 : decode cX6_init 18 = .ok (.new 9, 3) := by decide +kernel
theorem dX6_init_21 : decode cX6_init 21 = .ok (.dup, 1) := by decide +kernel
theorem dX6_init_22 : decode cX6_init 22 = .ok (.bipush 32, 2) := by decide +kernel
theorem dX6_init_24 : decode cX6_init 24 = .ok (.invokespecial 11, 3) := by decide +kernel
theorem dX6_init_27 : decode cX6_init 27 = .ok (.putfield 20, 3) := by decide +kernel
theorem dX6_init_30 : decode cX6_init 30 = .ok (.aload_n 0, 1) := by decide +kernel
theorem dX6_init_31 : decode cX6_init 31 = .ok (.new 9, 3) := by decide +kernel
theorem dX6_init_34 : decode cX6_init 34 = .ok (.dup, 1) := by decide +kernel
theorem dX6_init_35 : decode cX6_init 35 = .ok (.bipush 8, 2) := by decide +kernel
theorem dX6_init_37 : decode cX6_init 37 = .ok (.invokespecial 11, 3) := by decide +kernel
theorem dX6_init_40 : decode cX6_init 40 = .ok (.putfield 23, 3) := by decide +kernel
theorem dX6_init_43 : decode cX6_init 43 = .ok (.return_, 1) := by decide +kernel
theorem dX6_reset_0 : decode cX6_reset 0 = .ok (.aload_n 0, 1) := by decide +kernel
theorem dX6_reset_1 : decode cX6_reset 1 = .ok (.iload_n 1, 1) := by decide +kernel
theorem dX6_reset_2 : decode cX6_reset 2 = .ok (.putfield 26, 3) := by decide +kernel
theorem dX6_reset_5 : decode cX6_reset 5 = .ok (.aload_n 0, 1) := by decide +kernel
theorem dX6_reset_6 : decode cX6_reset 6 = .ok (.iload_n 2, 1) := by decide +kernel
theorem dX6_reset_7 : decode cX6_reset 7 = .ok (.putfield 30, 3) := by decide +kernel
theorem dX6_reset_10 : decode cX6_reset 10 = .ok (.aload_n 0, 1) := by decide +kernel
theorem dX6_reset_11 : decode cX6_reset 11 = .ok (.getfield 20, 3) := by decide +kernel
theorem dX6_reset_14 : decode cX6_reset 14 = .ok (.iconst 0, 1) := by decide +kernel
theorem dX6_reset_15 : decode cX6_reset 15 = .ok (.invokevirtual 33, 3) := by decide +kernel
theorem dX6_reset_18 : decode cX6_reset 18 = .ok (.aload_n 0, 1) := by decide +kernel
theorem dX6_reset_19 : decode cX6_reset 19 = .ok (.getfield 23, 3) := by decide +kernel
theorem dX6_reset_22 : decode cX6_reset 22 = .ok (.iconst 0, 1) := by decide +kernel
theorem dX6_reset_23 : decode cX6_reset 23 = .ok (.invokevirtual 33, 3) := by decide +kernel
theorem dX6_reset_26 : decode cX6_reset 26 = .ok (.iconst 0, 1) := by decide +kernel
theorem dX6_reset_27 : decode cX6_reset 27 = .ok (.istore_n 3, 1) := by decide +kernel
theorem dX6_reset_28 : decode cX6_reset 28 = .ok (.iconst 0, 1) := by decide +kernel
theorem dX6_reset_29 : decode cX6_reset 29 = .ok (.istore 4, 2) := by decide +kernel
theorem dX6_reset_31 : decode cX6_reset 31 = .ok (.iload 4, 2) := by decide +kernel
theorem dX6_reset_33 : decode cX6_reset 33 = .ok (.bipush 32, 2) := by decide +kernel
theorem dX6_reset_35 : decode cX6_reset 35 = .ok (.if_icmp .ge 37, 3) := by decide +kernel
theorem dX6_reset_38 : decode cX6_reset 38 = .ok (.aload_n 0, 1) := by decide +kernel
theorem dX6_reset_39 : decode cX6_reset 39 = .ok (.getfield 14, 3) := by decide +kernel
theorem dX6_reset_42 : decode cX6_reset 42 = .ok (.iload 4, 2) := by decide +kernel
theorem dX6_reset_44 : decode cX6_reset 44 = .ok (.iload_n 3, 1) := by decide +kernel
theorem dX6_reset_45 : decode cX6_reset 45 = .ok (.invokevirtual 36, 3) := by decide +kernel
theorem dX6_reset_48 : decode cX6_reset 48 = .ok (.iload_n 3, 1) := by decide +kernel
theorem dX6_reset_49 : decode cX6_reset 49 = .ok (.iconst 1, 1) := by decide +kernel
theorem dX6_reset_50 : decode cX6_reset 50 = .ok (.iadd, 1) := by decide +kernel
theorem dX6_reset_51 : decode cX6_reset 51 = .ok (.aload_n 0, 1) := by decide +kernel
theorem dX6_reset_52 : decode cX6_reset 52 = .ok (.getfield 26, 3) := by decide +kernel
theorem dX6_reset_55 : decode cX6_reset 55 = .ok (.if_icmp .ge 9, 3) := by decide +kernel
theorem dX6_reset_58 : decode cX6_reset 58 = .ok (.iload_n 3, 1) := by decide +kernel
theorem dX6_reset_59 : decode cX6_reset 59 = .ok (.iconst 1, 1) := by decide +kernel
theorem dX6_reset_60 : decode cX6_reset 60 = .ok (.iadd, 1) := by decide +kernel
theorem dX6_reset_61 : decode cX6_reset 61 = .ok (.goto 4, 3) := by decide +kernel
theorem dX6_reset_64 : decode cX6_reset 64 = .ok (.iconst 0, 1) := by decide +kernel
theorem dX6_reset_65 : decode cX6_reset 65 = .ok (.istore_n 3, 1) := by decide +kernel
theorem dX6_reset_66 : decode cX6_reset 66 = .ok (.iinc 4 1, 3) := by decide +kernel
theorem dX6_reset_69 : decode cX6_reset 69 = .ok (.goto (-38), 3) := by decide +kernel
theorem dX6_reset_72 : decode cX6_reset 72 = .ok (.return_, 1) := by decide +kernel
theorem dX6_copyFrom_0 : decode cX6_copyFrom 0 = .ok (.aload_n 0, 1) := by decide +kernel
theorem dX6_copyFrom_1 : decode cX6_copyFrom 1 = .ok (.aload_n 1, 1) := by decide +kernel
theorem dX6_copyFrom_2 : decode cX6_copyFrom 2 = .ok (.getfield 26, 3) := by decide +kernel
theorem dX6_copyFrom_5 : decode cX6_copyFrom 5 = .ok (.putfield 26, 3) := by decide +kernel
theorem dX6_copyFrom_8 : decode cX6_copyFrom 8 = .ok (.aload_n 0, 1) := by decide +kernel
theorem dX6_copyFrom_9 : decode cX6_copyFrom 9 = .ok (.aload_n 1, 1) := by decide +kernel
theorem dX6_copyFrom_10 : decode cX6_copyFrom 10 = .ok (.getfield 30, 3) := by decide +kernel
theorem dX6_copyFrom_13 : decode cX6_copyFrom 13 = .ok (.putfield 30, 3) := by decide +kernel
theorem dX6_copyFrom_16 : decode cX6_copyFrom 16 = .ok (.aload_n 0, 1) := by decide +kernel
theorem dX6_copyFrom_17 : decode cX6_copyFrom 17 = .ok (.getfield 14, 3) := by decide +kernel
theorem dX6_copyFrom_20 : decode cX6_copyFrom 20 = .ok (.aload_n 1, 1) := by decide +kernel
theorem dX6_copyFrom_21 : decode cX6_copyFrom 21 = .ok (.getfield 14, 3) := by decide +kernel
theorem dX6_copyFrom_24 : decode cX6_copyFrom 24 = .ok (.invokevirtual 40, 3) := by decide +kernel
theorem dX6_copyFrom_27 : decode cX6_copyFrom 27 = .ok (.aload_n 0, 1) := by decide +kernel
theorem dX6_copyFrom_28 : decode cX6_copyFrom 28 = .ok (.getfield 20, 3) := by decide +kernel
theorem dX6_copyFrom_31 : decode cX6_copyFrom 31 = .ok (.aload_n 1, 1) := by decide +kernel
theorem dX6_copyFrom_32 : decode cX6_copyFrom 32 = .ok (.getfield 20, 3) := by decide +kernel
theorem dX6_copyFrom_35 : decode cX6_copyFrom 35 = .ok (.invokevirtual 40, 3) := by decide +kernel
theorem dX6_copyFrom_38 : decode cX6_copyFrom 38 = .ok (.aload_n 0, 1) := by decide +kernel
theorem dX6_copyFrom_39 : decode cX6_copyFrom 39 = .ok (.getfield 23, 3) := by decide +kernel
theorem dX6_copyFrom_42 : decode cX6_copyFrom 42 = .ok (.aload_n 1, 1) := by decide +kernel
theorem dX6_copyFrom_43 : decode cX6_copyFrom 43 = .ok (.getfield 23, 3) := by decide +kernel
theorem dX6_copyFrom_46 : decode cX6_copyFrom 46 = .ok (.invokevirtual 40, 3) := by decide +kernel
theorem dX6_copyFrom_49 : decode cX6_copyFrom 49 = .ok (.return_, 1) := by decide +kernel
theorem dX6_hasEnd_0 : decode cX6_hasEnd 0 = .ok (.iload_n 1, 1) := by decide +kernel
theorem dX6_hasEnd_1 : decode cX6_hasEnd 1 = .ok (.iconst 0, 1) := by decide +kernel
theorem dX6_hasEnd_2 : decode cX6_hasEnd 2 = .ok (.aload_n 0, 1) := by decide +kernel
theorem dX6_hasEnd_3 : decode cX6_hasEnd 3 = .ok (.getfield 30, 3) := by decide +kernel
theorem dX6_hasEnd_6 : decode cX6_hasEnd 6 = .ok (.iconst 1, 1) := by decide +kernel
theorem dX6_hasEnd_7 : decode cX6_hasEnd 7 = .ok (.isub, 1) := by decide +kernel
theorem dX6_hasEnd_8 : decode cX6_hasEnd 8 = .ok (.invokestatic 44, 3) := by decide +kernel
theorem dX6_hasEnd_11 : decode cX6_hasEnd 11 = .ok (.ireturn, 1) := by decide +kernel
theorem dX6_hasShaft_0 : decode cX6_hasShaft 0 = .ok (.iload_n 1, 1) := by decide +kernel
theorem dX6_hasShaft_1 : decode cX6_hasShaft 1 = .ok (.iconst 0, 1) := by decide +kernel
theorem dX6_hasShaft_2 : decode cX6_hasShaft 2 = .ok (.aload_n 0, 1) := by decide +kernel
theorem dX6_hasShaft_3 : decode cX6_hasShaft 3 = .ok (.getfield 26, 3) := by decide +kernel
theorem dX6_hasShaft_6 : decode cX6_hasShaft 6 = .ok (.iconst 1, 1) := by decide +kernel
theorem dX6_hasShaft_7 : decode cX6_hasShaft 7 = .ok (.isub, 1) := by decide +kernel
theorem dX6_hasShaft_8 : decode cX6_hasShaft 8 = .ok (.invokestatic 44, 3) := by decide +kernel
theorem dX6_hasShaft_11 : decode cX6_hasShaft 11 = .ok (.ireturn, 1) := by decide +kernel
theorem dX6_isLift_0 : decode cX6_isLift 0 = .ok (.iload_n 1, 1) := by decide +kernel
theorem dX6_isLift_1 : decode cX6_isLift 1 = .ok (.iconst 0, 1) := by decide +kernel
theorem dX6_isLift_2 : decode cX6_isLift 2 = .ok (.iconst 1, 1) := by decide +kernel
theorem dX6_isLift_3 : decode cX6_isLift 3 = .ok (.aload_n 0, 1) := by decide +kernel
theorem dX6_isLift_4 : decode cX6_isLift 4 = .ok (.getfield 26, 3) := by decide +kernel
theorem dX6_isLift_7 : decode cX6_isLift 7 = .ok (.ishl, 1) := by decide +kernel
theorem dX6_isLift_8 : decode cX6_isLift 8 = .ok (.iconst 1, 1) := by decide +kernel
theorem dX6_isLift_9 : decode cX6_isLift 9 = .ok (.isub, 1) := by decide +kernel
theorem dX6_isLift_10 : decode cX6_isLift 10 = .ok (.invokestatic 44, 3) := by decide +kernel
theorem dX6_isLift_13 : decode cX6_isLift 13 = .ok (.ireturn, 1) := by decide +kernel
theorem dX6_allEnds_0 : decode cX6_allEnds 0 = .ok (.aload_n 0, 1) := by decide +kernel
theorem dX6_allEnds_1 : decode cX6_allEnds 1 = .ok (.getfield 30, 3) := by decide +kernel
theorem dX6_allEnds_4 : decode cX6_allEnds 4 = .ok (.bipush 32, 2) := by decide +kernel
theorem dX6_allEnds_6 : decode cX6_allEnds 6 = .ok (.if_icmp .lt 7, 3) := by decide +kernel
theorem dX6_allEnds_9 : decode cX6_allEnds 9 = .ok (.iconst (-1), 1) := by decide +kernel
theorem dX6_allEnds_10 : decode cX6_allEnds 10 = .ok (.goto 11, 3) := by decide +kernel
theorem dX6_allEnds_13 : decode cX6_allEnds 13 = .ok (.iconst 1, 1) := by decide +kernel
theorem dX6_allEnds_14 : decode cX6_allEnds 14 = .ok (.aload_n 0, 1) := by decide +kernel
theorem dX6_allEnds_15 : decode cX6_allEnds 15 = .ok (.getfield 30, 3) := by decide +kernel
theorem dX6_allEnds_18 : decode cX6_allEnds 18 = .ok (.ishl, 1) := by decide +kernel
theorem dX6_allEnds_19 : decode cX6_allEnds 19 = .ok (.iconst 1, 1) := by decide +kernel
theorem dX6_allEnds_20 : decode cX6_allEnds 20 = .ok (.isub, 1) := by decide +kernel
theorem dX6_allEnds_21 : decode cX6_allEnds 21 = .ok (.ireturn, 1) := by decide +kernel
theorem dX6_liftedShafts_0 : decode cX6_liftedShafts 0 = .ok (.iload_n 1, 1) := by decide +kernel
theorem dX6_liftedShafts_1 : decode cX6_liftedShafts 1 = .ok (.istore_n 2, 1) := by decide +kernel
theorem dX6_liftedShafts_2 : decode cX6_liftedShafts 2 = .ok (.iconst 0, 1) := by decide +kernel
theorem dX6_liftedShafts_3 : decode cX6_liftedShafts 3 = .ok (.istore_n 3, 1) := by decide +kernel
theorem dX6_liftedShafts_4 : decode cX6_liftedShafts 4 = .ok (.iload_n 3, 1) := by decide +kernel
theorem dX6_liftedShafts_5 : decode cX6_liftedShafts 5 = .ok (.aload_n 0, 1) := by decide +kernel
theorem dX6_liftedShafts_6 : decode cX6_liftedShafts 6 = .ok (.getfield 26, 3) := by decide +kernel
theorem dX6_liftedShafts_9 : decode cX6_liftedShafts 9 = .ok (.if_icmp .ge 48, 3) := by decide +kernel
theorem dX6_liftedShafts_12 : decode cX6_liftedShafts 12 = .ok (.aload_n 0, 1) := by decide +kernel
theorem dX6_liftedShafts_13 : decode cX6_liftedShafts 13 = .ok (.getfield 23, 3) := by decide +kernel
theorem dX6_liftedShafts_16 : decode cX6_liftedShafts 16 = .ok (.iload_n 3, 1) := by decide +kernel
theorem dX6_liftedShafts_17 : decode cX6_liftedShafts 17 = .ok (.invokevirtual 48, 3) := by decide +kernel
theorem dX6_liftedShafts_20 : decode cX6_liftedShafts 20 = .ok (.istore 4, 2) := by decide +kernel
theorem dX6_liftedShafts_22 : decode cX6_liftedShafts 22 = .ok (.iload 4, 2) := by decide +kernel
theorem dX6_liftedShafts_24 : decode cX6_liftedShafts 24 = .ok (.iconst 1, 1) := by decide +kernel
theorem dX6_liftedShafts_25 : decode cX6_liftedShafts 25 = .ok (.if_icmp .ne 14, 3) := by decide +kernel
theorem dX6_liftedShafts_28 : decode cX6_liftedShafts 28 = .ok (.iload_n 2, 1) := by decide +kernel
theorem dX6_liftedShafts_29 : decode cX6_liftedShafts 29 = .ok (.iconst 1, 1) := by decide +kernel
theorem dX6_liftedShafts_30 : decode cX6_liftedShafts 30 = .ok (.iload_n 3, 1) := by decide +kernel
theorem dX6_liftedShafts_31 : decode cX6_liftedShafts 31 = .ok (.ishl, 1) := by decide +kernel
theorem dX6_liftedShafts_32 : decode cX6_liftedShafts 32 = .ok (.iconst (-1), 1) := by decide +kernel
theorem dX6_liftedShafts_33 : decode cX6_liftedShafts 33 = .ok (.ixor, 1) := by decide +kernel
theorem dX6_liftedShafts_34 : decode cX6_liftedShafts 34 = .ok (.iand, 1) := by decide +kernel
theorem dX6_liftedShafts_35 : decode cX6_liftedShafts 35 = .ok (.istore_n 2, 1) := by decide +kernel
theorem dX6_liftedShafts_36 : decode cX6_liftedShafts 36 = .ok (.goto 15, 3) := by decide +kernel
theorem dX6_liftedShafts_39 : decode cX6_liftedShafts 39 = .ok (.iload 4, 2) := by decide +kernel
theorem dX6_liftedShafts_41 : decode cX6_liftedShafts 41 = .ok (.iconst 2, 1) := by decide +kernel
theorem dX6_liftedShafts_42 : decode cX6_liftedShafts 42 = .ok (.if_icmp .ne 9, 3) := by decide +kernel
theorem dX6_liftedShafts_45 : decode cX6_liftedShafts 45 = .ok (.iload_n 2, 1) := by decide +kernel
theorem dX6_liftedShafts_46 : decode cX6_liftedShafts 46 = .ok (.iconst 1, 1) := by decide +kernel
theorem dX6_liftedShafts_47 : decode cX6_liftedShafts 47 = .ok (.iload_n 3, 1) := by decide +kernel
theorem dX6_liftedShafts_48 : decode cX6_liftedShafts 48 = .ok (.ishl, 1) := by decide +kernel
theorem dX6_liftedShafts_49 : decode cX6_liftedShafts 49 = .ok (.ior, 1) := by decide +kernel
theorem dX6_liftedShafts_50 : decode cX6_liftedShafts 50 = .ok (.istore_n 2, 1) := by decide +kernel
theorem dX6_liftedShafts_51 : decode cX6_liftedShafts 51 = .ok (.iinc 3 1, 3) := by decide +kernel
theorem dX6_liftedShafts_54 : decode cX6_liftedShafts 54 = .ok (.goto (-50), 3) := by decide +kernel
theorem dX6_liftedShafts_57 : decode cX6_liftedShafts 57 = .ok (.iload_n 2, 1) := by decide +kernel
theorem dX6_liftedShafts_58 : decode cX6_liftedShafts 58 = .ok (.ireturn, 1) := by decide +kernel
theorem dX6_endsOn_0 : decode cX6_endsOn 0 = .ok (.iconst 0, 1) := by decide +kernel
theorem dX6_endsOn_1 : decode cX6_endsOn 1 = .ok (.istore_n 2, 1) := by decide +kernel
theorem dX6_endsOn_2 : decode cX6_endsOn 2 = .ok (.iconst 0, 1) := by decide +kernel
theorem dX6_endsOn_3 : decode cX6_endsOn 3 = .ok (.istore_n 3, 1) := by decide +kernel
theorem dX6_endsOn_4 : decode cX6_endsOn 4 = .ok (.iload_n 3, 1) := by decide +kernel
theorem dX6_endsOn_5 : decode cX6_endsOn 5 = .ok (.aload_n 0, 1) := by decide +kernel
theorem dX6_endsOn_6 : decode cX6_endsOn 6 = .ok (.getfield 30, 3) := by decide +kernel
theorem dX6_endsOn_9 : decode cX6_endsOn 9 = .ok (.if_icmp .ge 26, 3) := by decide +kernel
theorem dX6_endsOn_12 : decode cX6_endsOn 12 = .ok (.iload_n 2, 1) := by decide +kernel
theorem dX6_endsOn_13 : decode cX6_endsOn 13 = .ok (.iload_n 1, 1) := by decide +kernel
theorem dX6_endsOn_14 : decode cX6_endsOn 14 = .ok (.aload_n 0, 1) := by decide +kernel
theorem dX6_endsOn_15 : decode cX6_endsOn 15 = .ok (.getfield 14, 3) := by decide +kernel
theorem dX6_endsOn_18 : decode cX6_endsOn 18 = .ok (.iload_n 3, 1) := by decide +kernel
theorem dX6_endsOn_19 : decode cX6_endsOn 19 = .ok (.invokevirtual 48, 3) := by decide +kernel
theorem dX6_endsOn_22 : decode cX6_endsOn 22 = .ok (.invokestatic 52, 3) := by decide +kernel
theorem dX6_endsOn_25 : decode cX6_endsOn 25 = .ok (.iload_n 3, 1) := by decide +kernel
theorem dX6_endsOn_26 : decode cX6_endsOn 26 = .ok (.ishl, 1) := by decide +kernel
theorem dX6_endsOn_27 : decode cX6_endsOn 27 = .ok (.ior, 1) := by decide +kernel
theorem dX6_endsOn_28 : decode cX6_endsOn 28 = .ok (.istore_n 2, 1) := by decide +kernel
theorem dX6_endsOn_29 : decode cX6_endsOn 29 = .ok (.iinc 3 1, 3) := by decide +kernel
theorem dX6_endsOn_32 : decode cX6_endsOn 32 = .ok (.goto (-28), 3) := by decide +kernel
theorem dX6_endsOn_35 : decode cX6_endsOn 35 = .ok (.iload_n 2, 1) := by decide +kernel
theorem dX6_endsOn_36 : decode cX6_endsOn 36 = .ok (.ireturn, 1) := by decide +kernel
theorem dX6_yarnOfWholePick_0 : decode cX6_yarnOfWholePick 0 = .ok (.aload_n 0, 1) := by decide +kernel
theorem dX6_yarnOfWholePick_1 : decode cX6_yarnOfWholePick 1 = .ok (.aload_n 0, 1) := by decide +kernel
theorem dX6_yarnOfWholePick_2 : decode cX6_yarnOfWholePick 2 = .ok (.iload_n 1, 1) := by decide +kernel
theorem dX6_yarnOfWholePick_3 : decode cX6_yarnOfWholePick 3 = .ok (.invokevirtual 56, 3) := by decide +kernel
theorem dX6_yarnOfWholePick_6 : decode cX6_yarnOfWholePick 6 = .ok (.invokevirtual 59, 3) := by decide +kernel
theorem dX6_yarnOfWholePick_9 : decode cX6_yarnOfWholePick 9 = .ok (.istore_n 2, 1) := by decide +kernel
theorem dX6_yarnOfWholePick_10 : decode cX6_yarnOfWholePick 10 = .ok (.iload_n 2, 1) := by decide +kernel
theorem dX6_yarnOfWholePick_11 : decode cX6_yarnOfWholePick 11 = .ok (.iload_n 2, 1) := by decide +kernel
theorem dX6_yarnOfWholePick_12 : decode cX6_yarnOfWholePick 12 = .ok (.iconst 1, 1) := by decide +kernel
theorem dX6_yarnOfWholePick_13 : decode cX6_yarnOfWholePick 13 = .ok (.iushr, 1) := by decide +kernel
theorem dX6_yarnOfWholePick_14 : decode cX6_yarnOfWholePick 14 = .ok (.ixor, 1) := by decide +kernel
theorem dX6_yarnOfWholePick_15 : decode cX6_yarnOfWholePick 15 = .ok (.aload_n 0, 1) := by decide +kernel
theorem dX6_yarnOfWholePick_16 : decode cX6_yarnOfWholePick 16 = .ok (.invokevirtual 62, 3) := by decide +kernel
theorem dX6_yarnOfWholePick_19 : decode cX6_yarnOfWholePick 19 = .ok (.iconst 1, 1) := by decide +kernel
theorem dX6_yarnOfWholePick_20 : decode cX6_yarnOfWholePick 20 = .ok (.iushr, 1) := by decide +kernel
theorem dX6_yarnOfWholePick_21 : decode cX6_yarnOfWholePick 21 = .ok (.iand, 1) := by decide +kernel
theorem dX6_yarnOfWholePick_22 : decode cX6_yarnOfWholePick 22 = .ok (.istore_n 3, 1) := by decide +kernel
theorem dX6_yarnOfWholePick_23 : decode cX6_yarnOfWholePick 23 = .ok (.aload_n 0, 1) := by decide +kernel
theorem dX6_yarnOfWholePick_24 : decode cX6_yarnOfWholePick 24 = .ok (.getfield 30, 3) := by decide +kernel
theorem dX6_yarnOfWholePick_27 : decode cX6_yarnOfWholePick 27 = .ok (.iload_n 3, 1) := by decide +kernel
theorem dX6_yarnOfWholePick_28 : decode cX6_yarnOfWholePick 28 = .ok (.invokestatic 66, 3) := by decide +kernel
theorem dX6_yarnOfWholePick_31 : decode cX6_yarnOfWholePick 31 = .ok (.iadd, 1) := by decide +kernel
theorem dX6_yarnOfWholePick_32 : decode cX6_yarnOfWholePick 32 = .ok (.ireturn, 1) := by decide +kernel
theorem dX7_init_0 : decode cX7_init 0 = .ok (.aload_n 0, 1) := by decide +kernel
theorem dX7_init_1 : decode cX7_init 1 = .ok (.invokespecial 1, 3) := by decide +kernel
theorem dX7_init_4 : decode cX7_init 4 = .ok (.aload_n 0, 1) := by decide +kernel
theorem dX7_init_5 : decode cX7_init 5 = .ok (.new 7, 3) := by decide +kernel
theorem dX7_init_8 : decode cX7_init 8 = .ok (.dup, 1) := by decide +kernel
theorem dX7_init_9 : decode cX7_init 9 = .ok (.invokespecial 9, 3) := by decide +kernel
theorem dX7_init_12 : decode cX7_init 12 = .ok (.putfield 10, 3) := by decide +kernel
theorem dX7_init_15 : decode cX7_init 15 = .ok (.aload_n 0, 1) := by decide +kernel
theorem dX7_init_16 : decode cX7_init 16 = .ok (.new 16, 3) := by decide +kernel
theorem dX7_init_19 : decode cX7_init 19 = .ok (.dup, 1) := by decide +kernel
theorem dX7_init_20 : decode cX7_init 20 = .ok (.invokespecial 18, 3) := by decide +kernel
theorem dX7_init_23 : decode cX7_init 23 = .ok (.putfield 19, 3) := by decide +kernel
theorem dX7_init_26 : decode cX7_init 26 = .ok (.aload_n 0, 1) := by decide +kernel
theorem dX7_init_27 : decode cX7_init 27 = .ok (.new 23, 3) := by decide +kernel
theorem dX7_init_30 : decode cX7_init 30 = .ok (.dup, 1) := by decide +kernel
theorem dX7_init_31 : decode cX7_init 31 = .ok (.invokespecial 25, 3) := by decide +kernel
theorem dX7_init_34 : decode cX7_init 34 = .ok (.putfield 26, 3) := by decide +kernel
theorem dX7_init_37 : decode cX7_init 37 = .ok (.aload_n 0, 1) := by decide +kernel
theorem dX7_init_38 : decode cX7_init 38 = .ok (.new 30, 3) := by decide +kernel
theorem dX7_init_41 : decode cX7_init 41 = .ok (.dup, 1) := by decide +kernel
theorem dX7_init_42 : decode cX7_init 42 = .ok (.bipush 24, 2) := by decide +kernel
theorem dX7_init_44 : decode cX7_init 44 = .ok (.invokespecial 32, 3) := by decide +kernel
theorem dX7_init_47 : decode cX7_init 47 = .ok (.putfield 35, 3) := by decide +kernel
theorem dX7_init_50 : decode cX7_init 50 = .ok (.aload_n 0, 1) := by decide +kernel
theorem dX7_init_51 : decode cX7_init 51 = .ok (.new 30, 3) := by decide +kernel
theorem dX7_init_54 : decode cX7_init 54 = .ok (.dup, 1) := by decide +kernel
theorem dX7_init_55 : decode cX7_init 55 = .ok (.bipush 10, 2) := by decide +kernel
theorem dX7_init_57 : decode cX7_init 57 = .ok (.invokespecial 32, 3) := by decide +kernel
theorem dX7_init_60 : decode cX7_init 60 = .ok (.putfield 39, 3) := by decide +kernel
theorem dX7_init_63 : decode cX7_init 63 = .ok (.return_, 1) := by decide +kernel
theorem dX7_setLoom_0 : decode cX7_setLoom 0 = .ok (.iload_n 1, 1) := by decide +kernel
theorem dX7_setLoom_1 : decode cX7_setLoom 1 = .ok (.iconst 2, 1) := by decide +kernel
theorem dX7_setLoom_2 : decode cX7_setLoom 2 = .ok (.bipush 8, 2) := by decide +kernel
theorem dX7_setLoom_4 : decode cX7_setLoom 4 = .ok (.invokestatic 42, 3) := by decide +kernel
theorem dX7_setLoom_7 : decode cX7_setLoom 7 = .ok (.ifCond .eq 13, 3) := by decide +kernel
theorem dX7_setLoom_10 : decode cX7_setLoom 10 = .ok (.iload_n 2, 1) := by decide +kernel
theorem dX7_setLoom_11 : decode cX7_setLoom 11 = .ok (.iconst 4, 1) := by decide +kernel
theorem dX7_setLoom_12 : decode cX7_setLoom 12 = .ok (.bipush 32, 2) := by decide +kernel
theorem dX7_setLoom_14 : decode cX7_setLoom 14 = .ok (.invokestatic 42, 3) := by decide +kernel
theorem dX7_setLoom_17 : decode cX7_setLoom 17 = .ok (.ifCond .ne 5, 3) := by decide +kernel
theorem dX7_setLoom_20 : decode cX7_setLoom 20 = .ok (.iconst (-1), 1) := by decide +kernel
theorem dX7_setLoom_21 : decode cX7_setLoom 21 = .ok (.ireturn, 1) := by decide +kernel
theorem dX7_setLoom_22 : decode cX7_setLoom 22 = .ok (.aload_n 0, 1) := by decide +kernel
theorem dX7_setLoom_23 : decode cX7_setLoom 23 = .ok (.getfield 19, 3) := by decide +kernel
theorem dX7_setLoom_26 : decode cX7_setLoom 26 = .ok (.aload_n 0, 1) := by decide +kernel
theorem dX7_setLoom_27 : decode cX7_setLoom 27 = .ok (.getfield 10, 3) := by decide +kernel
theorem dX7_setLoom_30 : decode cX7_setLoom 30 = .ok (.invokevirtual 46, 3) := by decide +kernel
theorem dX7_setLoom_33 : decode cX7_setLoom 33 = .ok (.aload_n 0, 1) := by decide +kernel
theorem dX7_setLoom_34 : decode cX7_setLoom 34 = .ok (.getfield 10, 3) := by decide +kernel
theorem dX7_setLoom_37 : decode cX7_setLoom 37 = .ok (.getfield 50, 3) := by decide +kernel
theorem dX7_setLoom_40 : decode cX7_setLoom 40 = .ok (.getfield 54, 3) := by decide +kernel
theorem dX7_setLoom_43 : decode cX7_setLoom 43 = .ok (.istore_n 3, 1) := by decide +kernel
theorem dX7_setLoom_44 : decode cX7_setLoom 44 = .ok (.aload_n 0, 1) := by decide +kernel
theorem dX7_setLoom_45 : decode cX7_setLoom 45 = .ok (.getfield 10, 3) := by decide +kernel
theorem dX7_setLoom_48 : decode cX7_setLoom 48 = .ok (.iload_n 1, 1) := by decide +kernel
theorem dX7_setLoom_49 : decode cX7_setLoom 49 = .ok (.iload_n 2, 1) := by decide +kernel
theorem dX7_setLoom_50 : decode cX7_setLoom 50 = .ok (.invokevirtual 60, 3) := by decide +kernel
theorem dX7_setLoom_53 : decode cX7_setLoom 53 = .ok (.iload_n 3, 1) := by decide +kernel
theorem dX7_setLoom_54 : decode cX7_setLoom 54 = .ok (.ireturn, 1) := by decide +kernel
theorem dX7_setEnd_0 : decode cX7_setEnd 0 = .ok (.aload_n 0, 1) := by decide +kernel
theorem dX7_setEnd_1 : decode cX7_setEnd 1 = .ok (.getfield 10, 3) := by decide +kernel
theorem dX7_setEnd_4 : decode cX7_setEnd 4 = .ok (.getfield 64, 3) := by decide +kernel
theorem dX7_setEnd_7 : decode cX7_setEnd 7 = .ok (.astore 4, 2) := by decide +kernel
theorem dX7_setEnd_9 : decode cX7_setEnd 9 = .ok (.aload 4, 2) := by decide +kernel
theorem dX7_setEnd_11 : decode cX7_setEnd 11 = .ok (.iload_n 1, 1) := by decide +kernel
theorem dX7_setEnd_12 : decode cX7_setEnd 12 = .ok (.invokevirtual 68, 3) := by decide +kernel
theorem dX7_setEnd_15 : decode cX7_setEnd 15 = .ok (.ifCond .eq 19, 3) := by decide +kernel
theorem dX7_setEnd_18 : decode cX7_setEnd 18 = .ok (.aload 4, 2) := by decide +kernel
theorem dX7_setEnd_20 : decode cX7_setEnd 20 = .ok (.iload_n 2, 1) := by decide +kernel
theorem dX7_setEnd_21 : decode cX7_setEnd 21 = .ok (.invokevirtual 74, 3) := by decide +kernel
theorem dX7_setEnd_24 : decode cX7_setEnd 24 = .ok (.ifCond .eq 10, 3) := by decide +kernel
theorem dX7_setEnd_27 : decode cX7_setEnd 27 = .ok (.iload_n 3, 1) := by decide +kernel
theorem dX7_setEnd_28 : decode cX7_setEnd 28 = .ok (.invokestatic 77, 3) := by decide +kernel
theorem dX7_setEnd_31 : decode cX7_setEnd 31 = .ok (.ifCond .ne 5, 3) := by decide +kernel
theorem dX7_setEnd_34 : decode cX7_setEnd 34 = .ok (.iconst (-1), 1) := by decide +kernel
theorem dX7_setEnd_35 : decode cX7_setEnd 35 = .ok (.ireturn, 1) := by decide +kernel
theorem dX7_setEnd_36 : decode cX7_setEnd 36 = .ok (.aload_n 0, 1) := by decide +kernel
theorem dX7_setEnd_37 : decode cX7_setEnd 37 = .ok (.getfield 19, 3) := by decide +kernel
theorem dX7_setEnd_40 : decode cX7_setEnd 40 = .ok (.aload_n 0, 1) := by decide +kernel
theorem dX7_setEnd_41 : decode cX7_setEnd 41 = .ok (.getfield 10, 3) := by decide +kernel
theorem dX7_setEnd_44 : decode cX7_setEnd 44 = .ok (.invokevirtual 46, 3) := by decide +kernel
theorem dX7_setEnd_47 : decode cX7_setEnd 47 = .ok (.bipush 10, 2) := by decide +kernel
theorem dX7_setEnd_49 : decode cX7_setEnd 49 = .ok (.aload 4, 2) := by decide +kernel
theorem dX7_setEnd_51 : decode cX7_setEnd 51 = .ok (.getfield 80, 3) := by decide +kernel
theorem dX7_setEnd_54 : decode cX7_setEnd 54 = .ok (.iload_n 1, 1) := by decide +kernel
theorem dX7_setEnd_55 : decode cX7_setEnd 55 = .ok (.invokevirtual 83, 3) := by decide +kernel
theorem dX7_setEnd_58 : decode cX7_setEnd 58 = .ok (.imul, 1) := by decide +kernel
theorem dX7_setEnd_59 : decode cX7_setEnd 59 = .ok (.aload 4, 2) := by decide +kernel
theorem dX7_setEnd_61 : decode cX7_setEnd 61 = .ok (.getfield 87, 3) := by decide +kernel
theorem dX7_setEnd_64 : decode cX7_setEnd 64 = .ok (.iload_n 1, 1) := by decide +kernel
theorem dX7_setEnd_65 : decode cX7_setEnd 65 = .ok (.invokevirtual 83, 3) := by decide +kernel
theorem dX7_setEnd_68 : decode cX7_setEnd 68 = .ok (.iadd, 1) := by decide +kernel
theorem dX7_setEnd_69 : decode cX7_setEnd 69 = .ok (.istore 5, 2) := by decide +kernel
theorem dX7_setEnd_71 : decode cX7_setEnd 71 = .ok (.aload 4, 2) := by decide +kernel
theorem dX7_setEnd_73 : decode cX7_setEnd 73 = .ok (.getfield 80, 3) := by decide +kernel
theorem dX7_setEnd_76 : decode cX7_setEnd 76 = .ok (.iload_n 1, 1) := by decide +kernel
theorem dX7_setEnd_77 : decode cX7_setEnd 77 = .ok (.iload_n 2, 1) := by decide +kernel
theorem dX7_setEnd_78 : decode cX7_setEnd 78 = .ok (.invokevirtual 90, 3) := by decide +kernel
theorem dX7_setEnd_81 : decode cX7_setEnd 81 = .ok (.aload 4, 2) := by decide +kernel
theorem dX7_setEnd_83 : decode cX7_setEnd 83 = .ok (.getfield 87, 3) := by decide +kernel
theorem dX7_setEnd_86 : decode cX7_setEnd 86 = .ok (.iload_n 1, 1) := by decide +kernel
theorem dX7_setEnd_87 : decode cX7_setEnd 87 = .ok (.iload_n 3, 1) := by decide +kernel
theorem dX7_setEnd_88 : decode cX7_setEnd 88 = .ok (.invokevirtual 90, 3) := by decide +kernel
theorem dX7_setEnd_91 : decode cX7_setEnd 91 = .ok (.iload 5, 2) := by decide +kernel
theorem dX7_setEnd_93 : decode cX7_setEnd 93 = .ok (.ireturn, 1) := by decide +kernel
theorem dX7_setFault_0 : decode cX7_setFault 0 = .ok (.aload_n 0, 1) := by decide +kernel
theorem dX7_setFault_1 : decode cX7_setFault 1 = .ok (.getfield 10, 3) := by decide +kernel
theorem dX7_setFault_4 : decode cX7_setFault 4 = .ok (.getfield 64, 3) := by decide +kernel
theorem dX7_setFault_7 : decode cX7_setFault 7 = .ok (.iload_n 1, 1) := by decide +kernel
theorem dX7_setFault_8 : decode cX7_setFault 8 = .ok (.invokevirtual 74, 3) := by decide +kernel
theorem dX7_setFault_11 : decode cX7_setFault 11 = .ok (.ifCond .eq 12, 3) := by decide +kernel
theorem dX7_setFault_14 : decode cX7_setFault 14 = .ok (.iload_n 2, 1) := by decide +kernel
theorem dX7_setFault_15 : decode cX7_setFault 15 = .ok (.iconst 0, 1) := by decide +kernel
theorem dX7_setFault_16 : decode cX7_setFault 16 = .ok (.iconst 2, 1) := by decide +kernel
theorem dX7_setFault_17 : decode cX7_setFault 17 = .ok (.invokestatic 42, 3) := by decide +kernel
theorem dX7_setFault_20 : decode cX7_setFault 20 = .ok (.ifCond .ne 5, 3) := by decide +kernel
theorem dX7_setFault_23 : decode cX7_setFault 23 = .ok (.iconst (-1), 1) := by decide +kernel
theorem dX7_setFault_24 : decode cX7_setFault 24 = .ok (.ireturn, 1) := by decide +kernel
theorem dX7_setFault_25 : decode cX7_setFault 25 = .ok (.aload_n 0, 1) := by decide +kernel
theorem dX7_setFault_26 : decode cX7_setFault 26 = .ok (.getfield 19, 3) := by decide +kernel
theorem dX7_setFault_29 : decode cX7_setFault 29 = .ok (.aload_n 0, 1) := by decide +kernel
theorem dX7_setFault_30 : decode cX7_setFault 30 = .ok (.getfield 10, 3) := by decide +kernel
theorem dX7_setFault_33 : decode cX7_setFault 33 = .ok (.invokevirtual 46, 3) := by decide +kernel
theorem dX7_setFault_36 : decode cX7_setFault 36 = .ok (.aload_n 0, 1) := by decide +kernel
theorem dX7_setFault_37 : decode cX7_setFault 37 = .ok (.getfield 10, 3) := by decide +kernel
theorem dX7_setFault_40 : decode cX7_setFault 40 = .ok (.getfield 64, 3) := by decide +kernel
theorem dX7_setFault_43 : decode cX7_setFault 43 = .ok (.getfield 93, 3) := by decide +kernel
theorem dX7_setFault_46 : decode cX7_setFault 46 = .ok (.iload_n 1, 1) := by decide +kernel
theorem dX7_setFault_47 : decode cX7_setFault 47 = .ok (.invokevirtual 83, 3) := by decide +kernel
theorem dX7_setFault_50 : decode cX7_setFault 50 = .ok (.istore_n 3, 1) := by decide +kernel
theorem dX7_setFault_51 : decode cX7_setFault 51 = .ok (.aload_n 0, 1) := by decide +kernel
theorem dX7_setFault_52 : decode cX7_setFault 52 = .ok (.getfield 10, 3) := by decide +kernel
theorem dX7_setFault_55 : decode cX7_setFault 55 = .ok (.getfield 64, 3) := by decide +kernel
theorem dX7_setFault_58 : decode cX7_setFault 58 = .ok (.getfield 93, 3) := by decide +kernel
theorem dX7_setFault_61 : decode cX7_setFault 61 = .ok (.iload_n 1, 1) := by decide +kernel
theorem dX7_setFault_62 : decode cX7_setFault 62 = .ok (.iload_n 2, 1) := by decide +kernel
theorem dX7_setFault_63 : decode cX7_setFault 63 = .ok (.invokevirtual 90, 3) := by decide +kernel
theorem dX7_setFault_66 : decode cX7_setFault 66 = .ok (.iload_n 3, 1) := by decide +kernel
theorem dX7_setFault_67 : decode cX7_setFault 67 = .ok (.ireturn, 1) := by decide +kernel
theorem dX7_addBar_0 : decode cX7_addBar 0 = .ok (.aload_n 0, 1) := by decide +kernel
theorem dX7_addBar_1 : decode cX7_addBar 1 = .ok (.getfield 10, 3) := by decide +kernel
theorem dX7_addBar_4 : decode cX7_addBar 4 = .ok (.getfield 64, 3) := by decide +kernel
theorem dX7_addBar_7 : decode cX7_addBar 7 = .ok (.iload_n 1, 1) := by decide +kernel
theorem dX7_addBar_8 : decode cX7_addBar 8 = .ok (.invokevirtual 96, 3) := by decide +kernel
theorem dX7_addBar_11 : decode cX7_addBar 11 = .ok (.ifCond .eq 10, 3) := by decide +kernel
theorem dX7_addBar_14 : decode cX7_addBar 14 = .ok (.iload_n 2, 1) := by decide +kernel
theorem dX7_addBar_15 : decode cX7_addBar 15 = .ok (.invokestatic 77, 3) := by decide +kernel
theorem dX7_addBar_18 : decode cX7_addBar 18 = .ok (.ifCond .ne 5, 3) := by decide +kernel
theorem dX7_addBar_21 : decode cX7_addBar 21 = .ok (.iconst (-1), 1) := by decide +kernel
theorem dX7_addBar_22 : decode cX7_addBar 22 = .ok (.ireturn, 1) := by decide +kernel
theorem dX7_addBar_23 : decode cX7_addBar 23 = .ok (.aload_n 0, 1) := by decide +kernel
theorem dX7_addBar_24 : decode cX7_addBar 24 = .ok (.getfield 10, 3) := by decide +kernel
theorem dX7_addBar_27 : decode cX7_addBar 27 = .ok (.getfield 99, 3) := by decide +kernel
theorem dX7_addBar_30 : decode cX7_addBar 30 = .ok (.invokevirtual 103, 3) := by decide +kernel
theorem dX7_addBar_33 : decode cX7_addBar 33 = .ok (.ifCond .eq 6, 3) := by decide +kernel
theorem dX7_addBar_36 : decode cX7_addBar 36 = .ok (.bipush (-3), 2) := by decide +kernel
theorem dX7_addBar_38 : decode cX7_addBar 38 = .ok (.ireturn, 1) := by decide +kernel
theorem dX7_addBar_39 : decode cX7_addBar 39 = .ok (.aload_n 0, 1) := by decide +kernel
theorem dX7_addBar_40 : decode cX7_addBar 40 = .ok (.getfield 19, 3) := by decide +kernel
theorem dX7_addBar_43 : decode cX7_addBar 43 = .ok (.aload_n 0, 1) := by decide +kernel
theorem dX7_addBar_44 : decode cX7_addBar 44 = .ok (.getfield 10, 3) := by decide +kernel
theorem dX7_addBar_47 : decode cX7_addBar 47 = .ok (.invokevirtual 46, 3) := by decide +kernel
theorem dX7_addBar_50 : decode cX7_addBar 50 = .ok (.aload_n 0, 1) := by decide +kernel
theorem dX7_addBar_51 : decode cX7_addBar 51 = .ok (.getfield 10, 3) := by decide +kernel
theorem dX7_addBar_54 : decode cX7_addBar 54 = .ok (.getfield 99, 3) := by decide +kernel
theorem dX7_addBar_57 : decode cX7_addBar 57 = .ok (.iload_n 1, 1) := by decide +kernel
theorem dX7_addBar_58 : decode cX7_addBar 58 = .ok (.iload_n 2, 1) := by decide +kernel
theorem dX7_addBar_59 : decode cX7_addBar 59 = .ok (.invokevirtual 109, 3) := by decide +kernel
theorem dX7_addBar_62 : decode cX7_addBar 62 = .ok (.aload_n 0, 1) := by decide +kernel
theorem dX7_addBar_63 : decode cX7_addBar 63 = .ok (.getfield 10, 3) := by decide +kernel
theorem dX7_addBar_66 : decode cX7_addBar 66 = .ok (.getfield 99, 3) := by decide +kernel
theorem dX7_addBar_69 : decode cX7_addBar 69 = .ok (.getfield 112, 3) := by decide +kernel
theorem dX7_addBar_72 : decode cX7_addBar 72 = .ok (.iconst 1, 1) := by decide +kernel
theorem dX7_addBar_73 : decode cX7_addBar 73 = .ok (.isub, 1) := by decide +kernel
theorem dX7_addBar_74 : decode cX7_addBar 74 = .ok (.ireturn, 1) := by decide +kernel
theorem dX7_setBar_0 : decode cX7_setBar 0 = .ok (.aload_n 0, 1) := by decide +kernel
theorem dX7_setBar_1 : decode cX7_setBar 1 = .ok (.getfield 10, 3) := by decide +kernel
theorem dX7_setBar_4 : decode cX7_setBar 4 = .ok (.getfield 99, 3) := by decide +kernel
theorem dX7_setBar_7 : decode cX7_setBar 7 = .ok (.astore 4, 2) := by decide +kernel
theorem dX7_setBar_9 : decode cX7_setBar 9 = .ok (.aload 4, 2) := by decide +kernel
theorem dX7_setBar_11 : decode cX7_setBar 11 = .ok (.iload_n 1, 1) := by decide +kernel
theorem dX7_setBar_12 : decode cX7_setBar 12 = .ok (.invokevirtual 115, 3) := by decide +kernel
theorem dX7_setBar_15 : decode cX7_setBar 15 = .ok (.ifCond .eq 24, 3) := by decide +kernel
theorem dX7_setBar_18 : decode cX7_setBar 18 = .ok (.aload_n 0, 1) := by decide +kernel
theorem dX7_setBar_19 : decode cX7_setBar 19 = .ok (.getfield 10, 3) := by decide +kernel
theorem dX7_setBar_22 : decode cX7_setBar 22 = .ok (.getfield 64, 3) := by decide +kernel
theorem dX7_setBar_25 : decode cX7_setBar 25 = .ok (.iload_n 2, 1) := by decide +kernel
theorem dX7_setBar_26 : decode cX7_setBar 26 = .ok (.invokevirtual 96, 3) := by decide +kernel
theorem dX7_setBar_29 : decode cX7_setBar 29 = .ok (.ifCond .eq 10, 3) := by decide +kernel
theorem dX7_setBar_32 : decode cX7_setBar 32 = .ok (.iload_n 3, 1) := by decide +kernel
theorem dX7_setBar_33 : decode cX7_setBar 33 = .ok (.invokestatic 77, 3) := by decide +kernel
theorem dX7_setBar_36 : decode cX7_setBar 36 = .ok (.ifCond .ne 5, 3) := by decide +kernel
theorem dX7_setBar_39 : decode cX7_setBar 39 = .ok (.iconst (-1), 1) := by decide +kernel
theorem dX7_setBar_40 : decode cX7_setBar 40 = .ok (.ireturn, 1) := by decide +kernel
theorem dX7_setBar_41 : decode cX7_setBar 41 = .ok (.aload_n 0, 1) := by decide +kernel
theorem dX7_setBar_42 : decode cX7_setBar 42 = .ok (.getfield 19, 3) := by decide +kernel
theorem dX7_setBar_45 : decode cX7_setBar 45 = .ok (.aload_n 0, 1) := by decide +kernel
theorem dX7_setBar_46 : decode cX7_setBar 46 = .ok (.getfield 10, 3) := by decide +kernel
theorem dX7_setBar_49 : decode cX7_setBar 49 = .ok (.invokevirtual 46, 3) := by decide +kernel
theorem dX7_setBar_52 : decode cX7_setBar 52 = .ok (.bipush 10, 2) := by decide +kernel
theorem dX7_setBar_54 : decode cX7_setBar 54 = .ok (.aload 4, 2) := by decide +kernel
theorem dX7_setBar_56 : decode cX7_setBar 56 = .ok (.getfield 118, 3) := by decide +kernel
theorem dX7_setBar_59 : decode cX7_setBar 59 = .ok (.iload_n 1, 1) := by decide +kernel
theorem dX7_setBar_60 : decode cX7_setBar 60 = .ok (.invokevirtual 83, 3) := by decide +kernel
theorem dX7_setBar_63 : decode cX7_setBar 63 = .ok (.imul, 1) := by decide +kernel
theorem dX7_setBar_64 : decode cX7_setBar 64 = .ok (.aload 4, 2) := by decide +kernel
theorem dX7_setBar_66 : decode cX7_setBar 66 = .ok (.getfield 121, 3) := by decide +kernel
theorem dX7_setBar_69 : decode cX7_setBar 69 = .ok (.iload_n 1, 1) := by decide +kernel
theorem dX7_setBar_70 : decode cX7_setBar 70 = .ok (.invokevirtual 83, 3) := by decide +kernel
theorem dX7_setBar_73 : decode cX7_setBar 73 = .ok (.iadd, 1) := by decide +kernel
theorem dX7_setBar_74 : decode cX7_setBar 74 = .ok (.istore 5, 2) := by decide +kernel
theorem dX7_setBar_76 : decode cX7_setBar 76 = .ok (.aload 4, 2) := by decide +kernel
theorem dX7_setBar_78 : decode cX7_setBar 78 = .ok (.getfield 118, 3) := by decide +kernel
theorem dX7_setBar_81 : decode cX7_setBar 81 = .ok (.iload_n 1, 1) := by decide +kernel
theorem dX7_setBar_82 : decode cX7_setBar 82 = .ok (.iload_n 2, 1) := by decide +kernel
theorem dX7_setBar_83 : decode cX7_setBar 83 = .ok (.invokevirtual 90, 3) := by decide +kernel
theorem dX7_setBar_86 : decode cX7_setBar 86 = .ok (.aload 4, 2) := by decide +kernel
theorem dX7_setBar_88 : decode cX7_setBar 88 = .ok (.getfield 121, 3) := by decide +kernel
theorem dX7_setBar_91 : decode cX7_setBar 91 = .ok (.iload_n 1, 1) := by decide +kernel
theorem dX7_setBar_92 : decode cX7_setBar 92 = .ok (.iload_n 3, 1) := by decide +kernel
theorem dX7_setBar_93 : decode cX7_setBar 93 = .ok (.invokevirtual 90, 3) := by decide +kernel
theorem dX7_setBar_96 : decode cX7_setBar 96 = .ok (.iload 5, 2) := by decide +kernel
theorem dX7_setBar_98 : decode cX7_setBar 98 = .ok (.ireturn, 1) := by decide +kernel
theorem dX7_setDirection_0 : decode cX7_setDirection 0 = .ok (.iload_n 1, 1) := by decide +kernel
theorem dX7_setDirection_1 : decode cX7_setDirection 1 = .ok (.iconst 0, 1) := by decide +kernel
theorem dX7_setDirection_2 : decode cX7_setDirection 2 = .ok (.iconst 1, 1) := by decide +kernel
theorem dX7_setDirection_3 : decode cX7_setDirection 3 = .ok (.invokestatic 42, 3) := by decide +kernel
theorem dX7_setDirection_6 : decode cX7_setDirection 6 = .ok (.ifCond .ne 5, 3) := by decide +kernel
theorem dX7_setDirection_9 : decode cX7_setDirection 9 = .ok (.iconst (-1), 1) := by decide +kernel
theorem dX7_setDirection_10 : decode cX7_setDirection 10 = .ok (.ireturn, 1) := by decide +kernel
theorem dX7_setDirection_11 : decode cX7_setDirection 11 = .ok (.aload_n 0, 1) := by decide +kernel
theorem dX7_setDirection_12 : decode cX7_setDirection 12 = .ok (.getfield 19, 3) := by decide +kernel
theorem dX7_setDirection_15 : decode cX7_setDirection 15 = .ok (.aload_n 0, 1) := by decide +kernel
theorem dX7_setDirection_16 : decode cX7_setDirection 16 = .ok (.getfield 10, 3) := by decide +kernel
theorem dX7_setDirection_19 : decode cX7_setDirection 19 = .ok (.invokevirtual 46, 3) := by decide +kernel
theorem dX7_setDirection_22 : decode cX7_setDirection 22 = .ok (.aload_n 0, 1) := by decide +kernel
theorem dX7_setDirection_23 : decode cX7_setDirection 23 = .ok (.getfield 10, 3) := by decide +kernel
theorem dX7_setDirection_26 : decode cX7_setDirection 26 = .ok (.getfield 99, 3) := by decide +kernel
theorem dX7_setDirection_29 : decode cX7_setDirection 29 = .ok (.getfield 122, 3) := by decide +kernel
theorem dX7_setDirection_32 : decode cX7_setDirection 32 = .ok (.istore_n 2, 1) := by decide +kernel
theorem dX7_setDirection_33 : decode cX7_setDirection 33 = .ok (.aload_n 0, 1) := by decide +kernel
theorem dX7_setDirection_34 : decode cX7_setDirection 34 = .ok (.getfield 10, 3) := by decide +kernel
theorem dX7_setDirection_37 : decode cX7_setDirection 37 = .ok (.getfield 99, 3) := by decide +kernel
theorem dX7_setDirection_40 : decode cX7_setDirection 40 = .ok (.iload_n 1, 1) := by decide +kernel
theorem dX7_setDirection_41 : decode cX7_setDirection 41 = .ok (.putfield 122, 3) := by decide +kernel
theorem dX7_setDirection_44 : decode cX7_setDirection 44 = .ok (.iload_n 2, 1) := by decide +kernel
theorem dX7_setDirection_45 : decode cX7_setDirection 45 = .ok (.ireturn, 1) := by decide +kernel
theorem dX7_turnTo_0 : decode cX7_turnTo 0 = .ok (.aload_n 0, 1) := by decide +kernel
theorem dX7_turnTo_1 : decode cX7_turnTo 1 = .ok (.getfield 10, 3) := by decide +kernel
theorem dX7_turnTo_4 : decode cX7_turnTo 4 = .ok (.getfield 99, 3) := by decide +kernel
theorem dX7_turnTo_7 : decode cX7_turnTo 7 = .ok (.iload_n 1, 1) := by decide +kernel
theorem dX7_turnTo_8 : decode cX7_turnTo 8 = .ok (.invokevirtual 115, 3) := by decide +kernel
theorem dX7_turnTo_11 : decode cX7_turnTo 11 = .ok (.ifCond .ne 5, 3) := by decide +kernel
theorem dX7_turnTo_14 : decode cX7_turnTo 14 = .ok (.iconst (-1), 1) := by decide +kernel
theorem dX7_turnTo_15 : decode cX7_turnTo 15 = .ok (.ireturn, 1) := by decide +kernel
theorem dX7_turnTo_16 : decode cX7_turnTo 16 = .ok (.aload_n 0, 1) := by decide +kernel
theorem dX7_turnTo_17 : decode cX7_turnTo 17 = .ok (.getfield 19, 3) := by decide +kernel
theorem dX7_turnTo_20 : decode cX7_turnTo 20 = .ok (.aload_n 0, 1) := by decide +kernel
theorem dX7_turnTo_21 : decode cX7_turnTo 21 = .ok (.getfield 10, 3) := by decide +kernel
theorem dX7_turnTo_24 : decode cX7_turnTo 24 = .ok (.invokevirtual 46, 3) := by decide +kernel
theorem dX7_turnTo_27 : decode cX7_turnTo 27 = .ok (.aload_n 0, 1) := by decide +kernel
theorem dX7_turnTo_28 : decode cX7_turnTo 28 = .ok (.getfield 10, 3) := by decide +kernel
theorem dX7_turnTo_31 : decode cX7_turnTo 31 = .ok (.getfield 99, 3) := by decide +kernel
theorem dX7_turnTo_34 : decode cX7_turnTo 34 = .ok (.getfield 125, 3) := by decide +kernel
theorem dX7_turnTo_37 : decode cX7_turnTo 37 = .ok (.istore_n 2, 1) := by decide +kernel
theorem dX7_turnTo_38 : decode cX7_turnTo 38 = .ok (.aload_n 0, 1) := by decide +kernel
theorem dX7_turnTo_39 : decode cX7_turnTo 39 = .ok (.getfield 10, 3) := by decide +kernel
theorem dX7_turnTo_42 : decode cX7_turnTo 42 = .ok (.getfield 99, 3) := by decide +kernel
theorem dX7_turnTo_45 : decode cX7_turnTo 45 = .ok (.iload_n 1, 1) := by decide +kernel
theorem dX7_turnTo_46 : decode cX7_turnTo 46 = .ok (.putfield 125, 3) := by decide +kernel
theorem dX7_turnTo_49 : decode cX7_turnTo 49 = .ok (.iload_n 2, 1) := by decide +kernel
theorem dX7_turnTo_50 : decode cX7_turnTo 50 = .ok (.ireturn, 1) := by decide +kernel
theorem dX7_wind_0 : decode cX7_wind 0 = .ok (.iload_n 1, 1) := by decide +kernel
theorem dX7_wind_1 : decode cX7_wind 1 = .ok (.invokestatic 77, 3) := by decide +kernel
theorem dX7_wind_4 : decode cX7_wind 4 = .ok (.ifCond .eq 14, 3) := by decide +kernel
theorem dX7_wind_7 : decode cX7_wind 7 = .ok (.iload_n 2, 1) := by decide +kernel
theorem dX7_wind_8 : decode cX7_wind 8 = .ok (.iconst 0, 1) := by decide +kernel
theorem dX7_wind_9 : decode cX7_wind 9 = .ok (.sipush 9999, 3) := by decide +kernel
theorem dX7_wind_12 : decode cX7_wind 12 = .ok (.invokestatic 42, 3) := by decide +kernel
theorem dX7_wind_15 : decode cX7_wind 15 = .ok (.ifCond .ne 5, 3) := by decide +kernel
theorem dX7_wind_18 : decode cX7_wind 18 = .ok (.iconst (-1), 1) := by decide +kernel
theorem dX7_wind_19 : decode cX7_wind 19 = .ok (.ireturn, 1) := by decide +kernel
theorem dX7_wind_20 : decode cX7_wind 20 = .ok (.aload_n 0, 1) := by decide +kernel
theorem dX7_wind_21 : decode cX7_wind 21 = .ok (.getfield 19, 3) := by decide +kernel
theorem dX7_wind_24 : decode cX7_wind 24 = .ok (.aload_n 0, 1) := by decide +kernel
theorem dX7_wind_25 : decode cX7_wind 25 = .ok (.getfield 10, 3) := by decide +kernel
theorem dX7_wind_28 : decode cX7_wind 28 = .ok (.invokevirtual 46, 3) := by decide +kernel
theorem dX7_wind_31 : decode cX7_wind 31 = .ok (.aload_n 0, 1) := by decide +kernel
theorem dX7_wind_32 : decode cX7_wind 32 = .ok (.getfield 10, 3) := by decide +kernel
theorem dX7_wind_35 : decode cX7_wind 35 = .ok (.getfield 128, 3) := by decide +kernel
theorem dX7_wind_38 : decode cX7_wind 38 = .ok (.iload_n 1, 1) := by decide +kernel
theorem dX7_wind_39 : decode cX7_wind 39 = .ok (.invokevirtual 83, 3) := by decide +kernel
theorem dX7_wind_42 : decode cX7_wind 42 = .ok (.istore_n 3, 1) := by decide +kernel
theorem dX7_wind_43 : decode cX7_wind 43 = .ok (.aload_n 0, 1) := by decide +kernel
theorem dX7_wind_44 : decode cX7_wind 44 = .ok (.getfield 10, 3) := by decide +kernel
theorem dX7_wind_47 : decode cX7_wind 47 = .ok (.getfield 128, 3) := by decide +kernel
theorem dX7_wind_50 : decode cX7_wind 50 = .ok (.iload_n 1, 1) := by decide +kernel
theorem dX7_wind_51 : decode cX7_wind 51 = .ok (.iload_n 2, 1) := by decide +kernel
theorem dX7_wind_52 : decode cX7_wind 52 = .ok (.invokevirtual 90, 3) := by decide +kernel
theorem dX7_wind_55 : decode cX7_wind 55 = .ok (.iload_n 3, 1) := by decide +kernel
theorem dX7_wind_56 : decode cX7_wind 56 = .ok (.ireturn, 1) := by decide +kernel
theorem dX7_append_0 : decode cX7_append 0 = .ok (.iload_n 1, 1) := by decide +kernel
theorem dX7_append_1 : decode cX7_append 1 = .ok (.iconst 1, 1) := by decide +kernel
theorem dX7_append_2 : decode cX7_append 2 = .ok (.sipush 255, 3) := by decide +kernel
theorem dX7_append_5 : decode cX7_append 5 = .ok (.invokestatic 42, 3) := by decide +kernel
theorem dX7_append_8 : decode cX7_append 8 = .ok (.ifCond .ne 5, 3) := by decide +kernel
theorem dX7_append_11 : decode cX7_append 11 = .ok (.iconst (-1), 1) := by decide +kernel
theorem dX7_append_12 : decode cX7_append 12 = .ok (.ireturn, 1) := by decide +kernel
theorem dX7_append_13 : decode cX7_append 13 = .ok (.aload_n 0, 1) := by decide +kernel
theorem dX7_append_14 : decode cX7_append 14 = .ok (.getfield 26, 3) := by decide +kernel
theorem dX7_append_17 : decode cX7_append 17 = .ok (.invokevirtual 131, 3) := by decide +kernel
theorem dX7_append_20 : decode cX7_append 20 = .ok (.ifCond .eq 6, 3) := by decide +kernel
theorem dX7_append_23 : decode cX7_append 23 = .ok (.bipush (-3), 2) := by decide +kernel
theorem dX7_append_25 : decode cX7_append 25 = .ok (.ireturn, 1) := by decide +kernel
theorem dX7_append_26 : decode cX7_append 26 = .ok (.aload_n 0, 1) := by decide +kernel
theorem dX7_append_27 : decode cX7_append 27 = .ok (.getfield 26, 3) := by decide +kernel
theorem dX7_append_30 : decode cX7_append 30 = .ok (.iload_n 1, 1) := by decide +kernel
theorem dX7_append_31 : decode cX7_append 31 = .ok (.invokevirtual 132, 3) := by decide +kernel
theorem dX7_append_34 : decode cX7_append 34 = .ok (.aload_n 0, 1) := by decide +kernel
theorem dX7_append_35 : decode cX7_append 35 = .ok (.getfield 26, 3) := by decide +kernel
theorem dX7_append_38 : decode cX7_append 38 = .ok (.getfield 134, 3) := by decide +kernel
theorem dX7_append_41 : decode cX7_append 41 = .ok (.ireturn, 1) := by decide +kernel
theorem dX7_clearText_0 : decode cX7_clearText 0 = .ok (.aload_n 0, 1) := by decide +kernel
theorem dX7_clearText_1 : decode cX7_clearText 1 = .ok (.getfield 26, 3) := by decide +kernel
theorem dX7_clearText_4 : decode cX7_clearText 4 = .ok (.getfield 134, 3) := by decide +kernel
theorem dX7_clearText_7 : decode cX7_clearText 7 = .ok (.istore_n 1, 1) := by decide +kernel
theorem dX7_clearText_8 : decode cX7_clearText 8 = .ok (.aload_n 0, 1) := by decide +kernel
theorem dX7_clearText_9 : decode cX7_clearText 9 = .ok (.getfield 26, 3) := by decide +kernel
theorem dX7_clearText_12 : decode cX7_clearText 12 = .ok (.iconst 0, 1) := by decide +kernel
theorem dX7_clearText_13 : decode cX7_clearText 13 = .ok (.putfield 134, 3) := by decide +kernel
theorem dX7_clearText_16 : decode cX7_clearText 16 = .ok (.iload_n 1, 1) := by decide +kernel
theorem dX7_clearText_17 : decode cX7_clearText 17 = .ok (.ireturn, 1) := by decide +kernel
theorem dX7_load_0 : decode cX7_load 0 = .ok (.aload_n 0, 1) := by decide +kernel
theorem dX7_load_1 : decode cX7_load 1 = .ok (.getfield 26, 3) := by decide +kernel
theorem dX7_load_4 : decode cX7_load 4 = .ok (.aload_n 0, 1) := by decide +kernel
theorem dX7_load_5 : decode cX7_load 5 = .ok (.getfield 10, 3) := by decide +kernel
theorem dX7_load_8 : decode cX7_load 8 = .ok (.getfield 64, 3) := by decide +kernel
theorem dX7_load_11 : decode cX7_load 11 = .ok (.getfield 137, 3) := by decide +kernel
theorem dX7_load_14 : decode cX7_load 14 = .ok (.invokevirtual 140, 3) := by decide +kernel
theorem dX7_load_17 : decode cX7_load 17 = .ok (.ifCond .ne 14, 3) := by decide +kernel
theorem dX7_load_20 : decode cX7_load 20 = .ok (.bipush (-10), 2) := by decide +kernel
theorem dX7_load_22 : decode cX7_load 22 = .ok (.aload_n 0, 1) := by decide +kernel
theorem dX7_load_23 : decode cX7_load 23 = .ok (.getfield 26, 3) := by decide +kernel
theorem dX7_load_26 : decode cX7_load 26 = .ok (.getfield 143, 3) := by decide +kernel
theorem dX7_load_29 : decode cX7_load 29 = .ok (.isub, 1) := by decide +kernel
theorem dX7_load_30 : decode cX7_load 30 = .ok (.ireturn, 1) := by decide +kernel
theorem dX7_load_31 : decode cX7_load 31 = .ok (.aload_n 0, 1) := by decide +kernel
theorem dX7_load_32 : decode cX7_load 32 = .ok (.getfield 19, 3) := by decide +kernel
theorem dX7_load_35 : decode cX7_load 35 = .ok (.aload_n 0, 1) := by decide +kernel
theorem dX7_load_36 : decode cX7_load 36 = .ok (.getfield 10, 3) := by decide +kernel
theorem dX7_load_39 : decode cX7_load 39 = .ok (.invokevirtual 46, 3) := by decide +kernel
theorem dX7_load_42 : decode cX7_load 42 = .ok (.aload_n 0, 1) := by decide +kernel
theorem dX7_load_43 : decode cX7_load 43 = .ok (.getfield 10, 3) := by decide +kernel
theorem dX7_load_46 : decode cX7_load 46 = .ok (.getfield 99, 3) := by decide +kernel
theorem dX7_load_49 : decode cX7_load 49 = .ok (.aload_n 0, 1) := by decide +kernel
theorem dX7_load_50 : decode cX7_load 50 = .ok (.getfield 26, 3) := by decide +kernel
theorem dX7_load_53 : decode cX7_load 53 = .ok (.getfield 146, 3) := by decide +kernel
theorem dX7_load_56 : decode cX7_load 56 = .ok (.invokevirtual 147, 3) := by decide +kernel
theorem dX7_load_59 : decode cX7_load 59 = .ok (.aload_n 0, 1) := by decide +kernel
theorem dX7_load_60 : decode cX7_load 60 = .ok (.getfield 26, 3) := by decide +kernel
theorem dX7_load_63 : decode cX7_load 63 = .ok (.iconst 0, 1) := by decide +kernel
theorem dX7_load_64 : decode cX7_load 64 = .ok (.putfield 134, 3) := by decide +kernel
theorem dX7_load_67 : decode cX7_load 67 = .ok (.aload_n 0, 1) := by decide +kernel
theorem dX7_load_68 : decode cX7_load 68 = .ok (.getfield 10, 3) := by decide +kernel
theorem dX7_load_71 : decode cX7_load 71 = .ok (.getfield 99, 3) := by decide +kernel
theorem dX7_load_74 : decode cX7_load 74 = .ok (.getfield 112, 3) := by decide +kernel
theorem dX7_load_77 : decode cX7_load 77 = .ok (.ireturn, 1) := by decide +kernel
theorem dX7_weave_0 : decode cX7_weave 0 = .ok (.iload_n 1, 1) := by decide +kernel
theorem dX7_weave_1 : decode cX7_weave 1 = .ok (.iconst 1, 1) := by decide +kernel
theorem dX7_weave_2 : decode cX7_weave 2 = .ok (.bipush 64, 2) := by decide +kernel
theorem dX7_weave_4 : decode cX7_weave 4 = .ok (.invokestatic 42, 3) := by decide +kernel
theorem dX7_weave_7 : decode cX7_weave 7 = .ok (.ifCond .ne 5, 3) := by decide +kernel
theorem dX7_weave_10 : decode cX7_weave 10 = .ok (.iconst (-1), 1) := by decide +kernel
theorem dX7_weave_11 : decode cX7_weave 11 = .ok (.ireturn, 1) := by decide +kernel
theorem dX7_weave_12 : decode cX7_weave 12 = .ok (.aload_n 0, 1) := by decide +kernel
theorem dX7_weave_13 : decode cX7_weave 13 = .ok (.getfield 10, 3) := by decide +kernel
theorem dX7_weave_16 : decode cX7_weave 16 = .ok (.getfield 99, 3) := by decide +kernel
theorem dX7_weave_19 : decode cX7_weave 19 = .ok (.getfield 112, 3) := by decide +kernel
theorem dX7_weave_22 : decode cX7_weave 22 = .ok (.ifCond .eq 16, 3) := by decide +kernel
theorem dX7_weave_25 : decode cX7_weave 25 = .ok (.aload_n 0, 1) := by decide +kernel
theorem dX7_weave_26 : decode cX7_weave 26 = .ok (.getfield 10, 3) := by decide +kernel
theorem dX7_weave_29 : decode cX7_weave 29 = .ok (.getfield 50, 3) := by decide +kernel
theorem dX7_weave_32 : decode cX7_weave 32 = .ok (.invokevirtual 151, 3) := by decide +kernel
theorem dX7_weave_35 : decode cX7_weave 35 = .ok (.ifCond .eq 6, 3) := by decide +kernel
theorem dX7_weave_38 : decode cX7_weave 38 = .ok (.bipush (-2), 2) := by decide +kernel
theorem dX7_weave_40 : decode cX7_weave 40 = .ok (.ireturn, 1) := by decide +kernel
theorem dX7_weave_41 : decode cX7_weave 41 = .ok (.aload_n 0, 1) := by decide +kernel
theorem dX7_weave_42 : decode cX7_weave 42 = .ok (.getfield 10, 3) := by decide +kernel
theorem dX7_weave_45 : decode cX7_weave 45 = .ok (.getfield 50, 3) := by decide +kernel
theorem dX7_weave_48 : decode cX7_weave 48 = .ok (.invokevirtual 154, 3) := by decide +kernel
theorem dX7_weave_51 : decode cX7_weave 51 = .ok (.ifCond .eq 6, 3) := by decide +kernel
theorem dX7_weave_54 : decode cX7_weave 54 = .ok (.bipush (-3), 2) := by decide +kernel
theorem dX7_weave_56 : decode cX7_weave 56 = .ok (.ireturn, 1) := by decide +kernel
theorem dX7_weave_57 : decode cX7_weave 57 = .ok (.aload_n 0, 1) := by decide +kernel
theorem dX7_weave_58 : decode cX7_weave 58 = .ok (.getfield 19, 3) := by decide +kernel
theorem dX7_weave_61 : decode cX7_weave 61 = .ok (.aload_n 0, 1) := by decide +kernel
theorem dX7_weave_62 : decode cX7_weave 62 = .ok (.getfield 10, 3) := by decide +kernel
theorem dX7_weave_65 : decode cX7_weave 65 = .ok (.invokevirtual 46, 3) := by decide +kernel
theorem dX7_weave_68 : decode cX7_weave 68 = .ok (.iconst 0, 1) := by decide +kernel
theorem dX7_weave_69 : decode cX7_weave 69 = .ok (.istore_n 2, 1) := by decide +kernel
theorem dX7_weave_70 : decode cX7_weave 70 = .ok (.iload_n 2, 1) := by decide +kernel
theorem dX7_weave_71 : decode cX7_weave 71 = .ok (.iload_n 1, 1) := by decide +kernel
theorem dX7_weave_72 : decode cX7_weave 72 = .ok (.if_icmp .ge 42, 3) := by decide +kernel
theorem dX7_weave_75 : decode cX7_weave 75 = .ok (.aload_n 0, 1) := by decide +kernel
theorem dX7_weave_76 : decode cX7_weave 76 = .ok (.getfield 10, 3) := by decide +kernel
theorem dX7_weave_79 : decode cX7_weave 79 = .ok (.getfield 50, 3) := by decide +kernel
theorem dX7_weave_82 : decode cX7_weave 82 = .ok (.invokevirtual 154, 3) := by decide +kernel
theorem dX7_weave_85 : decode cX7_weave 85 = .ok (.ifCond .ne 29, 3) := by decide +kernel
theorem dX7_weave_88 : decode cX7_weave 88 = .ok (.aload_n 0, 1) := by decide +kernel
theorem dX7_weave_89 : decode cX7_weave 89 = .ok (.getfield 10, 3) := by decide +kernel
theorem dX7_weave_92 : decode cX7_weave 92 = .ok (.getfield 50, 3) := by decide +kernel
theorem dX7_weave_95 : decode cX7_weave 95 = .ok (.invokevirtual 151, 3) := by decide +kernel
theorem dX7_weave_98 : decode cX7_weave 98 = .ok (.ifCond .ne 16, 3) := by decide +kernel
theorem dX7_weave_101 : decode cX7_weave 101 = .ok (.aload_n 0, 1) := by decide +kernel
theorem dX7_weave_102 : decode cX7_weave 102 = .ok (.getfield 10, 3) := by decide +kernel
theorem dX7_weave_105 : decode cX7_weave 105 = .ok (.invokevirtual 155, 3) := by decide +kernel
theorem dX7_weave_108 : decode cX7_weave 108 = .ok (.iinc 2 1, 3) := by decide +kernel
theorem dX7_weave_111 : decode cX7_weave 111 = .ok (.goto (-41), 3) := by decide +kernel
theorem dX7_weave_114 : decode cX7_weave 114 = .ok (.iload_n 2, 1) := by decide +kernel
theorem dX7_weave_115 : decode cX7_weave 115 = .ok (.ireturn, 1) := by decide +kernel
theorem dX7_takeOut_0 : decode cX7_takeOut 0 = .ok (.iload_n 1, 1) := by decide +kernel
theorem dX7_takeOut_1 : decode cX7_takeOut 1 = .ok (.iconst 1, 1) := by decide +kernel
theorem dX7_takeOut_2 : decode cX7_takeOut 2 = .ok (.bipush 64, 2) := by decide +kernel
theorem dX7_takeOut_4 : decode cX7_takeOut 4 = .ok (.invokestatic 42, 3) := by decide +kernel
theorem dX7_takeOut_7 : decode cX7_takeOut 7 = .ok (.ifCond .ne 5, 3) := by decide +kernel
theorem dX7_takeOut_10 : decode cX7_takeOut 10 = .ok (.iconst (-1), 1) := by decide +kernel
theorem dX7_takeOut_11 : decode cX7_takeOut 11 = .ok (.ireturn, 1) := by decide +kernel
theorem dX7_takeOut_12 : decode cX7_takeOut 12 = .ok (.iload_n 1, 1) := by decide +kernel
theorem dX7_takeOut_13 : decode cX7_takeOut 13 = .ok (.aload_n 0, 1) := by decide +kernel
theorem dX7_takeOut_14 : decode cX7_takeOut 14 = .ok (.getfield 10, 3) := by decide +kernel
theorem dX7_takeOut_17 : decode cX7_takeOut 17 = .ok (.getfield 50, 3) := by decide +kernel
theorem dX7_takeOut_20 : decode cX7_takeOut 20 = .ok (.getfield 54, 3) := by decide +kernel
theorem dX7_takeOut_23 : decode cX7_takeOut 23 = .ok (.if_icmp .gt 16, 3) := by decide +kernel
theorem dX7_takeOut_26 : decode cX7_takeOut 26 = .ok (.aload_n 0, 1) := by decide +kernel
theorem dX7_takeOut_27 : decode cX7_takeOut 27 = .ok (.getfield 10, 3) := by decide +kernel
theorem dX7_takeOut_30 : decode cX7_takeOut 30 = .ok (.getfield 99, 3) := by decide +kernel
theorem dX7_takeOut_33 : decode cX7_takeOut 33 = .ok (.getfield 112, 3) := by decide +kernel
theorem dX7_takeOut_36 : decode cX7_takeOut 36 = .ok (.ifCond .ne 6, 3) := by decide +kernel
theorem dX7_takeOut_39 : decode cX7_takeOut 39 = .ok (.bipush (-2), 2) := by decide +kernel
theorem dX7_takeOut_41 : decode cX7_takeOut 41 = .ok (.ireturn, 1) := by decide +kernel
theorem dX7_takeOut_42 : decode cX7_takeOut 42 = .ok (.aload_n 0, 1) := by decide +kernel
theorem dX7_takeOut_43 : decode cX7_takeOut 43 = .ok (.getfield 19, 3) := by decide +kernel
theorem dX7_takeOut_46 : decode cX7_takeOut 46 = .ok (.aload_n 0, 1) := by decide +kernel
theorem dX7_takeOut_47 : decode cX7_takeOut 47 = .ok (.getfield 10, 3) := by decide +kernel
theorem dX7_takeOut_50 : decode cX7_takeOut 50 = .ok (.invokevirtual 46, 3) := by decide +kernel
theorem dX7_takeOut_53 : decode cX7_takeOut 53 = .ok (.iconst 0, 1) := by decide +kernel
theorem dX7_takeOut_54 : decode cX7_takeOut 54 = .ok (.istore_n 2, 1) := by decide +kernel
theorem dX7_takeOut_55 : decode cX7_takeOut 55 = .ok (.iload_n 2, 1) := by decide +kernel
theorem dX7_takeOut_56 : decode cX7_takeOut 56 = .ok (.iload_n 1, 1) := by decide +kernel
theorem dX7_takeOut_57 : decode cX7_takeOut 57 = .ok (.if_icmp .ge 16, 3) := by decide +kernel
theorem dX7_takeOut_60 : decode cX7_takeOut 60 = .ok (.aload_n 0, 1) := by decide +kernel
theorem dX7_takeOut_61 : decode cX7_takeOut 61 = .ok (.getfield 10, 3) := by decide +kernel
theorem dX7_takeOut_64 : decode cX7_takeOut 64 = .ok (.invokevirtual 158, 3) := by decide +kernel
theorem dX7_takeOut_67 : decode cX7_takeOut 67 = .ok (.iinc 2 1, 3) := by decide +kernel
theorem dX7_takeOut_70 : decode cX7_takeOut 70 = .ok (.goto (-15), 3) := by decide +kernel
theorem dX7_takeOut_73 : decode cX7_takeOut 73 = .ok (.aload_n 0, 1) := by decide +kernel
theorem dX7_takeOut_74 : decode cX7_takeOut 74 = .ok (.getfield 10, 3) := by decide +kernel
theorem dX7_takeOut_77 : decode cX7_takeOut 77 = .ok (.getfield 50, 3) := by decide +kernel
theorem dX7_takeOut_80 : decode cX7_takeOut 80 = .ok (.getfield 54, 3) := by decide +kernel
theorem dX7_takeOut_83 : decode cX7_takeOut 83 = .ok (.ireturn, 1) := by decide +kernel
theorem dX7_cutOff_0 : decode cX7_cutOff 0 = .ok (.aload_n 0, 1) := by decide +kernel
theorem dX7_cutOff_1 : decode cX7_cutOff 1 = .ok (.getfield 10, 3) := by decide +kernel
theorem dX7_cutOff_4 : decode cX7_cutOff 4 = .ok (.getfield 50, 3) := by decide +kernel
theorem dX7_cutOff_7 : decode cX7_cutOff 7 = .ok (.invokevirtual 151, 3) := by decide +kernel
theorem dX7_cutOff_10 : decode cX7_cutOff 10 = .ok (.ifCond .eq 6, 3) := by decide +kernel
theorem dX7_cutOff_13 : decode cX7_cutOff 13 = .ok (.bipush (-2), 2) := by decide +kernel
theorem dX7_cutOff_15 : decode cX7_cutOff 15 = .ok (.ireturn, 1) := by decide +kernel
theorem dX7_cutOff_16 : decode cX7_cutOff 16 = .ok (.aload_n 0, 1) := by decide +kernel
theorem dX7_cutOff_17 : decode cX7_cutOff 17 = .ok (.getfield 19, 3) := by decide +kernel
theorem dX7_cutOff_20 : decode cX7_cutOff 20 = .ok (.aload_n 0, 1) := by decide +kernel
theorem dX7_cutOff_21 : decode cX7_cutOff 21 = .ok (.getfield 10, 3) := by decide +kernel
theorem dX7_cutOff_24 : decode cX7_cutOff 24 = .ok (.invokevirtual 46, 3) := by decide +kernel
theorem dX7_cutOff_27 : decode cX7_cutOff 27 = .ok (.aload_n 0, 1) := by decide +kernel
theorem dX7_cutOff_28 : decode cX7_cutOff 28 = .ok (.getfield 10, 3) := by decide +kernel
theorem dX7_cutOff_31 : decode cX7_cutOff 31 = .ok (.getfield 50, 3) := by decide +kernel
theorem dX7_cutOff_34 : decode cX7_cutOff 34 = .ok (.getfield 54, 3) := by decide +kernel
theorem dX7_cutOff_37 : decode cX7_cutOff 37 = .ok (.istore_n 1, 1) := by decide +kernel
theorem dX7_cutOff_38 : decode cX7_cutOff 38 = .ok (.aload_n 0, 1) := by decide +kernel
theorem dX7_cutOff_39 : decode cX7_cutOff 39 = .ok (.getfield 10, 3) := by decide +kernel
theorem dX7_cutOff_42 : decode cX7_cutOff 42 = .ok (.getfield 50, 3) := by decide +kernel
theorem dX7_cutOff_45 : decode cX7_cutOff 45 = .ok (.iconst 0, 1) := by decide +kernel
theorem dX7_cutOff_46 : decode cX7_cutOff 46 = .ok (.putfield 54, 3) := by decide +kernel
theorem dX7_cutOff_49 : decode cX7_cutOff 49 = .ok (.iload_n 1, 1) := by decide +kernel
theorem dX7_cutOff_50 : decode cX7_cutOff 50 = .ok (.ireturn, 1) := by decide +kernel
theorem dX7_undo_0 : decode cX7_undo 0 = .ok (.aload_n 0, 1) := by decide +kernel
theorem dX7_undo_1 : decode cX7_undo 1 = .ok (.getfield 19, 3) := by decide +kernel
theorem dX7_undo_4 : decode cX7_undo 4 = .ok (.getfield 161, 3) := by decide +kernel
theorem dX7_undo_7 : decode cX7_undo 7 = .ok (.ifCond .ne 6, 3) := by decide +kernel
theorem dX7_undo_10 : decode cX7_undo 10 = .ok (.bipush (-2), 2) := by decide +kernel
theorem dX7_undo_12 : decode cX7_undo 12 = .ok (.ireturn, 1) := by decide +kernel
theorem dX7_undo_13 : decode cX7_undo 13 = .ok (.aload_n 0, 1) := by decide +kernel
theorem dX7_undo_14 : decode cX7_undo 14 = .ok (.getfield 19, 3) := by decide +kernel
theorem dX7_undo_17 : decode cX7_undo 17 = .ok (.aload_n 0, 1) := by decide +kernel
theorem dX7_undo_18 : decode cX7_undo 18 = .ok (.getfield 10, 3) := by decide +kernel
theorem dX7_undo_21 : decode cX7_undo 21 = .ok (.invokevirtual 164, 3) := by decide +kernel
theorem dX7_undo_24 : decode cX7_undo 24 = .ok (.aload_n 0, 1) := by decide +kernel
theorem dX7_undo_25 : decode cX7_undo 25 = .ok (.getfield 19, 3) := by decide +kernel
theorem dX7_undo_28 : decode cX7_undo 28 = .ok (.getfield 161, 3) := by decide +kernel
theorem dX7_undo_31 : decode cX7_undo 31 = .ok (.ireturn, 1) := by decide +kernel
theorem dX7_count_0 : decode cX7_count 0 = .ok (.iload_n 1, 1) := by decide +kernel
theorem dX7_count_1 : decode cX7_count 1 = .ok (.tableswitch 185 0 9 #[55, 66, 77, 88, 117, 128, 139, 158, 169, 177], 55) := by decide +kernel
theorem dX7_count_56 : decode cX7_count 56 = .ok (.aload_n 0, 1) := by decide +kernel
theorem dX7_count_57 : decode cX7_count 57 = .ok (.getfield 10, 3) := by decide +kernel
theorem dX7_count_60 : decode cX7_count 60 = .ok (.getfield 64, 3) := by decide +kernel
theorem dX7_count_63 : decode cX7_count 63 = .ok (.getfield 137, 3) := by decide +kernel
theorem dX7_count_66 : decode cX7_count 66 = .ok (.ireturn, 1) := by decide +kernel
theorem dX7_count_67 : decode cX7_count 67 = .ok (.aload_n 0, 1) := by decide +kernel
theorem dX7_count_68 : decode cX7_count 68 = .ok (.getfield 10, 3) := by decide +kernel
theorem dX7_count_71 : decode cX7_count 71 = .ok (.getfield 64, 3) := by decide +kernel
theorem dX7_count_74 : decode cX7_count 74 = .ok (.getfield 167, 3) := by decide +kernel
theorem dX7_count_77 : decode cX7_count 77 = .ok (.ireturn, 1) := by decide +kernel
theorem dX7_count_78 : decode cX7_count 78 = .ok (.aload_n 0, 1) := by decide +kernel
theorem dX7_count_79 : decode cX7_count 79 = .ok (.getfield 10, 3) := by decide +kernel
theorem dX7_count_82 : decode cX7_count 82 = .ok (.getfield 99, 3) := by decide +kernel
theorem dX7_count_85 : decode cX7_count 85 = .ok (.getfield 112, 3) := by decide +kernel
theorem dX7_count_88 : decode cX7_count 88 = .ok (.ireturn, 1) := by decide +kernel
theorem dX7_count_89 : decode cX7_count 89 = .ok (.aload_n 0, 1) := by decide +kernel
theorem dX7_count_90 : decode cX7_count 90 = .ok (.getfield 10, 3) := by decide +kernel
theorem dX7_count_93 : decode cX7_count 93 = .ok (.getfield 99, 3) := by decide +kernel
theorem dX7_count_96 : decode cX7_count 96 = .ok (.getfield 112, 3) := by decide +kernel
theorem dX7_count_99 : decode cX7_count 99 = .ok (.ifCond .ne 8, 3) := by decide +kernel
theorem dX7_count_102 : decode cX7_count 102 = .ok (.bipush (-9), 2) := by decide +kernel
theorem dX7_count_104 : decode cX7_count 104 = .ok (.goto 13, 3) := by decide +kernel
theorem dX7_count_107 : decode cX7_count 107 = .ok (.aload_n 0, 1) := by decide +kernel
theorem dX7_count_108 : decode cX7_count 108 = .ok (.getfield 10, 3) := by decide +kernel
theorem dX7_count_111 : decode cX7_count 111 = .ok (.getfield 99, 3) := by decide +kernel
theorem dX7_count_114 : decode cX7_count 114 = .ok (.getfield 125, 3) := by decide +kernel
theorem dX7_count_117 : decode cX7_count 117 = .ok (.ireturn, 1) := by decide +kernel
theorem dX7_count_118 : decode cX7_count 118 = .ok (.aload_n 0, 1) := by decide +kernel
theorem dX7_count_119 : decode cX7_count 119 = .ok (.getfield 10, 3) := by decide +kernel
theorem dX7_count_122 : decode cX7_count 122 = .ok (.getfield 99, 3) := by decide +kernel
theorem dX7_count_125 : decode cX7_count 125 = .ok (.getfield 122, 3) := by decide +kernel
theorem dX7_count_128 : decode cX7_count 128 = .ok (.ireturn, 1) := by decide +kernel
theorem dX7_count_129 : decode cX7_count 129 = .ok (.aload_n 0, 1) := by decide +kernel
theorem dX7_count_130 : decode cX7_count 130 = .ok (.getfield 10, 3) := by decide +kernel
theorem dX7_count_133 : decode cX7_count 133 = .ok (.getfield 50, 3) := by decide +kernel
theorem dX7_count_136 : decode cX7_count 136 = .ok (.getfield 54, 3) := by decide +kernel
theorem dX7_count_139 : decode cX7_count 139 = .ok (.ireturn, 1) := by decide +kernel
theorem dX7_count_140 : decode cX7_count 140 = .ok (.aload_n 0, 1) := by decide +kernel
theorem dX7_count_141 : decode cX7_count 141 = .ok (.getfield 10, 3) := by decide +kernel
theorem dX7_count_144 : decode cX7_count 144 = .ok (.getfield 50, 3) := by decide +kernel
theorem dX7_count_147 : decode cX7_count 147 = .ok (.invokevirtual 151, 3) := by decide +kernel
theorem dX7_count_150 : decode cX7_count 150 = .ok (.ifCond .eq 7, 3) := by decide +kernel
theorem dX7_count_153 : decode cX7_count 153 = .ok (.iconst 1, 1) := by decide +kernel
theorem dX7_count_154 : decode cX7_count 154 = .ok (.goto 4, 3) := by decide +kernel
theorem dX7_count_157 : decode cX7_count 157 = .ok (.iconst 0, 1) := by decide +kernel
theorem dX7_count_158 : decode cX7_count 158 = .ok (.ireturn, 1) := by decide +kernel
theorem dX7_count_159 : decode cX7_count 159 = .ok (.aload_n 0, 1) := by decide +kernel
theorem dX7_count_160 : decode cX7_count 160 = .ok (.getfield 10, 3) := by decide +kernel
theorem dX7_count_163 : decode cX7_count 163 = .ok (.getfield 50, 3) := by decide +kernel
theorem dX7_count_166 : decode cX7_count 166 = .ok (.invokevirtual 170, 3) := by decide +kernel
theorem dX7_count_169 : decode cX7_count 169 = .ok (.ireturn, 1) := by decide +kernel
theorem dX7_count_170 : decode cX7_count 170 = .ok (.aload_n 0, 1) := by decide +kernel
theorem dX7_count_171 : decode cX7_count 171 = .ok (.getfield 19, 3) := by decide +kernel
theorem dX7_count_174 : decode cX7_count 174 = .ok (.getfield 161, 3) := by decide +kernel
theorem dX7_count_177 : decode cX7_count 177 = .ok (.ireturn, 1) := by decide +kernel
theorem dX7_count_178 : decode cX7_count 178 = .ok (.aload_n 0, 1) := by decide +kernel
theorem dX7_count_179 : decode cX7_count 179 = .ok (.getfield 26, 3) := by decide +kernel
theorem dX7_count_182 : decode cX7_count 182 = .ok (.getfield 134, 3) := by decide +kernel
theorem dX7_count_185 : decode cX7_count 185 = .ok (.ireturn, 1) := by decide +kernel
theorem dX7_count_186 : decode cX7_count 186 = .ok (.iconst (-1), 1) := by decide +kernel
theorem dX7_count_187 : decode cX7_count 187 = .ok (.ireturn, 1) := by decide +kernel
theorem dX7_end_0 : decode cX7_end 0 = .ok (.aload_n 0, 1) := by decide +kernel
theorem dX7_end_1 : decode cX7_end 1 = .ok (.getfield 10, 3) := by decide +kernel
theorem dX7_end_4 : decode cX7_end 4 = .ok (.getfield 64, 3) := by decide +kernel
theorem dX7_end_7 : decode cX7_end 7 = .ok (.iload_n 1, 1) := by decide +kernel
theorem dX7_end_8 : decode cX7_end 8 = .ok (.invokevirtual 68, 3) := by decide +kernel
theorem dX7_end_11 : decode cX7_end 11 = .ok (.ifCond .ne 5, 3) := by decide +kernel
theorem dX7_end_14 : decode cX7_end 14 = .ok (.iconst (-1), 1) := by decide +kernel
theorem dX7_end_15 : decode cX7_end 15 = .ok (.ireturn, 1) := by decide +kernel
theorem dX7_end_16 : decode cX7_end 16 = .ok (.iload_n 2, 1) := by decide +kernel
theorem dX7_end_17 : decode cX7_end 17 = .ok (.tableswitch 112 0 4 #[35, 50, 65, 77, 89], 35) := by decide +kernel
theorem dX7_end_52 : decode cX7_end 52 = .ok (.aload_n 0, 1) := by decide +kernel
theorem dX7_end_53 : decode cX7_end 53 = .ok (.getfield 10, 3) := by decide +kernel
theorem dX7_end_56 : decode cX7_end 56 = .ok (.getfield 64, 3) := by decide +kernel
theorem dX7_end_59 : decode cX7_end 59 = .ok (.getfield 80, 3) := by decide +kernel
theorem dX7_end_62 : decode cX7_end 62 = .ok (.iload_n 1, 1) := by decide +kernel
theorem dX7_end_63 : decode cX7_end 63 = .ok (.invokevirtual 83, 3) := by decide +kernel
theorem dX7_end_66 : decode cX7_end 66 = .ok (.ireturn, 1) := by decide +kernel
theorem dX7_end_67 : decode cX7_end 67 = .ok (.aload_n 0, 1) := by decide +kernel
theorem dX7_end_68 : decode cX7_end 68 = .ok (.getfield 10, 3) := by decide +kernel
theorem dX7_end_71 : decode cX7_end 71 = .ok (.getfield 64, 3) := by decide +kernel
theorem dX7_end_74 : decode cX7_end 74 = .ok (.getfield 87, 3) := by decide +kernel
theorem dX7_end_77 : decode cX7_end 77 = .ok (.iload_n 1, 1) := by decide +kernel
theorem dX7_end_78 : decode cX7_end 78 = .ok (.invokevirtual 83, 3) := by decide +kernel
theorem dX7_end_81 : decode cX7_end 81 = .ok (.ireturn, 1) := by decide +kernel
theorem dX7_end_82 : decode cX7_end 82 = .ok (.aload_n 0, 1) := by decide +kernel
theorem dX7_end_83 : decode cX7_end 83 = .ok (.getfield 10, 3) := by decide +kernel
theorem dX7_end_86 : decode cX7_end 86 = .ok (.getfield 50, 3) := by decide +kernel
theorem dX7_end_89 : decode cX7_end 89 = .ok (.iload_n 1, 1) := by decide +kernel
theorem dX7_end_90 : decode cX7_end 90 = .ok (.invokevirtual 174, 3) := by decide +kernel
theorem dX7_end_93 : decode cX7_end 93 = .ok (.ireturn, 1) := by decide +kernel
theorem dX7_end_94 : decode cX7_end 94 = .ok (.aload_n 0, 1) := by decide +kernel
theorem dX7_end_95 : decode cX7_end 95 = .ok (.getfield 10, 3) := by decide +kernel
theorem dX7_end_98 : decode cX7_end 98 = .ok (.getfield 50, 3) := by decide +kernel
theorem dX7_end_101 : decode cX7_end 101 = .ok (.iload_n 1, 1) := by decide +kernel
theorem dX7_end_102 : decode cX7_end 102 = .ok (.invokevirtual 177, 3) := by decide +kernel
theorem dX7_end_105 : decode cX7_end 105 = .ok (.ireturn, 1) := by decide +kernel
theorem dX7_end_106 : decode cX7_end 106 = .ok (.aload_n 0, 1) := by decide +kernel
theorem dX7_end_107 : decode cX7_end 107 = .ok (.getfield 10, 3) := by decide +kernel
theorem dX7_end_110 : decode cX7_end 110 = .ok (.getfield 50, 3) := by decide +kernel
theorem dX7_end_113 : decode cX7_end 113 = .ok (.iconst 0, 1) := by decide +kernel
theorem dX7_end_114 : decode cX7_end 114 = .ok (.iload_n 1, 1) := by decide +kernel
theorem dX7_end_115 : decode cX7_end 115 = .ok (.aload_n 0, 1) := by decide +kernel
theorem dX7_end_116 : decode cX7_end 116 = .ok (.getfield 10, 3) := by decide +kernel
theorem dX7_end_119 : decode cX7_end 119 = .ok (.getfield 50, 3) := by decide +kernel
theorem dX7_end_122 : decode cX7_end 122 = .ok (.getfield 54, 3) := by decide +kernel
theorem dX7_end_125 : decode cX7_end 125 = .ok (.invokevirtual 180, 3) := by decide +kernel
theorem dX7_end_128 : decode cX7_end 128 = .ok (.ireturn, 1) := by decide +kernel
theorem dX7_end_129 : decode cX7_end 129 = .ok (.iconst (-1), 1) := by decide +kernel
theorem dX7_end_130 : decode cX7_end 130 = .ok (.ireturn, 1) := by decide +kernel
theorem dX7_bar_0 : decode cX7_bar 0 = .ok (.aload_n 0, 1) := by decide +kernel
theorem dX7_bar_1 : decode cX7_bar 1 = .ok (.getfield 10, 3) := by decide +kernel
theorem dX7_bar_4 : decode cX7_bar 4 = .ok (.getfield 99, 3) := by decide +kernel
theorem dX7_bar_7 : decode cX7_bar 7 = .ok (.iload_n 1, 1) := by decide +kernel
theorem dX7_bar_8 : decode cX7_bar 8 = .ok (.invokevirtual 115, 3) := by decide +kernel
theorem dX7_bar_11 : decode cX7_bar 11 = .ok (.ifCond .ne 5, 3) := by decide +kernel
theorem dX7_bar_14 : decode cX7_bar 14 = .ok (.iconst (-1), 1) := by decide +kernel
theorem dX7_bar_15 : decode cX7_bar 15 = .ok (.ireturn, 1) := by decide +kernel
theorem dX7_bar_16 : decode cX7_bar 16 = .ok (.aload_n 0, 1) := by decide +kernel
theorem dX7_bar_17 : decode cX7_bar 17 = .ok (.getfield 10, 3) := by decide +kernel
theorem dX7_bar_20 : decode cX7_bar 20 = .ok (.getfield 99, 3) := by decide +kernel
theorem dX7_bar_23 : decode cX7_bar 23 = .ok (.getfield 118, 3) := by decide +kernel
theorem dX7_bar_26 : decode cX7_bar 26 = .ok (.iload_n 1, 1) := by decide +kernel
theorem dX7_bar_27 : decode cX7_bar 27 = .ok (.invokevirtual 83, 3) := by decide +kernel
theorem dX7_bar_30 : decode cX7_bar 30 = .ok (.istore_n 3, 1) := by decide +kernel
theorem dX7_bar_31 : decode cX7_bar 31 = .ok (.iload_n 2, 1) := by decide +kernel
theorem dX7_bar_32 : decode cX7_bar 32 = .ok (.tableswitch 73 0 3 #[32, 34, 49, 61], 32) := by decide +kernel
theorem dX7_bar_64 : decode cX7_bar 64 = .ok (.iload_n 3, 1) := by decide +kernel
theorem dX7_bar_65 : decode cX7_bar 65 = .ok (.ireturn, 1) := by decide +kernel
theorem dX7_bar_66 : decode cX7_bar 66 = .ok (.aload_n 0, 1) := by decide +kernel
theorem dX7_bar_67 : decode cX7_bar 67 = .ok (.getfield 10, 3) := by decide +kernel
theorem dX7_bar_70 : decode cX7_bar 70 = .ok (.getfield 99, 3) := by decide +kernel
theorem dX7_bar_73 : decode cX7_bar 73 = .ok (.getfield 121, 3) := by decide +kernel
theorem dX7_bar_76 : decode cX7_bar 76 = .ok (.iload_n 1, 1) := by decide +kernel
theorem dX7_bar_77 : decode cX7_bar 77 = .ok (.invokevirtual 83, 3) := by decide +kernel
theorem dX7_bar_80 : decode cX7_bar 80 = .ok (.ireturn, 1) := by decide +kernel
theorem dX7_bar_81 : decode cX7_bar 81 = .ok (.aload_n 0, 1) := by decide +kernel
theorem dX7_bar_82 : decode cX7_bar 82 = .ok (.getfield 10, 3) := by decide +kernel
theorem dX7_bar_85 : decode cX7_bar 85 = .ok (.getfield 64, 3) := by decide +kernel
theorem dX7_bar_88 : decode cX7_bar 88 = .ok (.iload_n 3, 1) := by decide +kernel
theorem dX7_bar_89 : decode cX7_bar 89 = .ok (.invokevirtual 184, 3) := by decide +kernel
theorem dX7_bar_92 : decode cX7_bar 92 = .ok (.ireturn, 1) := by decide +kernel
theorem dX7_bar_93 : decode cX7_bar 93 = .ok (.aload_n 0, 1) := by decide +kernel
theorem dX7_bar_94 : decode cX7_bar 94 = .ok (.getfield 10, 3) := by decide +kernel
theorem dX7_bar_97 : decode cX7_bar 97 = .ok (.getfield 64, 3) := by decide +kernel
theorem dX7_bar_100 : decode cX7_bar 100 = .ok (.iload_n 3, 1) := by decide +kernel
theorem dX7_bar_101 : decode cX7_bar 101 = .ok (.invokevirtual 187, 3) := by decide +kernel
theorem dX7_bar_104 : decode cX7_bar 104 = .ok (.ireturn, 1) := by decide +kernel
theorem dX7_bar_105 : decode cX7_bar 105 = .ok (.iconst (-1), 1) := by decide +kernel
theorem dX7_bar_106 : decode cX7_bar 106 = .ok (.ireturn, 1) := by decide +kernel
theorem dX7_yarn_0 : decode cX7_yarn 0 = .ok (.iload_n 1, 1) := by decide +kernel
theorem dX7_yarn_1 : decode cX7_yarn 1 = .ok (.invokestatic 77, 3) := by decide +kernel
theorem dX7_yarn_4 : decode cX7_yarn 4 = .ok (.ifCond .eq 17, 3) := by decide +kernel
theorem dX7_yarn_7 : decode cX7_yarn 7 = .ok (.aload_n 0, 1) := by decide +kernel
theorem dX7_yarn_8 : decode cX7_yarn 8 = .ok (.getfield 10, 3) := by decide +kernel
theorem dX7_yarn_11 : decode cX7_yarn 11 = .ok (.getfield 128, 3) := by decide +kernel
theorem dX7_yarn_14 : decode cX7_yarn 14 = .ok (.iload_n 1, 1) := by decide +kernel
theorem dX7_yarn_15 : decode cX7_yarn 15 = .ok (.invokevirtual 83, 3) := by decide +kernel
theorem dX7_yarn_18 : decode cX7_yarn 18 = .ok (.goto 4, 3) := by decide +kernel
theorem dX7_yarn_21 : decode cX7_yarn 21 = .ok (.iconst (-1), 1) := by decide +kernel
theorem dX7_yarn_22 : decode cX7_yarn 22 = .ok (.ireturn, 1) := by decide +kernel
theorem dX7_row_0 : decode cX7_row 0 = .ok (.aload_n 0, 1) := by decide +kernel
theorem dX7_row_1 : decode cX7_row 1 = .ok (.getfield 10, 3) := by decide +kernel
theorem dX7_row_4 : decode cX7_row 4 = .ok (.getfield 50, 3) := by decide +kernel
theorem dX7_row_7 : decode cX7_row 7 = .ok (.astore_n 3, 1) := by decide +kernel
theorem dX7_row_8 : decode cX7_row 8 = .ok (.aload_n 3, 1) := by decide +kernel
theorem dX7_row_9 : decode cX7_row 9 = .ok (.iload_n 1, 1) := by decide +kernel
theorem dX7_row_10 : decode cX7_row 10 = .ok (.invokevirtual 190, 3) := by decide +kernel
theorem dX7_row_13 : decode cX7_row 13 = .ok (.ifCond .ne 5, 3) := by decide +kernel
theorem dX7_row_16 : decode cX7_row 16 = .ok (.iconst (-1), 1) := by decide +kernel
theorem dX7_row_17 : decode cX7_row 17 = .ok (.ireturn, 1) := by decide +kernel
theorem dX7_row_18 : decode cX7_row 18 = .ok (.iload_n 2, 1) := by decide +kernel
theorem dX7_row_19 : decode cX7_row 19 = .ok (.tableswitch 118 0 6 #[41, 50, 59, 68, 80, 92, 101], 41) := by decide +kernel
theorem dX7_row_60 : decode cX7_row 60 = .ok (.aload_n 3, 1) := by decide +kernel
theorem dX7_row_61 : decode cX7_row 61 = .ok (.getfield 193, 3) := by decide +kernel
theorem dX7_row_64 : decode cX7_row 64 = .ok (.iload_n 1, 1) := by decide +kernel
theorem dX7_row_65 : decode cX7_row 65 = .ok (.invokevirtual 83, 3) := by decide +kernel
theorem dX7_row_68 : decode cX7_row 68 = .ok (.ireturn, 1) := by decide +kernel
theorem dX7_row_69 : decode cX7_row 69 = .ok (.aload_n 3, 1) := by decide +kernel
theorem dX7_row_70 : decode cX7_row 70 = .ok (.getfield 194, 3) := by decide +kernel
theorem dX7_row_73 : decode cX7_row 73 = .ok (.iload_n 1, 1) := by decide +kernel
theorem dX7_row_74 : decode cX7_row 74 = .ok (.invokevirtual 83, 3) := by decide +kernel
theorem dX7_row_77 : decode cX7_row 77 = .ok (.ireturn, 1) := by decide +kernel
theorem dX7_row_78 : decode cX7_row 78 = .ok (.aload_n 3, 1) := by decide +kernel
theorem dX7_row_79 : decode cX7_row 79 = .ok (.getfield 197, 3) := by decide +kernel
theorem dX7_row_82 : decode cX7_row 82 = .ok (.iload_n 1, 1) := by decide +kernel
theorem dX7_row_83 : decode cX7_row 83 = .ok (.invokevirtual 83, 3) := by decide +kernel
theorem dX7_row_86 : decode cX7_row 86 = .ok (.ireturn, 1) := by decide +kernel
theorem dX7_row_87 : decode cX7_row 87 = .ok (.aload_n 3, 1) := by decide +kernel
theorem dX7_row_88 : decode cX7_row 88 = .ok (.getfield 200, 3) := by decide +kernel
theorem dX7_row_91 : decode cX7_row 91 = .ok (.iload_n 1, 1) := by decide +kernel
theorem dX7_row_92 : decode cX7_row 92 = .ok (.invokevirtual 83, 3) := by decide +kernel
theorem dX7_row_95 : decode cX7_row 95 = .ok (.invokestatic 203, 3) := by decide +kernel
theorem dX7_row_98 : decode cX7_row 98 = .ok (.ireturn, 1) := by decide +kernel
theorem dX7_row_99 : decode cX7_row 99 = .ok (.aload_n 3, 1) := by decide +kernel
theorem dX7_row_100 : decode cX7_row 100 = .ok (.getfield 208, 3) := by decide +kernel
theorem dX7_row_103 : decode cX7_row 103 = .ok (.iload_n 1, 1) := by decide +kernel
theorem dX7_row_104 : decode cX7_row 104 = .ok (.invokevirtual 83, 3) := by decide +kernel
theorem dX7_row_107 : decode cX7_row 107 = .ok (.invokestatic 203, 3) := by decide +kernel
theorem dX7_row_110 : decode cX7_row 110 = .ok (.ireturn, 1) := by decide +kernel
theorem dX7_row_111 : decode cX7_row 111 = .ok (.aload_n 3, 1) := by decide +kernel
theorem dX7_row_112 : decode cX7_row 112 = .ok (.iload_n 1, 1) := by decide +kernel
theorem dX7_row_113 : decode cX7_row 113 = .ok (.invokevirtual 211, 3) := by decide +kernel
theorem dX7_row_116 : decode cX7_row 116 = .ok (.invokestatic 203, 3) := by decide +kernel
theorem dX7_row_119 : decode cX7_row 119 = .ok (.ireturn, 1) := by decide +kernel
theorem dX7_row_120 : decode cX7_row 120 = .ok (.aload_n 3, 1) := by decide +kernel
theorem dX7_row_121 : decode cX7_row 121 = .ok (.iconst 1, 1) := by decide +kernel
theorem dX7_row_122 : decode cX7_row 122 = .ok (.iload_n 1, 1) := by decide +kernel
theorem dX7_row_123 : decode cX7_row 123 = .ok (.aload_n 0, 1) := by decide +kernel
theorem dX7_row_124 : decode cX7_row 124 = .ok (.getfield 10, 3) := by decide +kernel
theorem dX7_row_127 : decode cX7_row 127 = .ok (.getfield 64, 3) := by decide +kernel
theorem dX7_row_130 : decode cX7_row 130 = .ok (.getfield 167, 3) := by decide +kernel
theorem dX7_row_133 : decode cX7_row 133 = .ok (.invokevirtual 180, 3) := by decide +kernel
theorem dX7_row_136 : decode cX7_row 136 = .ok (.ireturn, 1) := by decide +kernel
theorem dX7_row_137 : decode cX7_row 137 = .ok (.iconst (-1), 1) := by decide +kernel
theorem dX7_row_138 : decode cX7_row 138 = .ok (.ireturn, 1) := by decide +kernel
theorem dX7_cell_0 : decode cX7_cell 0 = .ok (.aload_n 0, 1) := by decide +kernel
theorem dX7_cell_1 : decode cX7_cell 1 = .ok (.getfield 10, 3) := by decide +kernel
theorem dX7_cell_4 : decode cX7_cell 4 = .ok (.getfield 50, 3) := by decide +kernel
theorem dX7_cell_7 : decode cX7_cell 7 = .ok (.iload_n 1, 1) := by decide +kernel
theorem dX7_cell_8 : decode cX7_cell 8 = .ok (.invokevirtual 190, 3) := by decide +kernel
theorem dX7_cell_11 : decode cX7_cell 11 = .ok (.ifCond .eq 17, 3) := by decide +kernel
theorem dX7_cell_14 : decode cX7_cell 14 = .ok (.aload_n 0, 1) := by decide +kernel
theorem dX7_cell_15 : decode cX7_cell 15 = .ok (.getfield 10, 3) := by decide +kernel
theorem dX7_cell_18 : decode cX7_cell 18 = .ok (.getfield 64, 3) := by decide +kernel
theorem dX7_cell_21 : decode cX7_cell 21 = .ok (.iload_n 2, 1) := by decide +kernel
theorem dX7_cell_22 : decode cX7_cell 22 = .ok (.invokevirtual 68, 3) := by decide +kernel
theorem dX7_cell_25 : decode cX7_cell 25 = .ok (.ifCond .ne 5, 3) := by decide +kernel
theorem dX7_cell_28 : decode cX7_cell 28 = .ok (.iconst (-1), 1) := by decide +kernel
theorem dX7_cell_29 : decode cX7_cell 29 = .ok (.ireturn, 1) := by decide +kernel
theorem dX7_cell_30 : decode cX7_cell 30 = .ok (.aload_n 0, 1) := by decide +kernel
theorem dX7_cell_31 : decode cX7_cell 31 = .ok (.getfield 10, 3) := by decide +kernel
theorem dX7_cell_34 : decode cX7_cell 34 = .ok (.getfield 50, 3) := by decide +kernel
theorem dX7_cell_37 : decode cX7_cell 37 = .ok (.iload_n 1, 1) := by decide +kernel
theorem dX7_cell_38 : decode cX7_cell 38 = .ok (.iload_n 2, 1) := by decide +kernel
theorem dX7_cell_39 : decode cX7_cell 39 = .ok (.invokevirtual 214, 3) := by decide +kernel
theorem dX7_cell_42 : decode cX7_cell 42 = .ok (.istore 4, 2) := by decide +kernel
theorem dX7_cell_44 : decode cX7_cell 44 = .ok (.iload_n 3, 1) := by decide +kernel
theorem dX7_cell_45 : decode cX7_cell 45 = .ok (.tableswitch 100 0 3 #[31, 45, 65, 81], 31) := by decide +kernel
theorem dX7_cell_76 : decode cX7_cell 76 = .ok (.iload 4, 2) := by decide +kernel
theorem dX7_cell_78 : decode cX7_cell 78 = .ok (.iconst (-1), 1) := by decide +kernel
theorem dX7_cell_79 : decode cX7_cell 79 = .ok (.if_icmp .ne 8, 3) := by decide +kernel
theorem dX7_cell_82 : decode cX7_cell 82 = .ok (.bipush (-9), 2) := by decide +kernel
theorem dX7_cell_84 : decode cX7_cell 84 = .ok (.goto 5, 3) := by decide +kernel
theorem dX7_cell_87 : decode cX7_cell 87 = .ok (.iload 4, 2) := by decide +kernel
theorem dX7_cell_89 : decode cX7_cell 89 = .ok (.ireturn, 1) := by decide +kernel
theorem dX7_cell_90 : decode cX7_cell 90 = .ok (.iload 4, 2) := by decide +kernel
theorem dX7_cell_92 : decode cX7_cell 92 = .ok (.iconst (-1), 1) := by decide +kernel
theorem dX7_cell_93 : decode cX7_cell 93 = .ok (.if_icmp .ne 8, 3) := by decide +kernel
theorem dX7_cell_96 : decode cX7_cell 96 = .ok (.bipush (-9), 2) := by decide +kernel
theorem dX7_cell_98 : decode cX7_cell 98 = .ok (.goto 11, 3) := by decide +kernel
theorem dX7_cell_101 : decode cX7_cell 101 = .ok (.aload_n 0, 1) := by decide +kernel
theorem dX7_cell_102 : decode cX7_cell 102 = .ok (.iload_n 1, 1) := by decide +kernel
theorem dX7_cell_103 : decode cX7_cell 103 = .ok (.iload_n 2, 1) := by decide +kernel
theorem dX7_cell_104 : decode cX7_cell 104 = .ok (.iload 4, 2) := by decide +kernel
theorem dX7_cell_106 : decode cX7_cell 106 = .ok (.invokevirtual 218, 3) := by decide +kernel
theorem dX7_cell_109 : decode cX7_cell 109 = .ok (.ireturn, 1) := by decide +kernel
theorem dX7_cell_110 : decode cX7_cell 110 = .ok (.aload_n 0, 1) := by decide +kernel
theorem dX7_cell_111 : decode cX7_cell 111 = .ok (.getfield 10, 3) := by decide +kernel
theorem dX7_cell_114 : decode cX7_cell 114 = .ok (.getfield 50, 3) := by decide +kernel
theorem dX7_cell_117 : decode cX7_cell 117 = .ok (.iload_n 1, 1) := by decide +kernel
theorem dX7_cell_118 : decode cX7_cell 118 = .ok (.invokevirtual 211, 3) := by decide +kernel
theorem dX7_cell_121 : decode cX7_cell 121 = .ok (.iload_n 2, 1) := by decide +kernel
theorem dX7_cell_122 : decode cX7_cell 122 = .ok (.invokestatic 221, 3) := by decide +kernel
theorem dX7_cell_125 : decode cX7_cell 125 = .ok (.ireturn, 1) := by decide +kernel
theorem dX7_cell_126 : decode cX7_cell 126 = .ok (.aload_n 0, 1) := by decide +kernel
theorem dX7_cell_127 : decode cX7_cell 127 = .ok (.getfield 10, 3) := by decide +kernel
theorem dX7_cell_130 : decode cX7_cell 130 = .ok (.getfield 50, 3) := by decide +kernel
theorem dX7_cell_133 : decode cX7_cell 133 = .ok (.getfield 224, 3) := by decide +kernel
theorem dX7_cell_136 : decode cX7_cell 136 = .ok (.iload_n 1, 1) := by decide +kernel
theorem dX7_cell_137 : decode cX7_cell 137 = .ok (.invokevirtual 83, 3) := by decide +kernel
theorem dX7_cell_140 : decode cX7_cell 140 = .ok (.iload_n 2, 1) := by decide +kernel
theorem dX7_cell_141 : decode cX7_cell 141 = .ok (.invokestatic 221, 3) := by decide +kernel
theorem dX7_cell_144 : decode cX7_cell 144 = .ok (.ireturn, 1) := by decide +kernel
theorem dX7_cell_145 : decode cX7_cell 145 = .ok (.iconst (-1), 1) := by decide +kernel
theorem dX7_cell_146 : decode cX7_cell 146 = .ok (.ireturn, 1) := by decide +kernel
theorem dX7_floats_0 : decode cX7_floats 0 = .ok (.iload_n 1, 1) := by decide +kernel
theorem dX7_floats_1 : decode cX7_floats 1 = .ok (.iconst 0, 1) := by decide +kernel
theorem dX7_floats_2 : decode cX7_floats 2 = .ok (.iconst 1, 1) := by decide +kernel
theorem dX7_floats_3 : decode cX7_floats 3 = .ok (.invokestatic 42, 3) := by decide +kernel
theorem dX7_floats_6 : decode cX7_floats 6 = .ok (.ifCond .eq 13, 3) := by decide +kernel
theorem dX7_floats_9 : decode cX7_floats 9 = .ok (.iload_n 2, 1) := by decide +kernel
theorem dX7_floats_10 : decode cX7_floats 10 = .ok (.iconst 1, 1) := by decide +kernel
theorem dX7_floats_11 : decode cX7_floats 11 = .ok (.bipush 64, 2) := by decide +kernel
theorem dX7_floats_13 : decode cX7_floats 13 = .ok (.invokestatic 42, 3) := by decide +kernel
theorem dX7_floats_16 : decode cX7_floats 16 = .ok (.ifCond .ne 5, 3) := by decide +kernel
theorem dX7_floats_19 : decode cX7_floats 19 = .ok (.iconst (-1), 1) := by decide +kernel
theorem dX7_floats_20 : decode cX7_floats 20 = .ok (.ireturn, 1) := by decide +kernel
theorem dX7_floats_21 : decode cX7_floats 21 = .ok (.iload_n 1, 1) := by decide +kernel
theorem dX7_floats_22 : decode cX7_floats 22 = .ok (.ifCond .ne 16, 3) := by decide +kernel
theorem dX7_floats_25 : decode cX7_floats 25 = .ok (.aload_n 0, 1) := by decide +kernel
theorem dX7_floats_26 : decode cX7_floats 26 = .ok (.getfield 10, 3) := by decide +kernel
theorem dX7_floats_29 : decode cX7_floats 29 = .ok (.getfield 64, 3) := by decide +kernel
theorem dX7_floats_32 : decode cX7_floats 32 = .ok (.getfield 167, 3) := by decide +kernel
theorem dX7_floats_35 : decode cX7_floats 35 = .ok (.goto 13, 3) := by decide +kernel
theorem dX7_floats_38 : decode cX7_floats 38 = .ok (.aload_n 0, 1) := by decide +kernel
theorem dX7_floats_39 : decode cX7_floats 39 = .ok (.getfield 10, 3) := by decide +kernel
theorem dX7_floats_42 : decode cX7_floats 42 = .ok (.getfield 50, 3) := by decide +kernel
theorem dX7_floats_45 : decode cX7_floats 45 = .ok (.getfield 54, 3) := by decide +kernel
theorem dX7_floats_48 : decode cX7_floats 48 = .ok (.istore_n 3, 1) := by decide +kernel
theorem dX7_floats_49 : decode cX7_floats 49 = .ok (.iload_n 1, 1) := by decide +kernel
theorem dX7_floats_50 : decode cX7_floats 50 = .ok (.ifCond .ne 16, 3) := by decide +kernel
theorem dX7_floats_53 : decode cX7_floats 53 = .ok (.aload_n 0, 1) := by decide +kernel
theorem dX7_floats_54 : decode cX7_floats 54 = .ok (.getfield 10, 3) := by decide +kernel
theorem dX7_floats_57 : decode cX7_floats 57 = .ok (.getfield 50, 3) := by decide +kernel
theorem dX7_floats_60 : decode cX7_floats 60 = .ok (.getfield 54, 3) := by decide +kernel
theorem dX7_floats_63 : decode cX7_floats 63 = .ok (.goto 13, 3) := by decide +kernel
theorem dX7_floats_66 : decode cX7_floats 66 = .ok (.aload_n 0, 1) := by decide +kernel
theorem dX7_floats_67 : decode cX7_floats 67 = .ok (.getfield 10, 3) := by decide +kernel
theorem dX7_floats_70 : decode cX7_floats 70 = .ok (.getfield 64, 3) := by decide +kernel
theorem dX7_floats_73 : decode cX7_floats 73 = .ok (.getfield 167, 3) := by decide +kernel
theorem dX7_floats_76 : decode cX7_floats 76 = .ok (.istore 4, 2) := by decide +kernel
theorem dX7_floats_78 : decode cX7_floats 78 = .ok (.iconst 0, 1) := by decide +kernel
theorem dX7_floats_79 : decode cX7_floats 79 = .ok (.istore 5, 2) := by decide +kernel
theorem dX7_floats_81 : decode cX7_floats 81 = .ok (.iconst 0, 1) := by decide +kernel
theorem dX7_floats_82 : decode cX7_floats 82 = .ok (.istore 6, 2) := by decide +kernel
theorem dX7_floats_84 : decode cX7_floats 84 = .ok (.iload 6, 2) := by decide +kernel
theorem dX7_floats_86 : decode cX7_floats 86 = .ok (.iload_n 3, 1) := by decide +kernel
theorem dX7_floats_87 : decode cX7_floats 87 = .ok (.if_icmp .ge 30, 3) := by decide +kernel
theorem dX7_floats_90 : decode cX7_floats 90 = .ok (.iload 5, 2) := by decide +kernel
theorem dX7_floats_92 : decode cX7_floats 92 = .ok (.aload_n 0, 1) := by decide +kernel
theorem dX7_floats_93 : decode cX7_floats 93 = .ok (.getfield 10, 3) := by decide +kernel
theorem dX7_floats_96 : decode cX7_floats 96 = .ok (.getfield 50, 3) := by decide +kernel
theorem dX7_floats_99 : decode cX7_floats 99 = .ok (.iload_n 1, 1) := by decide +kernel
theorem dX7_floats_100 : decode cX7_floats 100 = .ok (.iload 6, 2) := by decide +kernel
theorem dX7_floats_102 : decode cX7_floats 102 = .ok (.iload 4, 2) := by decide +kernel
theorem dX7_floats_104 : decode cX7_floats 104 = .ok (.iload_n 2, 1) := by decide +kernel
theorem dX7_floats_105 : decode cX7_floats 105 = .ok (.invokevirtual 227, 3) := by decide +kernel
theorem dX7_floats_108 : decode cX7_floats 108 = .ok (.iadd, 1) := by decide +kernel
theorem dX7_floats_109 : decode cX7_floats 109 = .ok (.istore 5, 2) := by decide +kernel
theorem dX7_floats_111 : decode cX7_floats 111 = .ok (.iinc 6 1, 3) := by decide +kernel
theorem dX7_floats_114 : decode cX7_floats 114 = .ok (.goto (-30), 3) := by decide +kernel
theorem dX7_floats_117 : decode cX7_floats 117 = .ok (.iload 5, 2) := by decide +kernel
theorem dX7_floats_119 : decode cX7_floats 119 = .ok (.ireturn, 1) := by decide +kernel
theorem dX7_repeat_0 : decode cX7_repeat 0 = .ok (.aload_n 0, 1) := by decide +kernel
theorem dX7_repeat_1 : decode cX7_repeat 1 = .ok (.getfield 10, 3) := by decide +kernel
theorem dX7_repeat_4 : decode cX7_repeat 4 = .ok (.getfield 50, 3) := by decide +kernel
theorem dX7_repeat_7 : decode cX7_repeat 7 = .ok (.getfield 54, 3) := by decide +kernel
theorem dX7_repeat_10 : decode cX7_repeat 10 = .ok (.istore_n 1, 1) := by decide +kernel
theorem dX7_repeat_11 : decode cX7_repeat 11 = .ok (.iload_n 1, 1) := by decide +kernel
theorem dX7_repeat_12 : decode cX7_repeat 12 = .ok (.ifCond .ne 6, 3) := by decide +kernel
theorem dX7_repeat_15 : decode cX7_repeat 15 = .ok (.bipush (-9), 2) := by decide +kernel
theorem dX7_repeat_17 : decode cX7_repeat 17 = .ok (.ireturn, 1) := by decide +kernel
theorem dX7_repeat_18 : decode cX7_repeat 18 = .ok (.iconst 1, 1) := by decide +kernel
theorem dX7_repeat_19 : decode cX7_repeat 19 = .ok (.istore_n 2, 1) := by decide +kernel
theorem dX7_repeat_20 : decode cX7_repeat 20 = .ok (.iload_n 2, 1) := by decide +kernel
theorem dX7_repeat_21 : decode cX7_repeat 21 = .ok (.iload_n 1, 1) := by decide +kernel
theorem dX7_repeat_22 : decode cX7_repeat 22 = .ok (.if_icmp .ge 25, 3) := by decide +kernel
theorem dX7_repeat_25 : decode cX7_repeat 25 = .ok (.aload_n 0, 1) := by decide +kernel
theorem dX7_repeat_26 : decode cX7_repeat 26 = .ok (.getfield 10, 3) := by decide +kernel
theorem dX7_repeat_29 : decode cX7_repeat 29 = .ok (.getfield 50, 3) := by decide +kernel
theorem dX7_repeat_32 : decode cX7_repeat 32 = .ok (.iload_n 2, 1) := by decide +kernel
theorem dX7_repeat_33 : decode cX7_repeat 33 = .ok (.invokevirtual 231, 3) := by decide +kernel
theorem dX7_repeat_36 : decode cX7_repeat 36 = .ok (.ifCond .eq 5, 3) := by decide +kernel
theorem dX7_repeat_39 : decode cX7_repeat 39 = .ok (.iload_n 2, 1) := by decide +kernel
theorem dX7_repeat_40 : decode cX7_repeat 40 = .ok (.ireturn, 1) := by decide +kernel
theorem dX7_repeat_41 : decode cX7_repeat 41 = .ok (.iinc 2 1, 3) := by decide +kernel
theorem dX7_repeat_44 : decode cX7_repeat 44 = .ok (.goto (-24), 3) := by decide +kernel
theorem dX7_repeat_47 : decode cX7_repeat 47 = .ok (.iload_n 1, 1) := by decide +kernel
theorem dX7_repeat_48 : decode cX7_repeat 48 = .ok (.ireturn, 1) := by decide +kernel
theorem dX7_differentRows_0 : decode cX7_differentRows 0 = .ok (.iconst 0, 1) := by decide +kernel
theorem dX7_differentRows_1 : decode cX7_differentRows 1 = .ok (.istore_n 1, 1) := by decide +kernel
theorem dX7_differentRows_2 : decode cX7_differentRows 2 = .ok (.iconst 0, 1) := by decide +kernel
theorem dX7_differentRows_3 : decode cX7_differentRows 3 = .ok (.istore_n 2, 1) := by decide +kernel
theorem dX7_differentRows_4 : decode cX7_differentRows 4 = .ok (.iload_n 2, 1) := by decide +kernel
theorem dX7_differentRows_5 : decode cX7_differentRows 5 = .ok (.aload_n 0, 1) := by decide +kernel
theorem dX7_differentRows_6 : decode cX7_differentRows 6 = .ok (.getfield 10, 3) := by decide +kernel
theorem dX7_differentRows_9 : decode cX7_differentRows 9 = .ok (.getfield 50, 3) := by decide +kernel
theorem dX7_differentRows_12 : decode cX7_differentRows 12 = .ok (.getfield 54, 3) := by decide +kernel
theorem dX7_differentRows_15 : decode cX7_differentRows 15 = .ok (.if_icmp .ge 26, 3) := by decide +kernel
theorem dX7_differentRows_18 : decode cX7_differentRows 18 = .ok (.aload_n 0, 1) := by decide +kernel
theorem dX7_differentRows_19 : decode cX7_differentRows 19 = .ok (.getfield 10, 3) := by decide +kernel
theorem dX7_differentRows_22 : decode cX7_differentRows 22 = .ok (.getfield 50, 3) := by decide +kernel
theorem dX7_differentRows_25 : decode cX7_differentRows 25 = .ok (.iload_n 2, 1) := by decide +kernel
theorem dX7_differentRows_26 : decode cX7_differentRows 26 = .ok (.invokevirtual 234, 3) := by decide +kernel
theorem dX7_differentRows_29 : decode cX7_differentRows 29 = .ok (.ifCond .ne 6, 3) := by decide +kernel
theorem dX7_differentRows_32 : decode cX7_differentRows 32 = .ok (.iinc 1 1, 3) := by decide +kernel
theorem dX7_differentRows_35 : decode cX7_differentRows 35 = .ok (.iinc 2 1, 3) := by decide +kernel
theorem dX7_differentRows_38 : decode cX7_differentRows 38 = .ok (.goto (-34), 3) := by decide +kernel
theorem dX7_differentRows_41 : decode cX7_differentRows 41 = .ok (.iload_n 1, 1) := by decide +kernel
theorem dX7_differentRows_42 : decode cX7_differentRows 42 = .ok (.ireturn, 1) := by decide +kernel
theorem dX7_picksLeft_0 : decode cX7_picksLeft 0 = .ok (.aload_n 0, 1) := by decide +kernel
theorem dX7_picksLeft_1 : decode cX7_picksLeft 1 = .ok (.getfield 10, 3) := by decide +kernel
theorem dX7_picksLeft_4 : decode cX7_picksLeft 4 = .ok (.getfield 99, 3) := by decide +kernel
theorem dX7_picksLeft_7 : decode cX7_picksLeft 7 = .ok (.getfield 112, 3) := by decide +kernel
theorem dX7_picksLeft_10 : decode cX7_picksLeft 10 = .ok (.ifCond .eq 16, 3) := by decide +kernel
theorem dX7_picksLeft_13 : decode cX7_picksLeft 13 = .ok (.aload_n 0, 1) := by decide +kernel
theorem dX7_picksLeft_14 : decode cX7_picksLeft 14 = .ok (.getfield 10, 3) := by decide +kernel
theorem dX7_picksLeft_17 : decode cX7_picksLeft 17 = .ok (.getfield 50, 3) := by decide +kernel
theorem dX7_picksLeft_20 : decode cX7_picksLeft 20 = .ok (.invokevirtual 151, 3) := by decide +kernel
theorem dX7_picksLeft_23 : decode cX7_picksLeft 23 = .ok (.ifCond .eq 6, 3) := by decide +kernel
theorem dX7_picksLeft_26 : decode cX7_picksLeft 26 = .ok (.bipush (-2), 2) := by decide +kernel
theorem dX7_picksLeft_28 : decode cX7_picksLeft 28 = .ok (.ireturn, 1) := by decide +kernel
theorem dX7_picksLeft_29 : decode cX7_picksLeft 29 = .ok (.aload_n 0, 1) := by decide +kernel
theorem dX7_picksLeft_30 : decode cX7_picksLeft 30 = .ok (.invokevirtual 237, 3) := by decide +kernel
theorem dX7_picksLeft_33 : decode cX7_picksLeft 33 = .ok (.aload_n 0, 1) := by decide +kernel
theorem dX7_picksLeft_34 : decode cX7_picksLeft 34 = .ok (.getfield 39, 3) := by decide +kernel
theorem dX7_picksLeft_37 : decode cX7_picksLeft 37 = .ok (.aload_n 0, 1) := by decide +kernel
theorem dX7_picksLeft_38 : decode cX7_picksLeft 38 = .ok (.getfield 10, 3) := by decide +kernel
theorem dX7_picksLeft_41 : decode cX7_picksLeft 41 = .ok (.getfield 128, 3) := by decide +kernel
theorem dX7_picksLeft_44 : decode cX7_picksLeft 44 = .ok (.invokevirtual 240, 3) := by decide +kernel
theorem dX7_picksLeft_47 : decode cX7_picksLeft 47 = .ok (.aload_n 0, 1) := by decide +kernel
theorem dX7_picksLeft_48 : decode cX7_picksLeft 48 = .ok (.getfield 10, 3) := by decide +kernel
theorem dX7_picksLeft_51 : decode cX7_picksLeft 51 = .ok (.getfield 99, 3) := by decide +kernel
theorem dX7_picksLeft_54 : decode cX7_picksLeft 54 = .ok (.getfield 125, 3) := by decide +kernel
theorem dX7_picksLeft_57 : decode cX7_picksLeft 57 = .ok (.istore_n 1, 1) := by decide +kernel
theorem dX7_picksLeft_58 : decode cX7_picksLeft 58 = .ok (.iconst 0, 1) := by decide +kernel
theorem dX7_picksLeft_59 : decode cX7_picksLeft 59 = .ok (.istore_n 2, 1) := by decide +kernel
theorem dX7_picksLeft_60 : decode cX7_picksLeft 60 = .ok (.iload_n 2, 1) := by decide +kernel
theorem dX7_picksLeft_61 : decode cX7_picksLeft 61 = .ok (.sipush 500, 3) := by decide +kernel
theorem dX7_picksLeft_64 : decode cX7_picksLeft 64 = .ok (.if_icmp .ge 72, 3) := by decide +kernel
theorem dX7_picksLeft_67 : decode cX7_picksLeft 67 = .ok (.aload_n 0, 1) := by decide +kernel
theorem dX7_picksLeft_68 : decode cX7_picksLeft 68 = .ok (.getfield 10, 3) := by decide +kernel
theorem dX7_picksLeft_71 : decode cX7_picksLeft 71 = .ok (.getfield 99, 3) := by decide +kernel
theorem dX7_picksLeft_74 : decode cX7_picksLeft 74 = .ok (.getfield 121, 3) := by decide +kernel
theorem dX7_picksLeft_77 : decode cX7_picksLeft 77 = .ok (.iload_n 1, 1) := by decide +kernel
theorem dX7_picksLeft_78 : decode cX7_picksLeft 78 = .ok (.invokevirtual 83, 3) := by decide +kernel
theorem dX7_picksLeft_81 : decode cX7_picksLeft 81 = .ok (.istore_n 3, 1) := by decide +kernel
theorem dX7_picksLeft_82 : decode cX7_picksLeft 82 = .ok (.aload_n 0, 1) := by decide +kernel
theorem dX7_picksLeft_83 : decode cX7_picksLeft 83 = .ok (.getfield 39, 3) := by decide +kernel
theorem dX7_picksLeft_86 : decode cX7_picksLeft 86 = .ok (.iload_n 3, 1) := by decide +kernel
theorem dX7_picksLeft_87 : decode cX7_picksLeft 87 = .ok (.invokevirtual 83, 3) := by decide +kernel
theorem dX7_picksLeft_90 : decode cX7_picksLeft 90 = .ok (.aload_n 0, 1) := by decide +kernel
theorem dX7_picksLeft_91 : decode cX7_picksLeft 91 = .ok (.getfield 35, 3) := by decide +kernel
theorem dX7_picksLeft_94 : decode cX7_picksLeft 94 = .ok (.iload_n 1, 1) := by decide +kernel
theorem dX7_picksLeft_95 : decode cX7_picksLeft 95 = .ok (.invokevirtual 83, 3) := by decide +kernel
theorem dX7_picksLeft_98 : decode cX7_picksLeft 98 = .ok (.isub, 1) := by decide +kernel
theorem dX7_picksLeft_99 : decode cX7_picksLeft 99 = .ok (.istore 4, 2) := by decide +kernel
theorem dX7_picksLeft_101 : decode cX7_picksLeft 101 = .ok (.iload 4, 2) := by decide +kernel
theorem dX7_picksLeft_103 : decode cX7_picksLeft 103 = .ok (.ifCond .ge 5, 3) := by decide +kernel
theorem dX7_picksLeft_106 : decode cX7_picksLeft 106 = .ok (.iload_n 2, 1) := by decide +kernel
theorem dX7_picksLeft_107 : decode cX7_picksLeft 107 = .ok (.ireturn, 1) := by decide +kernel
theorem dX7_picksLeft_108 : decode cX7_picksLeft 108 = .ok (.aload_n 0, 1) := by decide +kernel
theorem dX7_picksLeft_109 : decode cX7_picksLeft 109 = .ok (.getfield 39, 3) := by decide +kernel
theorem dX7_picksLeft_112 : decode cX7_picksLeft 112 = .ok (.iload_n 3, 1) := by decide +kernel
theorem dX7_picksLeft_113 : decode cX7_picksLeft 113 = .ok (.iload 4, 2) := by decide +kernel
theorem dX7_picksLeft_115 : decode cX7_picksLeft 115 = .ok (.invokevirtual 90, 3) := by decide +kernel
theorem dX7_picksLeft_118 : decode cX7_picksLeft 118 = .ok (.aload_n 0, 1) := by decide +kernel
theorem dX7_picksLeft_119 : decode cX7_picksLeft 119 = .ok (.getfield 10, 3) := by decide +kernel
theorem dX7_picksLeft_122 : decode cX7_picksLeft 122 = .ok (.getfield 99, 3) := by decide +kernel
theorem dX7_picksLeft_125 : decode cX7_picksLeft 125 = .ok (.iload_n 1, 1) := by decide +kernel
theorem dX7_picksLeft_126 : decode cX7_picksLeft 126 = .ok (.invokevirtual 244, 3) := by decide +kernel
theorem dX7_picksLeft_129 : decode cX7_picksLeft 129 = .ok (.istore_n 1, 1) := by decide +kernel
theorem dX7_picksLeft_130 : decode cX7_picksLeft 130 = .ok (.iinc 2 1, 3) := by decide +kernel
theorem dX7_picksLeft_133 : decode cX7_picksLeft 133 = .ok (.goto (-73), 3) := by decide +kernel
theorem dX7_picksLeft_136 : decode cX7_picksLeft 136 = .ok (.sipush 500, 3) := by decide +kernel
theorem dX7_picksLeft_139 : decode cX7_picksLeft 139 = .ok (.ireturn, 1) := by decide +kernel
theorem dX7_yarnFor_0 : decode cX7_yarnFor 0 = .ok (.iload_n 1, 1) := by decide +kernel
theorem dX7_yarnFor_1 : decode cX7_yarnFor 1 = .ok (.invokestatic 77, 3) := by decide +kernel
theorem dX7_yarnFor_4 : decode cX7_yarnFor 4 = .ok (.ifCond .eq 13, 3) := by decide +kernel
theorem dX7_yarnFor_7 : decode cX7_yarnFor 7 = .ok (.iload_n 2, 1) := by decide +kernel
theorem dX7_yarnFor_8 : decode cX7_yarnFor 8 = .ok (.iconst 1, 1) := by decide +kernel
theorem dX7_yarnFor_9 : decode cX7_yarnFor 9 = .ok (.bipush 64, 2) := by decide +kernel
theorem dX7_yarnFor_11 : decode cX7_yarnFor 11 = .ok (.invokestatic 42, 3) := by decide +kernel
theorem dX7_yarnFor_14 : decode cX7_yarnFor 14 = .ok (.ifCond .ne 5, 3) := by decide +kernel
theorem dX7_yarnFor_17 : decode cX7_yarnFor 17 = .ok (.iconst (-1), 1) := by decide +kernel
theorem dX7_yarnFor_18 : decode cX7_yarnFor 18 = .ok (.ireturn, 1) := by decide +kernel
theorem dX7_yarnFor_19 : decode cX7_yarnFor 19 = .ok (.aload_n 0, 1) := by decide +kernel
theorem dX7_yarnFor_20 : decode cX7_yarnFor 20 = .ok (.getfield 10, 3) := by decide +kernel
theorem dX7_yarnFor_23 : decode cX7_yarnFor 23 = .ok (.getfield 99, 3) := by decide +kernel
theorem dX7_yarnFor_26 : decode cX7_yarnFor 26 = .ok (.getfield 112, 3) := by decide +kernel
theorem dX7_yarnFor_29 : decode cX7_yarnFor 29 = .ok (.ifCond .ne 6, 3) := by decide +kernel
theorem dX7_yarnFor_32 : decode cX7_yarnFor 32 = .ok (.bipush (-2), 2) := by decide +kernel
theorem dX7_yarnFor_34 : decode cX7_yarnFor 34 = .ok (.ireturn, 1) := by decide +kernel
theorem dX7_yarnFor_35 : decode cX7_yarnFor 35 = .ok (.aload_n 0, 1) := by decide +kernel
theorem dX7_yarnFor_36 : decode cX7_yarnFor 36 = .ok (.invokevirtual 237, 3) := by decide +kernel
theorem dX7_yarnFor_39 : decode cX7_yarnFor 39 = .ok (.iconst 0, 1) := by decide +kernel
theorem dX7_yarnFor_40 : decode cX7_yarnFor 40 = .ok (.istore_n 3, 1) := by decide +kernel
theorem dX7_yarnFor_41 : decode cX7_yarnFor 41 = .ok (.aload_n 0, 1) := by decide +kernel
theorem dX7_yarnFor_42 : decode cX7_yarnFor 42 = .ok (.getfield 10, 3) := by decide +kernel
theorem dX7_yarnFor_45 : decode cX7_yarnFor 45 = .ok (.getfield 99, 3) := by decide +kernel
theorem dX7_yarnFor_48 : decode cX7_yarnFor 48 = .ok (.getfield 125, 3) := by decide +kernel
theorem dX7_yarnFor_51 : decode cX7_yarnFor 51 = .ok (.istore 4, 2) := by decide +kernel
theorem dX7_yarnFor_53 : decode cX7_yarnFor 53 = .ok (.iconst 0, 1) := by decide +kernel
theorem dX7_yarnFor_54 : decode cX7_yarnFor 54 = .ok (.istore 5, 2) := by decide +kernel
theorem dX7_yarnFor_56 : decode cX7_yarnFor 56 = .ok (.iload 5, 2) := by decide +kernel
theorem dX7_yarnFor_58 : decode cX7_yarnFor 58 = .ok (.iload_n 2, 1) := by decide +kernel
theorem dX7_yarnFor_59 : decode cX7_yarnFor 59 = .ok (.if_icmp .ge 54, 3) := by decide +kernel
theorem dX7_yarnFor_62 : decode cX7_yarnFor 62 = .ok (.aload_n 0, 1) := by decide +kernel
theorem dX7_yarnFor_63 : decode cX7_yarnFor 63 = .ok (.getfield 10, 3) := by decide +kernel
theorem dX7_yarnFor_66 : decode cX7_yarnFor 66 = .ok (.getfield 99, 3) := by decide +kernel
theorem dX7_yarnFor_69 : decode cX7_yarnFor 69 = .ok (.getfield 121, 3) := by decide +kernel
theorem dX7_yarnFor_72 : decode cX7_yarnFor 72 = .ok (.iload 4, 2) := by decide +kernel
theorem dX7_yarnFor_74 : decode cX7_yarnFor 74 = .ok (.invokevirtual 83, 3) := by decide +kernel
theorem dX7_yarnFor_77 : decode cX7_yarnFor 77 = .ok (.iload_n 1, 1) := by decide +kernel
theorem dX7_yarnFor_78 : decode cX7_yarnFor 78 = .ok (.if_icmp .ne 15, 3) := by decide +kernel
theorem dX7_yarnFor_81 : decode cX7_yarnFor 81 = .ok (.iload_n 3, 1) := by decide +kernel
theorem dX7_yarnFor_82 : decode cX7_yarnFor 82 = .ok (.aload_n 0, 1) := by decide +kernel
theorem dX7_yarnFor_83 : decode cX7_yarnFor 83 = .ok (.getfield 35, 3) := by decide +kernel
theorem dX7_yarnFor_86 : decode cX7_yarnFor 86 = .ok (.iload 4, 2) := by decide +kernel
theorem dX7_yarnFor_88 : decode cX7_yarnFor 88 = .ok (.invokevirtual 83, 3) := by decide +kernel
theorem dX7_yarnFor_91 : decode cX7_yarnFor 91 = .ok (.iadd, 1) := by decide +kernel
theorem dX7_yarnFor_92 : decode cX7_yarnFor 92 = .ok (.istore_n 3, 1) := by decide +kernel
theorem dX7_yarnFor_93 : decode cX7_yarnFor 93 = .ok (.aload_n 0, 1) := by decide +kernel
theorem dX7_yarnFor_94 : decode cX7_yarnFor 94 = .ok (.getfield 10, 3) := by decide +kernel
theorem dX7_yarnFor_97 : decode cX7_yarnFor 97 = .ok (.getfield 99, 3) := by decide +kernel
theorem dX7_yarnFor_100 : decode cX7_yarnFor 100 = .ok (.iload 4, 2) := by decide +kernel
theorem dX7_yarnFor_102 : decode cX7_yarnFor 102 = .ok (.invokevirtual 244, 3) := by decide +kernel
theorem dX7_yarnFor_105 : decode cX7_yarnFor 105 = .ok (.istore 4, 2) := by decide +kernel
theorem dX7_yarnFor_107 : decode cX7_yarnFor 107 = .ok (.iinc 5 1, 3) := by decide +kernel
theorem dX7_yarnFor_110 : decode cX7_yarnFor 110 = .ok (.goto (-54), 3) := by decide +kernel
theorem dX7_yarnFor_113 : decode cX7_yarnFor 113 = .ok (.iload_n 3, 1) := by decide +kernel
theorem dX7_yarnFor_114 : decode cX7_yarnFor 114 = .ok (.ireturn, 1) := by decide +kernel
theorem dX7_readNeeds_0 : decode cX7_readNeeds 0 = .ok (.iconst 0, 1) := by decide +kernel
theorem dX7_readNeeds_1 : decode cX7_readNeeds 1 = .ok (.istore_n 1, 1) := by decide +kernel
theorem dX7_readNeeds_2 : decode cX7_readNeeds 2 = .ok (.iload_n 1, 1) := by decide +kernel
theorem dX7_readNeeds_3 : decode cX7_readNeeds 3 = .ok (.aload_n 0, 1) := by decide +kernel
theorem dX7_readNeeds_4 : decode cX7_readNeeds 4 = .ok (.getfield 10, 3) := by decide +kernel
theorem dX7_readNeeds_7 : decode cX7_readNeeds 7 = .ok (.getfield 99, 3) := by decide +kernel
theorem dX7_readNeeds_10 : decode cX7_readNeeds 10 = .ok (.getfield 112, 3) := by decide +kernel
theorem dX7_readNeeds_13 : decode cX7_readNeeds 13 = .ok (.if_icmp .ge 41, 3) := by decide +kernel
theorem dX7_readNeeds_16 : decode cX7_readNeeds 16 = .ok (.aload_n 0, 1) := by decide +kernel
theorem dX7_readNeeds_17 : decode cX7_readNeeds 17 = .ok (.getfield 35, 3) := by decide +kernel
theorem dX7_readNeeds_20 : decode cX7_readNeeds 20 = .ok (.iload_n 1, 1) := by decide +kernel
theorem dX7_readNeeds_21 : decode cX7_readNeeds 21 = .ok (.aload_n 0, 1) := by decide +kernel
theorem dX7_readNeeds_22 : decode cX7_readNeeds 22 = .ok (.getfield 10, 3) := by decide +kernel
theorem dX7_readNeeds_25 : decode cX7_readNeeds 25 = .ok (.getfield 64, 3) := by decide +kernel
theorem dX7_readNeeds_28 : decode cX7_readNeeds 28 = .ok (.aload_n 0, 1) := by decide +kernel
theorem dX7_readNeeds_29 : decode cX7_readNeeds 29 = .ok (.getfield 10, 3) := by decide +kernel
theorem dX7_readNeeds_32 : decode cX7_readNeeds 32 = .ok (.getfield 99, 3) := by decide +kernel
theorem dX7_readNeeds_35 : decode cX7_readNeeds 35 = .ok (.getfield 118, 3) := by decide +kernel
theorem dX7_readNeeds_38 : decode cX7_readNeeds 38 = .ok (.iload_n 1, 1) := by decide +kernel
theorem dX7_readNeeds_39 : decode cX7_readNeeds 39 = .ok (.invokevirtual 83, 3) := by decide +kernel
theorem dX7_readNeeds_42 : decode cX7_readNeeds 42 = .ok (.invokevirtual 187, 3) := by decide +kernel
theorem dX7_readNeeds_45 : decode cX7_readNeeds 45 = .ok (.invokevirtual 90, 3) := by decide +kernel
theorem dX7_readNeeds_48 : decode cX7_readNeeds 48 = .ok (.iinc 1 1, 3) := by decide +kernel
theorem dX7_readNeeds_51 : decode cX7_readNeeds 51 = .ok (.goto (-49), 3) := by decide +kernel
theorem dX7_readNeeds_54 : decode cX7_readNeeds 54 = .ok (.return_, 1) := by decide +kernel
theorem dX7_seenColor_0 : decode cX7_seenColor 0 = .ok (.iload_n 3, 1) := by decide +kernel
theorem dX7_seenColor_1 : decode cX7_seenColor 1 = .ok (.iconst 1, 1) := by decide +kernel
theorem dX7_seenColor_2 : decode cX7_seenColor 2 = .ok (.if_icmp .ne 20, 3) := by decide +kernel
theorem dX7_seenColor_5 : decode cX7_seenColor 5 = .ok (.aload_n 0, 1) := by decide +kernel
theorem dX7_seenColor_6 : decode cX7_seenColor 6 = .ok (.getfield 10, 3) := by decide +kernel
theorem dX7_seenColor_9 : decode cX7_seenColor 9 = .ok (.getfield 64, 3) := by decide +kernel
theorem dX7_seenColor_12 : decode cX7_seenColor 12 = .ok (.getfield 87, 3) := by decide +kernel
theorem dX7_seenColor_15 : decode cX7_seenColor 15 = .ok (.iload_n 2, 1) := by decide +kernel
theorem dX7_seenColor_16 : decode cX7_seenColor 16 = .ok (.invokevirtual 83, 3) := by decide +kernel
theorem dX7_seenColor_19 : decode cX7_seenColor 19 = .ok (.goto 17, 3) := by decide +kernel
theorem dX7_seenColor_22 : decode cX7_seenColor 22 = .ok (.aload_n 0, 1) := by decide +kernel
theorem dX7_seenColor_23 : decode cX7_seenColor 23 = .ok (.getfield 10, 3) := by decide +kernel
theorem dX7_seenColor_26 : decode cX7_seenColor 26 = .ok (.getfield 50, 3) := by decide +kernel
theorem dX7_seenColor_29 : decode cX7_seenColor 29 = .ok (.getfield 193, 3) := by decide +kernel
theorem dX7_seenColor_32 : decode cX7_seenColor 32 = .ok (.iload_n 1, 1) := by decide +kernel
theorem dX7_seenColor_33 : decode cX7_seenColor 33 = .ok (.invokevirtual 83, 3) := by decide +kernel
theorem dX7_seenColor_36 : decode cX7_seenColor 36 = .ok (.ireturn, 1) := by decide +kernel
theorem dX7_isBetween_0 : decode cX7_isBetween 0 = .ok (.iload_n 0, 1) := by decide +kernel
theorem dX7_isBetween_1 : decode cX7_isBetween 1 = .ok (.iload_n 1, 1) := by decide +kernel
theorem dX7_isBetween_2 : decode cX7_isBetween 2 = .ok (.if_icmp .lt 12, 3) := by decide +kernel
theorem dX7_isBetween_5 : decode cX7_isBetween 5 = .ok (.iload_n 0, 1) := by decide +kernel
theorem dX7_isBetween_6 : decode cX7_isBetween 6 = .ok (.iload_n 2, 1) := by decide +kernel
theorem dX7_isBetween_7 : decode cX7_isBetween 7 = .ok (.if_icmp .gt 7, 3) := by decide +kernel
theorem dX7_isBetween_10 : decode cX7_isBetween 10 = .ok (.iconst 1, 1) := by decide +kernel
theorem dX7_isBetween_11 : decode cX7_isBetween 11 = .ok (.goto 4, 3) := by decide +kernel
theorem dX7_isBetween_14 : decode cX7_isBetween 14 = .ok (.iconst 0, 1) := by decide +kernel
theorem dX7_isBetween_15 : decode cX7_isBetween 15 = .ok (.ireturn, 1) := by decide +kernel
theorem dX7_isColor_0 : decode cX7_isColor 0 = .ok (.iload_n 0, 1) := by decide +kernel
theorem dX7_isColor_1 : decode cX7_isColor 1 = .ok (.iconst 0, 1) := by decide +kernel
theorem dX7_isColor_2 : decode cX7_isColor 2 = .ok (.bipush 9, 2) := by decide +kernel
theorem dX7_isColor_4 : decode cX7_isColor 4 = .ok (.invokestatic 42, 3) := by decide +kernel
theorem dX7_isColor_7 : decode cX7_isColor 7 = .ok (.ireturn, 1) := by decide +kernel
theorem dX7_bitOf_0 : decode cX7_bitOf 0 = .ok (.iload_n 0, 1) := by decide +kernel
theorem dX7_bitOf_1 : decode cX7_bitOf 1 = .ok (.iload_n 1, 1) := by decide +kernel
theorem dX7_bitOf_2 : decode cX7_bitOf 2 = .ok (.iushr, 1) := by decide +kernel
theorem dX7_bitOf_3 : decode cX7_bitOf 3 = .ok (.iconst 1, 1) := by decide +kernel
theorem dX7_bitOf_4 : decode cX7_bitOf 4 = .ok (.iand, 1) := by decide +kernel
theorem dX7_bitOf_5 : decode cX7_bitOf 5 = .ok (.ireturn, 1) := by decide +kernel
theorem dX8_init_0 : decode cX8_init 0 = .ok (.aload_n 0, 1) := by decide +kernel
theorem dX8_init_1 : decode cX8_init 1 = .ok (.invokespecial 1, 3) := by decide +kernel
theorem dX8_init_4 : decode cX8_init 4 = .ok (.aload_n 0, 1) := by decide +kernel
theorem dX8_init_5 : decode cX8_init 5 = .ok (.sipush 456, 3) := by decide +kernel
theorem dX8_init_8 : decode cX8_init 8 = .ok (.newarray .int, 2) := by decide +kernel
theorem dX8_init_10 : decode cX8_init 10 = .ok (.putfield 7, 3) := by decide +kernel
theorem dX8_init_13 : decode cX8_init 13 = .ok (.aload_n 0, 1) := by decide +kernel
theorem dX8_init_14 : decode cX8_init 14 = .ok (.bipush 10, 2) := by decide +kernel
theorem dX8_init_16 : decode cX8_init 16 = .ok (.newarray .int, 2) := by decide +kernel
theorem dX8_init_18 : decode cX8_init 18 = .ok (.putfield 13, 3) := by decide +kernel
theorem dX8_init_21 : decode cX8_init 21 = .ok (.aload_n 0, 1) := by decide +kernel
theorem dX8_init_22 : decode cX8_init 22 = .ok (.sipush 2280, 3) := by decide +kernel
theorem dX8_init_25 : decode cX8_init 25 = .ok (.newarray .int, 2) := by decide +kernel
theorem dX8_init_27 : decode cX8_init 27 = .ok (.putfield 16, 3) := by decide +kernel
theorem dX8_init_30 : decode cX8_init 30 = .ok (.aload_n 0, 1) := by decide +kernel
theorem dX8_init_31 : decode cX8_init 31 = .ok (.bipush 120, 2) := by decide +kernel
theorem dX8_init_33 : decode cX8_init 33 = .ok (.newarray .int, 2) := by decide +kernel
theorem dX8_init_35 : decode cX8_init 35 = .ok (.putfield 19, 3) := by decide +kernel
theorem dX8_init_38 : decode cX8_init 38 = .ok (.aload_n 0, 1) := by decide +kernel
theorem dX8_init_39 : decode cX8_init 39 = .ok (.bipush 24, 2) := by decide +kernel
theorem dX8_init_41 : decode cX8_init 41 = .ok (.newarray .int, 2) := by decide +kernel
theorem dX8_init_43 : decode cX8_init 43 = .ok (.putfield 22, 3) := by decide +kernel
theorem dX8_init_46 : decode cX8_init 46 = .ok (.aload_n 0, 1) := by decide +kernel
theorem dX8_init_47 : decode cX8_init 47 = .ok (.bipush 24, 2) := by decide +kernel
theorem dX8_init_49 : decode cX8_init 49 = .ok (.newarray .int, 2) := by decide +kernel
theorem dX8_init_51 : decode cX8_init 51 = .ok (.putfield 25, 3) := by decide +kernel
theorem dX8_init_54 : decode cX8_init 54 = .ok (.aload_n 0, 1) := by decide +kernel
theorem dX8_init_55 : decode cX8_init 55 = .ok (.iconst 0, 1) := by decide +kernel
theorem dX8_init_56 : decode cX8_init 56 = .ok (.putfield 28, 3) := by decide +kernel
theorem dX8_init_59 : decode cX8_init 59 = .ok (.aload_n 0, 1) := by decide +kernel
theorem dX8_init_60 : decode cX8_init 60 = .ok (.iconst 4, 1) := by decide +kernel
theorem dX8_init_61 : decode cX8_init 61 = .ok (.bipush 8, 2) := by decide +kernel
theorem dX8_init_63 : decode cX8_init 63 = .ok (.invokevirtual 32, 3) := by decide +kernel
theorem dX8_init_66 : decode cX8_init 66 = .ok (.return_, 1) := by decide +kernel
theorem dX8_in_0 : decode cX8_in 0 = .ok (.iload_n 0, 1) := by decide +kernel
theorem dX8_in_1 : decode cX8_in 1 = .ok (.iload_n 1, 1) := by decide +kernel
theorem dX8_in_2 : decode cX8_in 2 = .ok (.if_icmp .lt 12, 3) := by decide +kernel
theorem dX8_in_5 : decode cX8_in 5 = .ok (.iload_n 0, 1) := by decide +kernel
theorem dX8_in_6 : decode cX8_in 6 = .ok (.iload_n 2, 1) := by decide +kernel
theorem dX8_in_7 : decode cX8_in 7 = .ok (.if_icmp .gt 7, 3) := by decide +kernel
theorem dX8_in_10 : decode cX8_in 10 = .ok (.iconst 1, 1) := by decide +kernel
theorem dX8_in_11 : decode cX8_in 11 = .ok (.goto 4, 3) := by decide +kernel
theorem dX8_in_14 : decode cX8_in 14 = .ok (.iconst 0, 1) := by decide +kernel
theorem dX8_in_15 : decode cX8_in 15 = .ok (.ireturn, 1) := by decide +kernel
theorem dX8_begin_0 : decode cX8_begin 0 = .ok (.iconst 0, 1) := by decide +kernel
theorem dX8_begin_1 : decode cX8_begin 1 = .ok (.istore_n 3, 1) := by decide +kernel
theorem dX8_begin_2 : decode cX8_begin 2 = .ok (.iload_n 3, 1) := by decide +kernel
theorem dX8_begin_3 : decode cX8_begin 3 = .ok (.sipush 456, 3) := by decide +kernel
theorem dX8_begin_6 : decode cX8_begin 6 = .ok (.if_icmp .ge 16, 3) := by decide +kernel
theorem dX8_begin_9 : decode cX8_begin 9 = .ok (.aload_n 0, 1) := by decide +kernel
theorem dX8_begin_10 : decode cX8_begin 10 = .ok (.getfield 7, 3) := by decide +kernel
theorem dX8_begin_13 : decode cX8_begin 13 = .ok (.iload_n 3, 1) := by decide +kernel
theorem dX8_begin_14 : decode cX8_begin 14 = .ok (.iconst 0, 1) := by decide +kernel
theorem dX8_begin_15 : decode cX8_begin 15 = .ok (.iastore, 1) := by decide +kernel
theorem dX8_begin_16 : decode cX8_begin 16 = .ok (.iinc 3 1, 3) := by decide +kernel
theorem dX8_begin_19 : decode cX8_begin 19 = .ok (.goto (-17), 3) := by decide +kernel
theorem dX8_begin_22 : decode cX8_begin 22 = .ok (.aload_n 0, 1) := by decide +kernel
theorem dX8_begin_23 : decode cX8_begin 23 = .ok (.getfield 7, 3) := by decide +kernel
theorem dX8_begin_26 : decode cX8_begin 26 = .ok (.iconst 0, 1) := by decide +kernel
theorem dX8_begin_27 : decode cX8_begin 27 = .ok (.iload_n 1, 1) := by decide +kernel
theorem dX8_begin_28 : decode cX8_begin 28 = .ok (.iastore, 1) := by decide +kernel
theorem dX8_begin_29 : decode cX8_begin 29 = .ok (.aload_n 0, 1) := by decide +kernel
theorem dX8_begin_30 : decode cX8_begin 30 = .ok (.getfield 7, 3) := by decide +kernel
theorem dX8_begin_33 : decode cX8_begin 33 = .ok (.iconst 1, 1) := by decide +kernel
theorem dX8_begin_34 : decode cX8_begin 34 = .ok (.iload_n 2, 1) := by decide +kernel
theorem dX8_begin_35 : decode cX8_begin 35 = .ok (.iastore, 1) := by decide +kernel
theorem dX8_begin_36 : decode cX8_begin 36 = .ok (.iconst 0, 1) := by decide +kernel
theorem dX8_begin_37 : decode cX8_begin 37 = .ok (.istore_n 3, 1) := by decide +kernel
theorem dX8_begin_38 : decode cX8_begin 38 = .ok (.iload_n 3, 1) := by decide +kernel
theorem dX8_begin_39 : decode cX8_begin 39 = .ok (.iload_n 2, 1) := by decide +kernel
theorem dX8_begin_40 : decode cX8_begin 40 = .ok (.if_icmp .ge 21, 3) := by decide +kernel
theorem dX8_begin_43 : decode cX8_begin 43 = .ok (.aload_n 0, 1) := by decide +kernel
theorem dX8_begin_44 : decode cX8_begin 44 = .ok (.getfield 7, 3) := by decide +kernel
theorem dX8_begin_47 : decode cX8_begin 47 = .ok (.bipush 6, 2) := by decide +kernel
theorem dX8_begin_49 : decode cX8_begin 49 = .ok (.iload_n 3, 1) := by decide +kernel
theorem dX8_begin_50 : decode cX8_begin 50 = .ok (.iadd, 1) := by decide +kernel
theorem dX8_begin_51 : decode cX8_begin 51 = .ok (.iload_n 3, 1) := by decide +kernel
theorem dX8_begin_52 : decode cX8_begin 52 = .ok (.iload_n 1, 1) := by decide +kernel
theorem dX8_begin_53 : decode cX8_begin 53 = .ok (.irem, 1) := by decide +kernel
theorem dX8_begin_54 : decode cX8_begin 54 = .ok (.iastore, 1) := by decide +kernel
theorem dX8_begin_55 : decode cX8_begin 55 = .ok (.iinc 3 1, 3) := by decide +kernel
theorem dX8_begin_58 : decode cX8_begin 58 = .ok (.goto (-20), 3) := by decide +kernel
theorem dX8_begin_61 : decode cX8_begin 61 = .ok (.iconst 0, 1) := by decide +kernel
theorem dX8_begin_62 : decode cX8_begin 62 = .ok (.istore_n 3, 1) := by decide +kernel
theorem dX8_begin_63 : decode cX8_begin 63 = .ok (.iload_n 3, 1) := by decide +kernel
theorem dX8_begin_64 : decode cX8_begin 64 = .ok (.bipush 10, 2) := by decide +kernel
theorem dX8_begin_66 : decode cX8_begin 66 = .ok (.if_icmp .ge 21, 3) := by decide +kernel
theorem dX8_begin_69 : decode cX8_begin 69 = .ok (.aload_n 0, 1) := by decide +kernel
theorem dX8_begin_70 : decode cX8_begin 70 = .ok (.getfield 7, 3) := by decide +kernel
theorem dX8_begin_73 : decode cX8_begin 73 = .ok (.bipush 126, 2) := by decide +kernel
theorem dX8_begin_75 : decode cX8_begin 75 = .ok (.iload_n 3, 1) := by decide +kernel
theorem dX8_begin_76 : decode cX8_begin 76 = .ok (.iadd, 1) := by decide +kernel
theorem dX8_begin_77 : decode cX8_begin 77 = .ok (.sipush 300, 3) := by decide +kernel
theorem dX8_begin_80 : decode cX8_begin 80 = .ok (.iastore, 1) := by decide +kernel
theorem dX8_begin_81 : decode cX8_begin 81 = .ok (.iinc 3 1, 3) := by decide +kernel
theorem dX8_begin_84 : decode cX8_begin 84 = .ok (.goto (-21), 3) := by decide +kernel
theorem dX8_begin_87 : decode cX8_begin 87 = .ok (.return_, 1) := by decide +kernel
theorem dX8_act_0 : decode cX8_act 0 = .ok (.aload_n 0, 1) := by decide +kernel
theorem dX8_act_1 : decode cX8_act 1 = .ok (.getfield 36, 3) := by decide +kernel
theorem dX8_act_4 : decode cX8_act 4 = .ok (.iconst 5, 1) := by decide +kernel
theorem dX8_act_5 : decode cX8_act 5 = .ok (.if_icmp .ne 44, 3) := by decide +kernel
theorem dX8_act_8 : decode cX8_act 8 = .ok (.iconst 0, 1) := by decide +kernel
theorem dX8_act_9 : decode cX8_act 9 = .ok (.istore_n 1, 1) := by decide +kernel
theorem dX8_act_10 : decode cX8_act 10 = .ok (.iload_n 1, 1) := by decide +kernel
theorem dX8_act_11 : decode cX8_act 11 = .ok (.sipush 1824, 3) := by decide +kernel
theorem dX8_act_14 : decode cX8_act 14 = .ok (.if_icmp .ge 25, 3) := by decide +kernel
theorem dX8_act_17 : decode cX8_act 17 = .ok (.aload_n 0, 1) := by decide +kernel
theorem dX8_act_18 : decode cX8_act 18 = .ok (.getfield 16, 3) := by decide +kernel
theorem dX8_act_21 : decode cX8_act 21 = .ok (.iload_n 1, 1) := by decide +kernel
theorem dX8_act_22 : decode cX8_act 22 = .ok (.aload_n 0, 1) := by decide +kernel
theorem dX8_act_23 : decode cX8_act 23 = .ok (.getfield 16, 3) := by decide +kernel
theorem dX8_act_26 : decode cX8_act 26 = .ok (.iload_n 1, 1) := by decide +kernel
theorem dX8_act_27 : decode cX8_act 27 = .ok (.sipush 456, 3) := by decide +kernel
theorem dX8_act_30 : decode cX8_act 30 = .ok (.iadd, 1) := by decide +kernel
theorem dX8_act_31 : decode cX8_act 31 = .ok (.iaload, 1) := by decide +kernel
theorem dX8_act_32 : decode cX8_act 32 = .ok (.iastore, 1) := by decide +kernel
theorem dX8_act_33 : decode cX8_act 33 = .ok (.iinc 1 1, 3) := by decide +kernel
theorem dX8_act_36 : decode cX8_act 36 = .ok (.goto (-26), 3) := by decide +kernel
theorem dX8_act_39 : decode cX8_act 39 = .ok (.aload_n 0, 1) := by decide +kernel
theorem dX8_act_40 : decode cX8_act 40 = .ok (.dup, 1) := by decide +kernel
theorem dX8_act_41 : decode cX8_act 41 = .ok (.getfield 36, 3) := by decide +kernel
theorem dX8_act_44 : decode cX8_act 44 = .ok (.iconst 1, 1) := by decide +kernel
theorem dX8_act_45 : decode cX8_act 45 = .ok (.isub, 1) := by decide +kernel
theorem dX8_act_46 : decode cX8_act 46 = .ok (.putfield 36, 3) := by decide +kernel
theorem dX8_act_49 : decode cX8_act 49 = .ok (.iconst 0, 1) := by decide +kernel
theorem dX8_act_50 : decode cX8_act 50 = .ok (.istore_n 1, 1) := by decide +kernel
theorem dX8_act_51 : decode cX8_act 51 = .ok (.iload_n 1, 1) := by decide +kernel
theorem dX8_act_52 : decode cX8_act 52 = .ok (.sipush 456, 3) := by decide +kernel
theorem dX8_act_55 : decode cX8_act 55 = .ok (.if_icmp .ge 30, 3) := by decide +kernel
theorem dX8_act_58 : decode cX8_act 58 = .ok (.aload_n 0, 1) := by decide +kernel
theorem dX8_act_59 : decode cX8_act 59 = .ok (.getfield 16, 3) := by decide +kernel
theorem dX8_act_62 : decode cX8_act 62 = .ok (.sipush 456, 3) := by decide +kernel
theorem dX8_act_65 : decode cX8_act 65 = .ok (.aload_n 0, 1) := by decide +kernel
theorem dX8_act_66 : decode cX8_act 66 = .ok (.getfield 36, 3) := by decide +kernel
theorem dX8_act_69 : decode cX8_act 69 = .ok (.imul, 1) := by decide +kernel
theorem dX8_act_70 : decode cX8_act 70 = .ok (.iload_n 1, 1) := by decide +kernel
theorem dX8_act_71 : decode cX8_act 71 = .ok (.iadd, 1) := by decide +kernel
theorem dX8_act_72 : decode cX8_act 72 = .ok (.aload_n 0, 1) := by decide +kernel
theorem dX8_act_73 : decode cX8_act 73 = .ok (.getfield 7, 3) := by decide +kernel
theorem dX8_act_76 : decode cX8_act 76 = .ok (.iload_n 1, 1) := by decide +kernel
theorem dX8_act_77 : decode cX8_act 77 = .ok (.iaload, 1) := by decide +kernel
theorem dX8_act_78 : decode cX8_act 78 = .ok (.iastore, 1) := by decide +kernel
theorem dX8_act_79 : decode cX8_act 79 = .ok (.iinc 1 1, 3) := by decide +kernel
theorem dX8_act_82 : decode cX8_act 82 = .ok (.goto (-31), 3) := by decide +kernel
theorem dX8_act_85 : decode cX8_act 85 = .ok (.aload_n 0, 1) := by decide +kernel
theorem dX8_act_86 : decode cX8_act 86 = .ok (.dup, 1) := by decide +kernel
theorem dX8_act_87 : decode cX8_act 87 = .ok (.getfield 36, 3) := by decide +kernel
theorem dX8_act_90 : decode cX8_act 90 = .ok (.iconst 1, 1) := by decide +kernel
theorem dX8_act_91 : decode cX8_act 91 = .ok (.iadd, 1) := by decide +kernel
theorem dX8_act_92 : decode cX8_act 92 = .ok (.putfield 36, 3) := by decide +kernel
theorem dX8_act_95 : decode cX8_act 95 = .ok (.return_, 1) := by decide +kernel
theorem dX8_has_0 : decode cX8_has 0 = .ok (.iload_n 0, 1) := by decide +kernel
theorem dX8_has_1 : decode cX8_has 1 = .ok (.iload_n 1, 1) := by decide +kernel
theorem dX8_has_2 : decode cX8_has 2 = .ok (.ishr, 1) := by decide +kernel
theorem dX8_has_3 : decode cX8_has 3 = .ok (.iconst 1, 1) := by decide +kernel
theorem dX8_has_4 : decode cX8_has 4 = .ok (.iand, 1) := by decide +kernel
theorem dX8_has_5 : decode cX8_has 5 = .ok (.iconst 1, 1) := by decide +kernel
theorem dX8_has_6 : decode cX8_has 6 = .ok (.if_icmp .ne 7, 3) := by decide +kernel
theorem dX8_has_9 : decode cX8_has 9 = .ok (.iconst 1, 1) := by decide +kernel
theorem dX8_has_10 : decode cX8_has 10 = .ok (.goto 4, 3) := by decide +kernel
theorem dX8_has_13 : decode cX8_has 13 = .ok (.iconst 0, 1) := by decide +kernel
theorem dX8_has_14 : decode cX8_has 14 = .ok (.ireturn, 1) := by decide +kernel
theorem dX8_sizeOf_0 : decode cX8_sizeOf 0 = .ok (.iconst 0, 1) := by decide +kernel
theorem dX8_sizeOf_1 : decode cX8_sizeOf 1 = .ok (.istore_n 1, 1) := by decide +kernel
theorem dX8_sizeOf_2 : decode cX8_sizeOf 2 = .ok (.iload_n 0, 1) := by decide +kernel
theorem dX8_sizeOf_3 : decode cX8_sizeOf 3 = .ok (.istore_n 2, 1) := by decide +kernel
theorem dX8_sizeOf_4 : decode cX8_sizeOf 4 = .ok (.iload_n 2, 1) := by decide +kernel
theorem dX8_sizeOf_5 : decode cX8_sizeOf 5 = .ok (.ifCond .eq 15, 3) := by decide +kernel
theorem dX8_sizeOf_8 : decode cX8_sizeOf 8 = .ok (.iinc 1 1, 3) := by decide +kernel
theorem dX8_sizeOf_11 : decode cX8_sizeOf 11 = .ok (.iload_n 2, 1) := by decide +kernel
theorem dX8_sizeOf_12 : decode cX8_sizeOf 12 = .ok (.iload_n 2, 1) := by decide +kernel
theorem dX8_sizeOf_13 : decode cX8_sizeOf 13 = .ok (.iconst 1, 1) := by decide +kernel
theorem dX8_sizeOf_14 : decode cX8_sizeOf 14 = .ok (.isub, 1) := by decide +kernel
theorem dX8_sizeOf_15 : decode cX8_sizeOf 15 = .ok (.iand, 1) := by decide +kernel
theorem dX8_sizeOf_16 : decode cX8_sizeOf 16 = .ok (.istore_n 2, 1) := by decide +kernel
theorem dX8_sizeOf_17 : decode cX8_sizeOf 17 = .ok (.goto (-13), 3) := by decide +kernel
theorem dX8_sizeOf_20 : decode cX8_sizeOf 20 = .ok (.iload_n 1, 1) := by decide +kernel
theorem dX8_sizeOf_21 : decode cX8_sizeOf 21 = .ok (.ireturn, 1) := by decide +kernel
theorem dX8_isEnd_0 : decode cX8_isEnd 0 = .ok (.iload_n 1, 1) := by decide +kernel
theorem dX8_isEnd_1 : decode cX8_isEnd 1 = .ok (.iconst 0, 1) := by decide +kernel
theorem dX8_isEnd_2 : decode cX8_isEnd 2 = .ok (.aload_n 0, 1) := by decide +kernel
theorem dX8_isEnd_3 : decode cX8_isEnd 3 = .ok (.getfield 7, 3) := by decide +kernel
theorem dX8_isEnd_6 : decode cX8_isEnd 6 = .ok (.iconst 1, 1) := by decide +kernel
theorem dX8_isEnd_7 : decode cX8_isEnd 7 = .ok (.iaload, 1) := by decide +kernel
theorem dX8_isEnd_8 : decode cX8_isEnd 8 = .ok (.iconst 1, 1) := by decide +kernel
theorem dX8_isEnd_9 : decode cX8_isEnd 9 = .ok (.isub, 1) := by decide +kernel
theorem dX8_isEnd_10 : decode cX8_isEnd 10 = .ok (.invokestatic 39, 3) := by decide +kernel
theorem dX8_isEnd_13 : decode cX8_isEnd 13 = .ok (.ireturn, 1) := by decide +kernel
theorem dX8_isShaft_0 : decode cX8_isShaft 0 = .ok (.iload_n 1, 1) := by decide +kernel
theorem dX8_isShaft_1 : decode cX8_isShaft 1 = .ok (.iconst 0, 1) := by decide +kernel
theorem dX8_isShaft_2 : decode cX8_isShaft 2 = .ok (.aload_n 0, 1) := by decide +kernel
theorem dX8_isShaft_3 : decode cX8_isShaft 3 = .ok (.getfield 7, 3) := by decide +kernel
theorem dX8_isShaft_6 : decode cX8_isShaft 6 = .ok (.iconst 0, 1) := by decide +kernel
theorem dX8_isShaft_7 : decode cX8_isShaft 7 = .ok (.iaload, 1) := by decide +kernel
theorem dX8_isShaft_8 : decode cX8_isShaft 8 = .ok (.iconst 1, 1) := by decide +kernel
theorem dX8_isShaft_9 : decode cX8_isShaft 9 = .ok (.isub, 1) := by decide +kernel
theorem dX8_isShaft_10 : decode cX8_isShaft 10 = .ok (.invokestatic 39, 3) := by decide +kernel
theorem dX8_isShaft_13 : decode cX8_isShaft 13 = .ok (.ireturn, 1) := by decide +kernel
theorem dX8_isBar_0 : decode cX8_isBar 0 = .ok (.iload_n 1, 1) := by decide +kernel
theorem dX8_isBar_1 : decode cX8_isBar 1 = .ok (.iconst 0, 1) := by decide +kernel
theorem dX8_isBar_2 : decode cX8_isBar 2 = .ok (.aload_n 0, 1) := by decide +kernel
theorem dX8_isBar_3 : decode cX8_isBar 3 = .ok (.getfield 7, 3) := by decide +kernel
theorem dX8_isBar_6 : decode cX8_isBar 6 = .ok (.iconst 2, 1) := by decide +kernel
theorem dX8_isBar_7 : decode cX8_isBar 7 = .ok (.iaload, 1) := by decide +kernel
theorem dX8_isBar_8 : decode cX8_isBar 8 = .ok (.iconst 1, 1) := by decide +kernel
theorem dX8_isBar_9 : decode cX8_isBar 9 = .ok (.isub, 1) := by decide +kernel
theorem dX8_isBar_10 : decode cX8_isBar 10 = .ok (.invokestatic 39, 3) := by decide +kernel
theorem dX8_isBar_13 : decode cX8_isBar 13 = .ok (.ireturn, 1) := by decide +kernel
theorem dX8_isRow_0 : decode cX8_isRow 0 = .ok (.iload_n 1, 1) := by decide +kernel
theorem dX8_isRow_1 : decode cX8_isRow 1 = .ok (.iconst 0, 1) := by decide +kernel
theorem dX8_isRow_2 : decode cX8_isRow 2 = .ok (.aload_n 0, 1) := by decide +kernel
theorem dX8_isRow_3 : decode cX8_isRow 3 = .ok (.getfield 7, 3) := by decide +kernel
theorem dX8_isRow_6 : decode cX8_isRow 6 = .ok (.iconst 5, 1) := by decide +kernel
theorem dX8_isRow_7 : decode cX8_isRow 7 = .ok (.iaload, 1) := by decide +kernel
theorem dX8_isRow_8 : decode cX8_isRow 8 = .ok (.iconst 1, 1) := by decide +kernel
theorem dX8_isRow_9 : decode cX8_isRow 9 = .ok (.isub, 1) := by decide +kernel
theorem dX8_isRow_10 : decode cX8_isRow 10 = .ok (.invokestatic 39, 3) := by decide +kernel
theorem dX8_isRow_13 : decode cX8_isRow 13 = .ok (.ireturn, 1) := by decide +kernel
theorem dX8_isColor_0 : decode cX8_isColor 0 = .ok (.iload_n 0, 1) := by decide +kernel
theorem dX8_isColor_1 : decode cX8_isColor 1 = .ok (.iconst 0, 1) := by decide +kernel
theorem dX8_isColor_2 : decode cX8_isColor 2 = .ok (.bipush 9, 2) := by decide +kernel
theorem dX8_isColor_4 : decode cX8_isColor 4 = .ok (.invokestatic 39, 3) := by decide +kernel
theorem dX8_isColor_7 : decode cX8_isColor 7 = .ok (.ireturn, 1) := by decide +kernel
theorem dX8_isLift_0 : decode cX8_isLift 0 = .ok (.iload_n 1, 1) := by decide +kernel
theorem dX8_isLift_1 : decode cX8_isLift 1 = .ok (.iconst 0, 1) := by decide +kernel
theorem dX8_isLift_2 : decode cX8_isLift 2 = .ok (.iconst 1, 1) := by decide +kernel
theorem dX8_isLift_3 : decode cX8_isLift 3 = .ok (.aload_n 0, 1) := by decide +kernel
theorem dX8_isLift_4 : decode cX8_isLift 4 = .ok (.getfield 7, 3) := by decide +kernel
theorem dX8_isLift_7 : decode cX8_isLift 7 = .ok (.iconst 0, 1) := by decide +kernel
theorem dX8_isLift_8 : decode cX8_isLift 8 = .ok (.iaload, 1) := by decide +kernel
theorem dX8_isLift_9 : decode cX8_isLift 9 = .ok (.ishl, 1) := by decide +kernel
theorem dX8_isLift_10 : decode cX8_isLift 10 = .ok (.iconst 1, 1) := by decide +kernel
theorem dX8_isLift_11 : decode cX8_isLift 11 = .ok (.isub, 1) := by decide +kernel
theorem dX8_isLift_12 : decode cX8_isLift 12 = .ok (.invokestatic 39, 3) := by decide +kernel
theorem dX8_isLift_15 : decode cX8_isLift 15 = .ok (.ireturn, 1) := by decide +kernel
theorem dX8_of_0 : decode cX8_of 0 = .ok (.aload_n 0, 1) := by decide +kernel
theorem dX8_of_1 : decode cX8_of 1 = .ok (.getfield 7, 3) := by decide +kernel
theorem dX8_of_4 : decode cX8_of 4 = .ok (.sipush 136, 3) := by decide +kernel
theorem dX8_of_7 : decode cX8_of 7 = .ok (.iconst 5, 1) := by decide +kernel
theorem dX8_of_8 : decode cX8_of 8 = .ok (.iload_n 1, 1) := by decide +kernel
theorem dX8_of_9 : decode cX8_of 9 = .ok (.imul, 1) := by decide +kernel
theorem dX8_of_10 : decode cX8_of 10 = .ok (.iadd, 1) := by decide +kernel
theorem dX8_of_11 : decode cX8_of 11 = .ok (.iload_n 2, 1) := by decide +kernel
theorem dX8_of_12 : decode cX8_of 12 = .ok (.iadd, 1) := by decide +kernel
theorem dX8_of_13 : decode cX8_of 13 = .ok (.iaload, 1) := by decide +kernel
theorem dX8_of_14 : decode cX8_of 14 = .ok (.ireturn, 1) := by decide +kernel
theorem dX8_setLoom_0 : decode cX8_setLoom 0 = .ok (.aload_n 0, 1) := by decide +kernel
theorem dX8_setLoom_1 : decode cX8_setLoom 1 = .ok (.iconst 0, 1) := by decide +kernel
theorem dX8_setLoom_2 : decode cX8_setLoom 2 = .ok (.putfield 28, 3) := by decide +kernel
theorem dX8_setLoom_5 : decode cX8_setLoom 5 = .ok (.iload_n 1, 1) := by decide +kernel
theorem dX8_setLoom_6 : decode cX8_setLoom 6 = .ok (.iconst 2, 1) := by decide +kernel
theorem dX8_setLoom_7 : decode cX8_setLoom 7 = .ok (.bipush 8, 2) := by decide +kernel
theorem dX8_setLoom_9 : decode cX8_setLoom 9 = .ok (.invokestatic 39, 3) := by decide +kernel
theorem dX8_setLoom_12 : decode cX8_setLoom 12 = .ok (.ifCond .eq 13, 3) := by decide +kernel
theorem dX8_setLoom_15 : decode cX8_setLoom 15 = .ok (.iload_n 2, 1) := by decide +kernel
theorem dX8_setLoom_16 : decode cX8_setLoom 16 = .ok (.iconst 4, 1) := by decide +kernel
theorem dX8_setLoom_17 : decode cX8_setLoom 17 = .ok (.bipush 32, 2) := by decide +kernel
theorem dX8_setLoom_19 : decode cX8_setLoom 19 = .ok (.invokestatic 39, 3) := by decide +kernel
theorem dX8_setLoom_22 : decode cX8_setLoom 22 = .ok (.ifCond .ne 5, 3) := by decide +kernel
theorem dX8_setLoom_25 : decode cX8_setLoom 25 = .ok (.iconst (-1), 1) := by decide +kernel
theorem dX8_setLoom_26 : decode cX8_setLoom 26 = .ok (.ireturn, 1) := by decide +kernel
theorem dX8_setLoom_27 : decode cX8_setLoom 27 = .ok (.aload_n 0, 1) := by decide +kernel
theorem dX8_setLoom_28 : decode cX8_setLoom 28 = .ok (.invokevirtual 43, 3) := by decide +kernel
theorem dX8_setLoom_31 : decode cX8_setLoom 31 = .ok (.aload_n 0, 1) := by decide +kernel
theorem dX8_setLoom_32 : decode cX8_setLoom 32 = .ok (.getfield 7, 3) := by decide +kernel
theorem dX8_setLoom_35 : decode cX8_setLoom 35 = .ok (.iconst 5, 1) := by decide +kernel
theorem dX8_setLoom_36 : decode cX8_setLoom 36 = .ok (.iaload, 1) := by decide +kernel
theorem dX8_setLoom_37 : decode cX8_setLoom 37 = .ok (.istore_n 3, 1) := by decide +kernel
theorem dX8_setLoom_38 : decode cX8_setLoom 38 = .ok (.aload_n 0, 1) := by decide +kernel
theorem dX8_setLoom_39 : decode cX8_setLoom 39 = .ok (.iload_n 1, 1) := by decide +kernel
theorem dX8_setLoom_40 : decode cX8_setLoom 40 = .ok (.iload_n 2, 1) := by decide +kernel
theorem dX8_setLoom_41 : decode cX8_setLoom 41 = .ok (.invokevirtual 32, 3) := by decide +kernel
theorem dX8_setLoom_44 : decode cX8_setLoom 44 = .ok (.iload_n 3, 1) := by decide +kernel
theorem dX8_setLoom_45 : decode cX8_setLoom 45 = .ok (.ireturn, 1) := by decide +kernel
theorem dX8_setEnd_0 : decode cX8_setEnd 0 = .ok (.aload_n 0, 1) := by decide +kernel
theorem dX8_setEnd_1 : decode cX8_setEnd 1 = .ok (.iconst 0, 1) := by decide +kernel
theorem dX8_setEnd_2 : decode cX8_setEnd 2 = .ok (.putfield 28, 3) := by decide +kernel
theorem dX8_setEnd_5 : decode cX8_setEnd 5 = .ok (.aload_n 0, 1) := by decide +kernel
theorem dX8_setEnd_6 : decode cX8_setEnd 6 = .ok (.iload_n 1, 1) := by decide +kernel
theorem dX8_setEnd_7 : decode cX8_setEnd 7 = .ok (.invokevirtual 46, 3) := by decide +kernel
theorem dX8_setEnd_10 : decode cX8_setEnd 10 = .ok (.ifCond .eq 18, 3) := by decide +kernel
theorem dX8_setEnd_13 : decode cX8_setEnd 13 = .ok (.aload_n 0, 1) := by decide +kernel
theorem dX8_setEnd_14 : decode cX8_setEnd 14 = .ok (.iload_n 2, 1) := by decide +kernel
theorem dX8_setEnd_15 : decode cX8_setEnd 15 = .ok (.invokevirtual 50, 3) := by decide +kernel
theorem dX8_setEnd_18 : decode cX8_setEnd 18 = .ok (.ifCond .eq 10, 3) := by decide +kernel
theorem dX8_setEnd_21 : decode cX8_setEnd 21 = .ok (.iload_n 3, 1) := by decide +kernel
theorem dX8_setEnd_22 : decode cX8_setEnd 22 = .ok (.invokestatic 53, 3) := by decide +kernel
theorem dX8_setEnd_25 : decode cX8_setEnd 25 = .ok (.ifCond .ne 5, 3) := by decide +kernel
theorem dX8_setEnd_28 : decode cX8_setEnd 28 = .ok (.iconst (-1), 1) := by decide +kernel
theorem dX8_setEnd_29 : decode cX8_setEnd 29 = .ok (.ireturn, 1) := by decide +kernel
theorem dX8_setEnd_30 : decode cX8_setEnd 30 = .ok (.aload_n 0, 1) := by decide +kernel
theorem dX8_setEnd_31 : decode cX8_setEnd 31 = .ok (.invokevirtual 43, 3) := by decide +kernel
theorem dX8_setEnd_34 : decode cX8_setEnd 34 = .ok (.bipush 10, 2) := by decide +kernel
theorem dX8_setEnd_36 : decode cX8_setEnd 36 = .ok (.aload_n 0, 1) := by decide +kernel
theorem dX8_setEnd_37 : decode cX8_setEnd 37 = .ok (.getfield 7, 3) := by decide +kernel
theorem dX8_setEnd_40 : decode cX8_setEnd 40 = .ok (.bipush 6, 2) := by decide +kernel
theorem dX8_setEnd_42 : decode cX8_setEnd 42 = .ok (.iload_n 1, 1) := by decide +kernel
theorem dX8_setEnd_43 : decode cX8_setEnd 43 = .ok (.iadd, 1) := by decide +kernel
theorem dX8_setEnd_44 : decode cX8_setEnd 44 = .ok (.iaload, 1) := by decide +kernel
theorem dX8_setEnd_45 : decode cX8_setEnd 45 = .ok (.imul, 1) := by decide +kernel
theorem dX8_setEnd_46 : decode cX8_setEnd 46 = .ok (.aload_n 0, 1) := by decide +kernel
theorem dX8_setEnd_47 : decode cX8_setEnd 47 = .ok (.getfield 7, 3) := by decide +kernel
theorem dX8_setEnd_50 : decode cX8_setEnd 50 = .ok (.bipush 38, 2) := by decide +kernel
theorem dX8_setEnd_52 : decode cX8_setEnd 52 = .ok (.iload_n 1, 1) := by decide +kernel
theorem dX8_setEnd_53 : decode cX8_setEnd 53 = .ok (.iadd, 1) := by decide +kernel
theorem dX8_setEnd_54 : decode cX8_setEnd 54 = .ok (.iaload, 1) := by decide +kernel
theorem dX8_setEnd_55 : decode cX8_setEnd 55 = .ok (.iadd, 1) := by decide +kernel
theorem dX8_setEnd_56 : decode cX8_setEnd 56 = .ok (.istore 4, 2) := by decide +kernel
theorem dX8_setEnd_58 : decode cX8_setEnd 58 = .ok (.aload_n 0, 1) := by decide +kernel
theorem dX8_setEnd_59 : decode cX8_setEnd 59 = .ok (.getfield 7, 3) := by decide +kernel
theorem dX8_setEnd_62 : decode cX8_setEnd 62 = .ok (.bipush 6, 2) := by decide +kernel
theorem dX8_setEnd_64 : decode cX8_setEnd 64 = .ok (.iload_n 1, 1) := by decide +kernel
theorem dX8_setEnd_65 : decode cX8_setEnd 65 = .ok (.iadd, 1) := by decide +kernel
theorem dX8_setEnd_66 : decode cX8_setEnd 66 = .ok (.iload_n 2, 1) := by decide +kernel
theorem dX8_setEnd_67 : decode cX8_setEnd 67 = .ok (.iastore, 1) := by decide +kernel
theorem dX8_setEnd_68 : decode cX8_setEnd 68 = .ok (.aload_n 0, 1) := by decide +kernel
theorem dX8_setEnd_69 : decode cX8_setEnd 69 = .ok (.getfield 7, 3) := by decide +kernel
theorem dX8_setEnd_72 : decode cX8_setEnd 72 = .ok (.bipush 38, 2) := by decide +kernel
theorem dX8_setEnd_74 : decode cX8_setEnd 74 = .ok (.iload_n 1, 1) := by decide +kernel
theorem dX8_setEnd_75 : decode cX8_setEnd 75 = .ok (.iadd, 1) := by decide +kernel
theorem dX8_setEnd_76 : decode cX8_setEnd 76 = .ok (.iload_n 3, 1) := by decide +kernel
theorem dX8_setEnd_77 : decode cX8_setEnd 77 = .ok (.iastore, 1) := by decide +kernel
theorem dX8_setEnd_78 : decode cX8_setEnd 78 = .ok (.iload 4, 2) := by decide +kernel
theorem dX8_setEnd_80 : decode cX8_setEnd 80 = .ok (.ireturn, 1) := by decide +kernel
theorem dX8_put_0 : decode cX8_put 0 = .ok (.aload_n 0, 1) := by decide +kernel
theorem dX8_put_1 : decode cX8_put 1 = .ok (.invokevirtual 43, 3) := by decide +kernel
theorem dX8_put_4 : decode cX8_put 4 = .ok (.aload_n 0, 1) := by decide +kernel
theorem dX8_put_5 : decode cX8_put 5 = .ok (.getfield 7, 3) := by decide +kernel
theorem dX8_put_8 : decode cX8_put 8 = .ok (.iload_n 1, 1) := by decide +kernel
theorem dX8_put_9 : decode cX8_put 9 = .ok (.iaload, 1) := by decide +kernel
theorem dX8_put_10 : decode cX8_put 10 = .ok (.istore_n 3, 1) := by decide +kernel
theorem dX8_put_11 : decode cX8_put 11 = .ok (.aload_n 0, 1) := by decide +kernel
theorem dX8_put_12 : decode cX8_put 12 = .ok (.getfield 7, 3) := by decide +kernel
theorem dX8_put_15 : decode cX8_put 15 = .ok (.iload_n 1, 1) := by decide +kernel
theorem dX8_put_16 : decode cX8_put 16 = .ok (.iload_n 2, 1) := by decide +kernel
theorem dX8_put_17 : decode cX8_put 17 = .ok (.iastore, 1) := by decide +kernel
theorem dX8_put_18 : decode cX8_put 18 = .ok (.iload_n 3, 1) := by decide +kernel
theorem dX8_put_19 : decode cX8_put 19 = .ok (.ireturn, 1) := by decide +kernel
theorem dX8_setFault_0 : decode cX8_setFault 0 = .ok (.aload_n 0, 1) := by decide +kernel
theorem dX8_setFault_1 : decode cX8_setFault 1 = .ok (.iconst 0, 1) := by decide +kernel
theorem dX8_setFault_2 : decode cX8_setFault 2 = .ok (.putfield 28, 3) := by decide +kernel
theorem dX8_setFault_5 : decode cX8_setFault 5 = .ok (.aload_n 0, 1) := by decide +kernel
theorem dX8_setFault_6 : decode cX8_setFault 6 = .ok (.iload_n 1, 1) := by decide +kernel
theorem dX8_setFault_7 : decode cX8_setFault 7 = .ok (.invokevirtual 50, 3) := by decide +kernel
theorem dX8_setFault_10 : decode cX8_setFault 10 = .ok (.ifCond .eq 24, 3) := by decide +kernel
theorem dX8_setFault_13 : decode cX8_setFault 13 = .ok (.iload_n 2, 1) := by decide +kernel
theorem dX8_setFault_14 : decode cX8_setFault 14 = .ok (.iconst 0, 1) := by decide +kernel
theorem dX8_setFault_15 : decode cX8_setFault 15 = .ok (.iconst 2, 1) := by decide +kernel
theorem dX8_setFault_16 : decode cX8_setFault 16 = .ok (.invokestatic 39, 3) := by decide +kernel
theorem dX8_setFault_19 : decode cX8_setFault 19 = .ok (.ifCond .eq 15, 3) := by decide +kernel
theorem dX8_setFault_22 : decode cX8_setFault 22 = .ok (.aload_n 0, 1) := by decide +kernel
theorem dX8_setFault_23 : decode cX8_setFault 23 = .ok (.bipush 70, 2) := by decide +kernel
theorem dX8_setFault_25 : decode cX8_setFault 25 = .ok (.iload_n 1, 1) := by decide +kernel
theorem dX8_setFault_26 : decode cX8_setFault 26 = .ok (.iadd, 1) := by decide +kernel
theorem dX8_setFault_27 : decode cX8_setFault 27 = .ok (.iload_n 2, 1) := by decide +kernel
theorem dX8_setFault_28 : decode cX8_setFault 28 = .ok (.invokevirtual 56, 3) := by decide +kernel
theorem dX8_setFault_31 : decode cX8_setFault 31 = .ok (.goto 4, 3) := by decide +kernel
theorem dX8_setFault_34 : decode cX8_setFault 34 = .ok (.iconst (-1), 1) := by decide +kernel
theorem dX8_setFault_35 : decode cX8_setFault 35 = .ok (.ireturn, 1) := by decide +kernel
theorem dX8_makeBar_0 : decode cX8_makeBar 0 = .ok (.aload_n 0, 1) := by decide +kernel
theorem dX8_makeBar_1 : decode cX8_makeBar 1 = .ok (.getfield 7, 3) := by decide +kernel
theorem dX8_makeBar_4 : decode cX8_makeBar 4 = .ok (.bipush 78, 2) := by decide +kernel
theorem dX8_makeBar_6 : decode cX8_makeBar 6 = .ok (.iload_n 1, 1) := by decide +kernel
theorem dX8_makeBar_7 : decode cX8_makeBar 7 = .ok (.iadd, 1) := by decide +kernel
theorem dX8_makeBar_8 : decode cX8_makeBar 8 = .ok (.iload_n 2, 1) := by decide +kernel
theorem dX8_makeBar_9 : decode cX8_makeBar 9 = .ok (.iastore, 1) := by decide +kernel
theorem dX8_makeBar_10 : decode cX8_makeBar 10 = .ok (.aload_n 0, 1) := by decide +kernel
theorem dX8_makeBar_11 : decode cX8_makeBar 11 = .ok (.getfield 7, 3) := by decide +kernel
theorem dX8_makeBar_14 : decode cX8_makeBar 14 = .ok (.bipush 102, 2) := by decide +kernel
theorem dX8_makeBar_16 : decode cX8_makeBar 16 = .ok (.iload_n 1, 1) := by decide +kernel
theorem dX8_makeBar_17 : decode cX8_makeBar 17 = .ok (.iadd, 1) := by decide +kernel
theorem dX8_makeBar_18 : decode cX8_makeBar 18 = .ok (.iload_n 3, 1) := by decide +kernel
theorem dX8_makeBar_19 : decode cX8_makeBar 19 = .ok (.iastore, 1) := by decide +kernel
theorem dX8_makeBar_20 : decode cX8_makeBar 20 = .ok (.return_, 1) := by decide +kernel
theorem dX8_addBar_0 : decode cX8_addBar 0 = .ok (.aload_n 0, 1) := by decide +kernel
theorem dX8_addBar_1 : decode cX8_addBar 1 = .ok (.iconst 0, 1) := by decide +kernel
theorem dX8_addBar_2 : decode cX8_addBar 2 = .ok (.putfield 28, 3) := by decide +kernel
theorem dX8_addBar_5 : decode cX8_addBar 5 = .ok (.aload_n 0, 1) := by decide +kernel
theorem dX8_addBar_6 : decode cX8_addBar 6 = .ok (.iload_n 1, 1) := by decide +kernel
theorem dX8_addBar_7 : decode cX8_addBar 7 = .ok (.invokevirtual 60, 3) := by decide +kernel
theorem dX8_addBar_10 : decode cX8_addBar 10 = .ok (.ifCond .eq 10, 3) := by decide +kernel
theorem dX8_addBar_13 : decode cX8_addBar 13 = .ok (.iload_n 2, 1) := by decide +kernel
theorem dX8_addBar_14 : decode cX8_addBar 14 = .ok (.invokestatic 53, 3) := by decide +kernel
theorem dX8_addBar_17 : decode cX8_addBar 17 = .ok (.ifCond .ne 5, 3) := by decide +kernel
theorem dX8_addBar_20 : decode cX8_addBar 20 = .ok (.iconst (-1), 1) := by decide +kernel
theorem dX8_addBar_21 : decode cX8_addBar 21 = .ok (.ireturn, 1) := by decide +kernel
theorem dX8_addBar_22 : decode cX8_addBar 22 = .ok (.aload_n 0, 1) := by decide +kernel
theorem dX8_addBar_23 : decode cX8_addBar 23 = .ok (.getfield 7, 3) := by decide +kernel
theorem dX8_addBar_26 : decode cX8_addBar 26 = .ok (.iconst 2, 1) := by decide +kernel
theorem dX8_addBar_27 : decode cX8_addBar 27 = .ok (.iaload, 1) := by decide +kernel
theorem dX8_addBar_28 : decode cX8_addBar 28 = .ok (.bipush 24, 2) := by decide +kernel
theorem dX8_addBar_30 : decode cX8_addBar 30 = .ok (.if_icmp .ne 6, 3) := by decide +kernel
theorem dX8_addBar_33 : decode cX8_addBar 33 = .ok (.bipush (-3), 2) := by decide +kernel
theorem dX8_addBar_35 : decode cX8_addBar 35 = .ok (.ireturn, 1) := by decide +kernel
theorem dX8_addBar_36 : decode cX8_addBar 36 = .ok (.aload_n 0, 1) := by decide +kernel
theorem dX8_addBar_37 : decode cX8_addBar 37 = .ok (.invokevirtual 43, 3) := by decide +kernel
theorem dX8_addBar_40 : decode cX8_addBar 40 = .ok (.aload_n 0, 1) := by decide +kernel
theorem dX8_addBar_41 : decode cX8_addBar 41 = .ok (.getfield 7, 3) := by decide +kernel
theorem dX8_addBar_44 : decode cX8_addBar 44 = .ok (.iconst 3, 1) := by decide +kernel
theorem dX8_addBar_45 : decode cX8_addBar 45 = .ok (.aload_n 0, 1) := by decide +kernel
theorem dX8_addBar_46 : decode cX8_addBar 46 = .ok (.getfield 7, 3) := by decide +kernel
theorem dX8_addBar_49 : decode cX8_addBar 49 = .ok (.iconst 2, 1) := by decide +kernel
theorem dX8_addBar_50 : decode cX8_addBar 50 = .ok (.iaload, 1) := by decide +kernel
theorem dX8_addBar_51 : decode cX8_addBar 51 = .ok (.ifCond .ne 7, 3) := by decide +kernel
theorem dX8_addBar_54 : decode cX8_addBar 54 = .ok (.iconst 0, 1) := by decide +kernel
theorem dX8_addBar_55 : decode cX8_addBar 55 = .ok (.goto 9, 3) := by decide +kernel
theorem dX8_addBar_58 : decode cX8_addBar 58 = .ok (.aload_n 0, 1) := by decide +kernel
theorem dX8_addBar_59 : decode cX8_addBar 59 = .ok (.getfield 7, 3) := by decide +kernel
theorem dX8_addBar_62 : decode cX8_addBar 62 = .ok (.iconst 3, 1) := by decide +kernel
theorem dX8_addBar_63 : decode cX8_addBar 63 = .ok (.iaload, 1) := by decide +kernel
theorem dX8_addBar_64 : decode cX8_addBar 64 = .ok (.iastore, 1) := by decide +kernel
theorem dX8_addBar_65 : decode cX8_addBar 65 = .ok (.aload_n 0, 1) := by decide +kernel
theorem dX8_addBar_66 : decode cX8_addBar 66 = .ok (.aload_n 0, 1) := by decide +kernel
theorem dX8_addBar_67 : decode cX8_addBar 67 = .ok (.getfield 7, 3) := by decide +kernel
theorem dX8_addBar_70 : decode cX8_addBar 70 = .ok (.iconst 2, 1) := by decide +kernel
theorem dX8_addBar_71 : decode cX8_addBar 71 = .ok (.iaload, 1) := by decide +kernel
theorem dX8_addBar_72 : decode cX8_addBar 72 = .ok (.iload_n 1, 1) := by decide +kernel
theorem dX8_addBar_73 : decode cX8_addBar 73 = .ok (.iload_n 2, 1) := by decide +kernel
theorem dX8_addBar_74 : decode cX8_addBar 74 = .ok (.invokevirtual 63, 3) := by decide +kernel
theorem dX8_addBar_77 : decode cX8_addBar 77 = .ok (.aload_n 0, 1) := by decide +kernel
theorem dX8_addBar_78 : decode cX8_addBar 78 = .ok (.getfield 7, 3) := by decide +kernel
theorem dX8_addBar_81 : decode cX8_addBar 81 = .ok (.iconst 2, 1) := by decide +kernel
theorem dX8_addBar_82 : decode cX8_addBar 82 = .ok (.dup2, 1) := by decide +kernel
theorem dX8_addBar_83 : decode cX8_addBar 83 = .ok (.iaload, 1) := by decide +kernel
theorem dX8_addBar_84 : decode cX8_addBar 84 = .ok (.iconst 1, 1) := by decide +kernel
theorem dX8_addBar_85 : decode cX8_addBar 85 = .ok (.iadd, 1) := by decide +kernel
theorem dX8_addBar_86 : decode cX8_addBar 86 = .ok (.iastore, 1) := by decide +kernel
theorem dX8_addBar_87 : decode cX8_addBar 87 = .ok (.aload_n 0, 1) := by decide +kernel
theorem dX8_addBar_88 : decode cX8_addBar 88 = .ok (.getfield 7, 3) := by decide +kernel
theorem dX8_addBar_91 : decode cX8_addBar 91 = .ok (.iconst 2, 1) := by decide +kernel
theorem dX8_addBar_92 : decode cX8_addBar 92 = .ok (.iaload, 1) := by decide +kernel
theorem dX8_addBar_93 : decode cX8_addBar 93 = .ok (.iconst 1, 1) := by decide +kernel
theorem dX8_addBar_94 : decode cX8_addBar 94 = .ok (.isub, 1) := by decide +kernel
theorem dX8_addBar_95 : decode cX8_addBar 95 = .ok (.ireturn, 1) := by decide +kernel
theorem dX8_setBar_0 : decode cX8_setBar 0 = .ok (.aload_n 0, 1) := by decide +kernel
theorem dX8_setBar_1 : decode cX8_setBar 1 = .ok (.iconst 0, 1) := by decide +kernel
theorem dX8_setBar_2 : decode cX8_setBar 2 = .ok (.putfield 28, 3) := by decide +kernel
theorem dX8_setBar_5 : decode cX8_setBar 5 = .ok (.aload_n 0, 1) := by decide +kernel
theorem dX8_setBar_6 : decode cX8_setBar 6 = .ok (.iload_n 1, 1) := by decide +kernel
theorem dX8_setBar_7 : decode cX8_setBar 7 = .ok (.invokevirtual 67, 3) := by decide +kernel
theorem dX8_setBar_10 : decode cX8_setBar 10 = .ok (.ifCond .eq 18, 3) := by decide +kernel
theorem dX8_setBar_13 : decode cX8_setBar 13 = .ok (.aload_n 0, 1) := by decide +kernel
theorem dX8_setBar_14 : decode cX8_setBar 14 = .ok (.iload_n 2, 1) := by decide +kernel
theorem dX8_setBar_15 : decode cX8_setBar 15 = .ok (.invokevirtual 60, 3) := by decide +kernel
theorem dX8_setBar_18 : decode cX8_setBar 18 = .ok (.ifCond .eq 10, 3) := by decide +kernel
theorem dX8_setBar_21 : decode cX8_setBar 21 = .ok (.iload_n 3, 1) := by decide +kernel
theorem dX8_setBar_22 : decode cX8_setBar 22 = .ok (.invokestatic 53, 3) := by decide +kernel
theorem dX8_setBar_25 : decode cX8_setBar 25 = .ok (.ifCond .ne 5, 3) := by decide +kernel
theorem dX8_setBar_28 : decode cX8_setBar 28 = .ok (.iconst (-1), 1) := by decide +kernel
theorem dX8_setBar_29 : decode cX8_setBar 29 = .ok (.ireturn, 1) := by decide +kernel
theorem dX8_setBar_30 : decode cX8_setBar 30 = .ok (.aload_n 0, 1) := by decide +kernel
theorem dX8_setBar_31 : decode cX8_setBar 31 = .ok (.invokevirtual 43, 3) := by decide +kernel
theorem dX8_setBar_34 : decode cX8_setBar 34 = .ok (.bipush 10, 2) := by decide +kernel
theorem dX8_setBar_36 : decode cX8_setBar 36 = .ok (.aload_n 0, 1) := by decide +kernel
theorem dX8_setBar_37 : decode cX8_setBar 37 = .ok (.getfield 7, 3) := by decide +kernel
theorem dX8_setBar_40 : decode cX8_setBar 40 = .ok (.bipush 78, 2) := by decide +kernel
theorem dX8_setBar_42 : decode cX8_setBar 42 = .ok (.iload_n 1, 1) := by decide +kernel
theorem dX8_setBar_43 : decode cX8_setBar 43 = .ok (.iadd, 1) := by decide +kernel
theorem dX8_setBar_44 : decode cX8_setBar 44 = .ok (.iaload, 1) := by decide +kernel
theorem dX8_setBar_45 : decode cX8_setBar 45 = .ok (.imul, 1) := by decide +kernel
theorem dX8_setBar_46 : decode cX8_setBar 46 = .ok (.aload_n 0, 1) := by decide +kernel
theorem dX8_setBar_47 : decode cX8_setBar 47 = .ok (.getfield 7, 3) := by decide +kernel
theorem dX8_setBar_50 : decode cX8_setBar 50 = .ok (.bipush 102, 2) := by decide +kernel
theorem dX8_setBar_52 : decode cX8_setBar 52 = .ok (.iload_n 1, 1) := by decide +kernel
theorem dX8_setBar_53 : decode cX8_setBar 53 = .ok (.iadd, 1) := by decide +kernel
theorem dX8_setBar_54 : decode cX8_setBar 54 = .ok (.iaload, 1) := by decide +kernel
theorem dX8_setBar_55 : decode cX8_setBar 55 = .ok (.iadd, 1) := by decide +kernel
theorem dX8_setBar_56 : decode cX8_setBar 56 = .ok (.istore 4, 2) := by decide +kernel
theorem dX8_setBar_58 : decode cX8_setBar 58 = .ok (.aload_n 0, 1) := by decide +kernel
theorem dX8_setBar_59 : decode cX8_setBar 59 = .ok (.iload_n 1, 1) := by decide +kernel
theorem dX8_setBar_60 : decode cX8_setBar 60 = .ok (.iload_n 2, 1) := by decide +kernel
theorem dX8_setBar_61 : decode cX8_setBar 61 = .ok (.iload_n 3, 1) := by decide +kernel
theorem dX8_setBar_62 : decode cX8_setBar 62 = .ok (.invokevirtual 63, 3) := by decide +kernel
theorem dX8_setBar_65 : decode cX8_setBar 65 = .ok (.iload 4, 2) := by decide +kernel
theorem dX8_setBar_67 : decode cX8_setBar 67 = .ok (.ireturn, 1) := by decide +kernel
theorem dX8_setDirection_0 : decode cX8_setDirection 0 = .ok (.aload_n 0, 1) := by decide +kernel
theorem dX8_setDirection_1 : decode cX8_setDirection 1 = .ok (.iconst 0, 1) := by decide +kernel
theorem dX8_setDirection_2 : decode cX8_setDirection 2 = .ok (.putfield 28, 3) := by decide +kernel
theorem dX8_setDirection_5 : decode cX8_setDirection 5 = .ok (.iload_n 1, 1) := by decide +kernel
theorem dX8_setDirection_6 : decode cX8_setDirection 6 = .ok (.iconst 0, 1) := by decide +kernel
theorem dX8_setDirection_7 : decode cX8_setDirection 7 = .ok (.iconst 1, 1) := by decide +kernel
theorem dX8_setDirection_8 : decode cX8_setDirection 8 = .ok (.invokestatic 39, 3) := by decide +kernel
theorem dX8_setDirection_11 : decode cX8_setDirection 11 = .ok (.ifCond .eq 12, 3) := by decide +kernel
theorem dX8_setDirection_14 : decode cX8_setDirection 14 = .ok (.aload_n 0, 1) := by decide +kernel
theorem dX8_setDirection_15 : decode cX8_setDirection 15 = .ok (.iconst 4, 1) := by decide +kernel
theorem dX8_setDirection_16 : decode cX8_setDirection 16 = .ok (.iload_n 1, 1) := by decide +kernel
theorem dX8_setDirection_17 : decode cX8_setDirection 17 = .ok (.invokevirtual 56, 3) := by decide +kernel
theorem dX8_setDirection_20 : decode cX8_setDirection 20 = .ok (.goto 4, 3) := by decide +kernel
theorem dX8_setDirection_23 : decode cX8_setDirection 23 = .ok (.iconst (-1), 1) := by decide +kernel
theorem dX8_setDirection_24 : decode cX8_setDirection 24 = .ok (.ireturn, 1) := by decide +kernel
theorem dX8_turnTo_0 : decode cX8_turnTo 0 = .ok (.aload_n 0, 1) := by decide +kernel
theorem dX8_turnTo_1 : decode cX8_turnTo 1 = .ok (.iconst 0, 1) := by decide +kernel
theorem dX8_turnTo_2 : decode cX8_turnTo 2 = .ok (.putfield 28, 3) := by decide +kernel
theorem dX8_turnTo_5 : decode cX8_turnTo 5 = .ok (.aload_n 0, 1) := by decide +kernel
theorem dX8_turnTo_6 : decode cX8_turnTo 6 = .ok (.iload_n 1, 1) := by decide +kernel
theorem dX8_turnTo_7 : decode cX8_turnTo 7 = .ok (.invokevirtual 67, 3) := by decide +kernel
theorem dX8_turnTo_10 : decode cX8_turnTo 10 = .ok (.ifCond .eq 12, 3) := by decide +kernel
theorem dX8_turnTo_13 : decode cX8_turnTo 13 = .ok (.aload_n 0, 1) := by decide +kernel
theorem dX8_turnTo_14 : decode cX8_turnTo 14 = .ok (.iconst 3, 1) := by decide +kernel
theorem dX8_turnTo_15 : decode cX8_turnTo 15 = .ok (.iload_n 1, 1) := by decide +kernel
theorem dX8_turnTo_16 : decode cX8_turnTo 16 = .ok (.invokevirtual 56, 3) := by decide +kernel
theorem dX8_turnTo_19 : decode cX8_turnTo 19 = .ok (.goto 4, 3) := by decide +kernel
theorem dX8_turnTo_22 : decode cX8_turnTo 22 = .ok (.iconst (-1), 1) := by decide +kernel
theorem dX8_turnTo_23 : decode cX8_turnTo 23 = .ok (.ireturn, 1) := by decide +kernel
theorem dX8_wind_0 : decode cX8_wind 0 = .ok (.aload_n 0, 1) := by decide +kernel
theorem dX8_wind_1 : decode cX8_wind 1 = .ok (.iconst 0, 1) := by decide +kernel
theorem dX8_wind_2 : decode cX8_wind 2 = .ok (.putfield 28, 3) := by decide +kernel
theorem dX8_wind_5 : decode cX8_wind 5 = .ok (.iload_n 1, 1) := by decide +kernel
theorem dX8_wind_6 : decode cX8_wind 6 = .ok (.invokestatic 53, 3) := by decide +kernel
theorem dX8_wind_9 : decode cX8_wind 9 = .ok (.ifCond .eq 26, 3) := by decide +kernel
theorem dX8_wind_12 : decode cX8_wind 12 = .ok (.iload_n 2, 1) := by decide +kernel
theorem dX8_wind_13 : decode cX8_wind 13 = .ok (.iconst 0, 1) := by decide +kernel
theorem dX8_wind_14 : decode cX8_wind 14 = .ok (.sipush 9999, 3) := by decide +kernel
theorem dX8_wind_17 : decode cX8_wind 17 = .ok (.invokestatic 39, 3) := by decide +kernel
theorem dX8_wind_20 : decode cX8_wind 20 = .ok (.ifCond .eq 15, 3) := by decide +kernel
theorem dX8_wind_23 : decode cX8_wind 23 = .ok (.aload_n 0, 1) := by decide +kernel
theorem dX8_wind_24 : decode cX8_wind 24 = .ok (.bipush 126, 2) := by decide +kernel
theorem dX8_wind_26 : decode cX8_wind 26 = .ok (.iload_n 1, 1) := by decide +kernel
theorem dX8_wind_27 : decode cX8_wind 27 = .ok (.iadd, 1) := by decide +kernel
theorem dX8_wind_28 : decode cX8_wind 28 = .ok (.iload_n 2, 1) := by decide +kernel
theorem dX8_wind_29 : decode cX8_wind 29 = .ok (.invokevirtual 56, 3) := by decide +kernel
theorem dX8_wind_32 : decode cX8_wind 32 = .ok (.goto 4, 3) := by decide +kernel
theorem dX8_wind_35 : decode cX8_wind 35 = .ok (.iconst (-1), 1) := by decide +kernel
theorem dX8_wind_36 : decode cX8_wind 36 = .ok (.ireturn, 1) := by decide +kernel
theorem dX8_append_0 : decode cX8_append 0 = .ok (.aload_n 0, 1) := by decide +kernel
theorem dX8_append_1 : decode cX8_append 1 = .ok (.iconst 0, 1) := by decide +kernel
theorem dX8_append_2 : decode cX8_append 2 = .ok (.putfield 28, 3) := by decide +kernel
theorem dX8_append_5 : decode cX8_append 5 = .ok (.iload_n 1, 1) := by decide +kernel
theorem dX8_append_6 : decode cX8_append 6 = .ok (.iconst 1, 1) := by decide +kernel
theorem dX8_append_7 : decode cX8_append 7 = .ok (.sipush 255, 3) := by decide +kernel
theorem dX8_append_10 : decode cX8_append 10 = .ok (.invokestatic 39, 3) := by decide +kernel
theorem dX8_append_13 : decode cX8_append 13 = .ok (.ifCond .ne 5, 3) := by decide +kernel
theorem dX8_append_16 : decode cX8_append 16 = .ok (.iconst (-1), 1) := by decide +kernel
theorem dX8_append_17 : decode cX8_append 17 = .ok (.ireturn, 1) := by decide +kernel
theorem dX8_append_18 : decode cX8_append 18 = .ok (.aload_n 0, 1) := by decide +kernel
theorem dX8_append_19 : decode cX8_append 19 = .ok (.getfield 70, 3) := by decide +kernel
theorem dX8_append_22 : decode cX8_append 22 = .ok (.bipush 120, 2) := by decide +kernel
theorem dX8_append_24 : decode cX8_append 24 = .ok (.if_icmp .ne 6, 3) := by decide +kernel
theorem dX8_append_27 : decode cX8_append 27 = .ok (.bipush (-3), 2) := by decide +kernel
theorem dX8_append_29 : decode cX8_append 29 = .ok (.ireturn, 1) := by decide +kernel
theorem dX8_append_30 : decode cX8_append 30 = .ok (.aload_n 0, 1) := by decide +kernel
theorem dX8_append_31 : decode cX8_append 31 = .ok (.getfield 19, 3) := by decide +kernel
theorem dX8_append_34 : decode cX8_append 34 = .ok (.aload_n 0, 1) := by decide +kernel
theorem dX8_append_35 : decode cX8_append 35 = .ok (.getfield 70, 3) := by decide +kernel
theorem dX8_append_38 : decode cX8_append 38 = .ok (.iload_n 1, 1) := by decide +kernel
theorem dX8_append_39 : decode cX8_append 39 = .ok (.iastore, 1) := by decide +kernel
theorem dX8_append_40 : decode cX8_append 40 = .ok (.aload_n 0, 1) := by decide +kernel
theorem dX8_append_41 : decode cX8_append 41 = .ok (.dup, 1) := by decide +kernel
theorem dX8_append_42 : decode cX8_append 42 = .ok (.getfield 70, 3) := by decide +kernel
theorem dX8_append_45 : decode cX8_append 45 = .ok (.iconst 1, 1) := by decide +kernel
theorem dX8_append_46 : decode cX8_append 46 = .ok (.iadd, 1) := by decide +kernel
theorem dX8_append_47 : decode cX8_append 47 = .ok (.putfield 70, 3) := by decide +kernel
theorem dX8_append_50 : decode cX8_append 50 = .ok (.aload_n 0, 1) := by decide +kernel
theorem dX8_append_51 : decode cX8_append 51 = .ok (.getfield 70, 3) := by decide +kernel
theorem dX8_append_54 : decode cX8_append 54 = .ok (.ireturn, 1) := by decide +kernel
theorem dX8_clearText_0 : decode cX8_clearText 0 = .ok (.aload_n 0, 1) := by decide +kernel
theorem dX8_clearText_1 : decode cX8_clearText 1 = .ok (.iconst 0, 1) := by decide +kernel
theorem dX8_clearText_2 : decode cX8_clearText 2 = .ok (.putfield 28, 3) := by decide +kernel
theorem dX8_clearText_5 : decode cX8_clearText 5 = .ok (.aload_n 0, 1) := by decide +kernel
theorem dX8_clearText_6 : decode cX8_clearText 6 = .ok (.getfield 70, 3) := by decide +kernel
theorem dX8_clearText_9 : decode cX8_clearText 9 = .ok (.istore_n 1, 1) := by decide +kernel
theorem dX8_clearText_10 : decode cX8_clearText 10 = .ok (.aload_n 0, 1) := by decide +kernel
theorem dX8_clearText_11 : decode cX8_clearText 11 = .ok (.iconst 0, 1) := by decide +kernel
theorem dX8_clearText_12 : decode cX8_clearText 12 = .ok (.putfield 70, 3) := by decide +kernel
theorem dX8_clearText_15 : decode cX8_clearText 15 = .ok (.iload_n 1, 1) := by decide +kernel
theorem dX8_clearText_16 : decode cX8_clearText 16 = .ok (.ireturn, 1) := by decide +kernel
theorem dX8_here_0 : decode cX8_here 0 = .ok (.aload_n 0, 1) := by decide +kernel
theorem dX8_here_1 : decode cX8_here 1 = .ok (.getfield 73, 3) := by decide +kernel
theorem dX8_here_4 : decode cX8_here 4 = .ok (.aload_n 0, 1) := by decide +kernel
theorem dX8_here_5 : decode cX8_here 5 = .ok (.getfield 70, 3) := by decide +kernel
theorem dX8_here_8 : decode cX8_here 8 = .ok (.if_icmp .ge 30, 3) := by decide +kernel
theorem dX8_here_11 : decode cX8_here 11 = .ok (.aload_n 0, 1) := by decide +kernel
theorem dX8_here_12 : decode cX8_here 12 = .ok (.getfield 19, 3) := by decide +kernel
theorem dX8_here_15 : decode cX8_here 15 = .ok (.aload_n 0, 1) := by decide +kernel
theorem dX8_here_16 : decode cX8_here 16 = .ok (.getfield 73, 3) := by decide +kernel
theorem dX8_here_19 : decode cX8_here 19 = .ok (.iaload, 1) := by decide +kernel
theorem dX8_here_20 : decode cX8_here 20 = .ok (.bipush 32, 2) := by decide +kernel
theorem dX8_here_22 : decode cX8_here 22 = .ok (.if_icmp .ne 16, 3) := by decide +kernel
theorem dX8_here_25 : decode cX8_here 25 = .ok (.aload_n 0, 1) := by decide +kernel
theorem dX8_here_26 : decode cX8_here 26 = .ok (.dup, 1) := by decide +kernel
theorem dX8_here_27 : decode cX8_here 27 = .ok (.getfield 73, 3) := by decide +kernel
theorem dX8_here_30 : decode cX8_here 30 = .ok (.iconst 1, 1) := by decide +kernel
theorem dX8_here_31 : decode cX8_here 31 = .ok (.iadd, 1) := by decide +kernel
theorem dX8_here_32 : decode cX8_here 32 = .ok (.putfield 73, 3) := by decide +kernel
theorem dX8_here_35 : decode cX8_here 35 = .ok (.goto (-35), 3) := by decide +kernel
theorem dX8_here_38 : decode cX8_here 38 = .ok (.aload_n 0, 1) := by decide +kernel
theorem dX8_here_39 : decode cX8_here 39 = .ok (.getfield 73, 3) := by decide +kernel
theorem dX8_here_42 : decode cX8_here 42 = .ok (.aload_n 0, 1) := by decide +kernel
theorem dX8_here_43 : decode cX8_here 43 = .ok (.getfield 70, 3) := by decide +kernel
theorem dX8_here_46 : decode cX8_here 46 = .ok (.if_icmp .ge 15, 3) := by decide +kernel
theorem dX8_here_49 : decode cX8_here 49 = .ok (.aload_n 0, 1) := by decide +kernel
theorem dX8_here_50 : decode cX8_here 50 = .ok (.getfield 19, 3) := by decide +kernel
theorem dX8_here_53 : decode cX8_here 53 = .ok (.aload_n 0, 1) := by decide +kernel
theorem dX8_here_54 : decode cX8_here 54 = .ok (.getfield 73, 3) := by decide +kernel
theorem dX8_here_57 : decode cX8_here 57 = .ok (.iaload, 1) := by decide +kernel
theorem dX8_here_58 : decode cX8_here 58 = .ok (.goto 4, 3) := by decide +kernel
theorem dX8_here_61 : decode cX8_here 61 = .ok (.iconst (-1), 1) := by decide +kernel
theorem dX8_here_62 : decode cX8_here 62 = .ok (.ireturn, 1) := by decide +kernel
theorem dX8_takes_0 : decode cX8_takes 0 = .ok (.aload_n 0, 1) := by decide +kernel
theorem dX8_takes_1 : decode cX8_takes 1 = .ok (.invokevirtual 76, 3) := by decide +kernel
theorem dX8_takes_4 : decode cX8_takes 4 = .ok (.iload_n 1, 1) := by decide +kernel
theorem dX8_takes_5 : decode cX8_takes 5 = .ok (.if_icmp .ne 7, 3) := by decide +kernel
theorem dX8_takes_8 : decode cX8_takes 8 = .ok (.iconst 1, 1) := by decide +kernel
theorem dX8_takes_9 : decode cX8_takes 9 = .ok (.goto 4, 3) := by decide +kernel
theorem dX8_takes_12 : decode cX8_takes 12 = .ok (.iconst 0, 1) := by decide +kernel
theorem dX8_takes_13 : decode cX8_takes 13 = .ok (.istore_n 2, 1) := by decide +kernel
theorem dX8_takes_14 : decode cX8_takes 14 = .ok (.aload_n 0, 1) := by decide +kernel
theorem dX8_takes_15 : decode cX8_takes 15 = .ok (.dup, 1) := by decide +kernel
theorem dX8_takes_16 : decode cX8_takes 16 = .ok (.getfield 73, 3) := by decide +kernel
theorem dX8_takes_19 : decode cX8_takes 19 = .ok (.iload_n 2, 1) := by decide +kernel
theorem dX8_takes_20 : decode cX8_takes 20 = .ok (.ifCond .eq 7, 3) := by decide +kernel
theorem dX8_takes_23 : decode cX8_takes 23 = .ok (.iconst 1, 1) := by decide +kernel
theorem dX8_takes_24 : decode cX8_takes 24 = .ok (.goto 4, 3) := by decide +kernel
theorem dX8_takes_27 : decode cX8_takes 27 = .ok (.iconst 0, 1) := by decide +kernel
theorem dX8_takes_28 : decode cX8_takes 28 = .ok (.iadd, 1) := by decide +kernel
theorem dX8_takes_29 : decode cX8_takes 29 = .ok (.putfield 73, 3) := by decide +kernel
theorem dX8_takes_32 : decode cX8_takes 32 = .ok (.iload_n 2, 1) := by decide +kernel
theorem dX8_takes_33 : decode cX8_takes 33 = .ok (.ireturn, 1) := by decide +kernel
theorem dX8_isDigit_0 : decode cX8_isDigit 0 = .ok (.aload_n 0, 1) := by decide +kernel
theorem dX8_isDigit_1 : decode cX8_isDigit 1 = .ok (.invokevirtual 76, 3) := by decide +kernel
theorem dX8_isDigit_4 : decode cX8_isDigit 4 = .ok (.bipush 48, 2) := by decide +kernel
theorem dX8_isDigit_6 : decode cX8_isDigit 6 = .ok (.bipush 57, 2) := by decide +kernel
theorem dX8_isDigit_8 : decode cX8_isDigit 8 = .ok (.invokestatic 39, 3) := by decide +kernel
theorem dX8_isDigit_11 : decode cX8_isDigit 11 = .ok (.ireturn, 1) := by decide +kernel
theorem dX8_isNumber_0 : decode cX8_isNumber 0 = .ok (.aload_n 0, 1) := by decide +kernel
theorem dX8_isNumber_1 : decode cX8_isNumber 1 = .ok (.invokevirtual 80, 3) := by decide +kernel
theorem dX8_isNumber_4 : decode cX8_isNumber 4 = .ok (.ifCond .ne 5, 3) := by decide +kernel
theorem dX8_isNumber_7 : decode cX8_isNumber 7 = .ok (.iconst 0, 1) := by decide +kernel
theorem dX8_isNumber_8 : decode cX8_isNumber 8 = .ok (.ireturn, 1) := by decide +kernel
theorem dX8_isNumber_9 : decode cX8_isNumber 9 = .ok (.aload_n 0, 1) := by decide +kernel
theorem dX8_isNumber_10 : decode cX8_isNumber 10 = .ok (.getfield 73, 3) := by decide +kernel
theorem dX8_isNumber_13 : decode cX8_isNumber 13 = .ok (.iconst 1, 1) := by decide +kernel
theorem dX8_isNumber_14 : decode cX8_isNumber 14 = .ok (.iadd, 1) := by decide +kernel
theorem dX8_isNumber_15 : decode cX8_isNumber 15 = .ok (.istore_n 1, 1) := by decide +kernel
theorem dX8_isNumber_16 : decode cX8_isNumber 16 = .ok (.iload_n 1, 1) := by decide +kernel
theorem dX8_isNumber_17 : decode cX8_isNumber 17 = .ok (.aload_n 0, 1) := by decide +kernel
theorem dX8_isNumber_18 : decode cX8_isNumber 18 = .ok (.getfield 70, 3) := by decide +kernel
theorem dX8_isNumber_21 : decode cX8_isNumber 21 = .ok (.if_icmp .ge 20, 3) := by decide +kernel
theorem dX8_isNumber_24 : decode cX8_isNumber 24 = .ok (.aload_n 0, 1) := by decide +kernel
theorem dX8_isNumber_25 : decode cX8_isNumber 25 = .ok (.getfield 19, 3) := by decide +kernel
theorem dX8_isNumber_28 : decode cX8_isNumber 28 = .ok (.iload_n 1, 1) := by decide +kernel
theorem dX8_isNumber_29 : decode cX8_isNumber 29 = .ok (.iaload, 1) := by decide +kernel
theorem dX8_isNumber_30 : decode cX8_isNumber 30 = .ok (.bipush 32, 2) := by decide +kernel
theorem dX8_isNumber_32 : decode cX8_isNumber 32 = .ok (.if_icmp .ne 9, 3) := by decide +kernel
theorem dX8_isNumber_35 : decode cX8_isNumber 35 = .ok (.iinc 1 1, 3) := by decide +kernel
theorem dX8_isNumber_38 : decode cX8_isNumber 38 = .ok (.goto (-22), 3) := by decide +kernel
theorem dX8_isNumber_41 : decode cX8_isNumber 41 = .ok (.iload_n 1, 1) := by decide +kernel
theorem dX8_isNumber_42 : decode cX8_isNumber 42 = .ok (.aload_n 0, 1) := by decide +kernel
theorem dX8_isNumber_43 : decode cX8_isNumber 43 = .ok (.getfield 70, 3) := by decide +kernel
theorem dX8_isNumber_46 : decode cX8_isNumber 46 = .ok (.if_icmp .ge 18, 3) := by decide +kernel
theorem dX8_isNumber_49 : decode cX8_isNumber 49 = .ok (.aload_n 0, 1) := by decide +kernel
theorem dX8_isNumber_50 : decode cX8_isNumber 50 = .ok (.getfield 19, 3) := by decide +kernel
theorem dX8_isNumber_53 : decode cX8_isNumber 53 = .ok (.iload_n 1, 1) := by decide +kernel
theorem dX8_isNumber_54 : decode cX8_isNumber 54 = .ok (.iaload, 1) := by decide +kernel
theorem dX8_isNumber_55 : decode cX8_isNumber 55 = .ok (.bipush 120, 2) := by decide +kernel
theorem dX8_isNumber_57 : decode cX8_isNumber 57 = .ok (.if_icmp .ne 7, 3) := by decide +kernel
theorem dX8_isNumber_60 : decode cX8_isNumber 60 = .ok (.iconst 1, 1) := by decide +kernel
theorem dX8_isNumber_61 : decode cX8_isNumber 61 = .ok (.goto 4, 3) := by decide +kernel
theorem dX8_isNumber_64 : decode cX8_isNumber 64 = .ok (.iconst 0, 1) := by decide +kernel
theorem dX8_isNumber_65 : decode cX8_isNumber 65 = .ok (.ireturn, 1) := by decide +kernel
theorem dX8_readsShafts_0 : decode cX8_readsShafts 0 = .ok (.aload_n 0, 1) := by decide +kernel
theorem dX8_readsShafts_1 : decode cX8_readsShafts 1 = .ok (.bipush 45, 2) := by decide +kernel
theorem dX8_readsShafts_3 : decode cX8_readsShafts 3 = .ok (.invokevirtual 84, 3) := by decide +kernel
theorem dX8_readsShafts_6 : decode cX8_readsShafts 6 = .ok (.ifCond .eq 5, 3) := by decide +kernel
theorem dX8_readsShafts_9 : decode cX8_readsShafts 9 = .ok (.iconst 0, 1) := by decide +kernel
theorem dX8_readsShafts_10 : decode cX8_readsShafts 10 = .ok (.ireturn, 1) := by decide +kernel
theorem dX8_readsShafts_11 : decode cX8_readsShafts 11 = .ok (.iconst 0, 1) := by decide +kernel
theorem dX8_readsShafts_12 : decode cX8_readsShafts 12 = .ok (.istore_n 1, 1) := by decide +kernel
theorem dX8_readsShafts_13 : decode cX8_readsShafts 13 = .ok (.aload_n 0, 1) := by decide +kernel
theorem dX8_readsShafts_14 : decode cX8_readsShafts 14 = .ok (.invokevirtual 80, 3) := by decide +kernel
theorem dX8_readsShafts_17 : decode cX8_readsShafts 17 = .ok (.ifCond .eq 46, 3) := by decide +kernel
theorem dX8_readsShafts_20 : decode cX8_readsShafts 20 = .ok (.aload_n 0, 1) := by decide +kernel
theorem dX8_readsShafts_21 : decode cX8_readsShafts 21 = .ok (.invokevirtual 76, 3) := by decide +kernel
theorem dX8_readsShafts_24 : decode cX8_readsShafts 24 = .ok (.bipush 48, 2) := by decide +kernel
theorem dX8_readsShafts_26 : decode cX8_readsShafts 26 = .ok (.isub, 1) := by decide +kernel
theorem dX8_readsShafts_27 : decode cX8_readsShafts 27 = .ok (.istore_n 2, 1) := by decide +kernel
theorem dX8_readsShafts_28 : decode cX8_readsShafts 28 = .ok (.aload_n 0, 1) := by decide +kernel
theorem dX8_readsShafts_29 : decode cX8_readsShafts 29 = .ok (.iload_n 2, 1) := by decide +kernel
theorem dX8_readsShafts_30 : decode cX8_readsShafts 30 = .ok (.invokevirtual 50, 3) := by decide +kernel
theorem dX8_readsShafts_33 : decode cX8_readsShafts 33 = .ok (.ifCond .eq 9, 3) := by decide +kernel
theorem dX8_readsShafts_36 : decode cX8_readsShafts 36 = .ok (.iload_n 1, 1) := by decide +kernel
theorem dX8_readsShafts_37 : decode cX8_readsShafts 37 = .ok (.iload_n 2, 1) := by decide +kernel
theorem dX8_readsShafts_38 : decode cX8_readsShafts 38 = .ok (.ishr, 1) := by decide +kernel
theorem dX8_readsShafts_39 : decode cX8_readsShafts 39 = .ok (.ifCond .eq 5, 3) := by decide +kernel
theorem dX8_readsShafts_42 : decode cX8_readsShafts 42 = .ok (.iconst (-1), 1) := by decide +kernel
theorem dX8_readsShafts_43 : decode cX8_readsShafts 43 = .ok (.ireturn, 1) := by decide +kernel
theorem dX8_readsShafts_44 : decode cX8_readsShafts 44 = .ok (.iload_n 1, 1) := by decide +kernel
theorem dX8_readsShafts_45 : decode cX8_readsShafts 45 = .ok (.iconst 1, 1) := by decide +kernel
theorem dX8_readsShafts_46 : decode cX8_readsShafts 46 = .ok (.iload_n 2, 1) := by decide +kernel
theorem dX8_readsShafts_47 : decode cX8_readsShafts 47 = .ok (.ishl, 1) := by decide +kernel
theorem dX8_readsShafts_48 : decode cX8_readsShafts 48 = .ok (.ior, 1) := by decide +kernel
theorem dX8_readsShafts_49 : decode cX8_readsShafts 49 = .ok (.istore_n 1, 1) := by decide +kernel
theorem dX8_readsShafts_50 : decode cX8_readsShafts 50 = .ok (.aload_n 0, 1) := by decide +kernel
theorem dX8_readsShafts_51 : decode cX8_readsShafts 51 = .ok (.dup, 1) := by decide +kernel
theorem dX8_readsShafts_52 : decode cX8_readsShafts 52 = .ok (.getfield 73, 3) := by decide +kernel
theorem dX8_readsShafts_55 : decode cX8_readsShafts 55 = .ok (.iconst 1, 1) := by decide +kernel
theorem dX8_readsShafts_56 : decode cX8_readsShafts 56 = .ok (.iadd, 1) := by decide +kernel
theorem dX8_readsShafts_57 : decode cX8_readsShafts 57 = .ok (.putfield 73, 3) := by decide +kernel
theorem dX8_readsShafts_60 : decode cX8_readsShafts 60 = .ok (.goto (-47), 3) := by decide +kernel
theorem dX8_readsShafts_63 : decode cX8_readsShafts 63 = .ok (.iload_n 1, 1) := by decide +kernel
theorem dX8_readsShafts_64 : decode cX8_readsShafts 64 = .ok (.ifCond .ne 7, 3) := by decide +kernel
theorem dX8_readsShafts_67 : decode cX8_readsShafts 67 = .ok (.iconst (-1), 1) := by decide +kernel
theorem dX8_readsShafts_68 : decode cX8_readsShafts 68 = .ok (.goto 4, 3) := by decide +kernel
theorem dX8_readsShafts_71 : decode cX8_readsShafts 71 = .ok (.iload_n 1, 1) := by decide +kernel
theorem dX8_readsShafts_72 : decode cX8_readsShafts 72 = .ok (.ireturn, 1) := by decide +kernel
theorem dX8_readsBar_0 : decode cX8_readsBar 0 = .ok (.aload_n 0, 1) := by decide +kernel
theorem dX8_readsBar_1 : decode cX8_readsBar 1 = .ok (.getfield 87, 3) := by decide +kernel
theorem dX8_readsBar_4 : decode cX8_readsBar 4 = .ok (.bipush 24, 2) := by decide +kernel
theorem dX8_readsBar_6 : decode cX8_readsBar 6 = .ok (.if_icmp .ne 19, 3) := by decide +kernel
theorem dX8_readsBar_9 : decode cX8_readsBar 9 = .ok (.aload_n 0, 1) := by decide +kernel
theorem dX8_readsBar_10 : decode cX8_readsBar 10 = .ok (.invokevirtual 76, 3) := by decide +kernel
theorem dX8_readsBar_13 : decode cX8_readsBar 13 = .ok (.sipush 999, 3) := by decide +kernel
theorem dX8_readsBar_16 : decode cX8_readsBar 16 = .ok (.if_icmp .le 7, 3) := by decide +kernel
theorem dX8_readsBar_19 : decode cX8_readsBar 19 = .ok (.iconst 1, 1) := by decide +kernel
theorem dX8_readsBar_20 : decode cX8_readsBar 20 = .ok (.goto 4, 3) := by decide +kernel
theorem dX8_readsBar_23 : decode cX8_readsBar 23 = .ok (.iconst 0, 1) := by decide +kernel
theorem dX8_readsBar_24 : decode cX8_readsBar 24 = .ok (.ireturn, 1) := by decide +kernel
theorem dX8_readsBar_25 : decode cX8_readsBar 25 = .ok (.aload_n 0, 1) := by decide +kernel
theorem dX8_readsBar_26 : decode cX8_readsBar 26 = .ok (.invokevirtual 90, 3) := by decide +kernel
theorem dX8_readsBar_29 : decode cX8_readsBar 29 = .ok (.istore_n 1, 1) := by decide +kernel
theorem dX8_readsBar_30 : decode cX8_readsBar 30 = .ok (.iload_n 1, 1) := by decide +kernel
theorem dX8_readsBar_31 : decode cX8_readsBar 31 = .ok (.ifCond .ge 5, 3) := by decide +kernel
theorem dX8_readsBar_34 : decode cX8_readsBar 34 = .ok (.iconst 0, 1) := by decide +kernel
theorem dX8_readsBar_35 : decode cX8_readsBar 35 = .ok (.ireturn, 1) := by decide +kernel
theorem dX8_readsBar_36 : decode cX8_readsBar 36 = .ok (.iconst 0, 1) := by decide +kernel
theorem dX8_readsBar_37 : decode cX8_readsBar 37 = .ok (.istore_n 2, 1) := by decide +kernel
theorem dX8_readsBar_38 : decode cX8_readsBar 38 = .ok (.aload_n 0, 1) := by decide +kernel
theorem dX8_readsBar_39 : decode cX8_readsBar 39 = .ok (.bipush 99, 2) := by decide +kernel
theorem dX8_readsBar_41 : decode cX8_readsBar 41 = .ok (.invokevirtual 84, 3) := by decide +kernel
theorem dX8_readsBar_44 : decode cX8_readsBar 44 = .ok (.ifCond .eq 30, 3) := by decide +kernel
theorem dX8_readsBar_47 : decode cX8_readsBar 47 = .ok (.aload_n 0, 1) := by decide +kernel
theorem dX8_readsBar_48 : decode cX8_readsBar 48 = .ok (.invokevirtual 80, 3) := by decide +kernel
theorem dX8_readsBar_51 : decode cX8_readsBar 51 = .ok (.ifCond .ne 5, 3) := by decide +kernel
theorem dX8_readsBar_54 : decode cX8_readsBar 54 = .ok (.iconst 0, 1) := by decide +kernel
theorem dX8_readsBar_55 : decode cX8_readsBar 55 = .ok (.ireturn, 1) := by decide +kernel
theorem dX8_readsBar_56 : decode cX8_readsBar 56 = .ok (.aload_n 0, 1) := by decide +kernel
theorem dX8_readsBar_57 : decode cX8_readsBar 57 = .ok (.invokevirtual 76, 3) := by decide +kernel
theorem dX8_readsBar_60 : decode cX8_readsBar 60 = .ok (.bipush 48, 2) := by decide +kernel
theorem dX8_readsBar_62 : decode cX8_readsBar 62 = .ok (.isub, 1) := by decide +kernel
theorem dX8_readsBar_63 : decode cX8_readsBar 63 = .ok (.istore_n 2, 1) := by decide +kernel
theorem dX8_readsBar_64 : decode cX8_readsBar 64 = .ok (.aload_n 0, 1) := by decide +kernel
theorem dX8_readsBar_65 : decode cX8_readsBar 65 = .ok (.dup, 1) := by decide +kernel
theorem dX8_readsBar_66 : decode cX8_readsBar 66 = .ok (.getfield 73, 3) := by decide +kernel
theorem dX8_readsBar_69 : decode cX8_readsBar 69 = .ok (.iconst 1, 1) := by decide +kernel
theorem dX8_readsBar_70 : decode cX8_readsBar 70 = .ok (.iadd, 1) := by decide +kernel
theorem dX8_readsBar_71 : decode cX8_readsBar 71 = .ok (.putfield 73, 3) := by decide +kernel
theorem dX8_readsBar_74 : decode cX8_readsBar 74 = .ok (.aload_n 0, 1) := by decide +kernel
theorem dX8_readsBar_75 : decode cX8_readsBar 75 = .ok (.getfield 22, 3) := by decide +kernel
theorem dX8_readsBar_78 : decode cX8_readsBar 78 = .ok (.aload_n 0, 1) := by decide +kernel
theorem dX8_readsBar_79 : decode cX8_readsBar 79 = .ok (.getfield 87, 3) := by decide +kernel
theorem dX8_readsBar_82 : decode cX8_readsBar 82 = .ok (.iload_n 1, 1) := by decide +kernel
theorem dX8_readsBar_83 : decode cX8_readsBar 83 = .ok (.iastore, 1) := by decide +kernel
theorem dX8_readsBar_84 : decode cX8_readsBar 84 = .ok (.aload_n 0, 1) := by decide +kernel
theorem dX8_readsBar_85 : decode cX8_readsBar 85 = .ok (.getfield 25, 3) := by decide +kernel
theorem dX8_readsBar_88 : decode cX8_readsBar 88 = .ok (.aload_n 0, 1) := by decide +kernel
theorem dX8_readsBar_89 : decode cX8_readsBar 89 = .ok (.getfield 87, 3) := by decide +kernel
theorem dX8_readsBar_92 : decode cX8_readsBar 92 = .ok (.iload_n 2, 1) := by decide +kernel
theorem dX8_readsBar_93 : decode cX8_readsBar 93 = .ok (.iastore, 1) := by decide +kernel
theorem dX8_readsBar_94 : decode cX8_readsBar 94 = .ok (.aload_n 0, 1) := by decide +kernel
theorem dX8_readsBar_95 : decode cX8_readsBar 95 = .ok (.dup, 1) := by decide +kernel
theorem dX8_readsBar_96 : decode cX8_readsBar 96 = .ok (.getfield 87, 3) := by decide +kernel
theorem dX8_readsBar_99 : decode cX8_readsBar 99 = .ok (.iconst 1, 1) := by decide +kernel
theorem dX8_readsBar_100 : decode cX8_readsBar 100 = .ok (.iadd, 1) := by decide +kernel
theorem dX8_readsBar_101 : decode cX8_readsBar 101 = .ok (.putfield 87, 3) := by decide +kernel
theorem dX8_readsBar_104 : decode cX8_readsBar 104 = .ok (.iconst 1, 1) := by decide +kernel
theorem dX8_readsBar_105 : decode cX8_readsBar 105 = .ok (.ireturn, 1) := by decide +kernel
theorem dX8_readsBars_0 : decode cX8_readsBars 0 = .ok (.aload_n 0, 1) := by decide +kernel
theorem dX8_readsBars_1 : decode cX8_readsBars 1 = .ok (.invokevirtual 93, 3) := by decide +kernel
theorem dX8_readsBars_4 : decode cX8_readsBars 4 = .ok (.istore_n 1, 1) := by decide +kernel
theorem dX8_readsBars_5 : decode cX8_readsBars 5 = .ok (.iload_n 1, 1) := by decide +kernel
theorem dX8_readsBars_6 : decode cX8_readsBars 6 = .ok (.ifCond .eq 20, 3) := by decide +kernel
theorem dX8_readsBars_9 : decode cX8_readsBars 9 = .ok (.aload_n 0, 1) := by decide +kernel
theorem dX8_readsBars_10 : decode cX8_readsBars 10 = .ok (.bipush 59, 2) := by decide +kernel
theorem dX8_readsBars_12 : decode cX8_readsBars 12 = .ok (.invokevirtual 84, 3) := by decide +kernel
theorem dX8_readsBars_15 : decode cX8_readsBars 15 = .ok (.ifCond .eq 11, 3) := by decide +kernel
theorem dX8_readsBars_18 : decode cX8_readsBars 18 = .ok (.aload_n 0, 1) := by decide +kernel
theorem dX8_readsBars_19 : decode cX8_readsBars 19 = .ok (.invokevirtual 93, 3) := by decide +kernel
theorem dX8_readsBars_22 : decode cX8_readsBars 22 = .ok (.istore_n 1, 1) := by decide +kernel
theorem dX8_readsBars_23 : decode cX8_readsBars 23 = .ok (.goto (-18), 3) := by decide +kernel
theorem dX8_readsBars_26 : decode cX8_readsBars 26 = .ok (.iload_n 1, 1) := by decide +kernel
theorem dX8_readsBars_27 : decode cX8_readsBars 27 = .ok (.ireturn, 1) := by decide +kernel
theorem dX8_readsRepeated_0 : decode cX8_readsRepeated 0 = .ok (.aload_n 0, 1) := by decide +kernel
theorem dX8_readsRepeated_1 : decode cX8_readsRepeated 1 = .ok (.invokevirtual 76, 3) := by decide +kernel
theorem dX8_readsRepeated_4 : decode cX8_readsRepeated 4 = .ok (.bipush 48, 2) := by decide +kernel
theorem dX8_readsRepeated_6 : decode cX8_readsRepeated 6 = .ok (.isub, 1) := by decide +kernel
theorem dX8_readsRepeated_7 : decode cX8_readsRepeated 7 = .ok (.istore_n 1, 1) := by decide +kernel
theorem dX8_readsRepeated_8 : decode cX8_readsRepeated 8 = .ok (.iload_n 1, 1) := by decide +kernel
theorem dX8_readsRepeated_9 : decode cX8_readsRepeated 9 = .ok (.iconst 2, 1) := by decide +kernel
theorem dX8_readsRepeated_10 : decode cX8_readsRepeated 10 = .ok (.if_icmp .ge 5, 3) := by decide +kernel
theorem dX8_readsRepeated_13 : decode cX8_readsRepeated 13 = .ok (.iconst 0, 1) := by decide +kernel
theorem dX8_readsRepeated_14 : decode cX8_readsRepeated 14 = .ok (.ireturn, 1) := by decide +kernel
theorem dX8_readsRepeated_15 : decode cX8_readsRepeated 15 = .ok (.aload_n 0, 1) := by decide +kernel
theorem dX8_readsRepeated_16 : decode cX8_readsRepeated 16 = .ok (.dup, 1) := by decide +kernel
theorem dX8_readsRepeated_17 : decode cX8_readsRepeated 17 = .ok (.getfield 73, 3) := by decide +kernel
theorem dX8_readsRepeated_20 : decode cX8_readsRepeated 20 = .ok (.iconst 1, 1) := by decide +kernel
theorem dX8_readsRepeated_21 : decode cX8_readsRepeated 21 = .ok (.iadd, 1) := by decide +kernel
theorem dX8_readsRepeated_22 : decode cX8_readsRepeated 22 = .ok (.putfield 73, 3) := by decide +kernel
theorem dX8_readsRepeated_25 : decode cX8_readsRepeated 25 = .ok (.aload_n 0, 1) := by decide +kernel
theorem dX8_readsRepeated_26 : decode cX8_readsRepeated 26 = .ok (.bipush 120, 2) := by decide +kernel
theorem dX8_readsRepeated_28 : decode cX8_readsRepeated 28 = .ok (.invokevirtual 84, 3) := by decide +kernel
theorem dX8_readsRepeated_31 : decode cX8_readsRepeated 31 = .ok (.ifCond .eq 16, 3) := by decide +kernel
theorem dX8_readsRepeated_34 : decode cX8_readsRepeated 34 = .ok (.aload_n 0, 1) := by decide +kernel
theorem dX8_readsRepeated_35 : decode cX8_readsRepeated 35 = .ok (.bipush 40, 2) := by decide +kernel
theorem dX8_readsRepeated_37 : decode cX8_readsRepeated 37 = .ok (.invokevirtual 84, 3) := by decide +kernel
theorem dX8_readsRepeated_40 : decode cX8_readsRepeated 40 = .ok (.ifCond .eq 7, 3) := by decide +kernel
theorem dX8_readsRepeated_43 : decode cX8_readsRepeated 43 = .ok (.iconst 1, 1) := by decide +kernel
theorem dX8_readsRepeated_44 : decode cX8_readsRepeated 44 = .ok (.goto 4, 3) := by decide +kernel
theorem dX8_readsRepeated_47 : decode cX8_readsRepeated 47 = .ok (.iconst 0, 1) := by decide +kernel
theorem dX8_readsRepeated_48 : decode cX8_readsRepeated 48 = .ok (.istore_n 2, 1) := by decide +kernel
theorem dX8_readsRepeated_49 : decode cX8_readsRepeated 49 = .ok (.aload_n 0, 1) := by decide +kernel
theorem dX8_readsRepeated_50 : decode cX8_readsRepeated 50 = .ok (.getfield 87, 3) := by decide +kernel
theorem dX8_readsRepeated_53 : decode cX8_readsRepeated 53 = .ok (.istore_n 3, 1) := by decide +kernel
theorem dX8_readsRepeated_54 : decode cX8_readsRepeated 54 = .ok (.iload_n 2, 1) := by decide +kernel
theorem dX8_readsRepeated_55 : decode cX8_readsRepeated 55 = .ok (.ifCond .eq 34, 3) := by decide +kernel
theorem dX8_readsRepeated_58 : decode cX8_readsRepeated 58 = .ok (.aload_n 0, 1) := by decide +kernel
theorem dX8_readsRepeated_59 : decode cX8_readsRepeated 59 = .ok (.invokevirtual 96, 3) := by decide +kernel
theorem dX8_readsRepeated_62 : decode cX8_readsRepeated 62 = .ok (.ifCond .eq 27, 3) := by decide +kernel
theorem dX8_readsRepeated_65 : decode cX8_readsRepeated 65 = .ok (.aload_n 0, 1) := by decide +kernel
theorem dX8_readsRepeated_66 : decode cX8_readsRepeated 66 = .ok (.invokevirtual 76, 3) := by decide +kernel
theorem dX8_readsRepeated_69 : decode cX8_readsRepeated 69 = .ok (.bipush 41, 2) := by decide +kernel
theorem dX8_readsRepeated_71 : decode cX8_readsRepeated 71 = .ok (.if_icmp .ne 18, 3) := by decide +kernel
theorem dX8_readsRepeated_74 : decode cX8_readsRepeated 74 = .ok (.iload_n 3, 1) := by decide +kernel
theorem dX8_readsRepeated_75 : decode cX8_readsRepeated 75 = .ok (.iload_n 1, 1) := by decide +kernel
theorem dX8_readsRepeated_76 : decode cX8_readsRepeated 76 = .ok (.aload_n 0, 1) := by decide +kernel
theorem dX8_readsRepeated_77 : decode cX8_readsRepeated 77 = .ok (.getfield 87, 3) := by decide +kernel
theorem dX8_readsRepeated_80 : decode cX8_readsRepeated 80 = .ok (.iload_n 3, 1) := by decide +kernel
theorem dX8_readsRepeated_81 : decode cX8_readsRepeated 81 = .ok (.isub, 1) := by decide +kernel
theorem dX8_readsRepeated_82 : decode cX8_readsRepeated 82 = .ok (.imul, 1) := by decide +kernel
theorem dX8_readsRepeated_83 : decode cX8_readsRepeated 83 = .ok (.iadd, 1) := by decide +kernel
theorem dX8_readsRepeated_84 : decode cX8_readsRepeated 84 = .ok (.bipush 24, 2) := by decide +kernel
theorem dX8_readsRepeated_86 : decode cX8_readsRepeated 86 = .ok (.if_icmp .le 5, 3) := by decide +kernel
theorem dX8_readsRepeated_89 : decode cX8_readsRepeated 89 = .ok (.iconst 0, 1) := by decide +kernel
theorem dX8_readsRepeated_90 : decode cX8_readsRepeated 90 = .ok (.ireturn, 1) := by decide +kernel
theorem dX8_readsRepeated_91 : decode cX8_readsRepeated 91 = .ok (.aload_n 0, 1) := by decide +kernel
theorem dX8_readsRepeated_92 : decode cX8_readsRepeated 92 = .ok (.dup, 1) := by decide +kernel
theorem dX8_readsRepeated_93 : decode cX8_readsRepeated 93 = .ok (.getfield 73, 3) := by decide +kernel
theorem dX8_readsRepeated_96 : decode cX8_readsRepeated 96 = .ok (.iconst 1, 1) := by decide +kernel
theorem dX8_readsRepeated_97 : decode cX8_readsRepeated 97 = .ok (.iadd, 1) := by decide +kernel
theorem dX8_readsRepeated_98 : decode cX8_readsRepeated 98 = .ok (.putfield 73, 3) := by decide +kernel
theorem dX8_readsRepeated_101 : decode cX8_readsRepeated 101 = .ok (.aload_n 0, 1) := by decide +kernel
theorem dX8_readsRepeated_102 : decode cX8_readsRepeated 102 = .ok (.getfield 87, 3) := by decide +kernel
theorem dX8_readsRepeated_105 : decode cX8_readsRepeated 105 = .ok (.iload_n 3, 1) := by decide +kernel
theorem dX8_readsRepeated_106 : decode cX8_readsRepeated 106 = .ok (.isub, 1) := by decide +kernel
theorem dX8_readsRepeated_107 : decode cX8_readsRepeated 107 = .ok (.istore 4, 2) := by decide +kernel
theorem dX8_readsRepeated_109 : decode cX8_readsRepeated 109 = .ok (.iload 4, 2) := by decide +kernel
theorem dX8_readsRepeated_111 : decode cX8_readsRepeated 111 = .ok (.istore 5, 2) := by decide +kernel
theorem dX8_readsRepeated_113 : decode cX8_readsRepeated 113 = .ok (.iload 5, 2) := by decide +kernel
theorem dX8_readsRepeated_115 : decode cX8_readsRepeated 115 = .ok (.iload_n 1, 1) := by decide +kernel
theorem dX8_readsRepeated_116 : decode cX8_readsRepeated 116 = .ok (.iload 4, 2) := by decide +kernel
theorem dX8_readsRepeated_118 : decode cX8_readsRepeated 118 = .ok (.imul, 1) := by decide +kernel
theorem dX8_readsRepeated_119 : decode cX8_readsRepeated 119 = .ok (.if_icmp .ge 51, 3) := by decide +kernel
theorem dX8_readsRepeated_122 : decode cX8_readsRepeated 122 = .ok (.aload_n 0, 1) := by decide +kernel
theorem dX8_readsRepeated_123 : decode cX8_readsRepeated 123 = .ok (.getfield 22, 3) := by decide +kernel
theorem dX8_readsRepeated_126 : decode cX8_readsRepeated 126 = .ok (.iload_n 3, 1) := by decide +kernel
theorem dX8_readsRepeated_127 : decode cX8_readsRepeated 127 = .ok (.iload 5, 2) := by decide +kernel
theorem dX8_readsRepeated_129 : decode cX8_readsRepeated 129 = .ok (.iadd, 1) := by decide +kernel
theorem dX8_readsRepeated_130 : decode cX8_readsRepeated 130 = .ok (.aload_n 0, 1) := by decide +kernel
theorem dX8_readsRepeated_131 : decode cX8_readsRepeated 131 = .ok (.getfield 22, 3) := by decide +kernel
theorem dX8_readsRepeated_134 : decode cX8_readsRepeated 134 = .ok (.iload_n 3, 1) := by decide +kernel
theorem dX8_readsRepeated_135 : decode cX8_readsRepeated 135 = .ok (.iload 5, 2) := by decide +kernel
theorem dX8_readsRepeated_137 : decode cX8_readsRepeated 137 = .ok (.iadd, 1) := by decide +kernel
theorem dX8_readsRepeated_138 : decode cX8_readsRepeated 138 = .ok (.iload 4, 2) := by decide +kernel
theorem dX8_readsRepeated_140 : decode cX8_readsRepeated 140 = .ok (.isub, 1) := by decide +kernel
theorem dX8_readsRepeated_141 : decode cX8_readsRepeated 141 = .ok (.iaload, 1) := by decide +kernel
theorem dX8_readsRepeated_142 : decode cX8_readsRepeated 142 = .ok (.iastore, 1) := by decide +kernel
theorem dX8_readsRepeated_143 : decode cX8_readsRepeated 143 = .ok (.aload_n 0, 1) := by decide +kernel
theorem dX8_readsRepeated_144 : decode cX8_readsRepeated 144 = .ok (.getfield 25, 3) := by decide +kernel
theorem dX8_readsRepeated_147 : decode cX8_readsRepeated 147 = .ok (.iload_n 3, 1) := by decide +kernel
theorem dX8_readsRepeated_148 : decode cX8_readsRepeated 148 = .ok (.iload 5, 2) := by decide +kernel
theorem dX8_readsRepeated_150 : decode cX8_readsRepeated 150 = .ok (.iadd, 1) := by decide +kernel
theorem dX8_readsRepeated_151 : decode cX8_readsRepeated 151 = .ok (.aload_n 0, 1) := by decide +kernel
theorem dX8_readsRepeated_152 : decode cX8_readsRepeated 152 = .ok (.getfield 25, 3) := by decide +kernel
theorem dX8_readsRepeated_155 : decode cX8_readsRepeated 155 = .ok (.iload_n 3, 1) := by decide +kernel
theorem dX8_readsRepeated_156 : decode cX8_readsRepeated 156 = .ok (.iload 5, 2) := by decide +kernel
theorem dX8_readsRepeated_158 : decode cX8_readsRepeated 158 = .ok (.iadd, 1) := by decide +kernel
theorem dX8_readsRepeated_159 : decode cX8_readsRepeated 159 = .ok (.iload 4, 2) := by decide +kernel
theorem dX8_readsRepeated_161 : decode cX8_readsRepeated 161 = .ok (.isub, 1) := by decide +kernel
theorem dX8_readsRepeated_162 : decode cX8_readsRepeated 162 = .ok (.iaload, 1) := by decide +kernel
theorem dX8_readsRepeated_163 : decode cX8_readsRepeated 163 = .ok (.iastore, 1) := by decide +kernel
theorem dX8_readsRepeated_164 : decode cX8_readsRepeated 164 = .ok (.iinc 5 1, 3) := by decide +kernel
theorem dX8_readsRepeated_167 : decode cX8_readsRepeated 167 = .ok (.goto (-54), 3) := by decide +kernel
theorem dX8_readsRepeated_170 : decode cX8_readsRepeated 170 = .ok (.aload_n 0, 1) := by decide +kernel
theorem dX8_readsRepeated_171 : decode cX8_readsRepeated 171 = .ok (.iload_n 3, 1) := by decide +kernel
theorem dX8_readsRepeated_172 : decode cX8_readsRepeated 172 = .ok (.iload_n 1, 1) := by decide +kernel
theorem dX8_readsRepeated_173 : decode cX8_readsRepeated 173 = .ok (.iload 4, 2) := by decide +kernel
theorem dX8_readsRepeated_175 : decode cX8_readsRepeated 175 = .ok (.imul, 1) := by decide +kernel
theorem dX8_readsRepeated_176 : decode cX8_readsRepeated 176 = .ok (.iadd, 1) := by decide +kernel
theorem dX8_readsRepeated_177 : decode cX8_readsRepeated 177 = .ok (.putfield 87, 3) := by decide +kernel
theorem dX8_readsRepeated_180 : decode cX8_readsRepeated 180 = .ok (.iconst 1, 1) := by decide +kernel
theorem dX8_readsRepeated_181 : decode cX8_readsRepeated 181 = .ok (.ireturn, 1) := by decide +kernel
theorem dX8_readsPart_0 : decode cX8_readsPart 0 = .ok (.aload_n 0, 1) := by decide +kernel
theorem dX8_readsPart_1 : decode cX8_readsPart 1 = .ok (.invokevirtual 99, 3) := by decide +kernel
theorem dX8_readsPart_4 : decode cX8_readsPart 4 = .ok (.ifCond .eq 10, 3) := by decide +kernel
theorem dX8_readsPart_7 : decode cX8_readsPart 7 = .ok (.aload_n 0, 1) := by decide +kernel
theorem dX8_readsPart_8 : decode cX8_readsPart 8 = .ok (.invokevirtual 102, 3) := by decide +kernel
theorem dX8_readsPart_11 : decode cX8_readsPart 11 = .ok (.goto 7, 3) := by decide +kernel
theorem dX8_readsPart_14 : decode cX8_readsPart 14 = .ok (.aload_n 0, 1) := by decide +kernel
theorem dX8_readsPart_15 : decode cX8_readsPart 15 = .ok (.invokevirtual 93, 3) := by decide +kernel
theorem dX8_readsPart_18 : decode cX8_readsPart 18 = .ok (.ireturn, 1) := by decide +kernel
theorem dX8_load_0 : decode cX8_load 0 = .ok (.aload_n 0, 1) := by decide +kernel
theorem dX8_load_1 : decode cX8_load 1 = .ok (.iconst 0, 1) := by decide +kernel
theorem dX8_load_2 : decode cX8_load 2 = .ok (.putfield 28, 3) := by decide +kernel
theorem dX8_load_5 : decode cX8_load 5 = .ok (.aload_n 0, 1) := by decide +kernel
theorem dX8_load_6 : decode cX8_load 6 = .ok (.iconst 0, 1) := by decide +kernel
theorem dX8_load_7 : decode cX8_load 7 = .ok (.putfield 87, 3) := by decide +kernel
theorem dX8_load_10 : decode cX8_load 10 = .ok (.aload_n 0, 1) := by decide +kernel
theorem dX8_load_11 : decode cX8_load 11 = .ok (.iconst 0, 1) := by decide +kernel
theorem dX8_load_12 : decode cX8_load 12 = .ok (.putfield 73, 3) := by decide +kernel
theorem dX8_load_15 : decode cX8_load 15 = .ok (.aload_n 0, 1) := by decide +kernel
theorem dX8_load_16 : decode cX8_load 16 = .ok (.invokevirtual 105, 3) := by decide +kernel
theorem dX8_load_19 : decode cX8_load 19 = .ok (.istore_n 1, 1) := by decide +kernel
theorem dX8_load_20 : decode cX8_load 20 = .ok (.iload_n 1, 1) := by decide +kernel
theorem dX8_load_21 : decode cX8_load 21 = .ok (.ifCond .eq 20, 3) := by decide +kernel
theorem dX8_load_24 : decode cX8_load 24 = .ok (.aload_n 0, 1) := by decide +kernel
theorem dX8_load_25 : decode cX8_load 25 = .ok (.bipush 59, 2) := by decide +kernel
theorem dX8_load_27 : decode cX8_load 27 = .ok (.invokevirtual 84, 3) := by decide +kernel
theorem dX8_load_30 : decode cX8_load 30 = .ok (.ifCond .eq 11, 3) := by decide +kernel
theorem dX8_load_33 : decode cX8_load 33 = .ok (.aload_n 0, 1) := by decide +kernel
theorem dX8_load_34 : decode cX8_load 34 = .ok (.invokevirtual 105, 3) := by decide +kernel
theorem dX8_load_37 : decode cX8_load 37 = .ok (.istore_n 1, 1) := by decide +kernel
theorem dX8_load_38 : decode cX8_load 38 = .ok (.goto (-18), 3) := by decide +kernel
theorem dX8_load_41 : decode cX8_load 41 = .ok (.iload_n 1, 1) := by decide +kernel
theorem dX8_load_42 : decode cX8_load 42 = .ok (.ifCond .eq 10, 3) := by decide +kernel
theorem dX8_load_45 : decode cX8_load 45 = .ok (.aload_n 0, 1) := by decide +kernel
theorem dX8_load_46 : decode cX8_load 46 = .ok (.invokevirtual 76, 3) := by decide +kernel
theorem dX8_load_49 : decode cX8_load 49 = .ok (.ifCond .lt 11, 3) := by decide +kernel
theorem dX8_load_52 : decode cX8_load 52 = .ok (.bipush (-10), 2) := by decide +kernel
theorem dX8_load_54 : decode cX8_load 54 = .ok (.aload_n 0, 1) := by decide +kernel
theorem dX8_load_55 : decode cX8_load 55 = .ok (.getfield 73, 3) := by decide +kernel
theorem dX8_load_58 : decode cX8_load 58 = .ok (.isub, 1) := by decide +kernel
theorem dX8_load_59 : decode cX8_load 59 = .ok (.ireturn, 1) := by decide +kernel
theorem dX8_load_60 : decode cX8_load 60 = .ok (.aload_n 0, 1) := by decide +kernel
theorem dX8_load_61 : decode cX8_load 61 = .ok (.invokevirtual 43, 3) := by decide +kernel
theorem dX8_load_64 : decode cX8_load 64 = .ok (.aload_n 0, 1) := by decide +kernel
theorem dX8_load_65 : decode cX8_load 65 = .ok (.getfield 7, 3) := by decide +kernel
theorem dX8_load_68 : decode cX8_load 68 = .ok (.iconst 2, 1) := by decide +kernel
theorem dX8_load_69 : decode cX8_load 69 = .ok (.aload_n 0, 1) := by decide +kernel
theorem dX8_load_70 : decode cX8_load 70 = .ok (.getfield 87, 3) := by decide +kernel
theorem dX8_load_73 : decode cX8_load 73 = .ok (.iastore, 1) := by decide +kernel
theorem dX8_load_74 : decode cX8_load 74 = .ok (.aload_n 0, 1) := by decide +kernel
theorem dX8_load_75 : decode cX8_load 75 = .ok (.getfield 7, 3) := by decide +kernel
theorem dX8_load_78 : decode cX8_load 78 = .ok (.iconst 3, 1) := by decide +kernel
theorem dX8_load_79 : decode cX8_load 79 = .ok (.iconst 0, 1) := by decide +kernel
theorem dX8_load_80 : decode cX8_load 80 = .ok (.iastore, 1) := by decide +kernel
theorem dX8_load_81 : decode cX8_load 81 = .ok (.iconst 0, 1) := by decide +kernel
theorem dX8_load_82 : decode cX8_load 82 = .ok (.istore_n 2, 1) := by decide +kernel
theorem dX8_load_83 : decode cX8_load 83 = .ok (.iload_n 2, 1) := by decide +kernel
theorem dX8_load_84 : decode cX8_load 84 = .ok (.aload_n 0, 1) := by decide +kernel
theorem dX8_load_85 : decode cX8_load 85 = .ok (.getfield 87, 3) := by decide +kernel
theorem dX8_load_88 : decode cX8_load 88 = .ok (.if_icmp .ge 26, 3) := by decide +kernel
theorem dX8_load_91 : decode cX8_load 91 = .ok (.aload_n 0, 1) := by decide +kernel
theorem dX8_load_92 : decode cX8_load 92 = .ok (.iload_n 2, 1) := by decide +kernel
theorem dX8_load_93 : decode cX8_load 93 = .ok (.aload_n 0, 1) := by decide +kernel
theorem dX8_load_94 : decode cX8_load 94 = .ok (.getfield 22, 3) := by decide +kernel
theorem dX8_load_97 : decode cX8_load 97 = .ok (.iload_n 2, 1) := by decide +kernel
theorem dX8_load_98 : decode cX8_load 98 = .ok (.iaload, 1) := by decide +kernel
theorem dX8_load_99 : decode cX8_load 99 = .ok (.aload_n 0, 1) := by decide +kernel
theorem dX8_load_100 : decode cX8_load 100 = .ok (.getfield 25, 3) := by decide +kernel
theorem dX8_load_103 : decode cX8_load 103 = .ok (.iload_n 2, 1) := by decide +kernel
theorem dX8_load_104 : decode cX8_load 104 = .ok (.iaload, 1) := by decide +kernel
theorem dX8_load_105 : decode cX8_load 105 = .ok (.invokevirtual 63, 3) := by decide +kernel
theorem dX8_load_108 : decode cX8_load 108 = .ok (.iinc 2 1, 3) := by decide +kernel
theorem dX8_load_111 : decode cX8_load 111 = .ok (.goto (-28), 3) := by decide +kernel
theorem dX8_load_114 : decode cX8_load 114 = .ok (.aload_n 0, 1) := by decide +kernel
theorem dX8_load_115 : decode cX8_load 115 = .ok (.iconst 0, 1) := by decide +kernel
theorem dX8_load_116 : decode cX8_load 116 = .ok (.putfield 70, 3) := by decide +kernel
theorem dX8_load_119 : decode cX8_load 119 = .ok (.aload_n 0, 1) := by decide +kernel
theorem dX8_load_120 : decode cX8_load 120 = .ok (.getfield 87, 3) := by decide +kernel
theorem dX8_load_123 : decode cX8_load 123 = .ok (.ireturn, 1) := by decide +kernel
theorem dX8_lifted_0 : decode cX8_lifted 0 = .ok (.iload_n 1, 1) := by decide +kernel
theorem dX8_lifted_1 : decode cX8_lifted 1 = .ok (.istore_n 2, 1) := by decide +kernel
theorem dX8_lifted_2 : decode cX8_lifted 2 = .ok (.iconst 0, 1) := by decide +kernel
theorem dX8_lifted_3 : decode cX8_lifted 3 = .ok (.istore_n 3, 1) := by decide +kernel
theorem dX8_lifted_4 : decode cX8_lifted 4 = .ok (.iload_n 3, 1) := by decide +kernel
theorem dX8_lifted_5 : decode cX8_lifted 5 = .ok (.aload_n 0, 1) := by decide +kernel
theorem dX8_lifted_6 : decode cX8_lifted 6 = .ok (.getfield 7, 3) := by decide +kernel
theorem dX8_lifted_9 : decode cX8_lifted 9 = .ok (.iconst 0, 1) := by decide +kernel
theorem dX8_lifted_10 : decode cX8_lifted 10 = .ok (.iaload, 1) := by decide +kernel
theorem dX8_lifted_11 : decode cX8_lifted 11 = .ok (.if_icmp .ge 52, 3) := by decide +kernel
theorem dX8_lifted_14 : decode cX8_lifted 14 = .ok (.aload_n 0, 1) := by decide +kernel
theorem dX8_lifted_15 : decode cX8_lifted 15 = .ok (.getfield 7, 3) := by decide +kernel
theorem dX8_lifted_18 : decode cX8_lifted 18 = .ok (.bipush 70, 2) := by decide +kernel
theorem dX8_lifted_20 : decode cX8_lifted 20 = .ok (.iload_n 3, 1) := by decide +kernel
theorem dX8_lifted_21 : decode cX8_lifted 21 = .ok (.iadd, 1) := by decide +kernel
theorem dX8_lifted_22 : decode cX8_lifted 22 = .ok (.iaload, 1) := by decide +kernel
theorem dX8_lifted_23 : decode cX8_lifted 23 = .ok (.istore 4, 2) := by decide +kernel
theorem dX8_lifted_25 : decode cX8_lifted 25 = .ok (.iload 4, 2) := by decide +kernel
theorem dX8_lifted_27 : decode cX8_lifted 27 = .ok (.iconst 1, 1) := by decide +kernel
theorem dX8_lifted_28 : decode cX8_lifted 28 = .ok (.if_icmp .ne 13, 3) := by decide +kernel
theorem dX8_lifted_31 : decode cX8_lifted 31 = .ok (.iload_n 2, 1) := by decide +kernel
theorem dX8_lifted_32 : decode cX8_lifted 32 = .ok (.iconst 1, 1) := by decide +kernel
theorem dX8_lifted_33 : decode cX8_lifted 33 = .ok (.iload_n 3, 1) := by decide +kernel
theorem dX8_lifted_34 : decode cX8_lifted 34 = .ok (.ishl, 1) := by decide +kernel
theorem dX8_lifted_35 : decode cX8_lifted 35 = .ok (.iconst (-1), 1) := by decide +kernel
theorem dX8_lifted_36 : decode cX8_lifted 36 = .ok (.ixor, 1) := by decide +kernel
theorem dX8_lifted_37 : decode cX8_lifted 37 = .ok (.iand, 1) := by decide +kernel
theorem dX8_lifted_38 : decode cX8_lifted 38 = .ok (.goto 18, 3) := by decide +kernel
theorem dX8_lifted_41 : decode cX8_lifted 41 = .ok (.iload 4, 2) := by decide +kernel
theorem dX8_lifted_43 : decode cX8_lifted 43 = .ok (.iconst 2, 1) := by decide +kernel
theorem dX8_lifted_44 : decode cX8_lifted 44 = .ok (.if_icmp .ne 11, 3) := by decide +kernel
theorem dX8_lifted_47 : decode cX8_lifted 47 = .ok (.iload_n 2, 1) := by decide +kernel
theorem dX8_lifted_48 : decode cX8_lifted 48 = .ok (.iconst 1, 1) := by decide +kernel
theorem dX8_lifted_49 : decode cX8_lifted 49 = .ok (.iload_n 3, 1) := by decide +kernel
theorem dX8_lifted_50 : decode cX8_lifted 50 = .ok (.ishl, 1) := by decide +kernel
theorem dX8_lifted_51 : decode cX8_lifted 51 = .ok (.ior, 1) := by decide +kernel
theorem dX8_lifted_52 : decode cX8_lifted 52 = .ok (.goto 4, 3) := by decide +kernel
theorem dX8_lifted_55 : decode cX8_lifted 55 = .ok (.iload_n 2, 1) := by decide +kernel
theorem dX8_lifted_56 : decode cX8_lifted 56 = .ok (.istore_n 2, 1) := by decide +kernel
theorem dX8_lifted_57 : decode cX8_lifted 57 = .ok (.iinc 3 1, 3) := by decide +kernel
theorem dX8_lifted_60 : decode cX8_lifted 60 = .ok (.goto (-56), 3) := by decide +kernel
theorem dX8_lifted_63 : decode cX8_lifted 63 = .ok (.iload_n 2, 1) := by decide +kernel
theorem dX8_lifted_64 : decode cX8_lifted 64 = .ok (.ireturn, 1) := by decide +kernel
theorem dX8_endsOn_0 : decode cX8_endsOn 0 = .ok (.iconst 0, 1) := by decide +kernel
theorem dX8_endsOn_1 : decode cX8_endsOn 1 = .ok (.istore_n 2, 1) := by decide +kernel
theorem dX8_endsOn_2 : decode cX8_endsOn 2 = .ok (.iconst 0, 1) := by decide +kernel
theorem dX8_endsOn_3 : decode cX8_endsOn 3 = .ok (.istore_n 3, 1) := by decide +kernel
theorem dX8_endsOn_4 : decode cX8_endsOn 4 = .ok (.iload_n 3, 1) := by decide +kernel
theorem dX8_endsOn_5 : decode cX8_endsOn 5 = .ok (.aload_n 0, 1) := by decide +kernel
theorem dX8_endsOn_6 : decode cX8_endsOn 6 = .ok (.getfield 7, 3) := by decide +kernel
theorem dX8_endsOn_9 : decode cX8_endsOn 9 = .ok (.iconst 1, 1) := by decide +kernel
theorem dX8_endsOn_10 : decode cX8_endsOn 10 = .ok (.iaload, 1) := by decide +kernel
theorem dX8_endsOn_11 : decode cX8_endsOn 11 = .ok (.if_icmp .ge 35, 3) := by decide +kernel
theorem dX8_endsOn_14 : decode cX8_endsOn 14 = .ok (.iload_n 2, 1) := by decide +kernel
theorem dX8_endsOn_15 : decode cX8_endsOn 15 = .ok (.iload_n 1, 1) := by decide +kernel
theorem dX8_endsOn_16 : decode cX8_endsOn 16 = .ok (.aload_n 0, 1) := by decide +kernel
theorem dX8_endsOn_17 : decode cX8_endsOn 17 = .ok (.getfield 7, 3) := by decide +kernel
theorem dX8_endsOn_20 : decode cX8_endsOn 20 = .ok (.bipush 6, 2) := by decide +kernel
theorem dX8_endsOn_22 : decode cX8_endsOn 22 = .ok (.iload_n 3, 1) := by decide +kernel
theorem dX8_endsOn_23 : decode cX8_endsOn 23 = .ok (.iadd, 1) := by decide +kernel
theorem dX8_endsOn_24 : decode cX8_endsOn 24 = .ok (.iaload, 1) := by decide +kernel
theorem dX8_endsOn_25 : decode cX8_endsOn 25 = .ok (.invokestatic 108, 3) := by decide +kernel
theorem dX8_endsOn_28 : decode cX8_endsOn 28 = .ok (.ifCond .eq 9, 3) := by decide +kernel
theorem dX8_endsOn_31 : decode cX8_endsOn 31 = .ok (.iconst 1, 1) := by decide +kernel
theorem dX8_endsOn_32 : decode cX8_endsOn 32 = .ok (.iload_n 3, 1) := by decide +kernel
theorem dX8_endsOn_33 : decode cX8_endsOn 33 = .ok (.ishl, 1) := by decide +kernel
theorem dX8_endsOn_34 : decode cX8_endsOn 34 = .ok (.goto 4, 3) := by decide +kernel
theorem dX8_endsOn_37 : decode cX8_endsOn 37 = .ok (.iconst 0, 1) := by decide +kernel
theorem dX8_endsOn_38 : decode cX8_endsOn 38 = .ok (.ior, 1) := by decide +kernel
theorem dX8_endsOn_39 : decode cX8_endsOn 39 = .ok (.istore_n 2, 1) := by decide +kernel
theorem dX8_endsOn_40 : decode cX8_endsOn 40 = .ok (.iinc 3 1, 3) := by decide +kernel
theorem dX8_endsOn_43 : decode cX8_endsOn 43 = .ok (.goto (-39), 3) := by decide +kernel
theorem dX8_endsOn_46 : decode cX8_endsOn 46 = .ok (.iload_n 2, 1) := by decide +kernel
theorem dX8_endsOn_47 : decode cX8_endsOn 47 = .ok (.ireturn, 1) := by decide +kernel
theorem dX8_endAt_0 : decode cX8_endAt 0 = .ok (.iload_n 1, 1) := by decide +kernel
theorem dX8_endAt_1 : decode cX8_endAt 1 = .ok (.iconst 2, 1) := by decide +kernel
theorem dX8_endAt_2 : decode cX8_endAt 2 = .ok (.irem, 1) := by decide +kernel
theorem dX8_endAt_3 : decode cX8_endAt 3 = .ok (.ifCond .ne 7, 3) := by decide +kernel
theorem dX8_endAt_6 : decode cX8_endAt 6 = .ok (.iload_n 2, 1) := by decide +kernel
theorem dX8_endAt_7 : decode cX8_endAt 7 = .ok (.goto 13, 3) := by decide +kernel
theorem dX8_endAt_10 : decode cX8_endAt 10 = .ok (.aload_n 0, 1) := by decide +kernel
theorem dX8_endAt_11 : decode cX8_endAt 11 = .ok (.getfield 7, 3) := by decide +kernel
theorem dX8_endAt_14 : decode cX8_endAt 14 = .ok (.iconst 1, 1) := by decide +kernel
theorem dX8_endAt_15 : decode cX8_endAt 15 = .ok (.iaload, 1) := by decide +kernel
theorem dX8_endAt_16 : decode cX8_endAt 16 = .ok (.iconst 1, 1) := by decide +kernel
theorem dX8_endAt_17 : decode cX8_endAt 17 = .ok (.isub, 1) := by decide +kernel
theorem dX8_endAt_18 : decode cX8_endAt 18 = .ok (.iload_n 2, 1) := by decide +kernel
theorem dX8_endAt_19 : decode cX8_endAt 19 = .ok (.isub, 1) := by decide +kernel
theorem dX8_endAt_20 : decode cX8_endAt 20 = .ok (.ireturn, 1) := by decide +kernel
theorem dX8_need_0 : decode cX8_need 0 = .ok (.iload_n 3, 1) := by decide +kernel
theorem dX8_need_1 : decode cX8_need 1 = .ok (.ifCond .le 32, 3) := by decide +kernel
theorem dX8_need_4 : decode cX8_need 4 = .ok (.iload_n 2, 1) := by decide +kernel
theorem dX8_need_5 : decode cX8_need 5 = .ok (.aload_n 0, 1) := by decide +kernel
theorem dX8_need_6 : decode cX8_need 6 = .ok (.iload_n 1, 1) := by decide +kernel
theorem dX8_need_7 : decode cX8_need 7 = .ok (.iload_n 3, 1) := by decide +kernel
theorem dX8_need_8 : decode cX8_need 8 = .ok (.invokevirtual 112, 3) := by decide +kernel
theorem dX8_need_11 : decode cX8_need 11 = .ok (.invokestatic 108, 3) := by decide +kernel
theorem dX8_need_14 : decode cX8_need 14 = .ok (.iload_n 2, 1) := by decide +kernel
theorem dX8_need_15 : decode cX8_need 15 = .ok (.aload_n 0, 1) := by decide +kernel
theorem dX8_need_16 : decode cX8_need 16 = .ok (.iload_n 1, 1) := by decide +kernel
theorem dX8_need_17 : decode cX8_need 17 = .ok (.iload_n 3, 1) := by decide +kernel
theorem dX8_need_18 : decode cX8_need 18 = .ok (.iconst 1, 1) := by decide +kernel
theorem dX8_need_19 : decode cX8_need 19 = .ok (.isub, 1) := by decide +kernel
theorem dX8_need_20 : decode cX8_need 20 = .ok (.invokevirtual 112, 3) := by decide +kernel
theorem dX8_need_23 : decode cX8_need 23 = .ok (.invokestatic 108, 3) := by decide +kernel
theorem dX8_need_26 : decode cX8_need 26 = .ok (.if_icmp .eq 7, 3) := by decide +kernel
theorem dX8_need_29 : decode cX8_need 29 = .ok (.iconst 2, 1) := by decide +kernel
theorem dX8_need_30 : decode cX8_need 30 = .ok (.goto 4, 3) := by decide +kernel
theorem dX8_need_33 : decode cX8_need 33 = .ok (.iconst 1, 1) := by decide +kernel
theorem dX8_need_34 : decode cX8_need 34 = .ok (.ireturn, 1) := by decide +kernel
theorem dX8_step_0 : decode cX8_step 0 = .ok (.aload_n 0, 1) := by decide +kernel
theorem dX8_step_1 : decode cX8_step 1 = .ok (.getfield 7, 3) := by decide +kernel
theorem dX8_step_4 : decode cX8_step 4 = .ok (.iconst 3, 1) := by decide +kernel
theorem dX8_step_5 : decode cX8_step 5 = .ok (.aload_n 0, 1) := by decide +kernel
theorem dX8_step_6 : decode cX8_step 6 = .ok (.getfield 7, 3) := by decide +kernel
theorem dX8_step_9 : decode cX8_step 9 = .ok (.iconst 3, 1) := by decide +kernel
theorem dX8_step_10 : decode cX8_step 10 = .ok (.iaload, 1) := by decide +kernel
theorem dX8_step_11 : decode cX8_step 11 = .ok (.iload_n 1, 1) := by decide +kernel
theorem dX8_step_12 : decode cX8_step 12 = .ok (.iadd, 1) := by decide +kernel
theorem dX8_step_13 : decode cX8_step 13 = .ok (.aload_n 0, 1) := by decide +kernel
theorem dX8_step_14 : decode cX8_step 14 = .ok (.getfield 7, 3) := by decide +kernel
theorem dX8_step_17 : decode cX8_step 17 = .ok (.iconst 2, 1) := by decide +kernel
theorem dX8_step_18 : decode cX8_step 18 = .ok (.iaload, 1) := by decide +kernel
theorem dX8_step_19 : decode cX8_step 19 = .ok (.iadd, 1) := by decide +kernel
theorem dX8_step_20 : decode cX8_step 20 = .ok (.aload_n 0, 1) := by decide +kernel
theorem dX8_step_21 : decode cX8_step 21 = .ok (.getfield 7, 3) := by decide +kernel
theorem dX8_step_24 : decode cX8_step 24 = .ok (.iconst 2, 1) := by decide +kernel
theorem dX8_step_25 : decode cX8_step 25 = .ok (.iaload, 1) := by decide +kernel
theorem dX8_step_26 : decode cX8_step 26 = .ok (.irem, 1) := by decide +kernel
theorem dX8_step_27 : decode cX8_step 27 = .ok (.iastore, 1) := by decide +kernel
theorem dX8_step_28 : decode cX8_step 28 = .ok (.return_, 1) := by decide +kernel
theorem dX8_onward_0 : decode cX8_onward 0 = .ok (.aload_n 0, 1) := by decide +kernel
theorem dX8_onward_1 : decode cX8_onward 1 = .ok (.getfield 7, 3) := by decide +kernel
theorem dX8_onward_4 : decode cX8_onward 4 = .ok (.iconst 4, 1) := by decide +kernel
theorem dX8_onward_5 : decode cX8_onward 5 = .ok (.iaload, 1) := by decide +kernel
theorem dX8_onward_6 : decode cX8_onward 6 = .ok (.ifCond .ne 7, 3) := by decide +kernel
theorem dX8_onward_9 : decode cX8_onward 9 = .ok (.iconst 1, 1) := by decide +kernel
theorem dX8_onward_10 : decode cX8_onward 10 = .ok (.goto 4, 3) := by decide +kernel
theorem dX8_onward_13 : decode cX8_onward 13 = .ok (.iconst (-1), 1) := by decide +kernel
theorem dX8_onward_14 : decode cX8_onward 14 = .ok (.ireturn, 1) := by decide +kernel
theorem dX8_pick_0 : decode cX8_pick 0 = .ok (.aload_n 0, 1) := by decide +kernel
theorem dX8_pick_1 : decode cX8_pick 1 = .ok (.getfield 7, 3) := by decide +kernel
theorem dX8_pick_4 : decode cX8_pick 4 = .ok (.iconst 3, 1) := by decide +kernel
theorem dX8_pick_5 : decode cX8_pick 5 = .ok (.iaload, 1) := by decide +kernel
theorem dX8_pick_6 : decode cX8_pick 6 = .ok (.istore_n 1, 1) := by decide +kernel
theorem dX8_pick_7 : decode cX8_pick 7 = .ok (.aload_n 0, 1) := by decide +kernel
theorem dX8_pick_8 : decode cX8_pick 8 = .ok (.getfield 7, 3) := by decide +kernel
theorem dX8_pick_11 : decode cX8_pick 11 = .ok (.iconst 5, 1) := by decide +kernel
theorem dX8_pick_12 : decode cX8_pick 12 = .ok (.iaload, 1) := by decide +kernel
theorem dX8_pick_13 : decode cX8_pick 13 = .ok (.istore_n 2, 1) := by decide +kernel
theorem dX8_pick_14 : decode cX8_pick 14 = .ok (.aload_n 0, 1) := by decide +kernel
theorem dX8_pick_15 : decode cX8_pick 15 = .ok (.getfield 7, 3) := by decide +kernel
theorem dX8_pick_18 : decode cX8_pick 18 = .ok (.bipush 102, 2) := by decide +kernel
theorem dX8_pick_20 : decode cX8_pick 20 = .ok (.iload_n 1, 1) := by decide +kernel
theorem dX8_pick_21 : decode cX8_pick 21 = .ok (.iadd, 1) := by decide +kernel
theorem dX8_pick_22 : decode cX8_pick 22 = .ok (.iaload, 1) := by decide +kernel
theorem dX8_pick_23 : decode cX8_pick 23 = .ok (.istore_n 3, 1) := by decide +kernel
theorem dX8_pick_24 : decode cX8_pick 24 = .ok (.aload_n 0, 1) := by decide +kernel
theorem dX8_pick_25 : decode cX8_pick 25 = .ok (.aload_n 0, 1) := by decide +kernel
theorem dX8_pick_26 : decode cX8_pick 26 = .ok (.aload_n 0, 1) := by decide +kernel
theorem dX8_pick_27 : decode cX8_pick 27 = .ok (.getfield 7, 3) := by decide +kernel
theorem dX8_pick_30 : decode cX8_pick 30 = .ok (.bipush 78, 2) := by decide +kernel
theorem dX8_pick_32 : decode cX8_pick 32 = .ok (.iload_n 1, 1) := by decide +kernel
theorem dX8_pick_33 : decode cX8_pick 33 = .ok (.iadd, 1) := by decide +kernel
theorem dX8_pick_34 : decode cX8_pick 34 = .ok (.iaload, 1) := by decide +kernel
theorem dX8_pick_35 : decode cX8_pick 35 = .ok (.invokevirtual 115, 3) := by decide +kernel
theorem dX8_pick_38 : decode cX8_pick 38 = .ok (.invokevirtual 119, 3) := by decide +kernel
theorem dX8_pick_41 : decode cX8_pick 41 = .ok (.istore 4, 2) := by decide +kernel
theorem dX8_pick_43 : decode cX8_pick 43 = .ok (.iconst 0, 1) := by decide +kernel
theorem dX8_pick_44 : decode cX8_pick 44 = .ok (.istore 5, 2) := by decide +kernel
theorem dX8_pick_46 : decode cX8_pick 46 = .ok (.iconst 1, 1) := by decide +kernel
theorem dX8_pick_47 : decode cX8_pick 47 = .ok (.istore 6, 2) := by decide +kernel
theorem dX8_pick_49 : decode cX8_pick 49 = .ok (.iconst 0, 1) := by decide +kernel
theorem dX8_pick_50 : decode cX8_pick 50 = .ok (.istore 7, 2) := by decide +kernel
theorem dX8_pick_52 : decode cX8_pick 52 = .ok (.iload 7, 2) := by decide +kernel
theorem dX8_pick_54 : decode cX8_pick 54 = .ok (.aload_n 0, 1) := by decide +kernel
theorem dX8_pick_55 : decode cX8_pick 55 = .ok (.getfield 7, 3) := by decide +kernel
theorem dX8_pick_58 : decode cX8_pick 58 = .ok (.iconst 1, 1) := by decide +kernel
theorem dX8_pick_59 : decode cX8_pick 59 = .ok (.iaload, 1) := by decide +kernel
theorem dX8_pick_60 : decode cX8_pick 60 = .ok (.if_icmp .ge 92, 3) := by decide +kernel
theorem dX8_pick_63 : decode cX8_pick 63 = .ok (.iload 6, 2) := by decide +kernel
theorem dX8_pick_65 : decode cX8_pick 65 = .ok (.ifCond .eq 87, 3) := by decide +kernel
theorem dX8_pick_68 : decode cX8_pick 68 = .ok (.aload_n 0, 1) := by decide +kernel
theorem dX8_pick_69 : decode cX8_pick 69 = .ok (.iload_n 2, 1) := by decide +kernel
theorem dX8_pick_70 : decode cX8_pick 70 = .ok (.iload 4, 2) := by decide +kernel
theorem dX8_pick_72 : decode cX8_pick 72 = .ok (.iload 7, 2) := by decide +kernel
theorem dX8_pick_74 : decode cX8_pick 74 = .ok (.invokevirtual 122, 3) := by decide +kernel
theorem dX8_pick_77 : decode cX8_pick 77 = .ok (.istore 8, 2) := by decide +kernel
theorem dX8_pick_79 : decode cX8_pick 79 = .ok (.aload_n 0, 1) := by decide +kernel
theorem dX8_pick_80 : decode cX8_pick 80 = .ok (.getfield 7, 3) := by decide +kernel
theorem dX8_pick_83 : decode cX8_pick 83 = .ok (.bipush 126, 2) := by decide +kernel
theorem dX8_pick_85 : decode cX8_pick 85 = .ok (.iload_n 3, 1) := by decide +kernel
theorem dX8_pick_86 : decode cX8_pick 86 = .ok (.iadd, 1) := by decide +kernel
theorem dX8_pick_87 : decode cX8_pick 87 = .ok (.iaload, 1) := by decide +kernel
theorem dX8_pick_88 : decode cX8_pick 88 = .ok (.iload 8, 2) := by decide +kernel
theorem dX8_pick_90 : decode cX8_pick 90 = .ok (.if_icmp .lt 7, 3) := by decide +kernel
theorem dX8_pick_93 : decode cX8_pick 93 = .ok (.iconst 1, 1) := by decide +kernel
theorem dX8_pick_94 : decode cX8_pick 94 = .ok (.goto 4, 3) := by decide +kernel
theorem dX8_pick_97 : decode cX8_pick 97 = .ok (.iconst 0, 1) := by decide +kernel
theorem dX8_pick_98 : decode cX8_pick 98 = .ok (.istore 6, 2) := by decide +kernel
theorem dX8_pick_100 : decode cX8_pick 100 = .ok (.aload_n 0, 1) := by decide +kernel
theorem dX8_pick_101 : decode cX8_pick 101 = .ok (.getfield 7, 3) := by decide +kernel
theorem dX8_pick_104 : decode cX8_pick 104 = .ok (.bipush 126, 2) := by decide +kernel
theorem dX8_pick_106 : decode cX8_pick 106 = .ok (.iload_n 3, 1) := by decide +kernel
theorem dX8_pick_107 : decode cX8_pick 107 = .ok (.iadd, 1) := by decide +kernel
theorem dX8_pick_108 : decode cX8_pick 108 = .ok (.dup2, 1) := by decide +kernel
theorem dX8_pick_109 : decode cX8_pick 109 = .ok (.iaload, 1) := by decide +kernel
theorem dX8_pick_110 : decode cX8_pick 110 = .ok (.iload 6, 2) := by decide +kernel
theorem dX8_pick_112 : decode cX8_pick 112 = .ok (.ifCond .eq 8, 3) := by decide +kernel
theorem dX8_pick_115 : decode cX8_pick 115 = .ok (.iload 8, 2) := by decide +kernel
theorem dX8_pick_117 : decode cX8_pick 117 = .ok (.goto 4, 3) := by decide +kernel
theorem dX8_pick_120 : decode cX8_pick 120 = .ok (.iconst 0, 1) := by decide +kernel
theorem dX8_pick_121 : decode cX8_pick 121 = .ok (.isub, 1) := by decide +kernel
theorem dX8_pick_122 : decode cX8_pick 122 = .ok (.iastore, 1) := by decide +kernel
theorem dX8_pick_123 : decode cX8_pick 123 = .ok (.iload 5, 2) := by decide +kernel
theorem dX8_pick_125 : decode cX8_pick 125 = .ok (.iload 6, 2) := by decide +kernel
theorem dX8_pick_127 : decode cX8_pick 127 = .ok (.ifCond .eq 15, 3) := by decide +kernel
theorem dX8_pick_130 : decode cX8_pick 130 = .ok (.iconst 1, 1) := by decide +kernel
theorem dX8_pick_131 : decode cX8_pick 131 = .ok (.aload_n 0, 1) := by decide +kernel
theorem dX8_pick_132 : decode cX8_pick 132 = .ok (.iload_n 2, 1) := by decide +kernel
theorem dX8_pick_133 : decode cX8_pick 133 = .ok (.iload 7, 2) := by decide +kernel
theorem dX8_pick_135 : decode cX8_pick 135 = .ok (.invokevirtual 112, 3) := by decide +kernel
theorem dX8_pick_138 : decode cX8_pick 138 = .ok (.ishl, 1) := by decide +kernel
theorem dX8_pick_139 : decode cX8_pick 139 = .ok (.goto 4, 3) := by decide +kernel
theorem dX8_pick_142 : decode cX8_pick 142 = .ok (.iconst 0, 1) := by decide +kernel
theorem dX8_pick_143 : decode cX8_pick 143 = .ok (.ior, 1) := by decide +kernel
theorem dX8_pick_144 : decode cX8_pick 144 = .ok (.istore 5, 2) := by decide +kernel
theorem dX8_pick_146 : decode cX8_pick 146 = .ok (.iinc 7 1, 3) := by decide +kernel
theorem dX8_pick_149 : decode cX8_pick 149 = .ok (.goto (-97), 3) := by decide +kernel
theorem dX8_pick_152 : decode cX8_pick 152 = .ok (.sipush 136, 3) := by decide +kernel
theorem dX8_pick_155 : decode cX8_pick 155 = .ok (.iconst 5, 1) := by decide +kernel
theorem dX8_pick_156 : decode cX8_pick 156 = .ok (.iload_n 2, 1) := by decide +kernel
theorem dX8_pick_157 : decode cX8_pick 157 = .ok (.imul, 1) := by decide +kernel
theorem dX8_pick_158 : decode cX8_pick 158 = .ok (.iadd, 1) := by decide +kernel
theorem dX8_pick_159 : decode cX8_pick 159 = .ok (.istore 7, 2) := by decide +kernel
theorem dX8_pick_161 : decode cX8_pick 161 = .ok (.aload_n 0, 1) := by decide +kernel
theorem dX8_pick_162 : decode cX8_pick 162 = .ok (.getfield 7, 3) := by decide +kernel
theorem dX8_pick_165 : decode cX8_pick 165 = .ok (.iload 7, 2) := by decide +kernel
theorem dX8_pick_167 : decode cX8_pick 167 = .ok (.iconst 0, 1) := by decide +kernel
theorem dX8_pick_168 : decode cX8_pick 168 = .ok (.iadd, 1) := by decide +kernel
theorem dX8_pick_169 : decode cX8_pick 169 = .ok (.iload_n 3, 1) := by decide +kernel
theorem dX8_pick_170 : decode cX8_pick 170 = .ok (.iastore, 1) := by decide +kernel
theorem dX8_pick_171 : decode cX8_pick 171 = .ok (.aload_n 0, 1) := by decide +kernel
theorem dX8_pick_172 : decode cX8_pick 172 = .ok (.getfield 7, 3) := by decide +kernel
theorem dX8_pick_175 : decode cX8_pick 175 = .ok (.iload 7, 2) := by decide +kernel
theorem dX8_pick_177 : decode cX8_pick 177 = .ok (.iconst 1, 1) := by decide +kernel
theorem dX8_pick_178 : decode cX8_pick 178 = .ok (.iadd, 1) := by decide +kernel
theorem dX8_pick_179 : decode cX8_pick 179 = .ok (.iload_n 1, 1) := by decide +kernel
theorem dX8_pick_180 : decode cX8_pick 180 = .ok (.iastore, 1) := by decide +kernel
theorem dX8_pick_181 : decode cX8_pick 181 = .ok (.aload_n 0, 1) := by decide +kernel
theorem dX8_pick_182 : decode cX8_pick 182 = .ok (.getfield 7, 3) := by decide +kernel
theorem dX8_pick_185 : decode cX8_pick 185 = .ok (.iload 7, 2) := by decide +kernel
theorem dX8_pick_187 : decode cX8_pick 187 = .ok (.iconst 2, 1) := by decide +kernel
theorem dX8_pick_188 : decode cX8_pick 188 = .ok (.iadd, 1) := by decide +kernel
theorem dX8_pick_189 : decode cX8_pick 189 = .ok (.iload 4, 2) := by decide +kernel
theorem dX8_pick_191 : decode cX8_pick 191 = .ok (.iload 5, 2) := by decide +kernel
theorem dX8_pick_193 : decode cX8_pick 193 = .ok (.iand, 1) := by decide +kernel
theorem dX8_pick_194 : decode cX8_pick 194 = .ok (.iastore, 1) := by decide +kernel
theorem dX8_pick_195 : decode cX8_pick 195 = .ok (.aload_n 0, 1) := by decide +kernel
theorem dX8_pick_196 : decode cX8_pick 196 = .ok (.getfield 7, 3) := by decide +kernel
theorem dX8_pick_199 : decode cX8_pick 199 = .ok (.iload 7, 2) := by decide +kernel
theorem dX8_pick_201 : decode cX8_pick 201 = .ok (.iconst 3, 1) := by decide +kernel
theorem dX8_pick_202 : decode cX8_pick 202 = .ok (.iadd, 1) := by decide +kernel
theorem dX8_pick_203 : decode cX8_pick 203 = .ok (.iload 5, 2) := by decide +kernel
theorem dX8_pick_205 : decode cX8_pick 205 = .ok (.iastore, 1) := by decide +kernel
theorem dX8_pick_206 : decode cX8_pick 206 = .ok (.aload_n 0, 1) := by decide +kernel
theorem dX8_pick_207 : decode cX8_pick 207 = .ok (.getfield 7, 3) := by decide +kernel
theorem dX8_pick_210 : decode cX8_pick 210 = .ok (.iload 7, 2) := by decide +kernel
theorem dX8_pick_212 : decode cX8_pick 212 = .ok (.iconst 4, 1) := by decide +kernel
theorem dX8_pick_213 : decode cX8_pick 213 = .ok (.iadd, 1) := by decide +kernel
theorem dX8_pick_214 : decode cX8_pick 214 = .ok (.aload_n 0, 1) := by decide +kernel
theorem dX8_pick_215 : decode cX8_pick 215 = .ok (.aload_n 0, 1) := by decide +kernel
theorem dX8_pick_216 : decode cX8_pick 216 = .ok (.getfield 7, 3) := by decide +kernel
theorem dX8_pick_219 : decode cX8_pick 219 = .ok (.bipush 78, 2) := by decide +kernel
theorem dX8_pick_221 : decode cX8_pick 221 = .ok (.iload_n 1, 1) := by decide +kernel
theorem dX8_pick_222 : decode cX8_pick 222 = .ok (.iadd, 1) := by decide +kernel
theorem dX8_pick_223 : decode cX8_pick 223 = .ok (.iaload, 1) := by decide +kernel
theorem dX8_pick_224 : decode cX8_pick 224 = .ok (.invokevirtual 119, 3) := by decide +kernel
theorem dX8_pick_227 : decode cX8_pick 227 = .ok (.iastore, 1) := by decide +kernel
theorem dX8_pick_228 : decode cX8_pick 228 = .ok (.aload_n 0, 1) := by decide +kernel
theorem dX8_pick_229 : decode cX8_pick 229 = .ok (.getfield 7, 3) := by decide +kernel
theorem dX8_pick_232 : decode cX8_pick 232 = .ok (.iconst 5, 1) := by decide +kernel
theorem dX8_pick_233 : decode cX8_pick 233 = .ok (.dup2, 1) := by decide +kernel
theorem dX8_pick_234 : decode cX8_pick 234 = .ok (.iaload, 1) := by decide +kernel
theorem dX8_pick_235 : decode cX8_pick 235 = .ok (.iconst 1, 1) := by decide +kernel
theorem dX8_pick_236 : decode cX8_pick 236 = .ok (.iadd, 1) := by decide +kernel
theorem dX8_pick_237 : decode cX8_pick 237 = .ok (.iastore, 1) := by decide +kernel
theorem dX8_pick_238 : decode cX8_pick 238 = .ok (.aload_n 0, 1) := by decide +kernel
theorem dX8_pick_239 : decode cX8_pick 239 = .ok (.aload_n 0, 1) := by decide +kernel
theorem dX8_pick_240 : decode cX8_pick 240 = .ok (.invokevirtual 126, 3) := by decide +kernel
theorem dX8_pick_243 : decode cX8_pick 243 = .ok (.invokevirtual 129, 3) := by decide +kernel
theorem dX8_pick_246 : decode cX8_pick 246 = .ok (.return_, 1) := by decide +kernel
theorem dX8_allEnds_0 : decode cX8_allEnds 0 = .ok (.aload_n 0, 1) := by decide +kernel
theorem dX8_allEnds_1 : decode cX8_allEnds 1 = .ok (.getfield 7, 3) := by decide +kernel
theorem dX8_allEnds_4 : decode cX8_allEnds 4 = .ok (.iconst 1, 1) := by decide +kernel
theorem dX8_allEnds_5 : decode cX8_allEnds 5 = .ok (.iaload, 1) := by decide +kernel
theorem dX8_allEnds_6 : decode cX8_allEnds 6 = .ok (.bipush 32, 2) := by decide +kernel
theorem dX8_allEnds_8 : decode cX8_allEnds 8 = .ok (.if_icmp .ne 7, 3) := by decide +kernel
theorem dX8_allEnds_11 : decode cX8_allEnds 11 = .ok (.iconst (-1), 1) := by decide +kernel
theorem dX8_allEnds_12 : decode cX8_allEnds 12 = .ok (.goto 13, 3) := by decide +kernel
theorem dX8_allEnds_15 : decode cX8_allEnds 15 = .ok (.iconst 1, 1) := by decide +kernel
theorem dX8_allEnds_16 : decode cX8_allEnds 16 = .ok (.aload_n 0, 1) := by decide +kernel
theorem dX8_allEnds_17 : decode cX8_allEnds 17 = .ok (.getfield 7, 3) := by decide +kernel
theorem dX8_allEnds_20 : decode cX8_allEnds 20 = .ok (.iconst 1, 1) := by decide +kernel
theorem dX8_allEnds_21 : decode cX8_allEnds 21 = .ok (.iaload, 1) := by decide +kernel
theorem dX8_allEnds_22 : decode cX8_allEnds 22 = .ok (.ishl, 1) := by decide +kernel
theorem dX8_allEnds_23 : decode cX8_allEnds 23 = .ok (.iconst 1, 1) := by decide +kernel
theorem dX8_allEnds_24 : decode cX8_allEnds 24 = .ok (.isub, 1) := by decide +kernel
theorem dX8_allEnds_25 : decode cX8_allEnds 25 = .ok (.ireturn, 1) := by decide +kernel
theorem dX8_stands_0 : decode cX8_stands 0 = .ok (.aload_n 0, 1) := by decide +kernel
theorem dX8_stands_1 : decode cX8_stands 1 = .ok (.getfield 7, 3) := by decide +kernel
theorem dX8_stands_4 : decode cX8_stands 4 = .ok (.iconst 5, 1) := by decide +kernel
theorem dX8_stands_5 : decode cX8_stands 5 = .ok (.iaload, 1) := by decide +kernel
theorem dX8_stands_6 : decode cX8_stands 6 = .ok (.ifCond .le 27, 3) := by decide +kernel
theorem dX8_stands_9 : decode cX8_stands 9 = .ok (.aload_n 0, 1) := by decide +kernel
theorem dX8_stands_10 : decode cX8_stands 10 = .ok (.aload_n 0, 1) := by decide +kernel
theorem dX8_stands_11 : decode cX8_stands 11 = .ok (.getfield 7, 3) := by decide +kernel
theorem dX8_stands_14 : decode cX8_stands 14 = .ok (.iconst 5, 1) := by decide +kernel
theorem dX8_stands_15 : decode cX8_stands 15 = .ok (.iaload, 1) := by decide +kernel
theorem dX8_stands_16 : decode cX8_stands 16 = .ok (.iconst 1, 1) := by decide +kernel
theorem dX8_stands_17 : decode cX8_stands 17 = .ok (.isub, 1) := by decide +kernel
theorem dX8_stands_18 : decode cX8_stands 18 = .ok (.iconst 3, 1) := by decide +kernel
theorem dX8_stands_19 : decode cX8_stands 19 = .ok (.invokevirtual 133, 3) := by decide +kernel
theorem dX8_stands_22 : decode cX8_stands 22 = .ok (.aload_n 0, 1) := by decide +kernel
theorem dX8_stands_23 : decode cX8_stands 23 = .ok (.invokevirtual 136, 3) := by decide +kernel
theorem dX8_stands_26 : decode cX8_stands 26 = .ok (.if_icmp .eq 7, 3) := by decide +kernel
theorem dX8_stands_29 : decode cX8_stands 29 = .ok (.iconst 1, 1) := by decide +kernel
theorem dX8_stands_30 : decode cX8_stands 30 = .ok (.goto 4, 3) := by decide +kernel
theorem dX8_stands_33 : decode cX8_stands 33 = .ok (.iconst 0, 1) := by decide +kernel
theorem dX8_stands_34 : decode cX8_stands 34 = .ok (.ireturn, 1) := by decide +kernel
theorem dX8_used_0 : decode cX8_used 0 = .ok (.iconst 0, 1) := by decide +kernel
theorem dX8_used_1 : decode cX8_used 1 = .ok (.istore_n 2, 1) := by decide +kernel
theorem dX8_used_2 : decode cX8_used 2 = .ok (.iconst 0, 1) := by decide +kernel
theorem dX8_used_3 : decode cX8_used 3 = .ok (.istore_n 3, 1) := by decide +kernel
theorem dX8_used_4 : decode cX8_used 4 = .ok (.iload_n 3, 1) := by decide +kernel
theorem dX8_used_5 : decode cX8_used 5 = .ok (.aload_n 0, 1) := by decide +kernel
theorem dX8_used_6 : decode cX8_used 6 = .ok (.getfield 7, 3) := by decide +kernel
theorem dX8_used_9 : decode cX8_used 9 = .ok (.iconst 1, 1) := by decide +kernel
theorem dX8_used_10 : decode cX8_used 10 = .ok (.iaload, 1) := by decide +kernel
theorem dX8_used_11 : decode cX8_used 11 = .ok (.if_icmp .ge 46, 3) := by decide +kernel
theorem dX8_used_14 : decode cX8_used 14 = .ok (.iload_n 2, 1) := by decide +kernel
theorem dX8_used_15 : decode cX8_used 15 = .ok (.aload_n 0, 1) := by decide +kernel
theorem dX8_used_16 : decode cX8_used 16 = .ok (.iload_n 1, 1) := by decide +kernel
theorem dX8_used_17 : decode cX8_used 17 = .ok (.iconst 3, 1) := by decide +kernel
theorem dX8_used_18 : decode cX8_used 18 = .ok (.invokevirtual 133, 3) := by decide +kernel
theorem dX8_used_21 : decode cX8_used 21 = .ok (.aload_n 0, 1) := by decide +kernel
theorem dX8_used_22 : decode cX8_used 22 = .ok (.iload_n 1, 1) := by decide +kernel
theorem dX8_used_23 : decode cX8_used 23 = .ok (.iload_n 3, 1) := by decide +kernel
theorem dX8_used_24 : decode cX8_used 24 = .ok (.invokevirtual 112, 3) := by decide +kernel
theorem dX8_used_27 : decode cX8_used 27 = .ok (.invokestatic 108, 3) := by decide +kernel
theorem dX8_used_30 : decode cX8_used 30 = .ok (.ifCond .eq 18, 3) := by decide +kernel
theorem dX8_used_33 : decode cX8_used 33 = .ok (.aload_n 0, 1) := by decide +kernel
theorem dX8_used_34 : decode cX8_used 34 = .ok (.iload_n 1, 1) := by decide +kernel
theorem dX8_used_35 : decode cX8_used 35 = .ok (.aload_n 0, 1) := by decide +kernel
theorem dX8_used_36 : decode cX8_used 36 = .ok (.iload_n 1, 1) := by decide +kernel
theorem dX8_used_37 : decode cX8_used 37 = .ok (.iconst 2, 1) := by decide +kernel
theorem dX8_used_38 : decode cX8_used 38 = .ok (.invokevirtual 133, 3) := by decide +kernel
theorem dX8_used_41 : decode cX8_used 41 = .ok (.iload_n 3, 1) := by decide +kernel
theorem dX8_used_42 : decode cX8_used 42 = .ok (.invokevirtual 122, 3) := by decide +kernel
theorem dX8_used_45 : decode cX8_used 45 = .ok (.goto 4, 3) := by decide +kernel
theorem dX8_used_48 : decode cX8_used 48 = .ok (.iconst 0, 1) := by decide +kernel
theorem dX8_used_49 : decode cX8_used 49 = .ok (.iadd, 1) := by decide +kernel
theorem dX8_used_50 : decode cX8_used 50 = .ok (.istore_n 2, 1) := by decide +kernel
theorem dX8_used_51 : decode cX8_used 51 = .ok (.iinc 3 1, 3) := by decide +kernel
theorem dX8_used_54 : decode cX8_used 54 = .ok (.goto (-50), 3) := by decide +kernel
theorem dX8_used_57 : decode cX8_used 57 = .ok (.iload_n 2, 1) := by decide +kernel
theorem dX8_used_58 : decode cX8_used 58 = .ok (.ireturn, 1) := by decide +kernel
theorem dX8_weave_0 : decode cX8_weave 0 = .ok (.aload_n 0, 1) := by decide +kernel
theorem dX8_weave_1 : decode cX8_weave 1 = .ok (.iconst 0, 1) := by decide +kernel
theorem dX8_weave_2 : decode cX8_weave 2 = .ok (.putfield 28, 3) := by decide +kernel
theorem dX8_weave_5 : decode cX8_weave 5 = .ok (.iload_n 1, 1) := by decide +kernel
theorem dX8_weave_6 : decode cX8_weave 6 = .ok (.iconst 1, 1) := by decide +kernel
theorem dX8_weave_7 : decode cX8_weave 7 = .ok (.bipush 64, 2) := by decide +kernel
theorem dX8_weave_9 : decode cX8_weave 9 = .ok (.invokestatic 39, 3) := by decide +kernel
theorem dX8_weave_12 : decode cX8_weave 12 = .ok (.ifCond .ne 5, 3) := by decide +kernel
theorem dX8_weave_15 : decode cX8_weave 15 = .ok (.iconst (-1), 1) := by decide +kernel
theorem dX8_weave_16 : decode cX8_weave 16 = .ok (.ireturn, 1) := by decide +kernel
theorem dX8_weave_17 : decode cX8_weave 17 = .ok (.aload_n 0, 1) := by decide +kernel
theorem dX8_weave_18 : decode cX8_weave 18 = .ok (.getfield 7, 3) := by decide +kernel
theorem dX8_weave_21 : decode cX8_weave 21 = .ok (.iconst 2, 1) := by decide +kernel
theorem dX8_weave_22 : decode cX8_weave 22 = .ok (.iaload, 1) := by decide +kernel
theorem dX8_weave_23 : decode cX8_weave 23 = .ok (.ifCond .eq 10, 3) := by decide +kernel
theorem dX8_weave_26 : decode cX8_weave 26 = .ok (.aload_n 0, 1) := by decide +kernel
theorem dX8_weave_27 : decode cX8_weave 27 = .ok (.invokevirtual 139, 3) := by decide +kernel
theorem dX8_weave_30 : decode cX8_weave 30 = .ok (.ifCond .eq 6, 3) := by decide +kernel
theorem dX8_weave_33 : decode cX8_weave 33 = .ok (.bipush (-2), 2) := by decide +kernel
theorem dX8_weave_35 : decode cX8_weave 35 = .ok (.ireturn, 1) := by decide +kernel
theorem dX8_weave_36 : decode cX8_weave 36 = .ok (.aload_n 0, 1) := by decide +kernel
theorem dX8_weave_37 : decode cX8_weave 37 = .ok (.getfield 7, 3) := by decide +kernel
theorem dX8_weave_40 : decode cX8_weave 40 = .ok (.iconst 5, 1) := by decide +kernel
theorem dX8_weave_41 : decode cX8_weave 41 = .ok (.iaload, 1) := by decide +kernel
theorem dX8_weave_42 : decode cX8_weave 42 = .ok (.bipush 64, 2) := by decide +kernel
theorem dX8_weave_44 : decode cX8_weave 44 = .ok (.if_icmp .ne 6, 3) := by decide +kernel
theorem dX8_weave_47 : decode cX8_weave 47 = .ok (.bipush (-3), 2) := by decide +kernel
theorem dX8_weave_49 : decode cX8_weave 49 = .ok (.ireturn, 1) := by decide +kernel
theorem dX8_weave_50 : decode cX8_weave 50 = .ok (.aload_n 0, 1) := by decide +kernel
theorem dX8_weave_51 : decode cX8_weave 51 = .ok (.invokevirtual 43, 3) := by decide +kernel
theorem dX8_weave_54 : decode cX8_weave 54 = .ok (.iconst 0, 1) := by decide +kernel
theorem dX8_weave_55 : decode cX8_weave 55 = .ok (.istore_n 2, 1) := by decide +kernel
theorem dX8_weave_56 : decode cX8_weave 56 = .ok (.iload_n 2, 1) := by decide +kernel
theorem dX8_weave_57 : decode cX8_weave 57 = .ok (.iload_n 1, 1) := by decide +kernel
theorem dX8_weave_58 : decode cX8_weave 58 = .ok (.if_icmp .ge 31, 3) := by decide +kernel
theorem dX8_weave_61 : decode cX8_weave 61 = .ok (.aload_n 0, 1) := by decide +kernel
theorem dX8_weave_62 : decode cX8_weave 62 = .ok (.invokevirtual 139, 3) := by decide +kernel
theorem dX8_weave_65 : decode cX8_weave 65 = .ok (.ifCond .ne 24, 3) := by decide +kernel
theorem dX8_weave_68 : decode cX8_weave 68 = .ok (.aload_n 0, 1) := by decide +kernel
theorem dX8_weave_69 : decode cX8_weave 69 = .ok (.getfield 7, 3) := by decide +kernel
theorem dX8_weave_72 : decode cX8_weave 72 = .ok (.iconst 5, 1) := by decide +kernel
theorem dX8_weave_73 : decode cX8_weave 73 = .ok (.iaload, 1) := by decide +kernel
theorem dX8_weave_74 : decode cX8_weave 74 = .ok (.bipush 64, 2) := by decide +kernel
theorem dX8_weave_76 : decode cX8_weave 76 = .ok (.if_icmp .ge 13, 3) := by decide +kernel
theorem dX8_weave_79 : decode cX8_weave 79 = .ok (.aload_n 0, 1) := by decide +kernel
theorem dX8_weave_80 : decode cX8_weave 80 = .ok (.invokevirtual 142, 3) := by decide +kernel
theorem dX8_weave_83 : decode cX8_weave 83 = .ok (.iinc 2 1, 3) := by decide +kernel
theorem dX8_weave_86 : decode cX8_weave 86 = .ok (.goto (-30), 3) := by decide +kernel
theorem dX8_weave_89 : decode cX8_weave 89 = .ok (.iload_n 2, 1) := by decide +kernel
theorem dX8_weave_90 : decode cX8_weave 90 = .ok (.ireturn, 1) := by decide +kernel
theorem dX8_takeOut_0 : decode cX8_takeOut 0 = .ok (.aload_n 0, 1) := by decide +kernel
theorem dX8_takeOut_1 : decode cX8_takeOut 1 = .ok (.iconst 0, 1) := by decide +kernel
theorem dX8_takeOut_2 : decode cX8_takeOut 2 = .ok (.putfield 28, 3) := by decide +kernel
theorem dX8_takeOut_5 : decode cX8_takeOut 5 = .ok (.iload_n 1, 1) := by decide +kernel
theorem dX8_takeOut_6 : decode cX8_takeOut 6 = .ok (.iconst 1, 1) := by decide +kernel
theorem dX8_takeOut_7 : decode cX8_takeOut 7 = .ok (.bipush 64, 2) := by decide +kernel
theorem dX8_takeOut_9 : decode cX8_takeOut 9 = .ok (.invokestatic 39, 3) := by decide +kernel
theorem dX8_takeOut_12 : decode cX8_takeOut 12 = .ok (.ifCond .ne 5, 3) := by decide +kernel
theorem dX8_takeOut_15 : decode cX8_takeOut 15 = .ok (.iconst (-1), 1) := by decide +kernel
theorem dX8_takeOut_16 : decode cX8_takeOut 16 = .ok (.ireturn, 1) := by decide +kernel
theorem dX8_takeOut_17 : decode cX8_takeOut 17 = .ok (.aload_n 0, 1) := by decide +kernel
theorem dX8_takeOut_18 : decode cX8_takeOut 18 = .ok (.getfield 7, 3) := by decide +kernel
theorem dX8_takeOut_21 : decode cX8_takeOut 21 = .ok (.iconst 5, 1) := by decide +kernel
theorem dX8_takeOut_22 : decode cX8_takeOut 22 = .ok (.iaload, 1) := by decide +kernel
theorem dX8_takeOut_23 : decode cX8_takeOut 23 = .ok (.iload_n 1, 1) := by decide +kernel
theorem dX8_takeOut_24 : decode cX8_takeOut 24 = .ok (.if_icmp .lt 12, 3) := by decide +kernel
theorem dX8_takeOut_27 : decode cX8_takeOut 27 = .ok (.aload_n 0, 1) := by decide +kernel
theorem dX8_takeOut_28 : decode cX8_takeOut 28 = .ok (.getfield 7, 3) := by decide +kernel
theorem dX8_takeOut_31 : decode cX8_takeOut 31 = .ok (.iconst 2, 1) := by decide +kernel
theorem dX8_takeOut_32 : decode cX8_takeOut 32 = .ok (.iaload, 1) := by decide +kernel
theorem dX8_takeOut_33 : decode cX8_takeOut 33 = .ok (.ifCond .ne 6, 3) := by decide +kernel
theorem dX8_takeOut_36 : decode cX8_takeOut 36 = .ok (.bipush (-2), 2) := by decide +kernel
theorem dX8_takeOut_38 : decode cX8_takeOut 38 = .ok (.ireturn, 1) := by decide +kernel
theorem dX8_takeOut_39 : decode cX8_takeOut 39 = .ok (.aload_n 0, 1) := by decide +kernel
theorem dX8_takeOut_40 : decode cX8_takeOut 40 = .ok (.invokevirtual 43, 3) := by decide +kernel
theorem dX8_takeOut_43 : decode cX8_takeOut 43 = .ok (.iconst 0, 1) := by decide +kernel
theorem dX8_takeOut_44 : decode cX8_takeOut 44 = .ok (.istore_n 2, 1) := by decide +kernel
theorem dX8_takeOut_45 : decode cX8_takeOut 45 = .ok (.iload_n 2, 1) := by decide +kernel
theorem dX8_takeOut_46 : decode cX8_takeOut 46 = .ok (.iload_n 1, 1) := by decide +kernel
theorem dX8_takeOut_47 : decode cX8_takeOut 47 = .ok (.if_icmp .ge 59, 3) := by decide +kernel
theorem dX8_takeOut_50 : decode cX8_takeOut 50 = .ok (.aload_n 0, 1) := by decide +kernel
theorem dX8_takeOut_51 : decode cX8_takeOut 51 = .ok (.getfield 7, 3) := by decide +kernel
theorem dX8_takeOut_54 : decode cX8_takeOut 54 = .ok (.iconst 5, 1) := by decide +kernel
theorem dX8_takeOut_55 : decode cX8_takeOut 55 = .ok (.iaload, 1) := by decide +kernel
theorem dX8_takeOut_56 : decode cX8_takeOut 56 = .ok (.iconst 1, 1) := by decide +kernel
theorem dX8_takeOut_57 : decode cX8_takeOut 57 = .ok (.isub, 1) := by decide +kernel
theorem dX8_takeOut_58 : decode cX8_takeOut 58 = .ok (.istore_n 3, 1) := by decide +kernel
theorem dX8_takeOut_59 : decode cX8_takeOut 59 = .ok (.aload_n 0, 1) := by decide +kernel
theorem dX8_takeOut_60 : decode cX8_takeOut 60 = .ok (.getfield 7, 3) := by decide +kernel
theorem dX8_takeOut_63 : decode cX8_takeOut 63 = .ok (.bipush 126, 2) := by decide +kernel
theorem dX8_takeOut_65 : decode cX8_takeOut 65 = .ok (.aload_n 0, 1) := by decide +kernel
theorem dX8_takeOut_66 : decode cX8_takeOut 66 = .ok (.iload_n 3, 1) := by decide +kernel
theorem dX8_takeOut_67 : decode cX8_takeOut 67 = .ok (.iconst 0, 1) := by decide +kernel
theorem dX8_takeOut_68 : decode cX8_takeOut 68 = .ok (.invokevirtual 133, 3) := by decide +kernel
theorem dX8_takeOut_71 : decode cX8_takeOut 71 = .ok (.iadd, 1) := by decide +kernel
theorem dX8_takeOut_72 : decode cX8_takeOut 72 = .ok (.dup2, 1) := by decide +kernel
theorem dX8_takeOut_73 : decode cX8_takeOut 73 = .ok (.iaload, 1) := by decide +kernel
theorem dX8_takeOut_74 : decode cX8_takeOut 74 = .ok (.aload_n 0, 1) := by decide +kernel
theorem dX8_takeOut_75 : decode cX8_takeOut 75 = .ok (.iload_n 3, 1) := by decide +kernel
theorem dX8_takeOut_76 : decode cX8_takeOut 76 = .ok (.invokevirtual 145, 3) := by decide +kernel
theorem dX8_takeOut_79 : decode cX8_takeOut 79 = .ok (.iadd, 1) := by decide +kernel
theorem dX8_takeOut_80 : decode cX8_takeOut 80 = .ok (.iastore, 1) := by decide +kernel
theorem dX8_takeOut_81 : decode cX8_takeOut 81 = .ok (.aload_n 0, 1) := by decide +kernel
theorem dX8_takeOut_82 : decode cX8_takeOut 82 = .ok (.getfield 7, 3) := by decide +kernel
theorem dX8_takeOut_85 : decode cX8_takeOut 85 = .ok (.iconst 5, 1) := by decide +kernel
theorem dX8_takeOut_86 : decode cX8_takeOut 86 = .ok (.dup2, 1) := by decide +kernel
theorem dX8_takeOut_87 : decode cX8_takeOut 87 = .ok (.iaload, 1) := by decide +kernel
theorem dX8_takeOut_88 : decode cX8_takeOut 88 = .ok (.iconst 1, 1) := by decide +kernel
theorem dX8_takeOut_89 : decode cX8_takeOut 89 = .ok (.isub, 1) := by decide +kernel
theorem dX8_takeOut_90 : decode cX8_takeOut 90 = .ok (.iastore, 1) := by decide +kernel
theorem dX8_takeOut_91 : decode cX8_takeOut 91 = .ok (.aload_n 0, 1) := by decide +kernel
theorem dX8_takeOut_92 : decode cX8_takeOut 92 = .ok (.aload_n 0, 1) := by decide +kernel
theorem dX8_takeOut_93 : decode cX8_takeOut 93 = .ok (.invokevirtual 126, 3) := by decide +kernel
theorem dX8_takeOut_96 : decode cX8_takeOut 96 = .ok (.ineg, 1) := by decide +kernel
theorem dX8_takeOut_97 : decode cX8_takeOut 97 = .ok (.invokevirtual 129, 3) := by decide +kernel
theorem dX8_takeOut_100 : decode cX8_takeOut 100 = .ok (.iinc 2 1, 3) := by decide +kernel
theorem dX8_takeOut_103 : decode cX8_takeOut 103 = .ok (.goto (-58), 3) := by decide +kernel
theorem dX8_takeOut_106 : decode cX8_takeOut 106 = .ok (.aload_n 0, 1) := by decide +kernel
theorem dX8_takeOut_107 : decode cX8_takeOut 107 = .ok (.getfield 7, 3) := by decide +kernel
theorem dX8_takeOut_110 : decode cX8_takeOut 110 = .ok (.iconst 5, 1) := by decide +kernel
theorem dX8_takeOut_111 : decode cX8_takeOut 111 = .ok (.iaload, 1) := by decide +kernel
theorem dX8_takeOut_112 : decode cX8_takeOut 112 = .ok (.ireturn, 1) := by decide +kernel
theorem dX8_cutOff_0 : decode cX8_cutOff 0 = .ok (.aload_n 0, 1) := by decide +kernel
theorem dX8_cutOff_1 : decode cX8_cutOff 1 = .ok (.iconst 0, 1) := by decide +kernel
theorem dX8_cutOff_2 : decode cX8_cutOff 2 = .ok (.putfield 28, 3) := by decide +kernel
theorem dX8_cutOff_5 : decode cX8_cutOff 5 = .ok (.aload_n 0, 1) := by decide +kernel
theorem dX8_cutOff_6 : decode cX8_cutOff 6 = .ok (.invokevirtual 139, 3) := by decide +kernel
theorem dX8_cutOff_9 : decode cX8_cutOff 9 = .ok (.ifCond .eq 8, 3) := by decide +kernel
theorem dX8_cutOff_12 : decode cX8_cutOff 12 = .ok (.bipush (-2), 2) := by decide +kernel
theorem dX8_cutOff_14 : decode cX8_cutOff 14 = .ok (.goto 9, 3) := by decide +kernel
theorem dX8_cutOff_17 : decode cX8_cutOff 17 = .ok (.aload_n 0, 1) := by decide +kernel
theorem dX8_cutOff_18 : decode cX8_cutOff 18 = .ok (.iconst 5, 1) := by decide +kernel
theorem dX8_cutOff_19 : decode cX8_cutOff 19 = .ok (.iconst 0, 1) := by decide +kernel
theorem dX8_cutOff_20 : decode cX8_cutOff 20 = .ok (.invokevirtual 56, 3) := by decide +kernel
theorem dX8_cutOff_23 : decode cX8_cutOff 23 = .ok (.ireturn, 1) := by decide +kernel
theorem dX8_undo_0 : decode cX8_undo 0 = .ok (.aload_n 0, 1) := by decide +kernel
theorem dX8_undo_1 : decode cX8_undo 1 = .ok (.iconst 0, 1) := by decide +kernel
theorem dX8_undo_2 : decode cX8_undo 2 = .ok (.putfield 28, 3) := by decide +kernel
theorem dX8_undo_5 : decode cX8_undo 5 = .ok (.aload_n 0, 1) := by decide +kernel
theorem dX8_undo_6 : decode cX8_undo 6 = .ok (.getfield 36, 3) := by decide +kernel
theorem dX8_undo_9 : decode cX8_undo 9 = .ok (.ifCond .ne 6, 3) := by decide +kernel
theorem dX8_undo_12 : decode cX8_undo 12 = .ok (.bipush (-2), 2) := by decide +kernel
theorem dX8_undo_14 : decode cX8_undo 14 = .ok (.ireturn, 1) := by decide +kernel
theorem dX8_undo_15 : decode cX8_undo 15 = .ok (.aload_n 0, 1) := by decide +kernel
theorem dX8_undo_16 : decode cX8_undo 16 = .ok (.dup, 1) := by decide +kernel
theorem dX8_undo_17 : decode cX8_undo 17 = .ok (.getfield 36, 3) := by decide +kernel
theorem dX8_undo_20 : decode cX8_undo 20 = .ok (.iconst 1, 1) := by decide +kernel
theorem dX8_undo_21 : decode cX8_undo 21 = .ok (.isub, 1) := by decide +kernel
theorem dX8_undo_22 : decode cX8_undo 22 = .ok (.putfield 36, 3) := by decide +kernel
theorem dX8_undo_25 : decode cX8_undo 25 = .ok (.iconst 0, 1) := by decide +kernel
theorem dX8_undo_26 : decode cX8_undo 26 = .ok (.istore_n 1, 1) := by decide +kernel
theorem dX8_undo_27 : decode cX8_undo 27 = .ok (.iload_n 1, 1) := by decide +kernel
theorem dX8_undo_28 : decode cX8_undo 28 = .ok (.sipush 456, 3) := by decide +kernel
theorem dX8_undo_31 : decode cX8_undo 31 = .ok (.if_icmp .ge 30, 3) := by decide +kernel
theorem dX8_undo_34 : decode cX8_undo 34 = .ok (.aload_n 0, 1) := by decide +kernel
theorem dX8_undo_35 : decode cX8_undo 35 = .ok (.getfield 7, 3) := by decide +kernel
theorem dX8_undo_38 : decode cX8_undo 38 = .ok (.iload_n 1, 1) := by decide +kernel
theorem dX8_undo_39 : decode cX8_undo 39 = .ok (.aload_n 0, 1) := by decide +kernel
theorem dX8_undo_40 : decode cX8_undo 40 = .ok (.getfield 16, 3) := by decide +kernel
theorem dX8_undo_43 : decode cX8_undo 43 = .ok (.sipush 456, 3) := by decide +kernel
theorem dX8_undo_46 : decode cX8_undo 46 = .ok (.aload_n 0, 1) := by decide +kernel
theorem dX8_undo_47 : decode cX8_undo 47 = .ok (.getfield 36, 3) := by decide +kernel
theorem dX8_undo_50 : decode cX8_undo 50 = .ok (.imul, 1) := by decide +kernel
theorem dX8_undo_51 : decode cX8_undo 51 = .ok (.iload_n 1, 1) := by decide +kernel
theorem dX8_undo_52 : decode cX8_undo 52 = .ok (.iadd, 1) := by decide +kernel
theorem dX8_undo_53 : decode cX8_undo 53 = .ok (.iaload, 1) := by decide +kernel
theorem dX8_undo_54 : decode cX8_undo 54 = .ok (.iastore, 1) := by decide +kernel
theorem dX8_undo_55 : decode cX8_undo 55 = .ok (.iinc 1 1, 3) := by decide +kernel
theorem dX8_undo_58 : decode cX8_undo 58 = .ok (.goto (-31), 3) := by decide +kernel
theorem dX8_undo_61 : decode cX8_undo 61 = .ok (.aload_n 0, 1) := by decide +kernel
theorem dX8_undo_62 : decode cX8_undo 62 = .ok (.getfield 36, 3) := by decide +kernel
theorem dX8_undo_65 : decode cX8_undo 65 = .ok (.ireturn, 1) := by decide +kernel
theorem dX8_wrong_0 : decode cX8_wrong 0 = .ok (.aload_n 0, 1) := by decide +kernel
theorem dX8_wrong_1 : decode cX8_wrong 1 = .ok (.invokevirtual 136, 3) := by decide +kernel
theorem dX8_wrong_4 : decode cX8_wrong 4 = .ok (.aload_n 0, 1) := by decide +kernel
theorem dX8_wrong_5 : decode cX8_wrong 5 = .ok (.iload_n 1, 1) := by decide +kernel
theorem dX8_wrong_6 : decode cX8_wrong 6 = .ok (.iconst 3, 1) := by decide +kernel
theorem dX8_wrong_7 : decode cX8_wrong 7 = .ok (.invokevirtual 133, 3) := by decide +kernel
theorem dX8_wrong_10 : decode cX8_wrong 10 = .ok (.iconst (-1), 1) := by decide +kernel
theorem dX8_wrong_11 : decode cX8_wrong 11 = .ok (.ixor, 1) := by decide +kernel
theorem dX8_wrong_12 : decode cX8_wrong 12 = .ok (.iand, 1) := by decide +kernel
theorem dX8_wrong_13 : decode cX8_wrong 13 = .ok (.aload_n 0, 1) := by decide +kernel
theorem dX8_wrong_14 : decode cX8_wrong 14 = .ok (.iload_n 1, 1) := by decide +kernel
theorem dX8_wrong_15 : decode cX8_wrong 15 = .ok (.iconst 2, 1) := by decide +kernel
theorem dX8_wrong_16 : decode cX8_wrong 16 = .ok (.invokevirtual 133, 3) := by decide +kernel
theorem dX8_wrong_19 : decode cX8_wrong 19 = .ok (.aload_n 0, 1) := by decide +kernel
theorem dX8_wrong_20 : decode cX8_wrong 20 = .ok (.iload_n 1, 1) := by decide +kernel
theorem dX8_wrong_21 : decode cX8_wrong 21 = .ok (.iconst 4, 1) := by decide +kernel
theorem dX8_wrong_22 : decode cX8_wrong 22 = .ok (.invokevirtual 133, 3) := by decide +kernel
theorem dX8_wrong_25 : decode cX8_wrong 25 = .ok (.aload_n 0, 1) := by decide +kernel
theorem dX8_wrong_26 : decode cX8_wrong 26 = .ok (.iload_n 1, 1) := by decide +kernel
theorem dX8_wrong_27 : decode cX8_wrong 27 = .ok (.iconst 3, 1) := by decide +kernel
theorem dX8_wrong_28 : decode cX8_wrong 28 = .ok (.invokevirtual 133, 3) := by decide +kernel
theorem dX8_wrong_31 : decode cX8_wrong 31 = .ok (.iand, 1) := by decide +kernel
theorem dX8_wrong_32 : decode cX8_wrong 32 = .ok (.ixor, 1) := by decide +kernel
theorem dX8_wrong_33 : decode cX8_wrong 33 = .ok (.ior, 1) := by decide +kernel
theorem dX8_wrong_34 : decode cX8_wrong 34 = .ok (.ireturn, 1) := by decide +kernel
theorem dX8_allWrong_0 : decode cX8_allWrong 0 = .ok (.iconst 0, 1) := by decide +kernel
theorem dX8_allWrong_1 : decode cX8_allWrong 1 = .ok (.istore_n 1, 1) := by decide +kernel
theorem dX8_allWrong_2 : decode cX8_allWrong 2 = .ok (.iconst 0, 1) := by decide +kernel
theorem dX8_allWrong_3 : decode cX8_allWrong 3 = .ok (.istore_n 2, 1) := by decide +kernel
theorem dX8_allWrong_4 : decode cX8_allWrong 4 = .ok (.iload_n 2, 1) := by decide +kernel
theorem dX8_allWrong_5 : decode cX8_allWrong 5 = .ok (.aload_n 0, 1) := by decide +kernel
theorem dX8_allWrong_6 : decode cX8_allWrong 6 = .ok (.getfield 7, 3) := by decide +kernel
theorem dX8_allWrong_9 : decode cX8_allWrong 9 = .ok (.iconst 5, 1) := by decide +kernel
theorem dX8_allWrong_10 : decode cX8_allWrong 10 = .ok (.iaload, 1) := by decide +kernel
theorem dX8_allWrong_11 : decode cX8_allWrong 11 = .ok (.if_icmp .ge 20, 3) := by decide +kernel
theorem dX8_allWrong_14 : decode cX8_allWrong 14 = .ok (.iload_n 1, 1) := by decide +kernel
theorem dX8_allWrong_15 : decode cX8_allWrong 15 = .ok (.aload_n 0, 1) := by decide +kernel
theorem dX8_allWrong_16 : decode cX8_allWrong 16 = .ok (.iload_n 2, 1) := by decide +kernel
theorem dX8_allWrong_17 : decode cX8_allWrong 17 = .ok (.invokevirtual 148, 3) := by decide +kernel
theorem dX8_allWrong_20 : decode cX8_allWrong 20 = .ok (.invokestatic 151, 3) := by decide +kernel
theorem dX8_allWrong_23 : decode cX8_allWrong 23 = .ok (.iadd, 1) := by decide +kernel
theorem dX8_allWrong_24 : decode cX8_allWrong 24 = .ok (.istore_n 1, 1) := by decide +kernel
theorem dX8_allWrong_25 : decode cX8_allWrong 25 = .ok (.iinc 2 1, 3) := by decide +kernel
theorem dX8_allWrong_28 : decode cX8_allWrong 28 = .ok (.goto (-24), 3) := by decide +kernel
theorem dX8_allWrong_31 : decode cX8_allWrong 31 = .ok (.iload_n 1, 1) := by decide +kernel
theorem dX8_allWrong_32 : decode cX8_allWrong 32 = .ok (.ireturn, 1) := by decide +kernel
theorem dX8_count_0 : decode cX8_count 0 = .ok (.aload_n 0, 1) := by decide +kernel
theorem dX8_count_1 : decode cX8_count 1 = .ok (.iconst 0, 1) := by decide +kernel
theorem dX8_count_2 : decode cX8_count 2 = .ok (.putfield 28, 3) := by decide +kernel
theorem dX8_count_5 : decode cX8_count 5 = .ok (.iload_n 1, 1) := by decide +kernel
theorem dX8_count_6 : decode cX8_count 6 = .ok (.tableswitch 110 0 9 #[54, 54, 54, 61, 54, 54, 82, 95, 100, 105], 54) := by decide +kernel
theorem dX8_count_60 : decode cX8_count 60 = .ok (.aload_n 0, 1) := by decide +kernel
theorem dX8_count_61 : decode cX8_count 61 = .ok (.getfield 7, 3) := by decide +kernel
theorem dX8_count_64 : decode cX8_count 64 = .ok (.iload_n 1, 1) := by decide +kernel
theorem dX8_count_65 : decode cX8_count 65 = .ok (.iaload, 1) := by decide +kernel
theorem dX8_count_66 : decode cX8_count 66 = .ok (.ireturn, 1) := by decide +kernel
theorem dX8_count_67 : decode cX8_count 67 = .ok (.aload_n 0, 1) := by decide +kernel
theorem dX8_count_68 : decode cX8_count 68 = .ok (.getfield 7, 3) := by decide +kernel
theorem dX8_count_71 : decode cX8_count 71 = .ok (.iconst 2, 1) := by decide +kernel
theorem dX8_count_72 : decode cX8_count 72 = .ok (.iaload, 1) := by decide +kernel
theorem dX8_count_73 : decode cX8_count 73 = .ok (.ifCond .ne 8, 3) := by decide +kernel
theorem dX8_count_76 : decode cX8_count 76 = .ok (.bipush (-9), 2) := by decide +kernel
theorem dX8_count_78 : decode cX8_count 78 = .ok (.goto 9, 3) := by decide +kernel
theorem dX8_count_81 : decode cX8_count 81 = .ok (.aload_n 0, 1) := by decide +kernel
theorem dX8_count_82 : decode cX8_count 82 = .ok (.getfield 7, 3) := by decide +kernel
theorem dX8_count_85 : decode cX8_count 85 = .ok (.iconst 3, 1) := by decide +kernel
theorem dX8_count_86 : decode cX8_count 86 = .ok (.iaload, 1) := by decide +kernel
theorem dX8_count_87 : decode cX8_count 87 = .ok (.ireturn, 1) := by decide +kernel
theorem dX8_count_88 : decode cX8_count 88 = .ok (.aload_n 0, 1) := by decide +kernel
theorem dX8_count_89 : decode cX8_count 89 = .ok (.invokevirtual 139, 3) := by decide +kernel
theorem dX8_count_92 : decode cX8_count 92 = .ok (.ifCond .eq 7, 3) := by decide +kernel
theorem dX8_count_95 : decode cX8_count 95 = .ok (.iconst 1, 1) := by decide +kernel
theorem dX8_count_96 : decode cX8_count 96 = .ok (.goto 4, 3) := by decide +kernel
theorem dX8_count_99 : decode cX8_count 99 = .ok (.iconst 0, 1) := by decide +kernel
theorem dX8_count_100 : decode cX8_count 100 = .ok (.ireturn, 1) := by decide +kernel
theorem dX8_count_101 : decode cX8_count 101 = .ok (.aload_n 0, 1) := by decide +kernel
theorem dX8_count_102 : decode cX8_count 102 = .ok (.invokevirtual 154, 3) := by decide +kernel
theorem dX8_count_105 : decode cX8_count 105 = .ok (.ireturn, 1) := by decide +kernel
theorem dX8_count_106 : decode cX8_count 106 = .ok (.aload_n 0, 1) := by decide +kernel
theorem dX8_count_107 : decode cX8_count 107 = .ok (.getfield 36, 3) := by decide +kernel
theorem dX8_count_110 : decode cX8_count 110 = .ok (.ireturn, 1) := by decide +kernel
theorem dX8_count_111 : decode cX8_count 111 = .ok (.aload_n 0, 1) := by decide +kernel
theorem dX8_count_112 : decode cX8_count 112 = .ok (.getfield 70, 3) := by decide +kernel
theorem dX8_count_115 : decode cX8_count 115 = .ok (.ireturn, 1) := by decide +kernel
theorem dX8_count_116 : decode cX8_count 116 = .ok (.iconst (-1), 1) := by decide +kernel
theorem dX8_count_117 : decode cX8_count 117 = .ok (.ireturn, 1) := by decide +kernel
theorem dX8_side_0 : decode cX8_side 0 = .ok (.aload_n 0, 1) := by decide +kernel
theorem dX8_side_1 : decode cX8_side 1 = .ok (.iload_n 1, 1) := by decide +kernel
theorem dX8_side_2 : decode cX8_side 2 = .ok (.iconst 3, 1) := by decide +kernel
theorem dX8_side_3 : decode cX8_side 3 = .ok (.invokevirtual 133, 3) := by decide +kernel
theorem dX8_side_6 : decode cX8_side 6 = .ok (.iload_n 2, 1) := by decide +kernel
theorem dX8_side_7 : decode cX8_side 7 = .ok (.invokestatic 108, 3) := by decide +kernel
theorem dX8_side_10 : decode cX8_side 10 = .ok (.ifCond .ne 7, 3) := by decide +kernel
theorem dX8_side_13 : decode cX8_side 13 = .ok (.iconst 2, 1) := by decide +kernel
theorem dX8_side_14 : decode cX8_side 14 = .ok (.goto 21, 3) := by decide +kernel
theorem dX8_side_17 : decode cX8_side 17 = .ok (.aload_n 0, 1) := by decide +kernel
theorem dX8_side_18 : decode cX8_side 18 = .ok (.iload_n 1, 1) := by decide +kernel
theorem dX8_side_19 : decode cX8_side 19 = .ok (.iconst 2, 1) := by decide +kernel
theorem dX8_side_20 : decode cX8_side 20 = .ok (.invokevirtual 133, 3) := by decide +kernel
theorem dX8_side_23 : decode cX8_side 23 = .ok (.iload_n 2, 1) := by decide +kernel
theorem dX8_side_24 : decode cX8_side 24 = .ok (.invokestatic 108, 3) := by decide +kernel
theorem dX8_side_27 : decode cX8_side 27 = .ok (.ifCond .eq 7, 3) := by decide +kernel
theorem dX8_side_30 : decode cX8_side 30 = .ok (.iconst 1, 1) := by decide +kernel
theorem dX8_side_31 : decode cX8_side 31 = .ok (.goto 4, 3) := by decide +kernel
theorem dX8_side_34 : decode cX8_side 34 = .ok (.iconst 0, 1) := by decide +kernel
theorem dX8_side_35 : decode cX8_side 35 = .ok (.ireturn, 1) := by decide +kernel
theorem dX8_take_0 : decode cX8_take 0 = .ok (.aload_n 0, 1) := by decide +kernel
theorem dX8_take_1 : decode cX8_take 1 = .ok (.dup, 1) := by decide +kernel
theorem dX8_take_2 : decode cX8_take 2 = .ok (.getfield 157, 3) := by decide +kernel
theorem dX8_take_5 : decode cX8_take 5 = .ok (.iload_n 2, 1) := by decide +kernel
theorem dX8_take_6 : decode cX8_take 6 = .ok (.iload_n 1, 1) := by decide +kernel
theorem dX8_take_7 : decode cX8_take 7 = .ok (.if_icmp .lt 7, 3) := by decide +kernel
theorem dX8_take_10 : decode cX8_take 10 = .ok (.iconst 1, 1) := by decide +kernel
theorem dX8_take_11 : decode cX8_take 11 = .ok (.goto 4, 3) := by decide +kernel
theorem dX8_take_14 : decode cX8_take 14 = .ok (.iconst 0, 1) := by decide +kernel
theorem dX8_take_15 : decode cX8_take 15 = .ok (.iadd, 1) := by decide +kernel
theorem dX8_take_16 : decode cX8_take 16 = .ok (.putfield 157, 3) := by decide +kernel
theorem dX8_take_19 : decode cX8_take 19 = .ok (.aload_n 0, 1) := by decide +kernel
theorem dX8_take_20 : decode cX8_take 20 = .ok (.iload_n 2, 1) := by decide +kernel
theorem dX8_take_21 : decode cX8_take 21 = .ok (.aload_n 0, 1) := by decide +kernel
theorem dX8_take_22 : decode cX8_take 22 = .ok (.getfield 160, 3) := by decide +kernel
theorem dX8_take_25 : decode cX8_take 25 = .ok (.if_icmp .le 7, 3) := by decide +kernel
theorem dX8_take_28 : decode cX8_take 28 = .ok (.iload_n 2, 1) := by decide +kernel
theorem dX8_take_29 : decode cX8_take 29 = .ok (.goto 7, 3) := by decide +kernel
theorem dX8_take_32 : decode cX8_take 32 = .ok (.aload_n 0, 1) := by decide +kernel
theorem dX8_take_33 : decode cX8_take 33 = .ok (.getfield 160, 3) := by decide +kernel
theorem dX8_take_36 : decode cX8_take 36 = .ok (.putfield 160, 3) := by decide +kernel
theorem dX8_take_39 : decode cX8_take 39 = .ok (.return_, 1) := by decide +kernel
theorem dX8_measure_0 : decode cX8_measure 0 = .ok (.iconst 0, 1) := by decide +kernel
theorem dX8_measure_1 : decode cX8_measure 1 = .ok (.istore 4, 2) := by decide +kernel
theorem dX8_measure_3 : decode cX8_measure 3 = .ok (.iconst 2, 1) := by decide +kernel
theorem dX8_measure_4 : decode cX8_measure 4 = .ok (.istore 5, 2) := by decide +kernel
theorem dX8_measure_6 : decode cX8_measure 6 = .ok (.iload_n 1, 1) := by decide +kernel
theorem dX8_measure_7 : decode cX8_measure 7 = .ok (.ifCond .ne 12, 3) := by decide +kernel
theorem dX8_measure_10 : decode cX8_measure 10 = .ok (.aload_n 0, 1) := by decide +kernel
theorem dX8_measure_11 : decode cX8_measure 11 = .ok (.getfield 7, 3) := by decide +kernel
theorem dX8_measure_14 : decode cX8_measure 14 = .ok (.iconst 5, 1) := by decide +kernel
theorem dX8_measure_15 : decode cX8_measure 15 = .ok (.iaload, 1) := by decide +kernel
theorem dX8_measure_16 : decode cX8_measure 16 = .ok (.goto 9, 3) := by decide +kernel
theorem dX8_measure_19 : decode cX8_measure 19 = .ok (.aload_n 0, 1) := by decide +kernel
theorem dX8_measure_20 : decode cX8_measure 20 = .ok (.getfield 7, 3) := by decide +kernel
theorem dX8_measure_23 : decode cX8_measure 23 = .ok (.iconst 1, 1) := by decide +kernel
theorem dX8_measure_24 : decode cX8_measure 24 = .ok (.iaload, 1) := by decide +kernel
theorem dX8_measure_25 : decode cX8_measure 25 = .ok (.istore 6, 2) := by decide +kernel
theorem dX8_measure_27 : decode cX8_measure 27 = .ok (.iconst 0, 1) := by decide +kernel
theorem dX8_measure_28 : decode cX8_measure 28 = .ok (.istore 7, 2) := by decide +kernel
theorem dX8_measure_30 : decode cX8_measure 30 = .ok (.iload 7, 2) := by decide +kernel
theorem dX8_measure_32 : decode cX8_measure 32 = .ok (.iload 6, 2) := by decide +kernel
theorem dX8_measure_34 : decode cX8_measure 34 = .ok (.if_icmp .gt 97, 3) := by decide +kernel
theorem dX8_measure_37 : decode cX8_measure 37 = .ok (.iload 7, 2) := by decide +kernel
theorem dX8_measure_39 : decode cX8_measure 39 = .ok (.iload 6, 2) := by decide +kernel
theorem dX8_measure_41 : decode cX8_measure 41 = .ok (.if_icmp .ne 7, 3) := by decide +kernel
theorem dX8_measure_44 : decode cX8_measure 44 = .ok (.iconst 2, 1) := by decide +kernel
theorem dX8_measure_45 : decode cX8_measure 45 = .ok (.goto 24, 3) := by decide +kernel
theorem dX8_measure_48 : decode cX8_measure 48 = .ok (.iload_n 1, 1) := by decide +kernel
theorem dX8_measure_49 : decode cX8_measure 49 = .ok (.ifCond .ne 13, 3) := by decide +kernel
theorem dX8_measure_52 : decode cX8_measure 52 = .ok (.aload_n 0, 1) := by decide +kernel
theorem dX8_measure_53 : decode cX8_measure 53 = .ok (.iload 7, 2) := by decide +kernel
theorem dX8_measure_55 : decode cX8_measure 55 = .ok (.iload_n 2, 1) := by decide +kernel
theorem dX8_measure_56 : decode cX8_measure 56 = .ok (.invokevirtual 163, 3) := by decide +kernel
theorem dX8_measure_59 : decode cX8_measure 59 = .ok (.goto 10, 3) := by decide +kernel
theorem dX8_measure_62 : decode cX8_measure 62 = .ok (.aload_n 0, 1) := by decide +kernel
theorem dX8_measure_63 : decode cX8_measure 63 = .ok (.iload_n 2, 1) := by decide +kernel
theorem dX8_measure_64 : decode cX8_measure 64 = .ok (.iload 7, 2) := by decide +kernel
theorem dX8_measure_66 : decode cX8_measure 66 = .ok (.invokevirtual 163, 3) := by decide +kernel
theorem dX8_measure_69 : decode cX8_measure 69 = .ok (.istore 8, 2) := by decide +kernel
theorem dX8_measure_71 : decode cX8_measure 71 = .ok (.iload 8, 2) := by decide +kernel
theorem dX8_measure_73 : decode cX8_measure 73 = .ok (.iload 5, 2) := by decide +kernel
theorem dX8_measure_75 : decode cX8_measure 75 = .ok (.if_icmp .ne 9, 3) := by decide +kernel
theorem dX8_measure_78 : decode cX8_measure 78 = .ok (.iload 8, 2) := by decide +kernel
theorem dX8_measure_80 : decode cX8_measure 80 = .ok (.iconst 2, 1) := by decide +kernel
theorem dX8_measure_81 : decode cX8_measure 81 = .ok (.if_icmp .ne 24, 3) := by decide +kernel
theorem dX8_measure_84 : decode cX8_measure 84 = .ok (.aload_n 0, 1) := by decide +kernel
theorem dX8_measure_85 : decode cX8_measure 85 = .ok (.iload 4, 2) := by decide +kernel
theorem dX8_measure_87 : decode cX8_measure 87 = .ok (.ifCond .ne 9, 3) := by decide +kernel
theorem dX8_measure_90 : decode cX8_measure 90 = .ok (.sipush 1000, 3) := by decide +kernel
theorem dX8_measure_93 : decode cX8_measure 93 = .ok (.goto 4, 3) := by decide +kernel
theorem dX8_measure_96 : decode cX8_measure 96 = .ok (.iload_n 3, 1) := by decide +kernel
theorem dX8_measure_97 : decode cX8_measure 97 = .ok (.iload 4, 2) := by decide +kernel
theorem dX8_measure_99 : decode cX8_measure 99 = .ok (.invokevirtual 166, 3) := by decide +kernel
theorem dX8_measure_102 : decode cX8_measure 102 = .ok (.iconst 0, 1) := by decide +kernel
theorem dX8_measure_103 : decode cX8_measure 103 = .ok (.istore 4, 2) := by decide +kernel
theorem dX8_measure_105 : decode cX8_measure 105 = .ok (.iload 4, 2) := by decide +kernel
theorem dX8_measure_107 : decode cX8_measure 107 = .ok (.iload 8, 2) := by decide +kernel
theorem dX8_measure_109 : decode cX8_measure 109 = .ok (.iconst 2, 1) := by decide +kernel
theorem dX8_measure_110 : decode cX8_measure 110 = .ok (.if_icmp .ne 7, 3) := by decide +kernel
theorem dX8_measure_113 : decode cX8_measure 113 = .ok (.iconst 0, 1) := by decide +kernel
theorem dX8_measure_114 : decode cX8_measure 114 = .ok (.goto 4, 3) := by decide +kernel
theorem dX8_measure_117 : decode cX8_measure 117 = .ok (.iconst 1, 1) := by decide +kernel
theorem dX8_measure_118 : decode cX8_measure 118 = .ok (.iadd, 1) := by decide +kernel
theorem dX8_measure_119 : decode cX8_measure 119 = .ok (.istore 4, 2) := by decide +kernel
theorem dX8_measure_121 : decode cX8_measure 121 = .ok (.iload 8, 2) := by decide +kernel
theorem dX8_measure_123 : decode cX8_measure 123 = .ok (.istore 5, 2) := by decide +kernel
theorem dX8_measure_125 : decode cX8_measure 125 = .ok (.iinc 7 1, 3) := by decide +kernel
theorem dX8_measure_128 : decode cX8_measure 128 = .ok (.goto (-98), 3) := by decide +kernel
theorem dX8_measure_131 : decode cX8_measure 131 = .ok (.return_, 1) := by decide +kernel
theorem dX8_longestOf_0 : decode cX8_longestOf 0 = .ok (.aload_n 0, 1) := by decide +kernel
theorem dX8_longestOf_1 : decode cX8_longestOf 1 = .ok (.iconst 0, 1) := by decide +kernel
theorem dX8_longestOf_2 : decode cX8_longestOf 2 = .ok (.putfield 157, 3) := by decide +kernel
theorem dX8_longestOf_5 : decode cX8_longestOf 5 = .ok (.aload_n 0, 1) := by decide +kernel
theorem dX8_longestOf_6 : decode cX8_longestOf 6 = .ok (.iconst 0, 1) := by decide +kernel
theorem dX8_longestOf_7 : decode cX8_longestOf 7 = .ok (.putfield 160, 3) := by decide +kernel
theorem dX8_longestOf_10 : decode cX8_longestOf 10 = .ok (.aload_n 0, 1) := by decide +kernel
theorem dX8_longestOf_11 : decode cX8_longestOf 11 = .ok (.iload_n 1, 1) := by decide +kernel
theorem dX8_longestOf_12 : decode cX8_longestOf 12 = .ok (.iload_n 2, 1) := by decide +kernel
theorem dX8_longestOf_13 : decode cX8_longestOf 13 = .ok (.iconst 1, 1) := by decide +kernel
theorem dX8_longestOf_14 : decode cX8_longestOf 14 = .ok (.invokevirtual 169, 3) := by decide +kernel
theorem dX8_longestOf_17 : decode cX8_longestOf 17 = .ok (.aload_n 0, 1) := by decide +kernel
theorem dX8_longestOf_18 : decode cX8_longestOf 18 = .ok (.getfield 160, 3) := by decide +kernel
theorem dX8_longestOf_21 : decode cX8_longestOf 21 = .ok (.ireturn, 1) := by decide +kernel
theorem dX8_rowsWith_0 : decode cX8_rowsWith 0 = .ok (.iconst 0, 1) := by decide +kernel
theorem dX8_rowsWith_1 : decode cX8_rowsWith 1 = .ok (.istore_n 3, 1) := by decide +kernel
theorem dX8_rowsWith_2 : decode cX8_rowsWith 2 = .ok (.iconst 0, 1) := by decide +kernel
theorem dX8_rowsWith_3 : decode cX8_rowsWith 3 = .ok (.istore 4, 2) := by decide +kernel
theorem dX8_rowsWith_5 : decode cX8_rowsWith 5 = .ok (.iload 4, 2) := by decide +kernel
theorem dX8_rowsWith_7 : decode cX8_rowsWith 7 = .ok (.aload_n 0, 1) := by decide +kernel
theorem dX8_rowsWith_8 : decode cX8_rowsWith 8 = .ok (.getfield 7, 3) := by decide +kernel
theorem dX8_rowsWith_11 : decode cX8_rowsWith 11 = .ok (.iconst 5, 1) := by decide +kernel
theorem dX8_rowsWith_12 : decode cX8_rowsWith 12 = .ok (.iaload, 1) := by decide +kernel
theorem dX8_rowsWith_13 : decode cX8_rowsWith 13 = .ok (.if_icmp .ge 44, 3) := by decide +kernel
theorem dX8_rowsWith_16 : decode cX8_rowsWith 16 = .ok (.iload_n 3, 1) := by decide +kernel
theorem dX8_rowsWith_17 : decode cX8_rowsWith 17 = .ok (.iload_n 2, 1) := by decide +kernel
theorem dX8_rowsWith_18 : decode cX8_rowsWith 18 = .ok (.ifCond .ne 13, 3) := by decide +kernel
theorem dX8_rowsWith_21 : decode cX8_rowsWith 21 = .ok (.aload_n 0, 1) := by decide +kernel
theorem dX8_rowsWith_22 : decode cX8_rowsWith 22 = .ok (.iload 4, 2) := by decide +kernel
theorem dX8_rowsWith_24 : decode cX8_rowsWith 24 = .ok (.iconst 2, 1) := by decide +kernel
theorem dX8_rowsWith_25 : decode cX8_rowsWith 25 = .ok (.invokevirtual 133, 3) := by decide +kernel
theorem dX8_rowsWith_28 : decode cX8_rowsWith 28 = .ok (.goto 9, 3) := by decide +kernel
theorem dX8_rowsWith_31 : decode cX8_rowsWith 31 = .ok (.aload_n 0, 1) := by decide +kernel
theorem dX8_rowsWith_32 : decode cX8_rowsWith 32 = .ok (.iload 4, 2) := by decide +kernel
theorem dX8_rowsWith_34 : decode cX8_rowsWith 34 = .ok (.invokevirtual 148, 3) := by decide +kernel
theorem dX8_rowsWith_37 : decode cX8_rowsWith 37 = .ok (.iload_n 1, 1) := by decide +kernel
theorem dX8_rowsWith_38 : decode cX8_rowsWith 38 = .ok (.invokestatic 108, 3) := by decide +kernel
theorem dX8_rowsWith_41 : decode cX8_rowsWith 41 = .ok (.ifCond .eq 7, 3) := by decide +kernel
theorem dX8_rowsWith_44 : decode cX8_rowsWith 44 = .ok (.iconst 1, 1) := by decide +kernel
theorem dX8_rowsWith_45 : decode cX8_rowsWith 45 = .ok (.goto 4, 3) := by decide +kernel
theorem dX8_rowsWith_48 : decode cX8_rowsWith 48 = .ok (.iconst 0, 1) := by decide +kernel
theorem dX8_rowsWith_49 : decode cX8_rowsWith 49 = .ok (.iadd, 1) := by decide +kernel
theorem dX8_rowsWith_50 : decode cX8_rowsWith 50 = .ok (.istore_n 3, 1) := by decide +kernel
theorem dX8_rowsWith_51 : decode cX8_rowsWith 51 = .ok (.iinc 4 1, 3) := by decide +kernel
theorem dX8_rowsWith_54 : decode cX8_rowsWith 54 = .ok (.goto (-49), 3) := by decide +kernel
theorem dX8_rowsWith_57 : decode cX8_rowsWith 57 = .ok (.iload_n 3, 1) := by decide +kernel
theorem dX8_rowsWith_58 : decode cX8_rowsWith 58 = .ok (.ireturn, 1) := by decide +kernel
theorem dX8_end_0 : decode cX8_end 0 = .ok (.aload_n 0, 1) := by decide +kernel
theorem dX8_end_1 : decode cX8_end 1 = .ok (.iconst 0, 1) := by decide +kernel
theorem dX8_end_2 : decode cX8_end 2 = .ok (.putfield 28, 3) := by decide +kernel
theorem dX8_end_5 : decode cX8_end 5 = .ok (.aload_n 0, 1) := by decide +kernel
theorem dX8_end_6 : decode cX8_end 6 = .ok (.iload_n 1, 1) := by decide +kernel
theorem dX8_end_7 : decode cX8_end 7 = .ok (.invokevirtual 46, 3) := by decide +kernel
theorem dX8_end_10 : decode cX8_end 10 = .ok (.ifCond .ne 5, 3) := by decide +kernel
theorem dX8_end_13 : decode cX8_end 13 = .ok (.iconst (-1), 1) := by decide +kernel
theorem dX8_end_14 : decode cX8_end 14 = .ok (.ireturn, 1) := by decide +kernel
theorem dX8_end_15 : decode cX8_end 15 = .ok (.iload_n 2, 1) := by decide +kernel
theorem dX8_end_16 : decode cX8_end 16 = .ok (.tableswitch 77 0 4 #[36, 46, 56, 63, 70], 36) := by decide +kernel
theorem dX8_end_52 : decode cX8_end 52 = .ok (.aload_n 0, 1) := by decide +kernel
theorem dX8_end_53 : decode cX8_end 53 = .ok (.getfield 7, 3) := by decide +kernel
theorem dX8_end_56 : decode cX8_end 56 = .ok (.bipush 6, 2) := by decide +kernel
theorem dX8_end_58 : decode cX8_end 58 = .ok (.iload_n 1, 1) := by decide +kernel
theorem dX8_end_59 : decode cX8_end 59 = .ok (.iadd, 1) := by decide +kernel
theorem dX8_end_60 : decode cX8_end 60 = .ok (.iaload, 1) := by decide +kernel
theorem dX8_end_61 : decode cX8_end 61 = .ok (.ireturn, 1) := by decide +kernel
theorem dX8_end_62 : decode cX8_end 62 = .ok (.aload_n 0, 1) := by decide +kernel
theorem dX8_end_63 : decode cX8_end 63 = .ok (.getfield 7, 3) := by decide +kernel
theorem dX8_end_66 : decode cX8_end 66 = .ok (.bipush 38, 2) := by decide +kernel
theorem dX8_end_68 : decode cX8_end 68 = .ok (.iload_n 1, 1) := by decide +kernel
theorem dX8_end_69 : decode cX8_end 69 = .ok (.iadd, 1) := by decide +kernel
theorem dX8_end_70 : decode cX8_end 70 = .ok (.iaload, 1) := by decide +kernel
theorem dX8_end_71 : decode cX8_end 71 = .ok (.ireturn, 1) := by decide +kernel
theorem dX8_end_72 : decode cX8_end 72 = .ok (.aload_n 0, 1) := by decide +kernel
theorem dX8_end_73 : decode cX8_end 73 = .ok (.iload_n 1, 1) := by decide +kernel
theorem dX8_end_74 : decode cX8_end 74 = .ok (.iconst 0, 1) := by decide +kernel
theorem dX8_end_75 : decode cX8_end 75 = .ok (.invokevirtual 172, 3) := by decide +kernel
theorem dX8_end_78 : decode cX8_end 78 = .ok (.ireturn, 1) := by decide +kernel
theorem dX8_end_79 : decode cX8_end 79 = .ok (.aload_n 0, 1) := by decide +kernel
theorem dX8_end_80 : decode cX8_end 80 = .ok (.iload_n 1, 1) := by decide +kernel
theorem dX8_end_81 : decode cX8_end 81 = .ok (.iconst 1, 1) := by decide +kernel
theorem dX8_end_82 : decode cX8_end 82 = .ok (.invokevirtual 172, 3) := by decide +kernel
theorem dX8_end_85 : decode cX8_end 85 = .ok (.ireturn, 1) := by decide +kernel
theorem dX8_end_86 : decode cX8_end 86 = .ok (.aload_n 0, 1) := by decide +kernel
theorem dX8_end_87 : decode cX8_end 87 = .ok (.iconst 0, 1) := by decide +kernel
theorem dX8_end_88 : decode cX8_end 88 = .ok (.iload_n 1, 1) := by decide +kernel
theorem dX8_end_89 : decode cX8_end 89 = .ok (.invokevirtual 175, 3) := by decide +kernel
theorem dX8_end_92 : decode cX8_end 92 = .ok (.ireturn, 1) := by decide +kernel
theorem dX8_end_93 : decode cX8_end 93 = .ok (.iconst (-1), 1) := by decide +kernel
theorem dX8_end_94 : decode cX8_end 94 = .ok (.ireturn, 1) := by decide +kernel
theorem dX8_needOf_0 : decode cX8_needOf 0 = .ok (.aload_n 0, 1) := by decide +kernel
theorem dX8_needOf_1 : decode cX8_needOf 1 = .ok (.aload_n 0, 1) := by decide +kernel
theorem dX8_needOf_2 : decode cX8_needOf 2 = .ok (.aload_n 0, 1) := by decide +kernel
theorem dX8_needOf_3 : decode cX8_needOf 3 = .ok (.getfield 7, 3) := by decide +kernel
theorem dX8_needOf_6 : decode cX8_needOf 6 = .ok (.bipush 78, 2) := by decide +kernel
theorem dX8_needOf_8 : decode cX8_needOf 8 = .ok (.iload_n 1, 1) := by decide +kernel
theorem dX8_needOf_9 : decode cX8_needOf 9 = .ok (.iadd, 1) := by decide +kernel
theorem dX8_needOf_10 : decode cX8_needOf 10 = .ok (.iaload, 1) := by decide +kernel
theorem dX8_needOf_11 : decode cX8_needOf 11 = .ok (.invokevirtual 115, 3) := by decide +kernel
theorem dX8_needOf_14 : decode cX8_needOf 14 = .ok (.invokevirtual 119, 3) := by decide +kernel
theorem dX8_needOf_17 : decode cX8_needOf 17 = .ok (.istore_n 2, 1) := by decide +kernel
theorem dX8_needOf_18 : decode cX8_needOf 18 = .ok (.iconst 0, 1) := by decide +kernel
theorem dX8_needOf_19 : decode cX8_needOf 19 = .ok (.istore_n 3, 1) := by decide +kernel
theorem dX8_needOf_20 : decode cX8_needOf 20 = .ok (.iconst 0, 1) := by decide +kernel
theorem dX8_needOf_21 : decode cX8_needOf 21 = .ok (.istore 4, 2) := by decide +kernel
theorem dX8_needOf_23 : decode cX8_needOf 23 = .ok (.iload 4, 2) := by decide +kernel
theorem dX8_needOf_25 : decode cX8_needOf 25 = .ok (.aload_n 0, 1) := by decide +kernel
theorem dX8_needOf_26 : decode cX8_needOf 26 = .ok (.getfield 7, 3) := by decide +kernel
theorem dX8_needOf_29 : decode cX8_needOf 29 = .ok (.iconst 1, 1) := by decide +kernel
theorem dX8_needOf_30 : decode cX8_needOf 30 = .ok (.iaload, 1) := by decide +kernel
theorem dX8_needOf_31 : decode cX8_needOf 31 = .ok (.if_icmp .ge 20, 3) := by decide +kernel
theorem dX8_needOf_34 : decode cX8_needOf 34 = .ok (.iload_n 3, 1) := by decide +kernel
theorem dX8_needOf_35 : decode cX8_needOf 35 = .ok (.aload_n 0, 1) := by decide +kernel
theorem dX8_needOf_36 : decode cX8_needOf 36 = .ok (.iconst 0, 1) := by decide +kernel
theorem dX8_needOf_37 : decode cX8_needOf 37 = .ok (.iload_n 2, 1) := by decide +kernel
theorem dX8_needOf_38 : decode cX8_needOf 38 = .ok (.iload 4, 2) := by decide +kernel
theorem dX8_needOf_40 : decode cX8_needOf 40 = .ok (.invokevirtual 122, 3) := by decide +kernel
theorem dX8_needOf_43 : decode cX8_needOf 43 = .ok (.iadd, 1) := by decide +kernel
theorem dX8_needOf_44 : decode cX8_needOf 44 = .ok (.istore_n 3, 1) := by decide +kernel
theorem dX8_needOf_45 : decode cX8_needOf 45 = .ok (.iinc 4 1, 3) := by decide +kernel
theorem dX8_needOf_48 : decode cX8_needOf 48 = .ok (.goto (-25), 3) := by decide +kernel
theorem dX8_needOf_51 : decode cX8_needOf 51 = .ok (.iload_n 3, 1) := by decide +kernel
theorem dX8_needOf_52 : decode cX8_needOf 52 = .ok (.ireturn, 1) := by decide +kernel
theorem dX8_bar_0 : decode cX8_bar 0 = .ok (.aload_n 0, 1) := by decide +kernel
theorem dX8_bar_1 : decode cX8_bar 1 = .ok (.iconst 0, 1) := by decide +kernel
theorem dX8_bar_2 : decode cX8_bar 2 = .ok (.putfield 28, 3) := by decide +kernel
theorem dX8_bar_5 : decode cX8_bar 5 = .ok (.aload_n 0, 1) := by decide +kernel
theorem dX8_bar_6 : decode cX8_bar 6 = .ok (.iload_n 1, 1) := by decide +kernel
theorem dX8_bar_7 : decode cX8_bar 7 = .ok (.invokevirtual 67, 3) := by decide +kernel
theorem dX8_bar_10 : decode cX8_bar 10 = .ok (.ifCond .ne 5, 3) := by decide +kernel
theorem dX8_bar_13 : decode cX8_bar 13 = .ok (.iconst (-1), 1) := by decide +kernel
theorem dX8_bar_14 : decode cX8_bar 14 = .ok (.ireturn, 1) := by decide +kernel
theorem dX8_bar_15 : decode cX8_bar 15 = .ok (.iload_n 2, 1) := by decide +kernel
theorem dX8_bar_16 : decode cX8_bar 16 = .ok (.tableswitch 72 0 3 #[32, 42, 52, 66], 32) := by decide +kernel
theorem dX8_bar_48 : decode cX8_bar 48 = .ok (.aload_n 0, 1) := by decide +kernel
theorem dX8_bar_49 : decode cX8_bar 49 = .ok (.getfield 7, 3) := by decide +kernel
theorem dX8_bar_52 : decode cX8_bar 52 = .ok (.bipush 78, 2) := by decide +kernel
theorem dX8_bar_54 : decode cX8_bar 54 = .ok (.iload_n 1, 1) := by decide +kernel
theorem dX8_bar_55 : decode cX8_bar 55 = .ok (.iadd, 1) := by decide +kernel
theorem dX8_bar_56 : decode cX8_bar 56 = .ok (.iaload, 1) := by decide +kernel
theorem dX8_bar_57 : decode cX8_bar 57 = .ok (.ireturn, 1) := by decide +kernel
theorem dX8_bar_58 : decode cX8_bar 58 = .ok (.aload_n 0, 1) := by decide +kernel
theorem dX8_bar_59 : decode cX8_bar 59 = .ok (.getfield 7, 3) := by decide +kernel
theorem dX8_bar_62 : decode cX8_bar 62 = .ok (.bipush 102, 2) := by decide +kernel
theorem dX8_bar_64 : decode cX8_bar 64 = .ok (.iload_n 1, 1) := by decide +kernel
theorem dX8_bar_65 : decode cX8_bar 65 = .ok (.iadd, 1) := by decide +kernel
theorem dX8_bar_66 : decode cX8_bar 66 = .ok (.iaload, 1) := by decide +kernel
theorem dX8_bar_67 : decode cX8_bar 67 = .ok (.ireturn, 1) := by decide +kernel
theorem dX8_bar_68 : decode cX8_bar 68 = .ok (.aload_n 0, 1) := by decide +kernel
theorem dX8_bar_69 : decode cX8_bar 69 = .ok (.aload_n 0, 1) := by decide +kernel
theorem dX8_bar_70 : decode cX8_bar 70 = .ok (.getfield 7, 3) := by decide +kernel
theorem dX8_bar_73 : decode cX8_bar 73 = .ok (.bipush 78, 2) := by decide +kernel
theorem dX8_bar_75 : decode cX8_bar 75 = .ok (.iload_n 1, 1) := by decide +kernel
theorem dX8_bar_76 : decode cX8_bar 76 = .ok (.iadd, 1) := by decide +kernel
theorem dX8_bar_77 : decode cX8_bar 77 = .ok (.iaload, 1) := by decide +kernel
theorem dX8_bar_78 : decode cX8_bar 78 = .ok (.invokevirtual 115, 3) := by decide +kernel
theorem dX8_bar_81 : decode cX8_bar 81 = .ok (.ireturn, 1) := by decide +kernel
theorem dX8_bar_82 : decode cX8_bar 82 = .ok (.aload_n 0, 1) := by decide +kernel
theorem dX8_bar_83 : decode cX8_bar 83 = .ok (.iload_n 1, 1) := by decide +kernel
theorem dX8_bar_84 : decode cX8_bar 84 = .ok (.invokevirtual 178, 3) := by decide +kernel
theorem dX8_bar_87 : decode cX8_bar 87 = .ok (.ireturn, 1) := by decide +kernel
theorem dX8_bar_88 : decode cX8_bar 88 = .ok (.iconst (-1), 1) := by decide +kernel
theorem dX8_bar_89 : decode cX8_bar 89 = .ok (.ireturn, 1) := by decide +kernel
theorem dX8_yarn_0 : decode cX8_yarn 0 = .ok (.aload_n 0, 1) := by decide +kernel
theorem dX8_yarn_1 : decode cX8_yarn 1 = .ok (.iconst 0, 1) := by decide +kernel
theorem dX8_yarn_2 : decode cX8_yarn 2 = .ok (.putfield 28, 3) := by decide +kernel
theorem dX8_yarn_5 : decode cX8_yarn 5 = .ok (.iload_n 1, 1) := by decide +kernel
theorem dX8_yarn_6 : decode cX8_yarn 6 = .ok (.invokestatic 53, 3) := by decide +kernel
theorem dX8_yarn_9 : decode cX8_yarn 9 = .ok (.ifCond .eq 15, 3) := by decide +kernel
theorem dX8_yarn_12 : decode cX8_yarn 12 = .ok (.aload_n 0, 1) := by decide +kernel
theorem dX8_yarn_13 : decode cX8_yarn 13 = .ok (.getfield 7, 3) := by decide +kernel
theorem dX8_yarn_16 : decode cX8_yarn 16 = .ok (.bipush 126, 2) := by decide +kernel
theorem dX8_yarn_18 : decode cX8_yarn 18 = .ok (.iload_n 1, 1) := by decide +kernel
theorem dX8_yarn_19 : decode cX8_yarn 19 = .ok (.iadd, 1) := by decide +kernel
theorem dX8_yarn_20 : decode cX8_yarn 20 = .ok (.iaload, 1) := by decide +kernel
theorem dX8_yarn_21 : decode cX8_yarn 21 = .ok (.goto 4, 3) := by decide +kernel
theorem dX8_yarn_24 : decode cX8_yarn 24 = .ok (.iconst (-1), 1) := by decide +kernel
theorem dX8_yarn_25 : decode cX8_yarn 25 = .ok (.ireturn, 1) := by decide +kernel
theorem dX8_row_0 : decode cX8_row 0 = .ok (.aload_n 0, 1) := by decide +kernel
theorem dX8_row_1 : decode cX8_row 1 = .ok (.iconst 0, 1) := by decide +kernel
theorem dX8_row_2 : decode cX8_row 2 = .ok (.putfield 28, 3) := by decide +kernel
theorem dX8_row_5 : decode cX8_row 5 = .ok (.aload_n 0, 1) := by decide +kernel
theorem dX8_row_6 : decode cX8_row 6 = .ok (.iload_n 1, 1) := by decide +kernel
theorem dX8_row_7 : decode cX8_row 7 = .ok (.invokevirtual 181, 3) := by decide +kernel
theorem dX8_row_10 : decode cX8_row 10 = .ok (.ifCond .ne 5, 3) := by decide +kernel
theorem dX8_row_13 : decode cX8_row 13 = .ok (.iconst (-1), 1) := by decide +kernel
theorem dX8_row_14 : decode cX8_row 14 = .ok (.ireturn, 1) := by decide +kernel
theorem dX8_row_15 : decode cX8_row 15 = .ok (.iload_n 2, 1) := by decide +kernel
theorem dX8_row_16 : decode cX8_row 16 = .ok (.tableswitch 100 0 6 #[44, 44, 51, 57, 67, 84, 93], 44) := by decide +kernel
theorem dX8_row_60 : decode cX8_row 60 = .ok (.aload_n 0, 1) := by decide +kernel
theorem dX8_row_61 : decode cX8_row 61 = .ok (.iload_n 1, 1) := by decide +kernel
theorem dX8_row_62 : decode cX8_row 62 = .ok (.iload_n 2, 1) := by decide +kernel
theorem dX8_row_63 : decode cX8_row 63 = .ok (.invokevirtual 133, 3) := by decide +kernel
theorem dX8_row_66 : decode cX8_row 66 = .ok (.ireturn, 1) := by decide +kernel
theorem dX8_row_67 : decode cX8_row 67 = .ok (.aload_n 0, 1) := by decide +kernel
theorem dX8_row_68 : decode cX8_row 68 = .ok (.iload_n 1, 1) := by decide +kernel
theorem dX8_row_69 : decode cX8_row 69 = .ok (.invokevirtual 145, 3) := by decide +kernel
theorem dX8_row_72 : decode cX8_row 72 = .ok (.ireturn, 1) := by decide +kernel
theorem dX8_row_73 : decode cX8_row 73 = .ok (.aload_n 0, 1) := by decide +kernel
theorem dX8_row_74 : decode cX8_row 74 = .ok (.iload_n 1, 1) := by decide +kernel
theorem dX8_row_75 : decode cX8_row 75 = .ok (.iconst 2, 1) := by decide +kernel
theorem dX8_row_76 : decode cX8_row 76 = .ok (.invokevirtual 133, 3) := by decide +kernel
theorem dX8_row_79 : decode cX8_row 79 = .ok (.invokestatic 151, 3) := by decide +kernel
theorem dX8_row_82 : decode cX8_row 82 = .ok (.ireturn, 1) := by decide +kernel
theorem dX8_row_83 : decode cX8_row 83 = .ok (.aload_n 0, 1) := by decide +kernel
theorem dX8_row_84 : decode cX8_row 84 = .ok (.getfield 7, 3) := by decide +kernel
theorem dX8_row_87 : decode cX8_row 87 = .ok (.iconst 1, 1) := by decide +kernel
theorem dX8_row_88 : decode cX8_row 88 = .ok (.iaload, 1) := by decide +kernel
theorem dX8_row_89 : decode cX8_row 89 = .ok (.aload_n 0, 1) := by decide +kernel
theorem dX8_row_90 : decode cX8_row 90 = .ok (.iload_n 1, 1) := by decide +kernel
theorem dX8_row_91 : decode cX8_row 91 = .ok (.iconst 3, 1) := by decide +kernel
theorem dX8_row_92 : decode cX8_row 92 = .ok (.invokevirtual 133, 3) := by decide +kernel
theorem dX8_row_95 : decode cX8_row 95 = .ok (.invokestatic 151, 3) := by decide +kernel
theorem dX8_row_98 : decode cX8_row 98 = .ok (.isub, 1) := by decide +kernel
theorem dX8_row_99 : decode cX8_row 99 = .ok (.ireturn, 1) := by decide +kernel
theorem dX8_row_100 : decode cX8_row 100 = .ok (.aload_n 0, 1) := by decide +kernel
theorem dX8_row_101 : decode cX8_row 101 = .ok (.iload_n 1, 1) := by decide +kernel
theorem dX8_row_102 : decode cX8_row 102 = .ok (.invokevirtual 148, 3) := by decide +kernel
theorem dX8_row_105 : decode cX8_row 105 = .ok (.invokestatic 151, 3) := by decide +kernel
theorem dX8_row_108 : decode cX8_row 108 = .ok (.ireturn, 1) := by decide +kernel
theorem dX8_row_109 : decode cX8_row 109 = .ok (.aload_n 0, 1) := by decide +kernel
theorem dX8_row_110 : decode cX8_row 110 = .ok (.iconst 1, 1) := by decide +kernel
theorem dX8_row_111 : decode cX8_row 111 = .ok (.iload_n 1, 1) := by decide +kernel
theorem dX8_row_112 : decode cX8_row 112 = .ok (.invokevirtual 175, 3) := by decide +kernel
theorem dX8_row_115 : decode cX8_row 115 = .ok (.ireturn, 1) := by decide +kernel
theorem dX8_row_116 : decode cX8_row 116 = .ok (.iconst (-1), 1) := by decide +kernel
theorem dX8_row_117 : decode cX8_row 117 = .ok (.ireturn, 1) := by decide +kernel
theorem dX8_cell_0 : decode cX8_cell 0 = .ok (.aload_n 0, 1) := by decide +kernel
theorem dX8_cell_1 : decode cX8_cell 1 = .ok (.iconst 0, 1) := by decide +kernel
theorem dX8_cell_2 : decode cX8_cell 2 = .ok (.putfield 28, 3) := by decide +kernel
theorem dX8_cell_5 : decode cX8_cell 5 = .ok (.aload_n 0, 1) := by decide +kernel
theorem dX8_cell_6 : decode cX8_cell 6 = .ok (.iload_n 1, 1) := by decide +kernel
theorem dX8_cell_7 : decode cX8_cell 7 = .ok (.invokevirtual 181, 3) := by decide +kernel
theorem dX8_cell_10 : decode cX8_cell 10 = .ok (.ifCond .eq 20, 3) := by decide +kernel
theorem dX8_cell_13 : decode cX8_cell 13 = .ok (.aload_n 0, 1) := by decide +kernel
theorem dX8_cell_14 : decode cX8_cell 14 = .ok (.iload_n 2, 1) := by decide +kernel
theorem dX8_cell_15 : decode cX8_cell 15 = .ok (.invokevirtual 46, 3) := by decide +kernel
theorem dX8_cell_18 : decode cX8_cell 18 = .ok (.ifCond .eq 12, 3) := by decide +kernel
theorem dX8_cell_21 : decode cX8_cell 21 = .ok (.iload_n 3, 1) := by decide +kernel
theorem dX8_cell_22 : decode cX8_cell 22 = .ok (.iconst 0, 1) := by decide +kernel
theorem dX8_cell_23 : decode cX8_cell 23 = .ok (.iconst 3, 1) := by decide +kernel
theorem dX8_cell_24 : decode cX8_cell 24 = .ok (.invokestatic 39, 3) := by decide +kernel
theorem dX8_cell_27 : decode cX8_cell 27 = .ok (.ifCond .ne 5, 3) := by decide +kernel
theorem dX8_cell_30 : decode cX8_cell 30 = .ok (.iconst (-1), 1) := by decide +kernel
theorem dX8_cell_31 : decode cX8_cell 31 = .ok (.ireturn, 1) := by decide +kernel
theorem dX8_cell_32 : decode cX8_cell 32 = .ok (.aload_n 0, 1) := by decide +kernel
theorem dX8_cell_33 : decode cX8_cell 33 = .ok (.iload_n 1, 1) := by decide +kernel
theorem dX8_cell_34 : decode cX8_cell 34 = .ok (.iload_n 2, 1) := by decide +kernel
theorem dX8_cell_35 : decode cX8_cell 35 = .ok (.invokevirtual 163, 3) := by decide +kernel
theorem dX8_cell_38 : decode cX8_cell 38 = .ok (.istore 4, 2) := by decide +kernel
theorem dX8_cell_40 : decode cX8_cell 40 = .ok (.iload_n 3, 1) := by decide +kernel
theorem dX8_cell_41 : decode cX8_cell 41 = .ok (.iconst 2, 1) := by decide +kernel
theorem dX8_cell_42 : decode cX8_cell 42 = .ok (.if_icmp .ge 48, 3) := by decide +kernel
theorem dX8_cell_45 : decode cX8_cell 45 = .ok (.iload 4, 2) := by decide +kernel
theorem dX8_cell_47 : decode cX8_cell 47 = .ok (.iconst 2, 1) := by decide +kernel
theorem dX8_cell_48 : decode cX8_cell 48 = .ok (.if_icmp .ne 8, 3) := by decide +kernel
theorem dX8_cell_51 : decode cX8_cell 51 = .ok (.bipush (-9), 2) := by decide +kernel
theorem dX8_cell_53 : decode cX8_cell 53 = .ok (.goto 36, 3) := by decide +kernel
theorem dX8_cell_56 : decode cX8_cell 56 = .ok (.iload_n 3, 1) := by decide +kernel
theorem dX8_cell_57 : decode cX8_cell 57 = .ok (.ifCond .ne 8, 3) := by decide +kernel
theorem dX8_cell_60 : decode cX8_cell 60 = .ok (.iload 4, 2) := by decide +kernel
theorem dX8_cell_62 : decode cX8_cell 62 = .ok (.goto 27, 3) := by decide +kernel
theorem dX8_cell_65 : decode cX8_cell 65 = .ok (.iload 4, 2) := by decide +kernel
theorem dX8_cell_67 : decode cX8_cell 67 = .ok (.iconst 1, 1) := by decide +kernel
theorem dX8_cell_68 : decode cX8_cell 68 = .ok (.if_icmp .ne 15, 3) := by decide +kernel
theorem dX8_cell_71 : decode cX8_cell 71 = .ok (.aload_n 0, 1) := by decide +kernel
theorem dX8_cell_72 : decode cX8_cell 72 = .ok (.getfield 7, 3) := by decide +kernel
theorem dX8_cell_75 : decode cX8_cell 75 = .ok (.bipush 38, 2) := by decide +kernel
theorem dX8_cell_77 : decode cX8_cell 77 = .ok (.iload_n 2, 1) := by decide +kernel
theorem dX8_cell_78 : decode cX8_cell 78 = .ok (.iadd, 1) := by decide +kernel
theorem dX8_cell_79 : decode cX8_cell 79 = .ok (.iaload, 1) := by decide +kernel
theorem dX8_cell_80 : decode cX8_cell 80 = .ok (.goto 9, 3) := by decide +kernel
theorem dX8_cell_83 : decode cX8_cell 83 = .ok (.aload_n 0, 1) := by decide +kernel
theorem dX8_cell_84 : decode cX8_cell 84 = .ok (.iload_n 1, 1) := by decide +kernel
theorem dX8_cell_85 : decode cX8_cell 85 = .ok (.iconst 0, 1) := by decide +kernel
theorem dX8_cell_86 : decode cX8_cell 86 = .ok (.invokevirtual 133, 3) := by decide +kernel
theorem dX8_cell_89 : decode cX8_cell 89 = .ok (.ireturn, 1) := by decide +kernel
theorem dX8_cell_90 : decode cX8_cell 90 = .ok (.iload_n 3, 1) := by decide +kernel
theorem dX8_cell_91 : decode cX8_cell 91 = .ok (.iconst 2, 1) := by decide +kernel
theorem dX8_cell_92 : decode cX8_cell 92 = .ok (.if_icmp .ne 11, 3) := by decide +kernel
theorem dX8_cell_95 : decode cX8_cell 95 = .ok (.aload_n 0, 1) := by decide +kernel
theorem dX8_cell_96 : decode cX8_cell 96 = .ok (.iload_n 1, 1) := by decide +kernel
theorem dX8_cell_97 : decode cX8_cell 97 = .ok (.invokevirtual 148, 3) := by decide +kernel
theorem dX8_cell_100 : decode cX8_cell 100 = .ok (.goto 9, 3) := by decide +kernel
theorem dX8_cell_103 : decode cX8_cell 103 = .ok (.aload_n 0, 1) := by decide +kernel
theorem dX8_cell_104 : decode cX8_cell 104 = .ok (.iload_n 1, 1) := by decide +kernel
theorem dX8_cell_105 : decode cX8_cell 105 = .ok (.iconst 4, 1) := by decide +kernel
theorem dX8_cell_106 : decode cX8_cell 106 = .ok (.invokevirtual 133, 3) := by decide +kernel
theorem dX8_cell_109 : decode cX8_cell 109 = .ok (.iload_n 2, 1) := by decide +kernel
theorem dX8_cell_110 : decode cX8_cell 110 = .ok (.invokestatic 108, 3) := by decide +kernel
theorem dX8_cell_113 : decode cX8_cell 113 = .ok (.ifCond .eq 7, 3) := by decide +kernel
theorem dX8_cell_116 : decode cX8_cell 116 = .ok (.iconst 1, 1) := by decide +kernel
theorem dX8_cell_117 : decode cX8_cell 117 = .ok (.goto 4, 3) := by decide +kernel
theorem dX8_cell_120 : decode cX8_cell 120 = .ok (.iconst 0, 1) := by decide +kernel
theorem dX8_cell_121 : decode cX8_cell 121 = .ok (.ireturn, 1) := by decide +kernel
theorem dX8_floats_0 : decode cX8_floats 0 = .ok (.aload_n 0, 1) := by decide +kernel
theorem dX8_floats_1 : decode cX8_floats 1 = .ok (.iconst 0, 1) := by decide +kernel
theorem dX8_floats_2 : decode cX8_floats 2 = .ok (.putfield 28, 3) := by decide +kernel
theorem dX8_floats_5 : decode cX8_floats 5 = .ok (.iload_n 1, 1) := by decide +kernel
theorem dX8_floats_6 : decode cX8_floats 6 = .ok (.iconst 0, 1) := by decide +kernel
theorem dX8_floats_7 : decode cX8_floats 7 = .ok (.iconst 1, 1) := by decide +kernel
theorem dX8_floats_8 : decode cX8_floats 8 = .ok (.invokestatic 39, 3) := by decide +kernel
theorem dX8_floats_11 : decode cX8_floats 11 = .ok (.ifCond .eq 13, 3) := by decide +kernel
theorem dX8_floats_14 : decode cX8_floats 14 = .ok (.iload_n 2, 1) := by decide +kernel
theorem dX8_floats_15 : decode cX8_floats 15 = .ok (.iconst 1, 1) := by decide +kernel
theorem dX8_floats_16 : decode cX8_floats 16 = .ok (.bipush 64, 2) := by decide +kernel
theorem dX8_floats_18 : decode cX8_floats 18 = .ok (.invokestatic 39, 3) := by decide +kernel
theorem dX8_floats_21 : decode cX8_floats 21 = .ok (.ifCond .ne 5, 3) := by decide +kernel
theorem dX8_floats_24 : decode cX8_floats 24 = .ok (.iconst (-1), 1) := by decide +kernel
theorem dX8_floats_25 : decode cX8_floats 25 = .ok (.ireturn, 1) := by decide +kernel
theorem dX8_floats_26 : decode cX8_floats 26 = .ok (.aload_n 0, 1) := by decide +kernel
theorem dX8_floats_27 : decode cX8_floats 27 = .ok (.iconst 0, 1) := by decide +kernel
theorem dX8_floats_28 : decode cX8_floats 28 = .ok (.putfield 157, 3) := by decide +kernel
theorem dX8_floats_31 : decode cX8_floats 31 = .ok (.aload_n 0, 1) := by decide +kernel
theorem dX8_floats_32 : decode cX8_floats 32 = .ok (.iconst 0, 1) := by decide +kernel
theorem dX8_floats_33 : decode cX8_floats 33 = .ok (.putfield 160, 3) := by decide +kernel
theorem dX8_floats_36 : decode cX8_floats 36 = .ok (.iconst 0, 1) := by decide +kernel
theorem dX8_floats_37 : decode cX8_floats 37 = .ok (.istore_n 3, 1) := by decide +kernel
theorem dX8_floats_38 : decode cX8_floats 38 = .ok (.iload_n 3, 1) := by decide +kernel
theorem dX8_floats_39 : decode cX8_floats 39 = .ok (.iload_n 1, 1) := by decide +kernel
theorem dX8_floats_40 : decode cX8_floats 40 = .ok (.ifCond .ne 12, 3) := by decide +kernel
theorem dX8_floats_43 : decode cX8_floats 43 = .ok (.aload_n 0, 1) := by decide +kernel
theorem dX8_floats_44 : decode cX8_floats 44 = .ok (.getfield 7, 3) := by decide +kernel
theorem dX8_floats_47 : decode cX8_floats 47 = .ok (.iconst 1, 1) := by decide +kernel
theorem dX8_floats_48 : decode cX8_floats 48 = .ok (.iaload, 1) := by decide +kernel
theorem dX8_floats_49 : decode cX8_floats 49 = .ok (.goto 9, 3) := by decide +kernel
theorem dX8_floats_52 : decode cX8_floats 52 = .ok (.aload_n 0, 1) := by decide +kernel
theorem dX8_floats_53 : decode cX8_floats 53 = .ok (.getfield 7, 3) := by decide +kernel
theorem dX8_floats_56 : decode cX8_floats 56 = .ok (.iconst 5, 1) := by decide +kernel
theorem dX8_floats_57 : decode cX8_floats 57 = .ok (.iaload, 1) := by decide +kernel
theorem dX8_floats_58 : decode cX8_floats 58 = .ok (.if_icmp .ge 16, 3) := by decide +kernel
theorem dX8_floats_61 : decode cX8_floats 61 = .ok (.aload_n 0, 1) := by decide +kernel
theorem dX8_floats_62 : decode cX8_floats 62 = .ok (.iload_n 1, 1) := by decide +kernel
theorem dX8_floats_63 : decode cX8_floats 63 = .ok (.iload_n 3, 1) := by decide +kernel
theorem dX8_floats_64 : decode cX8_floats 64 = .ok (.iload_n 2, 1) := by decide +kernel
theorem dX8_floats_65 : decode cX8_floats 65 = .ok (.invokevirtual 169, 3) := by decide +kernel
theorem dX8_floats_68 : decode cX8_floats 68 = .ok (.iinc 3 1, 3) := by decide +kernel
theorem dX8_floats_71 : decode cX8_floats 71 = .ok (.goto (-33), 3) := by decide +kernel
theorem dX8_floats_74 : decode cX8_floats 74 = .ok (.aload_n 0, 1) := by decide +kernel
theorem dX8_floats_75 : decode cX8_floats 75 = .ok (.getfield 157, 3) := by decide +kernel
theorem dX8_floats_78 : decode cX8_floats 78 = .ok (.ireturn, 1) := by decide +kernel
theorem dX8_areLike_0 : decode cX8_areLike 0 = .ok (.aload_n 0, 1) := by decide +kernel
theorem dX8_areLike_1 : decode cX8_areLike 1 = .ok (.iload_n 1, 1) := by decide +kernel
theorem dX8_areLike_2 : decode cX8_areLike 2 = .ok (.iconst 0, 1) := by decide +kernel
theorem dX8_areLike_3 : decode cX8_areLike 3 = .ok (.invokevirtual 133, 3) := by decide +kernel
theorem dX8_areLike_6 : decode cX8_areLike 6 = .ok (.aload_n 0, 1) := by decide +kernel
theorem dX8_areLike_7 : decode cX8_areLike 7 = .ok (.iload_n 2, 1) := by decide +kernel
theorem dX8_areLike_8 : decode cX8_areLike 8 = .ok (.iconst 0, 1) := by decide +kernel
theorem dX8_areLike_9 : decode cX8_areLike 9 = .ok (.invokevirtual 133, 3) := by decide +kernel
theorem dX8_areLike_12 : decode cX8_areLike 12 = .ok (.if_icmp .ne 37, 3) := by decide +kernel
theorem dX8_areLike_15 : decode cX8_areLike 15 = .ok (.aload_n 0, 1) := by decide +kernel
theorem dX8_areLike_16 : decode cX8_areLike 16 = .ok (.iload_n 1, 1) := by decide +kernel
theorem dX8_areLike_17 : decode cX8_areLike 17 = .ok (.iconst 2, 1) := by decide +kernel
theorem dX8_areLike_18 : decode cX8_areLike 18 = .ok (.invokevirtual 133, 3) := by decide +kernel
theorem dX8_areLike_21 : decode cX8_areLike 21 = .ok (.aload_n 0, 1) := by decide +kernel
theorem dX8_areLike_22 : decode cX8_areLike 22 = .ok (.iload_n 2, 1) := by decide +kernel
theorem dX8_areLike_23 : decode cX8_areLike 23 = .ok (.iconst 2, 1) := by decide +kernel
theorem dX8_areLike_24 : decode cX8_areLike 24 = .ok (.invokevirtual 133, 3) := by decide +kernel
theorem dX8_areLike_27 : decode cX8_areLike 27 = .ok (.if_icmp .ne 22, 3) := by decide +kernel
theorem dX8_areLike_30 : decode cX8_areLike 30 = .ok (.aload_n 0, 1) := by decide +kernel
theorem dX8_areLike_31 : decode cX8_areLike 31 = .ok (.iload_n 1, 1) := by decide +kernel
theorem dX8_areLike_32 : decode cX8_areLike 32 = .ok (.iconst 3, 1) := by decide +kernel
theorem dX8_areLike_33 : decode cX8_areLike 33 = .ok (.invokevirtual 133, 3) := by decide +kernel
theorem dX8_areLike_36 : decode cX8_areLike 36 = .ok (.aload_n 0, 1) := by decide +kernel
theorem dX8_areLike_37 : decode cX8_areLike 37 = .ok (.iload_n 2, 1) := by decide +kernel
theorem dX8_areLike_38 : decode cX8_areLike 38 = .ok (.iconst 3, 1) := by decide +kernel
theorem dX8_areLike_39 : decode cX8_areLike 39 = .ok (.invokevirtual 133, 3) := by decide +kernel
theorem dX8_areLike_42 : decode cX8_areLike 42 = .ok (.if_icmp .ne 7, 3) := by decide +kernel
theorem dX8_areLike_45 : decode cX8_areLike 45 = .ok (.iconst 1, 1) := by decide +kernel
theorem dX8_areLike_46 : decode cX8_areLike 46 = .ok (.goto 4, 3) := by decide +kernel
theorem dX8_areLike_49 : decode cX8_areLike 49 = .ok (.iconst 0, 1) := by decide +kernel
theorem dX8_areLike_50 : decode cX8_areLike 50 = .ok (.ireturn, 1) := by decide +kernel
theorem dX8_repeats_0 : decode cX8_repeats 0 = .ok (.iload_n 1, 1) := by decide +kernel
theorem dX8_repeats_1 : decode cX8_repeats 1 = .ok (.istore_n 2, 1) := by decide +kernel
theorem dX8_repeats_2 : decode cX8_repeats 2 = .ok (.iload_n 2, 1) := by decide +kernel
theorem dX8_repeats_3 : decode cX8_repeats 3 = .ok (.aload_n 0, 1) := by decide +kernel
theorem dX8_repeats_4 : decode cX8_repeats 4 = .ok (.getfield 7, 3) := by decide +kernel
theorem dX8_repeats_7 : decode cX8_repeats 7 = .ok (.iconst 5, 1) := by decide +kernel
theorem dX8_repeats_8 : decode cX8_repeats 8 = .ok (.iaload, 1) := by decide +kernel
theorem dX8_repeats_9 : decode cX8_repeats 9 = .ok (.if_icmp .ge 22, 3) := by decide +kernel
theorem dX8_repeats_12 : decode cX8_repeats 12 = .ok (.aload_n 0, 1) := by decide +kernel
theorem dX8_repeats_13 : decode cX8_repeats 13 = .ok (.iload_n 2, 1) := by decide +kernel
theorem dX8_repeats_14 : decode cX8_repeats 14 = .ok (.iload_n 2, 1) := by decide +kernel
theorem dX8_repeats_15 : decode cX8_repeats 15 = .ok (.iload_n 1, 1) := by decide +kernel
theorem dX8_repeats_16 : decode cX8_repeats 16 = .ok (.isub, 1) := by decide +kernel
theorem dX8_repeats_17 : decode cX8_repeats 17 = .ok (.invokevirtual 184, 3) := by decide +kernel
theorem dX8_repeats_20 : decode cX8_repeats 20 = .ok (.ifCond .ne 5, 3) := by decide +kernel
theorem dX8_repeats_23 : decode cX8_repeats 23 = .ok (.iconst 0, 1) := by decide +kernel
theorem dX8_repeats_24 : decode cX8_repeats 24 = .ok (.ireturn, 1) := by decide +kernel
theorem dX8_repeats_25 : decode cX8_repeats 25 = .ok (.iinc 2 1, 3) := by decide +kernel
theorem dX8_repeats_28 : decode cX8_repeats 28 = .ok (.goto (-26), 3) := by decide +kernel
theorem dX8_repeats_31 : decode cX8_repeats 31 = .ok (.iconst 1, 1) := by decide +kernel
theorem dX8_repeats_32 : decode cX8_repeats 32 = .ok (.ireturn, 1) := by decide +kernel
theorem dX8_repeat_0 : decode cX8_repeat 0 = .ok (.aload_n 0, 1) := by decide +kernel
theorem dX8_repeat_1 : decode cX8_repeat 1 = .ok (.iconst 0, 1) := by decide +kernel
theorem dX8_repeat_2 : decode cX8_repeat 2 = .ok (.putfield 28, 3) := by decide +kernel
theorem dX8_repeat_5 : decode cX8_repeat 5 = .ok (.aload_n 0, 1) := by decide +kernel
theorem dX8_repeat_6 : decode cX8_repeat 6 = .ok (.getfield 7, 3) := by decide +kernel
theorem dX8_repeat_9 : decode cX8_repeat 9 = .ok (.iconst 5, 1) := by decide +kernel
theorem dX8_repeat_10 : decode cX8_repeat 10 = .ok (.iaload, 1) := by decide +kernel
theorem dX8_repeat_11 : decode cX8_repeat 11 = .ok (.ifCond .ne 6, 3) := by decide +kernel
theorem dX8_repeat_14 : decode cX8_repeat 14 = .ok (.bipush (-9), 2) := by decide +kernel
theorem dX8_repeat_16 : decode cX8_repeat 16 = .ok (.ireturn, 1) := by decide +kernel
theorem dX8_repeat_17 : decode cX8_repeat 17 = .ok (.iconst 1, 1) := by decide +kernel
theorem dX8_repeat_18 : decode cX8_repeat 18 = .ok (.istore_n 1, 1) := by decide +kernel
theorem dX8_repeat_19 : decode cX8_repeat 19 = .ok (.aload_n 0, 1) := by decide +kernel
theorem dX8_repeat_20 : decode cX8_repeat 20 = .ok (.iload_n 1, 1) := by decide +kernel
theorem dX8_repeat_21 : decode cX8_repeat 21 = .ok (.invokevirtual 187, 3) := by decide +kernel
theorem dX8_repeat_24 : decode cX8_repeat 24 = .ok (.ifCond .ne 9, 3) := by decide +kernel
theorem dX8_repeat_27 : decode cX8_repeat 27 = .ok (.iinc 1 1, 3) := by decide +kernel
theorem dX8_repeat_30 : decode cX8_repeat 30 = .ok (.goto (-11), 3) := by decide +kernel
theorem dX8_repeat_33 : decode cX8_repeat 33 = .ok (.iload_n 1, 1) := by decide +kernel
theorem dX8_repeat_34 : decode cX8_repeat 34 = .ok (.ireturn, 1) := by decide +kernel
theorem dX8_differentRows_0 : decode cX8_differentRows 0 = .ok (.aload_n 0, 1) := by decide +kernel
theorem dX8_differentRows_1 : decode cX8_differentRows 1 = .ok (.iconst 0, 1) := by decide +kernel
theorem dX8_differentRows_2 : decode cX8_differentRows 2 = .ok (.putfield 28, 3) := by decide +kernel
theorem dX8_differentRows_5 : decode cX8_differentRows 5 = .ok (.iconst 0, 1) := by decide +kernel
theorem dX8_differentRows_6 : decode cX8_differentRows 6 = .ok (.istore_n 1, 1) := by decide +kernel
theorem dX8_differentRows_7 : decode cX8_differentRows 7 = .ok (.iconst 0, 1) := by decide +kernel
theorem dX8_differentRows_8 : decode cX8_differentRows 8 = .ok (.istore_n 2, 1) := by decide +kernel
theorem dX8_differentRows_9 : decode cX8_differentRows 9 = .ok (.iload_n 2, 1) := by decide +kernel
theorem dX8_differentRows_10 : decode cX8_differentRows 10 = .ok (.aload_n 0, 1) := by decide +kernel
theorem dX8_differentRows_11 : decode cX8_differentRows 11 = .ok (.getfield 7, 3) := by decide +kernel
theorem dX8_differentRows_14 : decode cX8_differentRows 14 = .ok (.iconst 5, 1) := by decide +kernel
theorem dX8_differentRows_15 : decode cX8_differentRows 15 = .ok (.iaload, 1) := by decide +kernel
theorem dX8_differentRows_16 : decode cX8_differentRows 16 = .ok (.if_icmp .ge 58, 3) := by decide +kernel
theorem dX8_differentRows_19 : decode cX8_differentRows 19 = .ok (.iconst 1, 1) := by decide +kernel
theorem dX8_differentRows_20 : decode cX8_differentRows 20 = .ok (.istore_n 3, 1) := by decide +kernel
theorem dX8_differentRows_21 : decode cX8_differentRows 21 = .ok (.iconst 0, 1) := by decide +kernel
theorem dX8_differentRows_22 : decode cX8_differentRows 22 = .ok (.istore 4, 2) := by decide +kernel
theorem dX8_differentRows_24 : decode cX8_differentRows 24 = .ok (.iload 4, 2) := by decide +kernel
theorem dX8_differentRows_26 : decode cX8_differentRows 26 = .ok (.iload_n 2, 1) := by decide +kernel
theorem dX8_differentRows_27 : decode cX8_differentRows 27 = .ok (.if_icmp .ge 29, 3) := by decide +kernel
theorem dX8_differentRows_30 : decode cX8_differentRows 30 = .ok (.iload_n 3, 1) := by decide +kernel
theorem dX8_differentRows_31 : decode cX8_differentRows 31 = .ok (.ifCond .eq 17, 3) := by decide +kernel
theorem dX8_differentRows_34 : decode cX8_differentRows 34 = .ok (.aload_n 0, 1) := by decide +kernel
theorem dX8_differentRows_35 : decode cX8_differentRows 35 = .ok (.iload_n 2, 1) := by decide +kernel
theorem dX8_differentRows_36 : decode cX8_differentRows 36 = .ok (.iload 4, 2) := by decide +kernel
theorem dX8_differentRows_38 : decode cX8_differentRows 38 = .ok (.invokevirtual 184, 3) := by decide +kernel
theorem dX8_differentRows_41 : decode cX8_differentRows 41 = .ok (.ifCond .ne 7, 3) := by decide +kernel
theorem dX8_differentRows_44 : decode cX8_differentRows 44 = .ok (.iconst 1, 1) := by decide +kernel
theorem dX8_differentRows_45 : decode cX8_differentRows 45 = .ok (.goto 4, 3) := by decide +kernel
theorem dX8_differentRows_48 : decode cX8_differentRows 48 = .ok (.iconst 0, 1) := by decide +kernel
theorem dX8_differentRows_49 : decode cX8_differentRows 49 = .ok (.istore_n 3, 1) := by decide +kernel
theorem dX8_differentRows_50 : decode cX8_differentRows 50 = .ok (.iinc 4 1, 3) := by decide +kernel
theorem dX8_differentRows_53 : decode cX8_differentRows 53 = .ok (.goto (-29), 3) := by decide +kernel
theorem dX8_differentRows_56 : decode cX8_differentRows 56 = .ok (.iload_n 1, 1) := by decide +kernel
theorem dX8_differentRows_57 : decode cX8_differentRows 57 = .ok (.iload_n 3, 1) := by decide +kernel
theorem dX8_differentRows_58 : decode cX8_differentRows 58 = .ok (.ifCond .eq 7, 3) := by decide +kernel
theorem dX8_differentRows_61 : decode cX8_differentRows 61 = .ok (.iconst 1, 1) := by decide +kernel
theorem dX8_differentRows_62 : decode cX8_differentRows 62 = .ok (.goto 4, 3) := by decide +kernel
theorem dX8_differentRows_65 : decode cX8_differentRows 65 = .ok (.iconst 0, 1) := by decide +kernel
theorem dX8_differentRows_66 : decode cX8_differentRows 66 = .ok (.iadd, 1) := by decide +kernel
theorem dX8_differentRows_67 : decode cX8_differentRows 67 = .ok (.istore_n 1, 1) := by decide +kernel
theorem dX8_differentRows_68 : decode cX8_differentRows 68 = .ok (.iinc 2 1, 3) := by decide +kernel
theorem dX8_differentRows_71 : decode cX8_differentRows 71 = .ok (.goto (-62), 3) := by decide +kernel
theorem dX8_differentRows_74 : decode cX8_differentRows 74 = .ok (.iload_n 1, 1) := by decide +kernel
theorem dX8_differentRows_75 : decode cX8_differentRows 75 = .ok (.ireturn, 1) := by decide +kernel
theorem dX8_picksLeft_0 : decode cX8_picksLeft 0 = .ok (.aload_n 0, 1) := by decide +kernel
theorem dX8_picksLeft_1 : decode cX8_picksLeft 1 = .ok (.iconst 0, 1) := by decide +kernel
theorem dX8_picksLeft_2 : decode cX8_picksLeft 2 = .ok (.putfield 28, 3) := by decide +kernel
theorem dX8_picksLeft_5 : decode cX8_picksLeft 5 = .ok (.aload_n 0, 1) := by decide +kernel
theorem dX8_picksLeft_6 : decode cX8_picksLeft 6 = .ok (.getfield 7, 3) := by decide +kernel
theorem dX8_picksLeft_9 : decode cX8_picksLeft 9 = .ok (.iconst 2, 1) := by decide +kernel
theorem dX8_picksLeft_10 : decode cX8_picksLeft 10 = .ok (.iaload, 1) := by decide +kernel
theorem dX8_picksLeft_11 : decode cX8_picksLeft 11 = .ok (.ifCond .eq 10, 3) := by decide +kernel
theorem dX8_picksLeft_14 : decode cX8_picksLeft 14 = .ok (.aload_n 0, 1) := by decide +kernel
theorem dX8_picksLeft_15 : decode cX8_picksLeft 15 = .ok (.invokevirtual 139, 3) := by decide +kernel
theorem dX8_picksLeft_18 : decode cX8_picksLeft 18 = .ok (.ifCond .eq 6, 3) := by decide +kernel
theorem dX8_picksLeft_21 : decode cX8_picksLeft 21 = .ok (.bipush (-2), 2) := by decide +kernel
theorem dX8_picksLeft_23 : decode cX8_picksLeft 23 = .ok (.ireturn, 1) := by decide +kernel
theorem dX8_picksLeft_24 : decode cX8_picksLeft 24 = .ok (.iconst 0, 1) := by decide +kernel
theorem dX8_picksLeft_25 : decode cX8_picksLeft 25 = .ok (.istore_n 1, 1) := by decide +kernel
theorem dX8_picksLeft_26 : decode cX8_picksLeft 26 = .ok (.iload_n 1, 1) := by decide +kernel
theorem dX8_picksLeft_27 : decode cX8_picksLeft 27 = .ok (.bipush 10, 2) := by decide +kernel
theorem dX8_picksLeft_29 : decode cX8_picksLeft 29 = .ok (.if_icmp .ge 24, 3) := by decide +kernel
theorem dX8_picksLeft_32 : decode cX8_picksLeft 32 = .ok (.aload_n 0, 1) := by decide +kernel
theorem dX8_picksLeft_33 : decode cX8_picksLeft 33 = .ok (.getfield 13, 3) := by decide +kernel
theorem dX8_picksLeft_36 : decode cX8_picksLeft 36 = .ok (.iload_n 1, 1) := by decide +kernel
theorem dX8_picksLeft_37 : decode cX8_picksLeft 37 = .ok (.aload_n 0, 1) := by decide +kernel
theorem dX8_picksLeft_38 : decode cX8_picksLeft 38 = .ok (.getfield 7, 3) := by decide +kernel
theorem dX8_picksLeft_41 : decode cX8_picksLeft 41 = .ok (.bipush 126, 2) := by decide +kernel
theorem dX8_picksLeft_43 : decode cX8_picksLeft 43 = .ok (.iload_n 1, 1) := by decide +kernel
theorem dX8_picksLeft_44 : decode cX8_picksLeft 44 = .ok (.iadd, 1) := by decide +kernel
theorem dX8_picksLeft_45 : decode cX8_picksLeft 45 = .ok (.iaload, 1) := by decide +kernel
theorem dX8_picksLeft_46 : decode cX8_picksLeft 46 = .ok (.iastore, 1) := by decide +kernel
theorem dX8_picksLeft_47 : decode cX8_picksLeft 47 = .ok (.iinc 1 1, 3) := by decide +kernel
theorem dX8_picksLeft_50 : decode cX8_picksLeft 50 = .ok (.goto (-24), 3) := by decide +kernel
theorem dX8_picksLeft_53 : decode cX8_picksLeft 53 = .ok (.aload_n 0, 1) := by decide +kernel
theorem dX8_picksLeft_54 : decode cX8_picksLeft 54 = .ok (.getfield 7, 3) := by decide +kernel
theorem dX8_picksLeft_57 : decode cX8_picksLeft 57 = .ok (.iconst 3, 1) := by decide +kernel
theorem dX8_picksLeft_58 : decode cX8_picksLeft 58 = .ok (.iaload, 1) := by decide +kernel
theorem dX8_picksLeft_59 : decode cX8_picksLeft 59 = .ok (.istore_n 1, 1) := by decide +kernel
theorem dX8_picksLeft_60 : decode cX8_picksLeft 60 = .ok (.iconst 0, 1) := by decide +kernel
theorem dX8_picksLeft_61 : decode cX8_picksLeft 61 = .ok (.istore_n 2, 1) := by decide +kernel
theorem dX8_picksLeft_62 : decode cX8_picksLeft 62 = .ok (.iload_n 2, 1) := by decide +kernel
theorem dX8_picksLeft_63 : decode cX8_picksLeft 63 = .ok (.sipush 500, 3) := by decide +kernel
theorem dX8_picksLeft_66 : decode cX8_picksLeft 66 = .ok (.if_icmp .ge 74, 3) := by decide +kernel
theorem dX8_picksLeft_69 : decode cX8_picksLeft 69 = .ok (.aload_n 0, 1) := by decide +kernel
theorem dX8_picksLeft_70 : decode cX8_picksLeft 70 = .ok (.getfield 13, 3) := by decide +kernel
theorem dX8_picksLeft_73 : decode cX8_picksLeft 73 = .ok (.aload_n 0, 1) := by decide +kernel
theorem dX8_picksLeft_74 : decode cX8_picksLeft 74 = .ok (.getfield 7, 3) := by decide +kernel
theorem dX8_picksLeft_77 : decode cX8_picksLeft 77 = .ok (.bipush 102, 2) := by decide +kernel
theorem dX8_picksLeft_79 : decode cX8_picksLeft 79 = .ok (.iload_n 1, 1) := by decide +kernel
theorem dX8_picksLeft_80 : decode cX8_picksLeft 80 = .ok (.iadd, 1) := by decide +kernel
theorem dX8_picksLeft_81 : decode cX8_picksLeft 81 = .ok (.iaload, 1) := by decide +kernel
theorem dX8_picksLeft_82 : decode cX8_picksLeft 82 = .ok (.iaload, 1) := by decide +kernel
theorem dX8_picksLeft_83 : decode cX8_picksLeft 83 = .ok (.aload_n 0, 1) := by decide +kernel
theorem dX8_picksLeft_84 : decode cX8_picksLeft 84 = .ok (.iload_n 1, 1) := by decide +kernel
theorem dX8_picksLeft_85 : decode cX8_picksLeft 85 = .ok (.invokevirtual 178, 3) := by decide +kernel
theorem dX8_picksLeft_88 : decode cX8_picksLeft 88 = .ok (.if_icmp .lt 52, 3) := by decide +kernel
theorem dX8_picksLeft_91 : decode cX8_picksLeft 91 = .ok (.aload_n 0, 1) := by decide +kernel
theorem dX8_picksLeft_92 : decode cX8_picksLeft 92 = .ok (.getfield 13, 3) := by decide +kernel
theorem dX8_picksLeft_95 : decode cX8_picksLeft 95 = .ok (.aload_n 0, 1) := by decide +kernel
theorem dX8_picksLeft_96 : decode cX8_picksLeft 96 = .ok (.getfield 7, 3) := by decide +kernel
theorem dX8_picksLeft_99 : decode cX8_picksLeft 99 = .ok (.bipush 102, 2) := by decide +kernel
theorem dX8_picksLeft_101 : decode cX8_picksLeft 101 = .ok (.iload_n 1, 1) := by decide +kernel
theorem dX8_picksLeft_102 : decode cX8_picksLeft 102 = .ok (.iadd, 1) := by decide +kernel
theorem dX8_picksLeft_103 : decode cX8_picksLeft 103 = .ok (.iaload, 1) := by decide +kernel
theorem dX8_picksLeft_104 : decode cX8_picksLeft 104 = .ok (.dup2, 1) := by decide +kernel
theorem dX8_picksLeft_105 : decode cX8_picksLeft 105 = .ok (.iaload, 1) := by decide +kernel
theorem dX8_picksLeft_106 : decode cX8_picksLeft 106 = .ok (.aload_n 0, 1) := by decide +kernel
theorem dX8_picksLeft_107 : decode cX8_picksLeft 107 = .ok (.iload_n 1, 1) := by decide +kernel
theorem dX8_picksLeft_108 : decode cX8_picksLeft 108 = .ok (.invokevirtual 178, 3) := by decide +kernel
theorem dX8_picksLeft_111 : decode cX8_picksLeft 111 = .ok (.isub, 1) := by decide +kernel
theorem dX8_picksLeft_112 : decode cX8_picksLeft 112 = .ok (.iastore, 1) := by decide +kernel
theorem dX8_picksLeft_113 : decode cX8_picksLeft 113 = .ok (.iinc 2 1, 3) := by decide +kernel
theorem dX8_picksLeft_116 : decode cX8_picksLeft 116 = .ok (.iload_n 1, 1) := by decide +kernel
theorem dX8_picksLeft_117 : decode cX8_picksLeft 117 = .ok (.aload_n 0, 1) := by decide +kernel
theorem dX8_picksLeft_118 : decode cX8_picksLeft 118 = .ok (.invokevirtual 126, 3) := by decide +kernel
theorem dX8_picksLeft_121 : decode cX8_picksLeft 121 = .ok (.iadd, 1) := by decide +kernel
theorem dX8_picksLeft_122 : decode cX8_picksLeft 122 = .ok (.aload_n 0, 1) := by decide +kernel
theorem dX8_picksLeft_123 : decode cX8_picksLeft 123 = .ok (.getfield 7, 3) := by decide +kernel
theorem dX8_picksLeft_126 : decode cX8_picksLeft 126 = .ok (.iconst 2, 1) := by decide +kernel
theorem dX8_picksLeft_127 : decode cX8_picksLeft 127 = .ok (.iaload, 1) := by decide +kernel
theorem dX8_picksLeft_128 : decode cX8_picksLeft 128 = .ok (.iadd, 1) := by decide +kernel
theorem dX8_picksLeft_129 : decode cX8_picksLeft 129 = .ok (.aload_n 0, 1) := by decide +kernel
theorem dX8_picksLeft_130 : decode cX8_picksLeft 130 = .ok (.getfield 7, 3) := by decide +kernel
theorem dX8_picksLeft_133 : decode cX8_picksLeft 133 = .ok (.iconst 2, 1) := by decide +kernel
theorem dX8_picksLeft_134 : decode cX8_picksLeft 134 = .ok (.iaload, 1) := by decide +kernel
theorem dX8_picksLeft_135 : decode cX8_picksLeft 135 = .ok (.irem, 1) := by decide +kernel
theorem dX8_picksLeft_136 : decode cX8_picksLeft 136 = .ok (.istore_n 1, 1) := by decide +kernel
theorem dX8_picksLeft_137 : decode cX8_picksLeft 137 = .ok (.goto (-75), 3) := by decide +kernel
theorem dX8_picksLeft_140 : decode cX8_picksLeft 140 = .ok (.iload_n 2, 1) := by decide +kernel
theorem dX8_picksLeft_141 : decode cX8_picksLeft 141 = .ok (.ireturn, 1) := by decide +kernel
theorem dX8_yarnFor_0 : decode cX8_yarnFor 0 = .ok (.aload_n 0, 1) := by decide +kernel
theorem dX8_yarnFor_1 : decode cX8_yarnFor 1 = .ok (.iconst 0, 1) := by decide +kernel
theorem dX8_yarnFor_2 : decode cX8_yarnFor 2 = .ok (.putfield 28, 3) := by decide +kernel
theorem dX8_yarnFor_5 : decode cX8_yarnFor 5 = .ok (.iload_n 1, 1) := by decide +kernel
theorem dX8_yarnFor_6 : decode cX8_yarnFor 6 = .ok (.invokestatic 53, 3) := by decide +kernel
theorem dX8_yarnFor_9 : decode cX8_yarnFor 9 = .ok (.ifCond .eq 13, 3) := by decide +kernel
theorem dX8_yarnFor_12 : decode cX8_yarnFor 12 = .ok (.iload_n 2, 1) := by decide +kernel
theorem dX8_yarnFor_13 : decode cX8_yarnFor 13 = .ok (.iconst 1, 1) := by decide +kernel
theorem dX8_yarnFor_14 : decode cX8_yarnFor 14 = .ok (.bipush 64, 2) := by decide +kernel
theorem dX8_yarnFor_16 : decode cX8_yarnFor 16 = .ok (.invokestatic 39, 3) := by decide +kernel
theorem dX8_yarnFor_19 : decode cX8_yarnFor 19 = .ok (.ifCond .ne 5, 3) := by decide +kernel
theorem dX8_yarnFor_22 : decode cX8_yarnFor 22 = .ok (.iconst (-1), 1) := by decide +kernel
theorem dX8_yarnFor_23 : decode cX8_yarnFor 23 = .ok (.ireturn, 1) := by decide +kernel
theorem dX8_yarnFor_24 : decode cX8_yarnFor 24 = .ok (.aload_n 0, 1) := by decide +kernel
theorem dX8_yarnFor_25 : decode cX8_yarnFor 25 = .ok (.getfield 7, 3) := by decide +kernel
theorem dX8_yarnFor_28 : decode cX8_yarnFor 28 = .ok (.iconst 2, 1) := by decide +kernel
theorem dX8_yarnFor_29 : decode cX8_yarnFor 29 = .ok (.iaload, 1) := by decide +kernel
theorem dX8_yarnFor_30 : decode cX8_yarnFor 30 = .ok (.ifCond .ne 6, 3) := by decide +kernel
theorem dX8_yarnFor_33 : decode cX8_yarnFor 33 = .ok (.bipush (-2), 2) := by decide +kernel
theorem dX8_yarnFor_35 : decode cX8_yarnFor 35 = .ok (.ireturn, 1) := by decide +kernel
theorem dX8_yarnFor_36 : decode cX8_yarnFor 36 = .ok (.iconst 0, 1) := by decide +kernel
theorem dX8_yarnFor_37 : decode cX8_yarnFor 37 = .ok (.istore_n 3, 1) := by decide +kernel
theorem dX8_yarnFor_38 : decode cX8_yarnFor 38 = .ok (.aload_n 0, 1) := by decide +kernel
theorem dX8_yarnFor_39 : decode cX8_yarnFor 39 = .ok (.getfield 7, 3) := by decide +kernel
theorem dX8_yarnFor_42 : decode cX8_yarnFor 42 = .ok (.iconst 3, 1) := by decide +kernel
theorem dX8_yarnFor_43 : decode cX8_yarnFor 43 = .ok (.iaload, 1) := by decide +kernel
theorem dX8_yarnFor_44 : decode cX8_yarnFor 44 = .ok (.istore 4, 2) := by decide +kernel
theorem dX8_yarnFor_46 : decode cX8_yarnFor 46 = .ok (.iconst 0, 1) := by decide +kernel
theorem dX8_yarnFor_47 : decode cX8_yarnFor 47 = .ok (.istore 5, 2) := by decide +kernel
theorem dX8_yarnFor_49 : decode cX8_yarnFor 49 = .ok (.iload 5, 2) := by decide +kernel
theorem dX8_yarnFor_51 : decode cX8_yarnFor 51 = .ok (.iload_n 2, 1) := by decide +kernel
theorem dX8_yarnFor_52 : decode cX8_yarnFor 52 = .ok (.if_icmp .ge 59, 3) := by decide +kernel
theorem dX8_yarnFor_55 : decode cX8_yarnFor 55 = .ok (.iload_n 3, 1) := by decide +kernel
theorem dX8_yarnFor_56 : decode cX8_yarnFor 56 = .ok (.aload_n 0, 1) := by decide +kernel
theorem dX8_yarnFor_57 : decode cX8_yarnFor 57 = .ok (.getfield 7, 3) := by decide +kernel
theorem dX8_yarnFor_60 : decode cX8_yarnFor 60 = .ok (.bipush 102, 2) := by decide +kernel
theorem dX8_yarnFor_62 : decode cX8_yarnFor 62 = .ok (.iload 4, 2) := by decide +kernel
theorem dX8_yarnFor_64 : decode cX8_yarnFor 64 = .ok (.iadd, 1) := by decide +kernel
theorem dX8_yarnFor_65 : decode cX8_yarnFor 65 = .ok (.iaload, 1) := by decide +kernel
theorem dX8_yarnFor_66 : decode cX8_yarnFor 66 = .ok (.iload_n 1, 1) := by decide +kernel
theorem dX8_yarnFor_67 : decode cX8_yarnFor 67 = .ok (.if_icmp .ne 12, 3) := by decide +kernel
theorem dX8_yarnFor_70 : decode cX8_yarnFor 70 = .ok (.aload_n 0, 1) := by decide +kernel
theorem dX8_yarnFor_71 : decode cX8_yarnFor 71 = .ok (.iload 4, 2) := by decide +kernel
theorem dX8_yarnFor_73 : decode cX8_yarnFor 73 = .ok (.invokevirtual 178, 3) := by decide +kernel
theorem dX8_yarnFor_76 : decode cX8_yarnFor 76 = .ok (.goto 4, 3) := by decide +kernel
theorem dX8_yarnFor_79 : decode cX8_yarnFor 79 = .ok (.iconst 0, 1) := by decide +kernel
theorem dX8_yarnFor_80 : decode cX8_yarnFor 80 = .ok (.iadd, 1) := by decide +kernel
theorem dX8_yarnFor_81 : decode cX8_yarnFor 81 = .ok (.istore_n 3, 1) := by decide +kernel
theorem dX8_yarnFor_82 : decode cX8_yarnFor 82 = .ok (.iload 4, 2) := by decide +kernel
theorem dX8_yarnFor_84 : decode cX8_yarnFor 84 = .ok (.aload_n 0, 1) := by decide +kernel
theorem dX8_yarnFor_85 : decode cX8_yarnFor 85 = .ok (.invokevirtual 126, 3) := by decide +kernel
theorem dX8_yarnFor_88 : decode cX8_yarnFor 88 = .ok (.iadd, 1) := by decide +kernel
theorem dX8_yarnFor_89 : decode cX8_yarnFor 89 = .ok (.aload_n 0, 1) := by decide +kernel
theorem dX8_yarnFor_90 : decode cX8_yarnFor 90 = .ok (.getfield 7, 3) := by decide +kernel
theorem dX8_yarnFor_93 : decode cX8_yarnFor 93 = .ok (.iconst 2, 1) := by decide +kernel
theorem dX8_yarnFor_94 : decode cX8_yarnFor 94 = .ok (.iaload, 1) := by decide +kernel
theorem dX8_yarnFor_95 : decode cX8_yarnFor 95 = .ok (.iadd, 1) := by decide +kernel
theorem dX8_yarnFor_96 : decode cX8_yarnFor 96 = .ok (.aload_n 0, 1) := by decide +kernel
theorem dX8_yarnFor_97 : decode cX8_yarnFor 97 = .ok (.getfield 7, 3) := by decide +kernel
theorem dX8_yarnFor_100 : decode cX8_yarnFor 100 = .ok (.iconst 2, 1) := by decide +kernel
theorem dX8_yarnFor_101 : decode cX8_yarnFor 101 = .ok (.iaload, 1) := by decide +kernel
theorem dX8_yarnFor_102 : decode cX8_yarnFor 102 = .ok (.irem, 1) := by decide +kernel
theorem dX8_yarnFor_103 : decode cX8_yarnFor 103 = .ok (.istore 4, 2) := by decide +kernel
theorem dX8_yarnFor_105 : decode cX8_yarnFor 105 = .ok (.iinc 5 1, 3) := by decide +kernel
theorem dX8_yarnFor_108 : decode cX8_yarnFor 108 = .ok (.goto (-59), 3) := by decide +kernel
theorem dX8_yarnFor_111 : decode cX8_yarnFor 111 = .ok (.iload_n 3, 1) := by decide +kernel
theorem dX8_yarnFor_112 : decode cX8_yarnFor 112 = .ok (.ireturn, 1) := by decide +kernel
theorem dJ6_bitCount_0f7a4_0 : decode cJ6_bitCount_0f7a4 0 = .ok (.iload_n 0, 1) := by decide +kernel
theorem dJ6_bitCount_0f7a4_1 : decode cJ6_bitCount_0f7a4 1 = .ok (.iload_n 0, 1) := by decide +kernel
theorem dJ6_bitCount_0f7a4_2 : decode cJ6_bitCount_0f7a4 2 = .ok (.iconst 1, 1) := by decide +kernel
theorem dJ6_bitCount_0f7a4_3 : decode cJ6_bitCount_0f7a4 3 = .ok (.iushr, 1) := by decide +kernel
theorem dJ6_bitCount_0f7a4_4 : decode cJ6_bitCount_0f7a4 4 = .ok (.ldc_w 265, 3) := by decide +kernel
theorem dJ6_bitCount_0f7a4_7 : decode cJ6_bitCount_0f7a4 7 = .ok (.iand, 1) := by decide +kernel
theorem dJ6_bitCount_0f7a4_8 : decode cJ6_bitCount_0f7a4 8 = .ok (.isub, 1) := by decide +kernel
theorem dJ6_bitCount_0f7a4_9 : decode cJ6_bitCount_0f7a4 9 = .ok (.istore_n 0, 1) := by decide +kernel
theorem dJ6_bitCount_0f7a4_10 : decode cJ6_bitCount_0f7a4 10 = .ok (.iload_n 0, 1) := by decide +kernel
theorem dJ6_bitCount_0f7a4_11 : decode cJ6_bitCount_0f7a4 11 = .ok (.ldc_w 266, 3) := by decide +kernel
theorem dJ6_bitCount_0f7a4_14 : decode cJ6_bitCount_0f7a4 14 = .ok (.iand, 1) := by decide +kernel
theorem dJ6_bitCount_0f7a4_15 : decode cJ6_bitCount_0f7a4 15 = .ok (.iload_n 0, 1) := by decide +kernel
theorem dJ6_bitCount_0f7a4_16 : decode cJ6_bitCount_0f7a4 16 = .ok (.iconst 2, 1) := by decide +kernel
theorem dJ6_bitCount_0f7a4_17 : decode cJ6_bitCount_0f7a4 17 = .ok (.iushr, 1) := by decide +kernel
theorem dJ6_bitCount_0f7a4_18 : decode cJ6_bitCount_0f7a4 18 = .ok (.ldc_w 266, 3) := by decide +kernel
theorem dJ6_bitCount_0f7a4_21 : decode cJ6_bitCount_0f7a4 21 = .ok (.iand, 1) := by decide +kernel
theorem dJ6_bitCount_0f7a4_22 : decode cJ6_bitCount_0f7a4 22 = .ok (.iadd, 1) := by decide +kernel
theorem dJ6_bitCount_0f7a4_23 : decode cJ6_bitCount_0f7a4 23 = .ok (.istore_n 0, 1) := by decide +kernel
theorem dJ6_bitCount_0f7a4_24 : decode cJ6_bitCount_0f7a4 24 = .ok (.iload_n 0, 1) := by decide +kernel
theorem dJ6_bitCount_0f7a4_25 : decode cJ6_bitCount_0f7a4 25 = .ok (.iload_n 0, 1) := by decide +kernel
theorem dJ6_bitCount_0f7a4_26 : decode cJ6_bitCount_0f7a4 26 = .ok (.iconst 4, 1) := by decide +kernel
theorem dJ6_bitCount_0f7a4_27 : decode cJ6_bitCount_0f7a4 27 = .ok (.iushr, 1) := by decide +kernel
theorem dJ6_bitCount_0f7a4_28 : decode cJ6_bitCount_0f7a4 28 = .ok (.iadd, 1) := by decide +kernel
theorem dJ6_bitCount_0f7a4_29 : decode cJ6_bitCount_0f7a4 29 = .ok (.ldc_w 267, 3) := by decide +kernel
theorem dJ6_bitCount_0f7a4_32 : decode cJ6_bitCount_0f7a4 32 = .ok (.iand, 1) := by decide +kernel
theorem dJ6_bitCount_0f7a4_33 : decode cJ6_bitCount_0f7a4 33 = .ok (.istore_n 0, 1) := by decide +kernel
theorem dJ6_bitCount_0f7a4_34 : decode cJ6_bitCount_0f7a4 34 = .ok (.iload_n 0, 1) := by decide +kernel
theorem dJ6_bitCount_0f7a4_35 : decode cJ6_bitCount_0f7a4 35 = .ok (.iload_n 0, 1) := by decide +kernel
theorem dJ6_bitCount_0f7a4_36 : decode cJ6_bitCount_0f7a4 36 = .ok (.bipush 8, 2) := by decide +kernel
theorem dJ6_bitCount_0f7a4_38 : decode cJ6_bitCount_0f7a4 38 = .ok (.iushr, 1) := by decide +kernel
theorem dJ6_bitCount_0f7a4_39 : decode cJ6_bitCount_0f7a4 39 = .ok (.iadd, 1) := by decide +kernel
theorem dJ6_bitCount_0f7a4_40 : decode cJ6_bitCount_0f7a4 40 = .ok (.istore_n 0, 1) := by decide +kernel
theorem dJ6_bitCount_0f7a4_41 : decode cJ6_bitCount_0f7a4 41 = .ok (.iload_n 0, 1) := by decide +kernel
theorem dJ6_bitCount_0f7a4_42 : decode cJ6_bitCount_0f7a4 42 = .ok (.iload_n 0, 1) := by decide +kernel
theorem dJ6_bitCount_0f7a4_43 : decode cJ6_bitCount_0f7a4 43 = .ok (.bipush 16, 2) := by decide +kernel
theorem dJ6_bitCount_0f7a4_45 : decode cJ6_bitCount_0f7a4 45 = .ok (.iushr, 1) := by decide +kernel
theorem dJ6_bitCount_0f7a4_46 : decode cJ6_bitCount_0f7a4 46 = .ok (.iadd, 1) := by decide +kernel
theorem dJ6_bitCount_0f7a4_47 : decode cJ6_bitCount_0f7a4 47 = .ok (.istore_n 0, 1) := by decide +kernel
theorem dJ6_bitCount_0f7a4_48 : decode cJ6_bitCount_0f7a4 48 = .ok (.iload_n 0, 1) := by decide +kernel
theorem dJ6_bitCount_0f7a4_49 : decode cJ6_bitCount_0f7a4 49 = .ok (.bipush 63, 2) := by decide +kernel
theorem dJ6_bitCount_0f7a4_51 : decode cJ6_bitCount_0f7a4 51 = .ok (.iand, 1) := by decide +kernel
theorem dJ6_bitCount_0f7a4_52 : decode cJ6_bitCount_0f7a4 52 = .ok (.ireturn, 1) := by decide +kernel
theorem dJ9_max_7cf53_0 : decode cJ9_max_7cf53 0 = .ok (.iload_n 0, 1) := by decide +kernel
theorem dJ9_max_7cf53_1 : decode cJ9_max_7cf53 1 = .ok (.iload_n 1, 1) := by decide +kernel
theorem dJ9_max_7cf53_2 : decode cJ9_max_7cf53 2 = .ok (.if_icmp .lt 7, 3) := by decide +kernel
theorem dJ9_max_7cf53_5 : decode cJ9_max_7cf53 5 = .ok (.iload_n 0, 1) := by decide +kernel
theorem dJ9_max_7cf53_6 : decode cJ9_max_7cf53 6 = .ok (.goto 4, 3) := by decide +kernel
theorem dJ9_max_7cf53_9 : decode cJ9_max_7cf53 9 = .ok (.iload_n 1, 1) := by decide +kernel
theorem dJ9_max_7cf53_10 : decode cJ9_max_7cf53 10 = .ok (.ireturn, 1) := by decide +kernel
theorem dJ9_min_7cf53_0 : decode cJ9_min_7cf53 0 = .ok (.iload_n 0, 1) := by decide +kernel
theorem dJ9_min_7cf53_1 : decode cJ9_min_7cf53 1 = .ok (.iload_n 1, 1) := by decide +kernel
theorem dJ9_min_7cf53_2 : decode cJ9_min_7cf53 2 = .ok (.if_icmp .gt 7, 3) := by decide +kernel
theorem dJ9_min_7cf53_5 : decode cJ9_min_7cf53 5 = .ok (.iload_n 0, 1) := by decide +kernel
theorem dJ9_min_7cf53_6 : decode cJ9_min_7cf53 6 = .ok (.goto 4, 3) := by decide +kernel
theorem dJ9_min_7cf53_9 : decode cJ9_min_7cf53 9 = .ok (.iload_n 1, 1) := by decide +kernel
theorem dJ9_min_7cf53_10 : decode cJ9_min_7cf53 10 = .ok (.ireturn, 1) := by decide +kernel
theorem dL_law_0 : decode cL_law 0 = .ok (.new 7, 3) := by decide +kernel
theorem dL_law_3 : decode cL_law 3 = .ok (.dup, 1) := by decide +kernel
theorem dL_law_4 : decode cL_law 4 = .ok (.invokespecial 9, 3) := by decide +kernel
theorem dL_law_7 : decode cL_law 7 = .ok (.astore_n 1, 1) := by decide +kernel
theorem dL_law_8 : decode cL_law 8 = .ok (.new 10, 3) := by decide +kernel
theorem dL_law_11 : decode cL_law 11 = .ok (.dup, 1) := by decide +kernel
theorem dL_law_12 : decode cL_law 12 = .ok (.invokespecial 12, 3) := by decide +kernel
theorem dL_law_15 : decode cL_law 15 = .ok (.astore_n 2, 1) := by decide +kernel
theorem dL_law_16 : decode cL_law 16 = .ok (.iconst 0, 1) := by decide +kernel
theorem dL_law_17 : decode cL_law 17 = .ok (.istore_n 3, 1) := by decide +kernel
theorem dL_law_18 : decode cL_law 18 = .ok (.iload_n 3, 1) := by decide +kernel
theorem dL_law_19 : decode cL_law 19 = .ok (.aload_n 0, 1) := by decide +kernel
theorem dL_law_20 : decode cL_law 20 = .ok (.arraylength, 1) := by decide +kernel
theorem dL_law_21 : decode cL_law 21 = .ok (.iconst 4, 1) := by decide +kernel
theorem dL_law_22 : decode cL_law 22 = .ok (.isub, 1) := by decide +kernel
theorem dL_law_23 : decode cL_law 23 = .ok (.if_icmp .gt 813, 3) := by decide +kernel
theorem dL_law_26 : decode cL_law 26 = .ok (.aload_n 0, 1) := by decide +kernel
theorem dL_law_27 : decode cL_law 27 = .ok (.iload_n 3, 1) := by decide +kernel
theorem dL_law_28 : decode cL_law 28 = .ok (.iaload, 1) := by decide +kernel
theorem dL_law_29 : decode cL_law 29 = .ok (.bipush 31, 2) := by decide +kernel
theorem dL_law_31 : decode cL_law 31 = .ok (.iand, 1) := by decide +kernel
theorem dL_law_32 : decode cL_law 32 = .ok (.tableswitch 798 0 25 #[120, 153, 196, 229, 262, 305, 328, 351, 384, 407, 420, 433, 456, 479, 492, 505, 528, 561, 594, 617, 650, 693, 726, 739, 752, 765], 120) := by decide +kernel
theorem dL_law_152 : decode cL_law 152 = .ok (.aload_n 1, 1) := by decide +kernel
theorem dL_law_153 : decode cL_law 153 = .ok (.aload_n 0, 1) := by decide +kernel
theorem dL_law_154 : decode cL_law 154 = .ok (.iload_n 3, 1) := by decide +kernel
theorem dL_law_155 : decode cL_law 155 = .ok (.iconst 1, 1) := by decide +kernel
theorem dL_law_156 : decode cL_law 156 = .ok (.iadd, 1) := by decide +kernel
theorem dL_law_157 : decode cL_law 157 = .ok (.iaload, 1) := by decide +kernel
theorem dL_law_158 : decode cL_law 158 = .ok (.aload_n 0, 1) := by decide +kernel
theorem dL_law_159 : decode cL_law 159 = .ok (.iload_n 3, 1) := by decide +kernel
theorem dL_law_160 : decode cL_law 160 = .ok (.iconst 2, 1) := by decide +kernel
theorem dL_law_161 : decode cL_law 161 = .ok (.iadd, 1) := by decide +kernel
theorem dL_law_162 : decode cL_law 162 = .ok (.iaload, 1) := by decide +kernel
theorem dL_law_163 : decode cL_law 163 = .ok (.invokevirtual 13, 3) := by decide +kernel
theorem dL_law_166 : decode cL_law 166 = .ok (.aload_n 2, 1) := by decide +kernel
theorem dL_law_167 : decode cL_law 167 = .ok (.aload_n 0, 1) := by decide +kernel
theorem dL_law_168 : decode cL_law 168 = .ok (.iload_n 3, 1) := by decide +kernel
theorem dL_law_169 : decode cL_law 169 = .ok (.iconst 1, 1) := by decide +kernel
theorem dL_law_170 : decode cL_law 170 = .ok (.iadd, 1) := by decide +kernel
theorem dL_law_171 : decode cL_law 171 = .ok (.iaload, 1) := by decide +kernel
theorem dL_law_172 : decode cL_law 172 = .ok (.aload_n 0, 1) := by decide +kernel
theorem dL_law_173 : decode cL_law 173 = .ok (.iload_n 3, 1) := by decide +kernel
theorem dL_law_174 : decode cL_law 174 = .ok (.iconst 2, 1) := by decide +kernel
theorem dL_law_175 : decode cL_law 175 = .ok (.iadd, 1) := by decide +kernel
theorem dL_law_176 : decode cL_law 176 = .ok (.iaload, 1) := by decide +kernel
theorem dL_law_177 : decode cL_law 177 = .ok (.invokevirtual 17, 3) := by decide +kernel
theorem dL_law_180 : decode cL_law 180 = .ok (.if_icmp .eq 650, 3) := by decide +kernel
theorem dL_law_183 : decode cL_law 183 = .ok (.iconst 0, 1) := by decide +kernel
theorem dL_law_184 : decode cL_law 184 = .ok (.ireturn, 1) := by decide +kernel
theorem dL_law_185 : decode cL_law 185 = .ok (.aload_n 1, 1) := by decide +kernel
theorem dL_law_186 : decode cL_law 186 = .ok (.aload_n 0, 1) := by decide +kernel
theorem dL_law_187 : decode cL_law 187 = .ok (.iload_n 3, 1) := by decide +kernel
theorem dL_law_188 : decode cL_law 188 = .ok (.iconst 1, 1) := by decide +kernel
theorem dL_law_189 : decode cL_law 189 = .ok (.iadd, 1) := by decide +kernel
theorem dL_law_190 : decode cL_law 190 = .ok (.iaload, 1) := by decide +kernel
theorem dL_law_191 : decode cL_law 191 = .ok (.aload_n 0, 1) := by decide +kernel
theorem dL_law_192 : decode cL_law 192 = .ok (.iload_n 3, 1) := by decide +kernel
theorem dL_law_193 : decode cL_law 193 = .ok (.iconst 2, 1) := by decide +kernel
theorem dL_law_194 : decode cL_law 194 = .ok (.iadd, 1) := by decide +kernel
theorem dL_law_195 : decode cL_law 195 = .ok (.iaload, 1) := by decide +kernel
theorem dL_law_196 : decode cL_law 196 = .ok (.aload_n 0, 1) := by decide +kernel
theorem dL_law_197 : decode cL_law 197 = .ok (.iload_n 3, 1) := by decide +kernel
theorem dL_law_198 : decode cL_law 198 = .ok (.iconst 3, 1) := by decide +kernel
theorem dL_law_199 : decode cL_law 199 = .ok (.iadd, 1) := by decide +kernel
theorem dL_law_200 : decode cL_law 200 = .ok (.iaload, 1) := by decide +kernel
theorem dL_law_201 : decode cL_law 201 = .ok (.invokevirtual 18, 3) := by decide +kernel
theorem dL_law_204 : decode cL_law 204 = .ok (.aload_n 2, 1) := by decide +kernel
theorem dL_law_205 : decode cL_law 205 = .ok (.aload_n 0, 1) := by decide +kernel
theorem dL_law_206 : decode cL_law 206 = .ok (.iload_n 3, 1) := by decide +kernel
theorem dL_law_207 : decode cL_law 207 = .ok (.iconst 1, 1) := by decide +kernel
theorem dL_law_208 : decode cL_law 208 = .ok (.iadd, 1) := by decide +kernel
theorem dL_law_209 : decode cL_law 209 = .ok (.iaload, 1) := by decide +kernel
theorem dL_law_210 : decode cL_law 210 = .ok (.aload_n 0, 1) := by decide +kernel
theorem dL_law_211 : decode cL_law 211 = .ok (.iload_n 3, 1) := by decide +kernel
theorem dL_law_212 : decode cL_law 212 = .ok (.iconst 2, 1) := by decide +kernel
theorem dL_law_213 : decode cL_law 213 = .ok (.iadd, 1) := by decide +kernel
theorem dL_law_214 : decode cL_law 214 = .ok (.iaload, 1) := by decide +kernel
theorem dL_law_215 : decode cL_law 215 = .ok (.aload_n 0, 1) := by decide +kernel
theorem dL_law_216 : decode cL_law 216 = .ok (.iload_n 3, 1) := by decide +kernel
theorem dL_law_217 : decode cL_law 217 = .ok (.iconst 3, 1) := by decide +kernel
theorem dL_law_218 : decode cL_law 218 = .ok (.iadd, 1) := by decide +kernel
theorem dL_law_219 : decode cL_law 219 = .ok (.iaload, 1) := by decide +kernel
theorem dL_law_220 : decode cL_law 220 = .ok (.invokevirtual 22, 3) := by decide +kernel
theorem dL_law_223 : decode cL_law 223 = .ok (.if_icmp .eq 607, 3) := by decide +kernel
theorem dL_law_226 : decode cL_law 226 = .ok (.iconst 0, 1) := by decide +kernel
theorem dL_law_227 : decode cL_law 227 = .ok (.ireturn, 1) := by decide +kernel
theorem dL_law_228 : decode cL_law 228 = .ok (.aload_n 1, 1) := by decide +kernel
theorem dL_law_229 : decode cL_law 229 = .ok (.aload_n 0, 1) := by decide +kernel
theorem dL_law_230 : decode cL_law 230 = .ok (.iload_n 3, 1) := by decide +kernel
theorem dL_law_231 : decode cL_law 231 = .ok (.iconst 1, 1) := by decide +kernel
theorem dL_law_232 : decode cL_law 232 = .ok (.iadd, 1) := by decide +kernel
theorem dL_law_233 : decode cL_law 233 = .ok (.iaload, 1) := by decide +kernel
theorem dL_law_234 : decode cL_law 234 = .ok (.aload_n 0, 1) := by decide +kernel
theorem dL_law_235 : decode cL_law 235 = .ok (.iload_n 3, 1) := by decide +kernel
theorem dL_law_236 : decode cL_law 236 = .ok (.iconst 2, 1) := by decide +kernel
theorem dL_law_237 : decode cL_law 237 = .ok (.iadd, 1) := by decide +kernel
theorem dL_law_238 : decode cL_law 238 = .ok (.iaload, 1) := by decide +kernel
theorem dL_law_239 : decode cL_law 239 = .ok (.invokevirtual 23, 3) := by decide +kernel
theorem dL_law_242 : decode cL_law 242 = .ok (.aload_n 2, 1) := by decide +kernel
theorem dL_law_243 : decode cL_law 243 = .ok (.aload_n 0, 1) := by decide +kernel
theorem dL_law_244 : decode cL_law 244 = .ok (.iload_n 3, 1) := by decide +kernel
theorem dL_law_245 : decode cL_law 245 = .ok (.iconst 1, 1) := by decide +kernel
theorem dL_law_246 : decode cL_law 246 = .ok (.iadd, 1) := by decide +kernel
theorem dL_law_247 : decode cL_law 247 = .ok (.iaload, 1) := by decide +kernel
theorem dL_law_248 : decode cL_law 248 = .ok (.aload_n 0, 1) := by decide +kernel
theorem dL_law_249 : decode cL_law 249 = .ok (.iload_n 3, 1) := by decide +kernel
theorem dL_law_250 : decode cL_law 250 = .ok (.iconst 2, 1) := by decide +kernel
theorem dL_law_251 : decode cL_law 251 = .ok (.iadd, 1) := by decide +kernel
theorem dL_law_252 : decode cL_law 252 = .ok (.iaload, 1) := by decide +kernel
theorem dL_law_253 : decode cL_law 253 = .ok (.invokevirtual 26, 3) := by decide +kernel
theorem dL_law_256 : decode cL_law 256 = .ok (.if_icmp .eq 574, 3) := by decide +kernel
theorem dL_law_259 : decode cL_law 259 = .ok (.iconst 0, 1) := by decide +kernel
theorem dL_law_260 : decode cL_law 260 = .ok (.ireturn, 1) := by decide +kernel
theorem dL_law_261 : decode cL_law 261 = .ok (.aload_n 1, 1) := by decide +kernel
theorem dL_law_262 : decode cL_law 262 = .ok (.aload_n 0, 1) := by decide +kernel
theorem dL_law_263 : decode cL_law 263 = .ok (.iload_n 3, 1) := by decide +kernel
theorem dL_law_264 : decode cL_law 264 = .ok (.iconst 1, 1) := by decide +kernel
theorem dL_law_265 : decode cL_law 265 = .ok (.iadd, 1) := by decide +kernel
theorem dL_law_266 : decode cL_law 266 = .ok (.iaload, 1) := by decide +kernel
theorem dL_law_267 : decode cL_law 267 = .ok (.aload_n 0, 1) := by decide +kernel
theorem dL_law_268 : decode cL_law 268 = .ok (.iload_n 3, 1) := by decide +kernel
theorem dL_law_269 : decode cL_law 269 = .ok (.iconst 2, 1) := by decide +kernel
theorem dL_law_270 : decode cL_law 270 = .ok (.iadd, 1) := by decide +kernel
theorem dL_law_271 : decode cL_law 271 = .ok (.iaload, 1) := by decide +kernel
theorem dL_law_272 : decode cL_law 272 = .ok (.invokevirtual 27, 3) := by decide +kernel
theorem dL_law_275 : decode cL_law 275 = .ok (.aload_n 2, 1) := by decide +kernel
theorem dL_law_276 : decode cL_law 276 = .ok (.aload_n 0, 1) := by decide +kernel
theorem dL_law_277 : decode cL_law 277 = .ok (.iload_n 3, 1) := by decide +kernel
theorem dL_law_278 : decode cL_law 278 = .ok (.iconst 1, 1) := by decide +kernel
theorem dL_law_279 : decode cL_law 279 = .ok (.iadd, 1) := by decide +kernel
theorem dL_law_280 : decode cL_law 280 = .ok (.iaload, 1) := by decide +kernel
theorem dL_law_281 : decode cL_law 281 = .ok (.aload_n 0, 1) := by decide +kernel
theorem dL_law_282 : decode cL_law 282 = .ok (.iload_n 3, 1) := by decide +kernel
theorem dL_law_283 : decode cL_law 283 = .ok (.iconst 2, 1) := by decide +kernel
theorem dL_law_284 : decode cL_law 284 = .ok (.iadd, 1) := by decide +kernel
theorem dL_law_285 : decode cL_law 285 = .ok (.iaload, 1) := by decide +kernel
theorem dL_law_286 : decode cL_law 286 = .ok (.invokevirtual 30, 3) := by decide +kernel
theorem dL_law_289 : decode cL_law 289 = .ok (.if_icmp .eq 541, 3) := by decide +kernel
theorem dL_law_292 : decode cL_law 292 = .ok (.iconst 0, 1) := by decide +kernel
theorem dL_law_293 : decode cL_law 293 = .ok (.ireturn, 1) := by decide +kernel
theorem dL_law_294 : decode cL_law 294 = .ok (.aload_n 1, 1) := by decide +kernel
theorem dL_law_295 : decode cL_law 295 = .ok (.aload_n 0, 1) := by decide +kernel
theorem dL_law_296 : decode cL_law 296 = .ok (.iload_n 3, 1) := by decide +kernel
theorem dL_law_297 : decode cL_law 297 = .ok (.iconst 1, 1) := by decide +kernel
theorem dL_law_298 : decode cL_law 298 = .ok (.iadd, 1) := by decide +kernel
theorem dL_law_299 : decode cL_law 299 = .ok (.iaload, 1) := by decide +kernel
theorem dL_law_300 : decode cL_law 300 = .ok (.aload_n 0, 1) := by decide +kernel
theorem dL_law_301 : decode cL_law 301 = .ok (.iload_n 3, 1) := by decide +kernel
theorem dL_law_302 : decode cL_law 302 = .ok (.iconst 2, 1) := by decide +kernel
theorem dL_law_303 : decode cL_law 303 = .ok (.iadd, 1) := by decide +kernel
theorem dL_law_304 : decode cL_law 304 = .ok (.iaload, 1) := by decide +kernel
theorem dL_law_305 : decode cL_law 305 = .ok (.aload_n 0, 1) := by decide +kernel
theorem dL_law_306 : decode cL_law 306 = .ok (.iload_n 3, 1) := by decide +kernel
theorem dL_law_307 : decode cL_law 307 = .ok (.iconst 3, 1) := by decide +kernel
theorem dL_law_308 : decode cL_law 308 = .ok (.iadd, 1) := by decide +kernel
theorem dL_law_309 : decode cL_law 309 = .ok (.iaload, 1) := by decide +kernel
theorem dL_law_310 : decode cL_law 310 = .ok (.invokevirtual 31, 3) := by decide +kernel
theorem dL_law_313 : decode cL_law 313 = .ok (.aload_n 2, 1) := by decide +kernel
theorem dL_law_314 : decode cL_law 314 = .ok (.aload_n 0, 1) := by decide +kernel
theorem dL_law_315 : decode cL_law 315 = .ok (.iload_n 3, 1) := by decide +kernel
theorem dL_law_316 : decode cL_law 316 = .ok (.iconst 1, 1) := by decide +kernel
theorem dL_law_317 : decode cL_law 317 = .ok (.iadd, 1) := by decide +kernel
theorem dL_law_318 : decode cL_law 318 = .ok (.iaload, 1) := by decide +kernel
theorem dL_law_319 : decode cL_law 319 = .ok (.aload_n 0, 1) := by decide +kernel
theorem dL_law_320 : decode cL_law 320 = .ok (.iload_n 3, 1) := by decide +kernel
theorem dL_law_321 : decode cL_law 321 = .ok (.iconst 2, 1) := by decide +kernel
theorem dL_law_322 : decode cL_law 322 = .ok (.iadd, 1) := by decide +kernel
theorem dL_law_323 : decode cL_law 323 = .ok (.iaload, 1) := by decide +kernel
theorem dL_law_324 : decode cL_law 324 = .ok (.aload_n 0, 1) := by decide +kernel
theorem dL_law_325 : decode cL_law 325 = .ok (.iload_n 3, 1) := by decide +kernel
theorem dL_law_326 : decode cL_law 326 = .ok (.iconst 3, 1) := by decide +kernel
theorem dL_law_327 : decode cL_law 327 = .ok (.iadd, 1) := by decide +kernel
theorem dL_law_328 : decode cL_law 328 = .ok (.iaload, 1) := by decide +kernel
theorem dL_law_329 : decode cL_law 329 = .ok (.invokevirtual 34, 3) := by decide +kernel
theorem dL_law_332 : decode cL_law 332 = .ok (.if_icmp .eq 498, 3) := by decide +kernel
theorem dL_law_335 : decode cL_law 335 = .ok (.iconst 0, 1) := by decide +kernel
theorem dL_law_336 : decode cL_law 336 = .ok (.ireturn, 1) := by decide +kernel
theorem dL_law_337 : decode cL_law 337 = .ok (.aload_n 1, 1) := by decide +kernel
theorem dL_law_338 : decode cL_law 338 = .ok (.aload_n 0, 1) := by decide +kernel
theorem dL_law_339 : decode cL_law 339 = .ok (.iload_n 3, 1) := by decide +kernel
theorem dL_law_340 : decode cL_law 340 = .ok (.iconst 1, 1) := by decide +kernel
theorem dL_law_341 : decode cL_law 341 = .ok (.iadd, 1) := by decide +kernel
theorem dL_law_342 : decode cL_law 342 = .ok (.iaload, 1) := by decide +kernel
theorem dL_law_343 : decode cL_law 343 = .ok (.invokevirtual 35, 3) := by decide +kernel
theorem dL_law_346 : decode cL_law 346 = .ok (.aload_n 2, 1) := by decide +kernel
theorem dL_law_347 : decode cL_law 347 = .ok (.aload_n 0, 1) := by decide +kernel
theorem dL_law_348 : decode cL_law 348 = .ok (.iload_n 3, 1) := by decide +kernel
theorem dL_law_349 : decode cL_law 349 = .ok (.iconst 1, 1) := by decide +kernel
theorem dL_law_350 : decode cL_law 350 = .ok (.iadd, 1) := by decide +kernel
theorem dL_law_351 : decode cL_law 351 = .ok (.iaload, 1) := by decide +kernel
theorem dL_law_352 : decode cL_law 352 = .ok (.invokevirtual 39, 3) := by decide +kernel
theorem dL_law_355 : decode cL_law 355 = .ok (.if_icmp .eq 475, 3) := by decide +kernel
theorem dL_law_358 : decode cL_law 358 = .ok (.iconst 0, 1) := by decide +kernel
theorem dL_law_359 : decode cL_law 359 = .ok (.ireturn, 1) := by decide +kernel
theorem dL_law_360 : decode cL_law 360 = .ok (.aload_n 1, 1) := by decide +kernel
theorem dL_law_361 : decode cL_law 361 = .ok (.aload_n 0, 1) := by decide +kernel
theorem dL_law_362 : decode cL_law 362 = .ok (.iload_n 3, 1) := by decide +kernel
theorem dL_law_363 : decode cL_law 363 = .ok (.iconst 1, 1) := by decide +kernel
theorem dL_law_364 : decode cL_law 364 = .ok (.iadd, 1) := by decide +kernel
theorem dL_law_365 : decode cL_law 365 = .ok (.iaload, 1) := by decide +kernel
theorem dL_law_366 : decode cL_law 366 = .ok (.invokevirtual 40, 3) := by decide +kernel
theorem dL_law_369 : decode cL_law 369 = .ok (.aload_n 2, 1) := by decide +kernel
theorem dL_law_370 : decode cL_law 370 = .ok (.aload_n 0, 1) := by decide +kernel
theorem dL_law_371 : decode cL_law 371 = .ok (.iload_n 3, 1) := by decide +kernel
theorem dL_law_372 : decode cL_law 372 = .ok (.iconst 1, 1) := by decide +kernel
theorem dL_law_373 : decode cL_law 373 = .ok (.iadd, 1) := by decide +kernel
theorem dL_law_374 : decode cL_law 374 = .ok (.iaload, 1) := by decide +kernel
theorem dL_law_375 : decode cL_law 375 = .ok (.invokevirtual 43, 3) := by decide +kernel
theorem dL_law_378 : decode cL_law 378 = .ok (.if_icmp .eq 452, 3) := by decide +kernel
theorem dL_law_381 : decode cL_law 381 = .ok (.iconst 0, 1) := by decide +kernel
theorem dL_law_382 : decode cL_law 382 = .ok (.ireturn, 1) := by decide +kernel
theorem dL_law_383 : decode cL_law 383 = .ok (.aload_n 1, 1) := by decide +kernel
theorem dL_law_384 : decode cL_law 384 = .ok (.aload_n 0, 1) := by decide +kernel
theorem dL_law_385 : decode cL_law 385 = .ok (.iload_n 3, 1) := by decide +kernel
theorem dL_law_386 : decode cL_law 386 = .ok (.iconst 1, 1) := by decide +kernel
theorem dL_law_387 : decode cL_law 387 = .ok (.iadd, 1) := by decide +kernel
theorem dL_law_388 : decode cL_law 388 = .ok (.iaload, 1) := by decide +kernel
theorem dL_law_389 : decode cL_law 389 = .ok (.aload_n 0, 1) := by decide +kernel
theorem dL_law_390 : decode cL_law 390 = .ok (.iload_n 3, 1) := by decide +kernel
theorem dL_law_391 : decode cL_law 391 = .ok (.iconst 2, 1) := by decide +kernel
theorem dL_law_392 : decode cL_law 392 = .ok (.iadd, 1) := by decide +kernel
theorem dL_law_393 : decode cL_law 393 = .ok (.iaload, 1) := by decide +kernel
theorem dL_law_394 : decode cL_law 394 = .ok (.invokevirtual 44, 3) := by decide +kernel
theorem dL_law_397 : decode cL_law 397 = .ok (.aload_n 2, 1) := by decide +kernel
theorem dL_law_398 : decode cL_law 398 = .ok (.aload_n 0, 1) := by decide +kernel
theorem dL_law_399 : decode cL_law 399 = .ok (.iload_n 3, 1) := by decide +kernel
theorem dL_law_400 : decode cL_law 400 = .ok (.iconst 1, 1) := by decide +kernel
theorem dL_law_401 : decode cL_law 401 = .ok (.iadd, 1) := by decide +kernel
theorem dL_law_402 : decode cL_law 402 = .ok (.iaload, 1) := by decide +kernel
theorem dL_law_403 : decode cL_law 403 = .ok (.aload_n 0, 1) := by decide +kernel
theorem dL_law_404 : decode cL_law 404 = .ok (.iload_n 3, 1) := by decide +kernel
theorem dL_law_405 : decode cL_law 405 = .ok (.iconst 2, 1) := by decide +kernel
theorem dL_law_406 : decode cL_law 406 = .ok (.iadd, 1) := by decide +kernel
theorem dL_law_407 : decode cL_law 407 = .ok (.iaload, 1) := by decide +kernel
theorem dL_law_408 : decode cL_law 408 = .ok (.invokevirtual 47, 3) := by decide +kernel
theorem dL_law_411 : decode cL_law 411 = .ok (.if_icmp .eq 419, 3) := by decide +kernel
theorem dL_law_414 : decode cL_law 414 = .ok (.iconst 0, 1) := by decide +kernel
theorem dL_law_415 : decode cL_law 415 = .ok (.ireturn, 1) := by decide +kernel
theorem dL_law_416 : decode cL_law 416 = .ok (.aload_n 1, 1) := by decide +kernel
theorem dL_law_417 : decode cL_law 417 = .ok (.aload_n 0, 1) := by decide +kernel
theorem dL_law_418 : decode cL_law 418 = .ok (.iload_n 3, 1) := by decide +kernel
theorem dL_law_419 : decode cL_law 419 = .ok (.iconst 1, 1) := by decide +kernel
theorem dL_law_420 : decode cL_law 420 = .ok (.iadd, 1) := by decide +kernel
theorem dL_law_421 : decode cL_law 421 = .ok (.iaload, 1) := by decide +kernel
theorem dL_law_422 : decode cL_law 422 = .ok (.invokevirtual 48, 3) := by decide +kernel
theorem dL_law_425 : decode cL_law 425 = .ok (.aload_n 2, 1) := by decide +kernel
theorem dL_law_426 : decode cL_law 426 = .ok (.aload_n 0, 1) := by decide +kernel
theorem dL_law_427 : decode cL_law 427 = .ok (.iload_n 3, 1) := by decide +kernel
theorem dL_law_428 : decode cL_law 428 = .ok (.iconst 1, 1) := by decide +kernel
theorem dL_law_429 : decode cL_law 429 = .ok (.iadd, 1) := by decide +kernel
theorem dL_law_430 : decode cL_law 430 = .ok (.iaload, 1) := by decide +kernel
theorem dL_law_431 : decode cL_law 431 = .ok (.invokevirtual 51, 3) := by decide +kernel
theorem dL_law_434 : decode cL_law 434 = .ok (.if_icmp .eq 396, 3) := by decide +kernel
theorem dL_law_437 : decode cL_law 437 = .ok (.iconst 0, 1) := by decide +kernel
theorem dL_law_438 : decode cL_law 438 = .ok (.ireturn, 1) := by decide +kernel
theorem dL_law_439 : decode cL_law 439 = .ok (.aload_n 1, 1) := by decide +kernel
theorem dL_law_440 : decode cL_law 440 = .ok (.invokevirtual 52, 3) := by decide +kernel
theorem dL_law_443 : decode cL_law 443 = .ok (.aload_n 2, 1) := by decide +kernel
theorem dL_law_444 : decode cL_law 444 = .ok (.invokevirtual 56, 3) := by decide +kernel
theorem dL_law_447 : decode cL_law 447 = .ok (.if_icmp .eq 383, 3) := by decide +kernel
theorem dL_law_450 : decode cL_law 450 = .ok (.iconst 0, 1) := by decide +kernel
theorem dL_law_451 : decode cL_law 451 = .ok (.ireturn, 1) := by decide +kernel
theorem dL_law_452 : decode cL_law 452 = .ok (.aload_n 1, 1) := by decide +kernel
theorem dL_law_453 : decode cL_law 453 = .ok (.invokevirtual 57, 3) := by decide +kernel
theorem dL_law_456 : decode cL_law 456 = .ok (.aload_n 2, 1) := by decide +kernel
theorem dL_law_457 : decode cL_law 457 = .ok (.invokevirtual 60, 3) := by decide +kernel
theorem dL_law_460 : decode cL_law 460 = .ok (.if_icmp .eq 370, 3) := by decide +kernel
theorem dL_law_463 : decode cL_law 463 = .ok (.iconst 0, 1) := by decide +kernel
theorem dL_law_464 : decode cL_law 464 = .ok (.ireturn, 1) := by decide +kernel
theorem dL_law_465 : decode cL_law 465 = .ok (.aload_n 1, 1) := by decide +kernel
theorem dL_law_466 : decode cL_law 466 = .ok (.aload_n 0, 1) := by decide +kernel
theorem dL_law_467 : decode cL_law 467 = .ok (.iload_n 3, 1) := by decide +kernel
theorem dL_law_468 : decode cL_law 468 = .ok (.iconst 1, 1) := by decide +kernel
theorem dL_law_469 : decode cL_law 469 = .ok (.iadd, 1) := by decide +kernel
theorem dL_law_470 : decode cL_law 470 = .ok (.iaload, 1) := by decide +kernel
theorem dL_law_471 : decode cL_law 471 = .ok (.invokevirtual 61, 3) := by decide +kernel
theorem dL_law_474 : decode cL_law 474 = .ok (.aload_n 2, 1) := by decide +kernel
theorem dL_law_475 : decode cL_law 475 = .ok (.aload_n 0, 1) := by decide +kernel
theorem dL_law_476 : decode cL_law 476 = .ok (.iload_n 3, 1) := by decide +kernel
theorem dL_law_477 : decode cL_law 477 = .ok (.iconst 1, 1) := by decide +kernel
theorem dL_law_478 : decode cL_law 478 = .ok (.iadd, 1) := by decide +kernel
theorem dL_law_479 : decode cL_law 479 = .ok (.iaload, 1) := by decide +kernel
theorem dL_law_480 : decode cL_law 480 = .ok (.invokevirtual 64, 3) := by decide +kernel
theorem dL_law_483 : decode cL_law 483 = .ok (.if_icmp .eq 347, 3) := by decide +kernel
theorem dL_law_486 : decode cL_law 486 = .ok (.iconst 0, 1) := by decide +kernel
theorem dL_law_487 : decode cL_law 487 = .ok (.ireturn, 1) := by decide +kernel
theorem dL_law_488 : decode cL_law 488 = .ok (.aload_n 1, 1) := by decide +kernel
theorem dL_law_489 : decode cL_law 489 = .ok (.aload_n 0, 1) := by decide +kernel
theorem dL_law_490 : decode cL_law 490 = .ok (.iload_n 3, 1) := by decide +kernel
theorem dL_law_491 : decode cL_law 491 = .ok (.iconst 1, 1) := by decide +kernel
theorem dL_law_492 : decode cL_law 492 = .ok (.iadd, 1) := by decide +kernel
theorem dL_law_493 : decode cL_law 493 = .ok (.iaload, 1) := by decide +kernel
theorem dL_law_494 : decode cL_law 494 = .ok (.invokevirtual 65, 3) := by decide +kernel
theorem dL_law_497 : decode cL_law 497 = .ok (.aload_n 2, 1) := by decide +kernel
theorem dL_law_498 : decode cL_law 498 = .ok (.aload_n 0, 1) := by decide +kernel
theorem dL_law_499 : decode cL_law 499 = .ok (.iload_n 3, 1) := by decide +kernel
theorem dL_law_500 : decode cL_law 500 = .ok (.iconst 1, 1) := by decide +kernel
theorem dL_law_501 : decode cL_law 501 = .ok (.iadd, 1) := by decide +kernel
theorem dL_law_502 : decode cL_law 502 = .ok (.iaload, 1) := by decide +kernel
theorem dL_law_503 : decode cL_law 503 = .ok (.invokevirtual 68, 3) := by decide +kernel
theorem dL_law_506 : decode cL_law 506 = .ok (.if_icmp .eq 324, 3) := by decide +kernel
theorem dL_law_509 : decode cL_law 509 = .ok (.iconst 0, 1) := by decide +kernel
theorem dL_law_510 : decode cL_law 510 = .ok (.ireturn, 1) := by decide +kernel
theorem dL_law_511 : decode cL_law 511 = .ok (.aload_n 1, 1) := by decide +kernel
theorem dL_law_512 : decode cL_law 512 = .ok (.invokevirtual 69, 3) := by decide +kernel
theorem dL_law_515 : decode cL_law 515 = .ok (.aload_n 2, 1) := by decide +kernel
theorem dL_law_516 : decode cL_law 516 = .ok (.invokevirtual 72, 3) := by decide +kernel
theorem dL_law_519 : decode cL_law 519 = .ok (.if_icmp .eq 311, 3) := by decide +kernel
theorem dL_law_522 : decode cL_law 522 = .ok (.iconst 0, 1) := by decide +kernel
theorem dL_law_523 : decode cL_law 523 = .ok (.ireturn, 1) := by decide +kernel
theorem dL_law_524 : decode cL_law 524 = .ok (.aload_n 1, 1) := by decide +kernel
theorem dL_law_525 : decode cL_law 525 = .ok (.invokevirtual 73, 3) := by decide +kernel
theorem dL_law_528 : decode cL_law 528 = .ok (.aload_n 2, 1) := by decide +kernel
theorem dL_law_529 : decode cL_law 529 = .ok (.invokevirtual 76, 3) := by decide +kernel
theorem dL_law_532 : decode cL_law 532 = .ok (.if_icmp .eq 298, 3) := by decide +kernel
theorem dL_law_535 : decode cL_law 535 = .ok (.iconst 0, 1) := by decide +kernel
theorem dL_law_536 : decode cL_law 536 = .ok (.ireturn, 1) := by decide +kernel
theorem dL_law_537 : decode cL_law 537 = .ok (.aload_n 1, 1) := by decide +kernel
theorem dL_law_538 : decode cL_law 538 = .ok (.aload_n 0, 1) := by decide +kernel
theorem dL_law_539 : decode cL_law 539 = .ok (.iload_n 3, 1) := by decide +kernel
theorem dL_law_540 : decode cL_law 540 = .ok (.iconst 1, 1) := by decide +kernel
theorem dL_law_541 : decode cL_law 541 = .ok (.iadd, 1) := by decide +kernel
theorem dL_law_542 : decode cL_law 542 = .ok (.iaload, 1) := by decide +kernel
theorem dL_law_543 : decode cL_law 543 = .ok (.invokevirtual 77, 3) := by decide +kernel
theorem dL_law_546 : decode cL_law 546 = .ok (.aload_n 2, 1) := by decide +kernel
theorem dL_law_547 : decode cL_law 547 = .ok (.aload_n 0, 1) := by decide +kernel
theorem dL_law_548 : decode cL_law 548 = .ok (.iload_n 3, 1) := by decide +kernel
theorem dL_law_549 : decode cL_law 549 = .ok (.iconst 1, 1) := by decide +kernel
theorem dL_law_550 : decode cL_law 550 = .ok (.iadd, 1) := by decide +kernel
theorem dL_law_551 : decode cL_law 551 = .ok (.iaload, 1) := by decide +kernel
theorem dL_law_552 : decode cL_law 552 = .ok (.invokevirtual 80, 3) := by decide +kernel
theorem dL_law_555 : decode cL_law 555 = .ok (.if_icmp .eq 275, 3) := by decide +kernel
theorem dL_law_558 : decode cL_law 558 = .ok (.iconst 0, 1) := by decide +kernel
theorem dL_law_559 : decode cL_law 559 = .ok (.ireturn, 1) := by decide +kernel
theorem dL_law_560 : decode cL_law 560 = .ok (.aload_n 1, 1) := by decide +kernel
theorem dL_law_561 : decode cL_law 561 = .ok (.aload_n 0, 1) := by decide +kernel
theorem dL_law_562 : decode cL_law 562 = .ok (.iload_n 3, 1) := by decide +kernel
theorem dL_law_563 : decode cL_law 563 = .ok (.iconst 1, 1) := by decide +kernel
theorem dL_law_564 : decode cL_law 564 = .ok (.iadd, 1) := by decide +kernel
theorem dL_law_565 : decode cL_law 565 = .ok (.iaload, 1) := by decide +kernel
theorem dL_law_566 : decode cL_law 566 = .ok (.aload_n 0, 1) := by decide +kernel
theorem dL_law_567 : decode cL_law 567 = .ok (.iload_n 3, 1) := by decide +kernel
theorem dL_law_568 : decode cL_law 568 = .ok (.iconst 2, 1) := by decide +kernel
theorem dL_law_569 : decode cL_law 569 = .ok (.iadd, 1) := by decide +kernel
theorem dL_law_570 : decode cL_law 570 = .ok (.iaload, 1) := by decide +kernel
theorem dL_law_571 : decode cL_law 571 = .ok (.invokevirtual 81, 3) := by decide +kernel
theorem dL_law_574 : decode cL_law 574 = .ok (.aload_n 2, 1) := by decide +kernel
theorem dL_law_575 : decode cL_law 575 = .ok (.aload_n 0, 1) := by decide +kernel
theorem dL_law_576 : decode cL_law 576 = .ok (.iload_n 3, 1) := by decide +kernel
theorem dL_law_577 : decode cL_law 577 = .ok (.iconst 1, 1) := by decide +kernel
theorem dL_law_578 : decode cL_law 578 = .ok (.iadd, 1) := by decide +kernel
theorem dL_law_579 : decode cL_law 579 = .ok (.iaload, 1) := by decide +kernel
theorem dL_law_580 : decode cL_law 580 = .ok (.aload_n 0, 1) := by decide +kernel
theorem dL_law_581 : decode cL_law 581 = .ok (.iload_n 3, 1) := by decide +kernel
theorem dL_law_582 : decode cL_law 582 = .ok (.iconst 2, 1) := by decide +kernel
theorem dL_law_583 : decode cL_law 583 = .ok (.iadd, 1) := by decide +kernel
theorem dL_law_584 : decode cL_law 584 = .ok (.iaload, 1) := by decide +kernel
theorem dL_law_585 : decode cL_law 585 = .ok (.invokevirtual 84, 3) := by decide +kernel
theorem dL_law_588 : decode cL_law 588 = .ok (.if_icmp .eq 242, 3) := by decide +kernel
theorem dL_law_591 : decode cL_law 591 = .ok (.iconst 0, 1) := by decide +kernel
theorem dL_law_592 : decode cL_law 592 = .ok (.ireturn, 1) := by decide +kernel
theorem dL_law_593 : decode cL_law 593 = .ok (.aload_n 1, 1) := by decide +kernel
theorem dL_law_594 : decode cL_law 594 = .ok (.aload_n 0, 1) := by decide +kernel
theorem dL_law_595 : decode cL_law 595 = .ok (.iload_n 3, 1) := by decide +kernel
theorem dL_law_596 : decode cL_law 596 = .ok (.iconst 1, 1) := by decide +kernel
theorem dL_law_597 : decode cL_law 597 = .ok (.iadd, 1) := by decide +kernel
theorem dL_law_598 : decode cL_law 598 = .ok (.iaload, 1) := by decide +kernel
theorem dL_law_599 : decode cL_law 599 = .ok (.aload_n 0, 1) := by decide +kernel
theorem dL_law_600 : decode cL_law 600 = .ok (.iload_n 3, 1) := by decide +kernel
theorem dL_law_601 : decode cL_law 601 = .ok (.iconst 2, 1) := by decide +kernel
theorem dL_law_602 : decode cL_law 602 = .ok (.iadd, 1) := by decide +kernel
theorem dL_law_603 : decode cL_law 603 = .ok (.iaload, 1) := by decide +kernel
theorem dL_law_604 : decode cL_law 604 = .ok (.invokevirtual 85, 3) := by decide +kernel
theorem dL_law_607 : decode cL_law 607 = .ok (.aload_n 2, 1) := by decide +kernel
theorem dL_law_608 : decode cL_law 608 = .ok (.aload_n 0, 1) := by decide +kernel
theorem dL_law_609 : decode cL_law 609 = .ok (.iload_n 3, 1) := by decide +kernel
theorem dL_law_610 : decode cL_law 610 = .ok (.iconst 1, 1) := by decide +kernel
theorem dL_law_611 : decode cL_law 611 = .ok (.iadd, 1) := by decide +kernel
theorem dL_law_612 : decode cL_law 612 = .ok (.iaload, 1) := by decide +kernel
theorem dL_law_613 : decode cL_law 613 = .ok (.aload_n 0, 1) := by decide +kernel
theorem dL_law_614 : decode cL_law 614 = .ok (.iload_n 3, 1) := by decide +kernel
theorem dL_law_615 : decode cL_law 615 = .ok (.iconst 2, 1) := by decide +kernel
theorem dL_law_616 : decode cL_law 616 = .ok (.iadd, 1) := by decide +kernel
theorem dL_law_617 : decode cL_law 617 = .ok (.iaload, 1) := by decide +kernel
theorem dL_law_618 : decode cL_law 618 = .ok (.invokevirtual 88, 3) := by decide +kernel
theorem dL_law_621 : decode cL_law 621 = .ok (.if_icmp .eq 209, 3) := by decide +kernel
theorem dL_law_624 : decode cL_law 624 = .ok (.iconst 0, 1) := by decide +kernel
theorem dL_law_625 : decode cL_law 625 = .ok (.ireturn, 1) := by decide +kernel
theorem dL_law_626 : decode cL_law 626 = .ok (.aload_n 1, 1) := by decide +kernel
theorem dL_law_627 : decode cL_law 627 = .ok (.aload_n 0, 1) := by decide +kernel
theorem dL_law_628 : decode cL_law 628 = .ok (.iload_n 3, 1) := by decide +kernel
theorem dL_law_629 : decode cL_law 629 = .ok (.iconst 1, 1) := by decide +kernel
theorem dL_law_630 : decode cL_law 630 = .ok (.iadd, 1) := by decide +kernel
theorem dL_law_631 : decode cL_law 631 = .ok (.iaload, 1) := by decide +kernel
theorem dL_law_632 : decode cL_law 632 = .ok (.invokevirtual 89, 3) := by decide +kernel
theorem dL_law_635 : decode cL_law 635 = .ok (.aload_n 2, 1) := by decide +kernel
theorem dL_law_636 : decode cL_law 636 = .ok (.aload_n 0, 1) := by decide +kernel
theorem dL_law_637 : decode cL_law 637 = .ok (.iload_n 3, 1) := by decide +kernel
theorem dL_law_638 : decode cL_law 638 = .ok (.iconst 1, 1) := by decide +kernel
theorem dL_law_639 : decode cL_law 639 = .ok (.iadd, 1) := by decide +kernel
theorem dL_law_640 : decode cL_law 640 = .ok (.iaload, 1) := by decide +kernel
theorem dL_law_641 : decode cL_law 641 = .ok (.invokevirtual 92, 3) := by decide +kernel
theorem dL_law_644 : decode cL_law 644 = .ok (.if_icmp .eq 186, 3) := by decide +kernel
theorem dL_law_647 : decode cL_law 647 = .ok (.iconst 0, 1) := by decide +kernel
theorem dL_law_648 : decode cL_law 648 = .ok (.ireturn, 1) := by decide +kernel
theorem dL_law_649 : decode cL_law 649 = .ok (.aload_n 1, 1) := by decide +kernel
theorem dL_law_650 : decode cL_law 650 = .ok (.aload_n 0, 1) := by decide +kernel
theorem dL_law_651 : decode cL_law 651 = .ok (.iload_n 3, 1) := by decide +kernel
theorem dL_law_652 : decode cL_law 652 = .ok (.iconst 1, 1) := by decide +kernel
theorem dL_law_653 : decode cL_law 653 = .ok (.iadd, 1) := by decide +kernel
theorem dL_law_654 : decode cL_law 654 = .ok (.iaload, 1) := by decide +kernel
theorem dL_law_655 : decode cL_law 655 = .ok (.aload_n 0, 1) := by decide +kernel
theorem dL_law_656 : decode cL_law 656 = .ok (.iload_n 3, 1) := by decide +kernel
theorem dL_law_657 : decode cL_law 657 = .ok (.iconst 2, 1) := by decide +kernel
theorem dL_law_658 : decode cL_law 658 = .ok (.iadd, 1) := by decide +kernel
theorem dL_law_659 : decode cL_law 659 = .ok (.iaload, 1) := by decide +kernel
theorem dL_law_660 : decode cL_law 660 = .ok (.invokevirtual 93, 3) := by decide +kernel
theorem dL_law_663 : decode cL_law 663 = .ok (.aload_n 2, 1) := by decide +kernel
theorem dL_law_664 : decode cL_law 664 = .ok (.aload_n 0, 1) := by decide +kernel
theorem dL_law_665 : decode cL_law 665 = .ok (.iload_n 3, 1) := by decide +kernel
theorem dL_law_666 : decode cL_law 666 = .ok (.iconst 1, 1) := by decide +kernel
theorem dL_law_667 : decode cL_law 667 = .ok (.iadd, 1) := by decide +kernel
theorem dL_law_668 : decode cL_law 668 = .ok (.iaload, 1) := by decide +kernel
theorem dL_law_669 : decode cL_law 669 = .ok (.aload_n 0, 1) := by decide +kernel
theorem dL_law_670 : decode cL_law 670 = .ok (.iload_n 3, 1) := by decide +kernel
theorem dL_law_671 : decode cL_law 671 = .ok (.iconst 2, 1) := by decide +kernel
theorem dL_law_672 : decode cL_law 672 = .ok (.iadd, 1) := by decide +kernel
theorem dL_law_673 : decode cL_law 673 = .ok (.iaload, 1) := by decide +kernel
theorem dL_law_674 : decode cL_law 674 = .ok (.invokevirtual 96, 3) := by decide +kernel
theorem dL_law_677 : decode cL_law 677 = .ok (.if_icmp .eq 153, 3) := by decide +kernel
theorem dL_law_680 : decode cL_law 680 = .ok (.iconst 0, 1) := by decide +kernel
theorem dL_law_681 : decode cL_law 681 = .ok (.ireturn, 1) := by decide +kernel
theorem dL_law_682 : decode cL_law 682 = .ok (.aload_n 1, 1) := by decide +kernel
theorem dL_law_683 : decode cL_law 683 = .ok (.aload_n 0, 1) := by decide +kernel
theorem dL_law_684 : decode cL_law 684 = .ok (.iload_n 3, 1) := by decide +kernel
theorem dL_law_685 : decode cL_law 685 = .ok (.iconst 1, 1) := by decide +kernel
theorem dL_law_686 : decode cL_law 686 = .ok (.iadd, 1) := by decide +kernel
theorem dL_law_687 : decode cL_law 687 = .ok (.iaload, 1) := by decide +kernel
theorem dL_law_688 : decode cL_law 688 = .ok (.aload_n 0, 1) := by decide +kernel
theorem dL_law_689 : decode cL_law 689 = .ok (.iload_n 3, 1) := by decide +kernel
theorem dL_law_690 : decode cL_law 690 = .ok (.iconst 2, 1) := by decide +kernel
theorem dL_law_691 : decode cL_law 691 = .ok (.iadd, 1) := by decide +kernel
theorem dL_law_692 : decode cL_law 692 = .ok (.iaload, 1) := by decide +kernel
theorem dL_law_693 : decode cL_law 693 = .ok (.aload_n 0, 1) := by decide +kernel
theorem dL_law_694 : decode cL_law 694 = .ok (.iload_n 3, 1) := by decide +kernel
theorem dL_law_695 : decode cL_law 695 = .ok (.iconst 3, 1) := by decide +kernel
theorem dL_law_696 : decode cL_law 696 = .ok (.iadd, 1) := by decide +kernel
theorem dL_law_697 : decode cL_law 697 = .ok (.iaload, 1) := by decide +kernel
theorem dL_law_698 : decode cL_law 698 = .ok (.invokevirtual 97, 3) := by decide +kernel
theorem dL_law_701 : decode cL_law 701 = .ok (.aload_n 2, 1) := by decide +kernel
theorem dL_law_702 : decode cL_law 702 = .ok (.aload_n 0, 1) := by decide +kernel
theorem dL_law_703 : decode cL_law 703 = .ok (.iload_n 3, 1) := by decide +kernel
theorem dL_law_704 : decode cL_law 704 = .ok (.iconst 1, 1) := by decide +kernel
theorem dL_law_705 : decode cL_law 705 = .ok (.iadd, 1) := by decide +kernel
theorem dL_law_706 : decode cL_law 706 = .ok (.iaload, 1) := by decide +kernel
theorem dL_law_707 : decode cL_law 707 = .ok (.aload_n 0, 1) := by decide +kernel
theorem dL_law_708 : decode cL_law 708 = .ok (.iload_n 3, 1) := by decide +kernel
theorem dL_law_709 : decode cL_law 709 = .ok (.iconst 2, 1) := by decide +kernel
theorem dL_law_710 : decode cL_law 710 = .ok (.iadd, 1) := by decide +kernel
theorem dL_law_711 : decode cL_law 711 = .ok (.iaload, 1) := by decide +kernel
theorem dL_law_712 : decode cL_law 712 = .ok (.aload_n 0, 1) := by decide +kernel
theorem dL_law_713 : decode cL_law 713 = .ok (.iload_n 3, 1) := by decide +kernel
theorem dL_law_714 : decode cL_law 714 = .ok (.iconst 3, 1) := by decide +kernel
theorem dL_law_715 : decode cL_law 715 = .ok (.iadd, 1) := by decide +kernel
theorem dL_law_716 : decode cL_law 716 = .ok (.iaload, 1) := by decide +kernel
theorem dL_law_717 : decode cL_law 717 = .ok (.invokevirtual 100, 3) := by decide +kernel
theorem dL_law_720 : decode cL_law 720 = .ok (.if_icmp .eq 110, 3) := by decide +kernel
theorem dL_law_723 : decode cL_law 723 = .ok (.iconst 0, 1) := by decide +kernel
theorem dL_law_724 : decode cL_law 724 = .ok (.ireturn, 1) := by decide +kernel
theorem dL_law_725 : decode cL_law 725 = .ok (.aload_n 1, 1) := by decide +kernel
theorem dL_law_726 : decode cL_law 726 = .ok (.aload_n 0, 1) := by decide +kernel
theorem dL_law_727 : decode cL_law 727 = .ok (.iload_n 3, 1) := by decide +kernel
theorem dL_law_728 : decode cL_law 728 = .ok (.iconst 1, 1) := by decide +kernel
theorem dL_law_729 : decode cL_law 729 = .ok (.iadd, 1) := by decide +kernel
theorem dL_law_730 : decode cL_law 730 = .ok (.iaload, 1) := by decide +kernel
theorem dL_law_731 : decode cL_law 731 = .ok (.aload_n 0, 1) := by decide +kernel
theorem dL_law_732 : decode cL_law 732 = .ok (.iload_n 3, 1) := by decide +kernel
theorem dL_law_733 : decode cL_law 733 = .ok (.iconst 2, 1) := by decide +kernel
theorem dL_law_734 : decode cL_law 734 = .ok (.iadd, 1) := by decide +kernel
theorem dL_law_735 : decode cL_law 735 = .ok (.iaload, 1) := by decide +kernel
theorem dL_law_736 : decode cL_law 736 = .ok (.invokevirtual 101, 3) := by decide +kernel
theorem dL_law_739 : decode cL_law 739 = .ok (.aload_n 2, 1) := by decide +kernel
theorem dL_law_740 : decode cL_law 740 = .ok (.aload_n 0, 1) := by decide +kernel
theorem dL_law_741 : decode cL_law 741 = .ok (.iload_n 3, 1) := by decide +kernel
theorem dL_law_742 : decode cL_law 742 = .ok (.iconst 1, 1) := by decide +kernel
theorem dL_law_743 : decode cL_law 743 = .ok (.iadd, 1) := by decide +kernel
theorem dL_law_744 : decode cL_law 744 = .ok (.iaload, 1) := by decide +kernel
theorem dL_law_745 : decode cL_law 745 = .ok (.aload_n 0, 1) := by decide +kernel
theorem dL_law_746 : decode cL_law 746 = .ok (.iload_n 3, 1) := by decide +kernel
theorem dL_law_747 : decode cL_law 747 = .ok (.iconst 2, 1) := by decide +kernel
theorem dL_law_748 : decode cL_law 748 = .ok (.iadd, 1) := by decide +kernel
theorem dL_law_749 : decode cL_law 749 = .ok (.iaload, 1) := by decide +kernel
theorem dL_law_750 : decode cL_law 750 = .ok (.invokevirtual 104, 3) := by decide +kernel
theorem dL_law_753 : decode cL_law 753 = .ok (.if_icmp .eq 77, 3) := by decide +kernel
theorem dL_law_756 : decode cL_law 756 = .ok (.iconst 0, 1) := by decide +kernel
theorem dL_law_757 : decode cL_law 757 = .ok (.ireturn, 1) := by decide +kernel
theorem dL_law_758 : decode cL_law 758 = .ok (.aload_n 1, 1) := by decide +kernel
theorem dL_law_759 : decode cL_law 759 = .ok (.invokevirtual 105, 3) := by decide +kernel
theorem dL_law_762 : decode cL_law 762 = .ok (.aload_n 2, 1) := by decide +kernel
theorem dL_law_763 : decode cL_law 763 = .ok (.invokevirtual 108, 3) := by decide +kernel
theorem dL_law_766 : decode cL_law 766 = .ok (.if_icmp .eq 64, 3) := by decide +kernel
theorem dL_law_769 : decode cL_law 769 = .ok (.iconst 0, 1) := by decide +kernel
theorem dL_law_770 : decode cL_law 770 = .ok (.ireturn, 1) := by decide +kernel
theorem dL_law_771 : decode cL_law 771 = .ok (.aload_n 1, 1) := by decide +kernel
theorem dL_law_772 : decode cL_law 772 = .ok (.invokevirtual 109, 3) := by decide +kernel
theorem dL_law_775 : decode cL_law 775 = .ok (.aload_n 2, 1) := by decide +kernel
theorem dL_law_776 : decode cL_law 776 = .ok (.invokevirtual 112, 3) := by decide +kernel
theorem dL_law_779 : decode cL_law 779 = .ok (.if_icmp .eq 51, 3) := by decide +kernel
theorem dL_law_782 : decode cL_law 782 = .ok (.iconst 0, 1) := by decide +kernel
theorem dL_law_783 : decode cL_law 783 = .ok (.ireturn, 1) := by decide +kernel
theorem dL_law_784 : decode cL_law 784 = .ok (.aload_n 1, 1) := by decide +kernel
theorem dL_law_785 : decode cL_law 785 = .ok (.invokevirtual 113, 3) := by decide +kernel
theorem dL_law_788 : decode cL_law 788 = .ok (.aload_n 2, 1) := by decide +kernel
theorem dL_law_789 : decode cL_law 789 = .ok (.invokevirtual 116, 3) := by decide +kernel
theorem dL_law_792 : decode cL_law 792 = .ok (.if_icmp .eq 38, 3) := by decide +kernel
theorem dL_law_795 : decode cL_law 795 = .ok (.iconst 0, 1) := by decide +kernel
theorem dL_law_796 : decode cL_law 796 = .ok (.ireturn, 1) := by decide +kernel
theorem dL_law_797 : decode cL_law 797 = .ok (.aload_n 1, 1) := by decide +kernel
theorem dL_law_798 : decode cL_law 798 = .ok (.aload_n 0, 1) := by decide +kernel
theorem dL_law_799 : decode cL_law 799 = .ok (.iload_n 3, 1) := by decide +kernel
theorem dL_law_800 : decode cL_law 800 = .ok (.iconst 1, 1) := by decide +kernel
theorem dL_law_801 : decode cL_law 801 = .ok (.iadd, 1) := by decide +kernel
theorem dL_law_802 : decode cL_law 802 = .ok (.iaload, 1) := by decide +kernel
theorem dL_law_803 : decode cL_law 803 = .ok (.aload_n 0, 1) := by decide +kernel
theorem dL_law_804 : decode cL_law 804 = .ok (.iload_n 3, 1) := by decide +kernel
theorem dL_law_805 : decode cL_law 805 = .ok (.iconst 2, 1) := by decide +kernel
theorem dL_law_806 : decode cL_law 806 = .ok (.iadd, 1) := by decide +kernel
theorem dL_law_807 : decode cL_law 807 = .ok (.iaload, 1) := by decide +kernel
theorem dL_law_808 : decode cL_law 808 = .ok (.invokevirtual 117, 3) := by decide +kernel
theorem dL_law_811 : decode cL_law 811 = .ok (.aload_n 2, 1) := by decide +kernel
theorem dL_law_812 : decode cL_law 812 = .ok (.aload_n 0, 1) := by decide +kernel
theorem dL_law_813 : decode cL_law 813 = .ok (.iload_n 3, 1) := by decide +kernel
theorem dL_law_814 : decode cL_law 814 = .ok (.iconst 1, 1) := by decide +kernel
theorem dL_law_815 : decode cL_law 815 = .ok (.iadd, 1) := by decide +kernel
theorem dL_law_816 : decode cL_law 816 = .ok (.iaload, 1) := by decide +kernel
theorem dL_law_817 : decode cL_law 817 = .ok (.aload_n 0, 1) := by decide +kernel
theorem dL_law_818 : decode cL_law 818 = .ok (.iload_n 3, 1) := by decide +kernel
theorem dL_law_819 : decode cL_law 819 = .ok (.iconst 2, 1) := by decide +kernel
theorem dL_law_820 : decode cL_law 820 = .ok (.iadd, 1) := by decide +kernel
theorem dL_law_821 : decode cL_law 821 = .ok (.iaload, 1) := by decide +kernel
theorem dL_law_822 : decode cL_law 822 = .ok (.invokevirtual 120, 3) := by decide +kernel
theorem dL_law_825 : decode cL_law 825 = .ok (.if_icmp .eq 5, 3) := by decide +kernel
theorem dL_law_828 : decode cL_law 828 = .ok (.iconst 0, 1) := by decide +kernel
theorem dL_law_829 : decode cL_law 829 = .ok (.ireturn, 1) := by decide +kernel
theorem dL_law_830 : decode cL_law 830 = .ok (.iinc 3 4, 3) := by decide +kernel
theorem dL_law_833 : decode cL_law 833 = .ok (.goto (-815), 3) := by decide +kernel
theorem dL_law_836 : decode cL_law 836 = .ok (.iconst 1, 1) := by decide +kernel
theorem dL_law_837 : decode cL_law 837 = .ok (.ireturn, 1) := by decide +kernel
abbrev vwCl : List vw_C := [(RX0, TX0, 5), (RX1, TX1, 7), (RX2, TX2, 7), (RX3, TX3, 3), (RX4, TX4, 1), (RX5, TX5, 4), (RX6, TX6, 5), (RX7, TX7, 5), (RX8, TX8, 13)]
theorem mT1 : ∀ w ∈ wsL_law_r1, w ∈ wsL_law := fun _ h => List.mem_append_left _ (List.mem_append_left _ (List.mem_append_left _ (List.mem_append_left _ (List.mem_append_left _ (List.mem_append_left _ (List.mem_append_left _ (List.mem_append_left _ (List.mem_append_left _ (List.mem_append_left _ (List.mem_append_left _ h))))))))))
theorem mT2 : ∀ w ∈ wsL_law_r2, w ∈ wsL_law := fun _ h => List.mem_append_left _ (List.mem_append_left _ (List.mem_append_left _ (List.mem_append_left _ (List.mem_append_left _ (List.mem_append_left _ (List.mem_append_left _ (List.mem_append_left _ (List.mem_append_left _ (List.mem_append_left _ (List.mem_append_right _ (List.mem_append_left _ h)))))))))))
theorem mT3 : ∀ w ∈ wsL_law_r3, w ∈ wsL_law := fun _ h => List.mem_append_left _ (List.mem_append_left _ (List.mem_append_left _ (List.mem_append_left _ (List.mem_append_left _ (List.mem_append_left _ (List.mem_append_left _ (List.mem_append_left _ (List.mem_append_left _ (List.mem_append_left _ (List.mem_append_right _ (List.mem_append_right _ (List.mem_append_left _ h))))))))))))
theorem mT4 : ∀ w ∈ wsL_law_r4, w ∈ wsL_law := fun _ h => List.mem_append_left _ (List.mem_append_left _ (List.mem_append_left _ (List.mem_append_left _ (List.mem_append_left _ (List.mem_append_left _ (List.mem_append_left _ (List.mem_append_left _ (List.mem_append_left _ (List.mem_append_left _ (List.mem_append_right _ (List.mem_append_right _ (List.mem_append_right _ (List.mem_append_left _ h)))))))))))))
theorem mT5 : ∀ w ∈ wsL_law_r5, w ∈ wsL_law := fun _ h => List.mem_append_left _ (List.mem_append_left _ (List.mem_append_left _ (List.mem_append_left _ (List.mem_append_left _ (List.mem_append_left _ (List.mem_append_left _ (List.mem_append_left _ (List.mem_append_left _ (List.mem_append_left _ (List.mem_append_right _ (List.mem_append_right _ (List.mem_append_right _ (List.mem_append_right _ (List.mem_append_left _ h))))))))))))))
theorem mT6 : ∀ w ∈ wsL_law_r6, w ∈ wsL_law := fun _ h => List.mem_append_left _ (List.mem_append_left _ (List.mem_append_left _ (List.mem_append_left _ (List.mem_append_left _ (List.mem_append_left _ (List.mem_append_left _ (List.mem_append_left _ (List.mem_append_left _ (List.mem_append_left _ (List.mem_append_right _ (List.mem_append_right _ (List.mem_append_right _ (List.mem_append_right _ (List.mem_append_right _ (List.mem_append_left _ h)))))))))))))))
theorem mT7 : ∀ w ∈ wsL_law_r7, w ∈ wsL_law := fun _ h => List.mem_append_left _ (List.mem_append_left _ (List.mem_append_left _ (List.mem_append_left _ (List.mem_append_left _ (List.mem_append_left _ (List.mem_append_left _ (List.mem_append_left _ (List.mem_append_left _ (List.mem_append_left _ (List.mem_append_right _ (List.mem_append_right _ (List.mem_append_right _ (List.mem_append_right _ (List.mem_append_right _ (List.mem_append_right _ (List.mem_append_left _ h))))))))))))))))
theorem mT8 : ∀ w ∈ wsL_law_r8, w ∈ wsL_law := fun _ h => List.mem_append_left _ (List.mem_append_left _ (List.mem_append_left _ (List.mem_append_left _ (List.mem_append_left _ (List.mem_append_left _ (List.mem_append_left _ (List.mem_append_left _ (List.mem_append_left _ (List.mem_append_left _ (List.mem_append_right _ (List.mem_append_right _ (List.mem_append_right _ (List.mem_append_right _ (List.mem_append_right _ (List.mem_append_right _ (List.mem_append_right _ (List.mem_append_left _ h)))))))))))))))))
theorem mT9 : ∀ w ∈ wsL_law_r9, w ∈ wsL_law := fun _ h => List.mem_append_left _ (List.mem_append_left _ (List.mem_append_left _ (List.mem_append_left _ (List.mem_append_left _ (List.mem_append_left _ (List.mem_append_left _ (List.mem_append_left _ (List.mem_append_left _ (List.mem_append_left _ (List.mem_append_right _ (List.mem_append_right _ (List.mem_append_right _ (List.mem_append_right _ (List.mem_append_right _ (List.mem_append_right _ (List.mem_append_right _ (List.mem_append_right _ (List.mem_append_left _ h))))))))))))))))))
theorem mT10 : ∀ w ∈ wsL_law_r10, w ∈ wsL_law := fun _ h => List.mem_append_left _ (List.mem_append_left _ (List.mem_append_left _ (List.mem_append_left _ (List.mem_append_left _ (List.mem_append_left _ (List.mem_append_left _ (List.mem_append_left _ (List.mem_append_left _ (List.mem_append_left _ (List.mem_append_right _ (List.mem_append_right _ (List.mem_append_right _ (List.mem_append_right _ (List.mem_append_right _ (List.mem_append_right _ (List.mem_append_right _ (List.mem_append_right _ (List.mem_append_right _ (List.mem_append_left _ h)))))))))))))))))))
theorem mT11 : ∀ w ∈ wsL_law_r11, w ∈ wsL_law := fun _ h => List.mem_append_left _ (List.mem_append_left _ (List.mem_append_left _ (List.mem_append_left _ (List.mem_append_left _ (List.mem_append_left _ (List.mem_append_left _ (List.mem_append_left _ (List.mem_append_left _ (List.mem_append_left _ (List.mem_append_right _ (List.mem_append_right _ (List.mem_append_right _ (List.mem_append_right _ (List.mem_append_right _ (List.mem_append_right _ (List.mem_append_right _ (List.mem_append_right _ (List.mem_append_right _ (List.mem_append_right _ (List.mem_append_left _ h))))))))))))))))))))
theorem mT12 : ∀ w ∈ wsL_law_r12, w ∈ wsL_law := fun _ h => List.mem_append_left _ (List.mem_append_left _ (List.mem_append_left _ (List.mem_append_left _ (List.mem_append_left _ (List.mem_append_left _ (List.mem_append_left _ (List.mem_append_left _ (List.mem_append_left _ (List.mem_append_left _ (List.mem_append_right _ (List.mem_append_right _ (List.mem_append_right _ (List.mem_append_right _ (List.mem_append_right _ (List.mem_append_right _ (List.mem_append_right _ (List.mem_append_right _ (List.mem_append_right _ (List.mem_append_right _ (List.mem_append_right _ (List.mem_append_left _ h)))))))))))))))))))))
theorem mT13 : ∀ w ∈ wsL_law_r13, w ∈ wsL_law := fun _ h => List.mem_append_left _ (List.mem_append_left _ (List.mem_append_left _ (List.mem_append_left _ (List.mem_append_left _ (List.mem_append_left _ (List.mem_append_left _ (List.mem_append_left _ (List.mem_append_left _ (List.mem_append_left _ (List.mem_append_right _ (List.mem_append_right _ (List.mem_append_right _ (List.mem_append_right _ (List.mem_append_right _ (List.mem_append_right _ (List.mem_append_right _ (List.mem_append_right _ (List.mem_append_right _ (List.mem_append_right _ (List.mem_append_right _ (List.mem_append_right _ (List.mem_append_left _ h))))))))))))))))))))))
theorem mT14 : ∀ w ∈ wsL_law_r14, w ∈ wsL_law := fun _ h => List.mem_append_left _ (List.mem_append_left _ (List.mem_append_left _ (List.mem_append_left _ (List.mem_append_left _ (List.mem_append_left _ (List.mem_append_left _ (List.mem_append_left _ (List.mem_append_left _ (List.mem_append_left _ (List.mem_append_right _ (List.mem_append_right _ (List.mem_append_right _ (List.mem_append_right _ (List.mem_append_right _ (List.mem_append_right _ (List.mem_append_right _ (List.mem_append_right _ (List.mem_append_right _ (List.mem_append_right _ (List.mem_append_right _ (List.mem_append_right _ (List.mem_append_right _ (List.mem_append_left _ h)))))))))))))))))))))))
theorem mT15 : ∀ w ∈ wsL_law_r15, w ∈ wsL_law := fun _ h => List.mem_append_left _ (List.mem_append_left _ (List.mem_append_left _ (List.mem_append_left _ (List.mem_append_left _ (List.mem_append_left _ (List.mem_append_left _ (List.mem_append_left _ (List.mem_append_left _ (List.mem_append_left _ (List.mem_append_right _ (List.mem_append_right _ (List.mem_append_right _ (List.mem_append_right _ (List.mem_append_right _ (List.mem_append_right _ (List.mem_append_right _ (List.mem_append_right _ (List.mem_append_right _ (List.mem_append_right _ (List.mem_append_right _ (List.mem_append_right _ (List.mem_append_right _ (List.mem_append_right _ (List.mem_append_left _ h))))))))))))))))))))))))
theorem mT16 : ∀ w ∈ wsL_law_r16, w ∈ wsL_law := fun _ h => List.mem_append_left _ (List.mem_append_left _ (List.mem_append_left _ (List.mem_append_left _ (List.mem_append_left _ (List.mem_append_left _ (List.mem_append_left _ (List.mem_append_left _ (List.mem_append_left _ (List.mem_append_left _ (List.mem_append_right _ (List.mem_append_right _ (List.mem_append_right _ (List.mem_append_right _ (List.mem_append_right _ (List.mem_append_right _ (List.mem_append_right _ (List.mem_append_right _ (List.mem_append_right _ (List.mem_append_right _ (List.mem_append_right _ (List.mem_append_right _ (List.mem_append_right _ (List.mem_append_right _ (List.mem_append_right _ (List.mem_append_left _ h)))))))))))))))))))))))))
theorem mT17 : ∀ w ∈ wsL_law_r17, w ∈ wsL_law := fun _ h => List.mem_append_left _ (List.mem_append_left _ (List.mem_append_left _ (List.mem_append_left _ (List.mem_append_left _ (List.mem_append_left _ (List.mem_append_left _ (List.mem_append_left _ (List.mem_append_left _ (List.mem_append_left _ (List.mem_append_right _ (List.mem_append_right _ (List.mem_append_right _ (List.mem_append_right _ (List.mem_append_right _ (List.mem_append_right _ (List.mem_append_right _ (List.mem_append_right _ (List.mem_append_right _ (List.mem_append_right _ (List.mem_append_right _ (List.mem_append_right _ (List.mem_append_right _ (List.mem_append_right _ (List.mem_append_right _ (List.mem_append_right _ (List.mem_append_left _ h))))))))))))))))))))))))))
theorem mT18 : ∀ w ∈ wsL_law_r18, w ∈ wsL_law := fun _ h => List.mem_append_left _ (List.mem_append_left _ (List.mem_append_left _ (List.mem_append_left _ (List.mem_append_left _ (List.mem_append_left _ (List.mem_append_left _ (List.mem_append_left _ (List.mem_append_left _ (List.mem_append_left _ (List.mem_append_right _ (List.mem_append_right _ (List.mem_append_right _ (List.mem_append_right _ (List.mem_append_right _ (List.mem_append_right _ (List.mem_append_right _ (List.mem_append_right _ (List.mem_append_right _ (List.mem_append_right _ (List.mem_append_right _ (List.mem_append_right _ (List.mem_append_right _ (List.mem_append_right _ (List.mem_append_right _ (List.mem_append_right _ (List.mem_append_right _ (List.mem_append_left _ h)))))))))))))))))))))))))))
theorem mT19 : ∀ w ∈ wsL_law_r19, w ∈ wsL_law := fun _ h => List.mem_append_left _ (List.mem_append_left _ (List.mem_append_left _ (List.mem_append_left _ (List.mem_append_left _ (List.mem_append_left _ (List.mem_append_left _ (List.mem_append_left _ (List.mem_append_left _ (List.mem_append_left _ (List.mem_append_right _ (List.mem_append_right _ (List.mem_append_right _ (List.mem_append_right _ (List.mem_append_right _ (List.mem_append_right _ (List.mem_append_right _ (List.mem_append_right _ (List.mem_append_right _ (List.mem_append_right _ (List.mem_append_right _ (List.mem_append_right _ (List.mem_append_right _ (List.mem_append_right _ (List.mem_append_right _ (List.mem_append_right _ (List.mem_append_right _ (List.mem_append_right _ (List.mem_append_left _ h))))))))))))))))))))))))))))
theorem mT20 : ∀ w ∈ wsL_law_r20, w ∈ wsL_law := fun _ h => List.mem_append_left _ (List.mem_append_left _ (List.mem_append_left _ (List.mem_append_left _ (List.mem_append_left _ (List.mem_append_left _ (List.mem_append_left _ (List.mem_append_left _ (List.mem_append_left _ (List.mem_append_left _ (List.mem_append_right _ (List.mem_append_right _ (List.mem_append_right _ (List.mem_append_right _ (List.mem_append_right _ (List.mem_append_right _ (List.mem_append_right _ (List.mem_append_right _ (List.mem_append_right _ (List.mem_append_right _ (List.mem_append_right _ (List.mem_append_right _ (List.mem_append_right _ (List.mem_append_right _ (List.mem_append_right _ (List.mem_append_right _ (List.mem_append_right _ (List.mem_append_right _ (List.mem_append_right _ (List.mem_append_left _ h)))))))))))))))))))))))))))))
theorem mT21 : ∀ w ∈ wsL_law_r21, w ∈ wsL_law := fun _ h => List.mem_append_left _ (List.mem_append_left _ (List.mem_append_left _ (List.mem_append_left _ (List.mem_append_left _ (List.mem_append_left _ (List.mem_append_left _ (List.mem_append_left _ (List.mem_append_left _ (List.mem_append_left _ (List.mem_append_right _ (List.mem_append_right _ (List.mem_append_right _ (List.mem_append_right _ (List.mem_append_right _ (List.mem_append_right _ (List.mem_append_right _ (List.mem_append_right _ (List.mem_append_right _ (List.mem_append_right _ (List.mem_append_right _ (List.mem_append_right _ (List.mem_append_right _ (List.mem_append_right _ (List.mem_append_right _ (List.mem_append_right _ (List.mem_append_right _ (List.mem_append_right _ (List.mem_append_right _ (List.mem_append_right _ (List.mem_append_left _ h))))))))))))))))))))))))))))))
theorem mT22 : ∀ w ∈ wsL_law_r22, w ∈ wsL_law := fun _ h => List.mem_append_left _ (List.mem_append_left _ (List.mem_append_left _ (List.mem_append_left _ (List.mem_append_left _ (List.mem_append_left _ (List.mem_append_left _ (List.mem_append_left _ (List.mem_append_left _ (List.mem_append_left _ (List.mem_append_right _ (List.mem_append_right _ (List.mem_append_right _ (List.mem_append_right _ (List.mem_append_right _ (List.mem_append_right _ (List.mem_append_right _ (List.mem_append_right _ (List.mem_append_right _ (List.mem_append_right _ (List.mem_append_right _ (List.mem_append_right _ (List.mem_append_right _ (List.mem_append_right _ (List.mem_append_right _ (List.mem_append_right _ (List.mem_append_right _ (List.mem_append_right _ (List.mem_append_right _ (List.mem_append_right _ (List.mem_append_right _ (List.mem_append_left _ h)))))))))))))))))))))))))))))))
theorem mT23 : ∀ w ∈ wsL_law_r23, w ∈ wsL_law := fun _ h => List.mem_append_left _ (List.mem_append_left _ (List.mem_append_left _ (List.mem_append_left _ (List.mem_append_left _ (List.mem_append_left _ (List.mem_append_left _ (List.mem_append_left _ (List.mem_append_left _ (List.mem_append_left _ (List.mem_append_right _ (List.mem_append_right _ (List.mem_append_right _ (List.mem_append_right _ (List.mem_append_right _ (List.mem_append_right _ (List.mem_append_right _ (List.mem_append_right _ (List.mem_append_right _ (List.mem_append_right _ (List.mem_append_right _ (List.mem_append_right _ (List.mem_append_right _ (List.mem_append_right _ (List.mem_append_right _ (List.mem_append_right _ (List.mem_append_right _ (List.mem_append_right _ (List.mem_append_right _ (List.mem_append_right _ (List.mem_append_right _ (List.mem_append_right _ (List.mem_append_left _ h))))))))))))))))))))))))))))))))
theorem mT24 : ∀ w ∈ wsL_law_r24, w ∈ wsL_law := fun _ h => List.mem_append_left _ (List.mem_append_left _ (List.mem_append_left _ (List.mem_append_left _ (List.mem_append_left _ (List.mem_append_left _ (List.mem_append_left _ (List.mem_append_left _ (List.mem_append_left _ (List.mem_append_left _ (List.mem_append_right _ (List.mem_append_right _ (List.mem_append_right _ (List.mem_append_right _ (List.mem_append_right _ (List.mem_append_right _ (List.mem_append_right _ (List.mem_append_right _ (List.mem_append_right _ (List.mem_append_right _ (List.mem_append_right _ (List.mem_append_right _ (List.mem_append_right _ (List.mem_append_right _ (List.mem_append_right _ (List.mem_append_right _ (List.mem_append_right _ (List.mem_append_right _ (List.mem_append_right _ (List.mem_append_right _ (List.mem_append_right _ (List.mem_append_right _ (List.mem_append_right _ (List.mem_append_left _ h)))))))))))))))))))))))))))))))))
theorem mT25 : ∀ w ∈ wsL_law_r25, w ∈ wsL_law := fun _ h => List.mem_append_left _ (List.mem_append_left _ (List.mem_append_left _ (List.mem_append_left _ (List.mem_append_left _ (List.mem_append_left _ (List.mem_append_left _ (List.mem_append_left _ (List.mem_append_left _ (List.mem_append_left _ (List.mem_append_right _ (List.mem_append_right _ (List.mem_append_right _ (List.mem_append_right _ (List.mem_append_right _ (List.mem_append_right _ (List.mem_append_right _ (List.mem_append_right _ (List.mem_append_right _ (List.mem_append_right _ (List.mem_append_right _ (List.mem_append_right _ (List.mem_append_right _ (List.mem_append_right _ (List.mem_append_right _ (List.mem_append_right _ (List.mem_append_right _ (List.mem_append_right _ (List.mem_append_right _ (List.mem_append_right _ (List.mem_append_right _ (List.mem_append_right _ (List.mem_append_right _ (List.mem_append_right _ (List.mem_append_left _ h))))))))))))))))))))))))))))))))))
theorem mT26 : ∀ w ∈ wsL_law_r26, w ∈ wsL_law := fun _ h => List.mem_append_left _ (List.mem_append_left _ (List.mem_append_left _ (List.mem_append_left _ (List.mem_append_left _ (List.mem_append_left _ (List.mem_append_left _ (List.mem_append_left _ (List.mem_append_left _ (List.mem_append_left _ (List.mem_append_right _ (List.mem_append_right _ (List.mem_append_right _ (List.mem_append_right _ (List.mem_append_right _ (List.mem_append_right _ (List.mem_append_right _ (List.mem_append_right _ (List.mem_append_right _ (List.mem_append_right _ (List.mem_append_right _ (List.mem_append_right _ (List.mem_append_right _ (List.mem_append_right _ (List.mem_append_right _ (List.mem_append_right _ (List.mem_append_right _ (List.mem_append_right _ (List.mem_append_right _ (List.mem_append_right _ (List.mem_append_right _ (List.mem_append_right _ (List.mem_append_right _ (List.mem_append_right _ (List.mem_append_right _ (List.mem_append_left _ h)))))))))))))))))))))))))))))))))))
theorem mT27 : ∀ w ∈ wsL_law_r27, w ∈ wsL_law := fun _ h => List.mem_append_left _ (List.mem_append_left _ (List.mem_append_left _ (List.mem_append_left _ (List.mem_append_left _ (List.mem_append_left _ (List.mem_append_left _ (List.mem_append_left _ (List.mem_append_left _ (List.mem_append_left _ (List.mem_append_right _ (List.mem_append_right _ (List.mem_append_right _ (List.mem_append_right _ (List.mem_append_right _ (List.mem_append_right _ (List.mem_append_right _ (List.mem_append_right _ (List.mem_append_right _ (List.mem_append_right _ (List.mem_append_right _ (List.mem_append_right _ (List.mem_append_right _ (List.mem_append_right _ (List.mem_append_right _ (List.mem_append_right _ (List.mem_append_right _ (List.mem_append_right _ (List.mem_append_right _ (List.mem_append_right _ (List.mem_append_right _ (List.mem_append_right _ (List.mem_append_right _ (List.mem_append_right _ (List.mem_append_right _ (List.mem_append_right _ (List.mem_append_left _ h))))))))))))))))))))))))))))))))))))
theorem mT28 : ∀ w ∈ wsL_law_r28, w ∈ wsL_law := fun _ h => List.mem_append_left _ (List.mem_append_left _ (List.mem_append_left _ (List.mem_append_left _ (List.mem_append_left _ (List.mem_append_left _ (List.mem_append_left _ (List.mem_append_left _ (List.mem_append_left _ (List.mem_append_left _ (List.mem_append_right _ (List.mem_append_right _ (List.mem_append_right _ (List.mem_append_right _ (List.mem_append_right _ (List.mem_append_right _ (List.mem_append_right _ (List.mem_append_right _ (List.mem_append_right _ (List.mem_append_right _ (List.mem_append_right _ (List.mem_append_right _ (List.mem_append_right _ (List.mem_append_right _ (List.mem_append_right _ (List.mem_append_right _ (List.mem_append_right _ (List.mem_append_right _ (List.mem_append_right _ (List.mem_append_right _ (List.mem_append_right _ (List.mem_append_right _ (List.mem_append_right _ (List.mem_append_right _ (List.mem_append_right _ (List.mem_append_right _ (List.mem_append_right _ (List.mem_append_left _ h)))))))))))))))))))))))))))))))))))))
theorem mT29 : ∀ w ∈ wsL_law_r29, w ∈ wsL_law := fun _ h => List.mem_append_left _ (List.mem_append_left _ (List.mem_append_left _ (List.mem_append_left _ (List.mem_append_left _ (List.mem_append_left _ (List.mem_append_left _ (List.mem_append_left _ (List.mem_append_left _ (List.mem_append_left _ (List.mem_append_right _ (List.mem_append_right _ (List.mem_append_right _ (List.mem_append_right _ (List.mem_append_right _ (List.mem_append_right _ (List.mem_append_right _ (List.mem_append_right _ (List.mem_append_right _ (List.mem_append_right _ (List.mem_append_right _ (List.mem_append_right _ (List.mem_append_right _ (List.mem_append_right _ (List.mem_append_right _ (List.mem_append_right _ (List.mem_append_right _ (List.mem_append_right _ (List.mem_append_right _ (List.mem_append_right _ (List.mem_append_right _ (List.mem_append_right _ (List.mem_append_right _ (List.mem_append_right _ (List.mem_append_right _ (List.mem_append_right _ (List.mem_append_right _ (List.mem_append_right _ (List.mem_append_left _ h))))))))))))))))))))))))))))))))))))))
theorem mT30 : ∀ w ∈ wsL_law_r30, w ∈ wsL_law := fun _ h => List.mem_append_left _ (List.mem_append_left _ (List.mem_append_left _ (List.mem_append_left _ (List.mem_append_left _ (List.mem_append_left _ (List.mem_append_left _ (List.mem_append_left _ (List.mem_append_left _ (List.mem_append_left _ (List.mem_append_right _ (List.mem_append_right _ (List.mem_append_right _ (List.mem_append_right _ (List.mem_append_right _ (List.mem_append_right _ (List.mem_append_right _ (List.mem_append_right _ (List.mem_append_right _ (List.mem_append_right _ (List.mem_append_right _ (List.mem_append_right _ (List.mem_append_right _ (List.mem_append_right _ (List.mem_append_right _ (List.mem_append_right _ (List.mem_append_right _ (List.mem_append_right _ (List.mem_append_right _ (List.mem_append_right _ (List.mem_append_right _ (List.mem_append_right _ (List.mem_append_right _ (List.mem_append_right _ (List.mem_append_right _ (List.mem_append_right _ (List.mem_append_right _ (List.mem_append_right _ (List.mem_append_right _ (List.mem_append_left _ h)))))))))))))))))))))))))))))))))))))))
theorem mT31 : ∀ w ∈ wsL_law_r31, w ∈ wsL_law := fun _ h => List.mem_append_left _ (List.mem_append_left _ (List.mem_append_left _ (List.mem_append_left _ (List.mem_append_left _ (List.mem_append_left _ (List.mem_append_left _ (List.mem_append_left _ (List.mem_append_left _ (List.mem_append_left _ (List.mem_append_right _ (List.mem_append_right _ (List.mem_append_right _ (List.mem_append_right _ (List.mem_append_right _ (List.mem_append_right _ (List.mem_append_right _ (List.mem_append_right _ (List.mem_append_right _ (List.mem_append_right _ (List.mem_append_right _ (List.mem_append_right _ (List.mem_append_right _ (List.mem_append_right _ (List.mem_append_right _ (List.mem_append_right _ (List.mem_append_right _ (List.mem_append_right _ (List.mem_append_right _ (List.mem_append_right _ (List.mem_append_right _ (List.mem_append_right _ (List.mem_append_right _ (List.mem_append_right _ (List.mem_append_right _ (List.mem_append_right _ (List.mem_append_right _ (List.mem_append_right _ (List.mem_append_right _ (List.mem_append_right _ (List.mem_append_left _ h))))))))))))))))))))))))))))))))))))))))
theorem mT32 : ∀ w ∈ wsL_law_r32, w ∈ wsL_law := fun _ h => List.mem_append_left _ (List.mem_append_left _ (List.mem_append_left _ (List.mem_append_left _ (List.mem_append_left _ (List.mem_append_left _ (List.mem_append_left _ (List.mem_append_left _ (List.mem_append_left _ (List.mem_append_left _ (List.mem_append_right _ (List.mem_append_right _ (List.mem_append_right _ (List.mem_append_right _ (List.mem_append_right _ (List.mem_append_right _ (List.mem_append_right _ (List.mem_append_right _ (List.mem_append_right _ (List.mem_append_right _ (List.mem_append_right _ (List.mem_append_right _ (List.mem_append_right _ (List.mem_append_right _ (List.mem_append_right _ (List.mem_append_right _ (List.mem_append_right _ (List.mem_append_right _ (List.mem_append_right _ (List.mem_append_right _ (List.mem_append_right _ (List.mem_append_right _ (List.mem_append_right _ (List.mem_append_right _ (List.mem_append_right _ (List.mem_append_right _ (List.mem_append_right _ (List.mem_append_right _ (List.mem_append_right _ (List.mem_append_right _ (List.mem_append_right _ (List.mem_append_left _ h)))))))))))))))))))))))))))))))))))))))))
theorem mT33 : ∀ w ∈ wsL_law_r33, w ∈ wsL_law := fun _ h => List.mem_append_left _ (List.mem_append_left _ (List.mem_append_left _ (List.mem_append_left _ (List.mem_append_left _ (List.mem_append_left _ (List.mem_append_left _ (List.mem_append_left _ (List.mem_append_left _ (List.mem_append_left _ (List.mem_append_right _ (List.mem_append_right _ (List.mem_append_right _ (List.mem_append_right _ (List.mem_append_right _ (List.mem_append_right _ (List.mem_append_right _ (List.mem_append_right _ (List.mem_append_right _ (List.mem_append_right _ (List.mem_append_right _ (List.mem_append_right _ (List.mem_append_right _ (List.mem_append_right _ (List.mem_append_right _ (List.mem_append_right _ (List.mem_append_right _ (List.mem_append_right _ (List.mem_append_right _ (List.mem_append_right _ (List.mem_append_right _ (List.mem_append_right _ (List.mem_append_right _ (List.mem_append_right _ (List.mem_append_right _ (List.mem_append_right _ (List.mem_append_right _ (List.mem_append_right _ (List.mem_append_right _ (List.mem_append_right _ (List.mem_append_right _ (List.mem_append_right _ (List.mem_append_left _ h))))))))))))))))))))))))))))))))))))))))))
theorem mT34 : ∀ w ∈ wsL_law_r34, w ∈ wsL_law := fun _ h => List.mem_append_left _ (List.mem_append_left _ (List.mem_append_left _ (List.mem_append_left _ (List.mem_append_left _ (List.mem_append_left _ (List.mem_append_left _ (List.mem_append_left _ (List.mem_append_left _ (List.mem_append_left _ (List.mem_append_right _ (List.mem_append_right _ (List.mem_append_right _ (List.mem_append_right _ (List.mem_append_right _ (List.mem_append_right _ (List.mem_append_right _ (List.mem_append_right _ (List.mem_append_right _ (List.mem_append_right _ (List.mem_append_right _ (List.mem_append_right _ (List.mem_append_right _ (List.mem_append_right _ (List.mem_append_right _ (List.mem_append_right _ (List.mem_append_right _ (List.mem_append_right _ (List.mem_append_right _ (List.mem_append_right _ (List.mem_append_right _ (List.mem_append_right _ (List.mem_append_right _ (List.mem_append_right _ (List.mem_append_right _ (List.mem_append_right _ (List.mem_append_right _ (List.mem_append_right _ (List.mem_append_right _ (List.mem_append_right _ (List.mem_append_right _ (List.mem_append_right _ (List.mem_append_right _ (List.mem_append_left _ h)))))))))))))))))))))))))))))))))))))))))))
theorem mT35 : ∀ w ∈ wsL_law_r35, w ∈ wsL_law := fun _ h => List.mem_append_left _ (List.mem_append_left _ (List.mem_append_left _ (List.mem_append_left _ (List.mem_append_left _ (List.mem_append_left _ (List.mem_append_left _ (List.mem_append_left _ (List.mem_append_left _ (List.mem_append_left _ (List.mem_append_right _ (List.mem_append_right _ (List.mem_append_right _ (List.mem_append_right _ (List.mem_append_right _ (List.mem_append_right _ (List.mem_append_right _ (List.mem_append_right _ (List.mem_append_right _ (List.mem_append_right _ (List.mem_append_right _ (List.mem_append_right _ (List.mem_append_right _ (List.mem_append_right _ (List.mem_append_right _ (List.mem_append_right _ (List.mem_append_right _ (List.mem_append_right _ (List.mem_append_right _ (List.mem_append_right _ (List.mem_append_right _ (List.mem_append_right _ (List.mem_append_right _ (List.mem_append_right _ (List.mem_append_right _ (List.mem_append_right _ (List.mem_append_right _ (List.mem_append_right _ (List.mem_append_right _ (List.mem_append_right _ (List.mem_append_right _ (List.mem_append_right _ (List.mem_append_right _ (List.mem_append_right _ (List.mem_append_left _ h))))))))))))))))))))))))))))))))))))))))))))
theorem mT36 : ∀ w ∈ wsL_law_r36, w ∈ wsL_law := fun _ h => List.mem_append_left _ (List.mem_append_left _ (List.mem_append_left _ (List.mem_append_left _ (List.mem_append_left _ (List.mem_append_left _ (List.mem_append_left _ (List.mem_append_left _ (List.mem_append_left _ (List.mem_append_left _ (List.mem_append_right _ (List.mem_append_right _ (List.mem_append_right _ (List.mem_append_right _ (List.mem_append_right _ (List.mem_append_right _ (List.mem_append_right _ (List.mem_append_right _ (List.mem_append_right _ (List.mem_append_right _ (List.mem_append_right _ (List.mem_append_right _ (List.mem_append_right _ (List.mem_append_right _ (List.mem_append_right _ (List.mem_append_right _ (List.mem_append_right _ (List.mem_append_right _ (List.mem_append_right _ (List.mem_append_right _ (List.mem_append_right _ (List.mem_append_right _ (List.mem_append_right _ (List.mem_append_right _ (List.mem_append_right _ (List.mem_append_right _ (List.mem_append_right _ (List.mem_append_right _ (List.mem_append_right _ (List.mem_append_right _ (List.mem_append_right _ (List.mem_append_right _ (List.mem_append_right _ (List.mem_append_right _ (List.mem_append_right _ (h)))))))))))))))))))))))))))))))))))))))))))))
theorem gT1 : ∀ w ∈ wsL_law_r1, goodWord w = true := List.all_eq_true.mp (by decide +kernel : wsL_law_r1.all goodWord = true)
theorem gT2 : ∀ w ∈ wsL_law_r2, goodWord w = true := List.all_eq_true.mp (by decide +kernel : wsL_law_r2.all goodWord = true)
theorem gT3 : ∀ w ∈ wsL_law_r3, goodWord w = true := List.all_eq_true.mp (by decide +kernel : wsL_law_r3.all goodWord = true)
theorem gT4 : ∀ w ∈ wsL_law_r4, goodWord w = true := List.all_eq_true.mp (by decide +kernel : wsL_law_r4.all goodWord = true)
theorem gT5 : ∀ w ∈ wsL_law_r5, goodWord w = true := List.all_eq_true.mp (by decide +kernel : wsL_law_r5.all goodWord = true)
theorem gT6 : ∀ w ∈ wsL_law_r6, goodWord w = true := List.all_eq_true.mp (by decide +kernel : wsL_law_r6.all goodWord = true)
theorem gT7 : ∀ w ∈ wsL_law_r7, goodWord w = true := List.all_eq_true.mp (by decide +kernel : wsL_law_r7.all goodWord = true)
theorem gT8 : ∀ w ∈ wsL_law_r8, goodWord w = true := List.all_eq_true.mp (by decide +kernel : wsL_law_r8.all goodWord = true)
theorem gT9 : ∀ w ∈ wsL_law_r9, goodWord w = true := List.all_eq_true.mp (by decide +kernel : wsL_law_r9.all goodWord = true)
theorem gT10 : ∀ w ∈ wsL_law_r10, goodWord w = true := List.all_eq_true.mp (by decide +kernel : wsL_law_r10.all goodWord = true)
theorem gT11 : ∀ w ∈ wsL_law_r11, goodWord w = true := List.all_eq_true.mp (by decide +kernel : wsL_law_r11.all goodWord = true)
theorem gT12 : ∀ w ∈ wsL_law_r12, goodWord w = true := List.all_eq_true.mp (by decide +kernel : wsL_law_r12.all goodWord = true)
theorem gT13 : ∀ w ∈ wsL_law_r13, goodWord w = true := List.all_eq_true.mp (by decide +kernel : wsL_law_r13.all goodWord = true)
theorem gT14 : ∀ w ∈ wsL_law_r14, goodWord w = true := List.all_eq_true.mp (by decide +kernel : wsL_law_r14.all goodWord = true)
theorem gT15 : ∀ w ∈ wsL_law_r15, goodWord w = true := List.all_eq_true.mp (by decide +kernel : wsL_law_r15.all goodWord = true)
theorem gT16 : ∀ w ∈ wsL_law_r16, goodWord w = true := List.all_eq_true.mp (by decide +kernel : wsL_law_r16.all goodWord = true)
theorem gT17 : ∀ w ∈ wsL_law_r17, goodWord w = true := List.all_eq_true.mp (by decide +kernel : wsL_law_r17.all goodWord = true)
theorem gT18 : ∀ w ∈ wsL_law_r18, goodWord w = true := List.all_eq_true.mp (by decide +kernel : wsL_law_r18.all goodWord = true)
theorem gT19 : ∀ w ∈ wsL_law_r19, goodWord w = true := List.all_eq_true.mp (by decide +kernel : wsL_law_r19.all goodWord = true)
theorem gT20 : ∀ w ∈ wsL_law_r20, goodWord w = true := List.all_eq_true.mp (by decide +kernel : wsL_law_r20.all goodWord = true)
theorem gT21 : ∀ w ∈ wsL_law_r21, goodWord w = true := List.all_eq_true.mp (by decide +kernel : wsL_law_r21.all goodWord = true)
theorem gT22 : ∀ w ∈ wsL_law_r22, goodWord w = true := List.all_eq_true.mp (by decide +kernel : wsL_law_r22.all goodWord = true)
theorem gT23 : ∀ w ∈ wsL_law_r23, goodWord w = true := List.all_eq_true.mp (by decide +kernel : wsL_law_r23.all goodWord = true)
theorem gT24 : ∀ w ∈ wsL_law_r24, goodWord w = true := List.all_eq_true.mp (by decide +kernel : wsL_law_r24.all goodWord = true)
theorem gT25 : ∀ w ∈ wsL_law_r25, goodWord w = true := List.all_eq_true.mp (by decide +kernel : wsL_law_r25.all goodWord = true)
theorem gT26 : ∀ w ∈ wsL_law_r26, goodWord w = true := List.all_eq_true.mp (by decide +kernel : wsL_law_r26.all goodWord = true)
theorem gT27 : ∀ w ∈ wsL_law_r27, goodWord w = true := List.all_eq_true.mp (by decide +kernel : wsL_law_r27.all goodWord = true)
theorem gT28 : ∀ w ∈ wsL_law_r28, goodWord w = true := List.all_eq_true.mp (by decide +kernel : wsL_law_r28.all goodWord = true)
theorem gT29 : ∀ w ∈ wsL_law_r29, goodWord w = true := List.all_eq_true.mp (by decide +kernel : wsL_law_r29.all goodWord = true)
theorem gT30 : ∀ w ∈ wsL_law_r30, goodWord w = true := List.all_eq_true.mp (by decide +kernel : wsL_law_r30.all goodWord = true)
theorem gT31 : ∀ w ∈ wsL_law_r31, goodWord w = true := List.all_eq_true.mp (by decide +kernel : wsL_law_r31.all goodWord = true)
theorem gT32 : ∀ w ∈ wsL_law_r32, goodWord w = true := List.all_eq_true.mp (by decide +kernel : wsL_law_r32.all goodWord = true)
theorem gT33 : ∀ w ∈ wsL_law_r33, goodWord w = true := List.all_eq_true.mp (by decide +kernel : wsL_law_r33.all goodWord = true)
theorem gT34 : ∀ w ∈ wsL_law_r34, goodWord w = true := List.all_eq_true.mp (by decide +kernel : wsL_law_r34.all goodWord = true)
theorem gT35 : ∀ w ∈ wsL_law_r35, goodWord w = true := List.all_eq_true.mp (by decide +kernel : wsL_law_r35.all goodWord = true)
theorem gT36 : ∀ w ∈ wsL_law_r36, goodWord w = true := List.all_eq_true.mp (by decide +kernel : wsL_law_r36.all goodWord = true)
theorem gTX7 : ∀ w ∈ wsX70, goodWord w = true := List.all_eq_true.mp (by decide +kernel : wsX70.all goodWord = true)
theorem gTX8 : ∀ w ∈ wsX80, goodWord w = true := List.all_eq_true.mp (by decide +kernel : wsX80.all goodWord = true)
theorem gTX5 : ∀ w ∈ wsX50, goodWord w = true := List.all_eq_true.mp (by decide +kernel : wsX50.all goodWord = true)
theorem gTX3 : ∀ w ∈ wsX30, goodWord w = true := List.all_eq_true.mp (by decide +kernel : wsX30.all goodWord = true)
theorem gTX1 : ∀ w ∈ wsX10, goodWord w = true := List.all_eq_true.mp (by decide +kernel : wsX10.all goodWord = true)
theorem gTX4 : ∀ w ∈ wsX40, goodWord w = true := List.all_eq_true.mp (by decide +kernel : wsX40.all goodWord = true)
theorem gTX6 : ∀ w ∈ wsX60, goodWord w = true := List.all_eq_true.mp (by decide +kernel : wsX60.all goodWord = true)
theorem gTX0 : ∀ w ∈ wsX00, goodWord w = true := List.all_eq_true.mp (by decide +kernel : wsX00.all goodWord = true)
theorem gTX2 : ∀ w ∈ wsX20, goodWord w = true := List.all_eq_true.mp (by decide +kernel : wsX20.all goodWord = true)
theorem good_T : ∀ w ∈ wsL_law, goodWord w = true := List.forall_mem_append.mpr ⟨List.forall_mem_append.mpr ⟨List.forall_mem_append.mpr ⟨List.forall_mem_append.mpr ⟨List.forall_mem_append.mpr ⟨List.forall_mem_append.mpr ⟨List.forall_mem_append.mpr ⟨List.forall_mem_append.mpr ⟨List.forall_mem_append.mpr ⟨List.forall_mem_append.mpr ⟨List.forall_mem_append.mpr ⟨gT1, List.forall_mem_append.mpr ⟨gT2, List.forall_mem_append.mpr ⟨gT3, List.forall_mem_append.mpr ⟨gT4, List.forall_mem_append.mpr ⟨gT5, List.forall_mem_append.mpr ⟨gT6, List.forall_mem_append.mpr ⟨gT7, List.forall_mem_append.mpr ⟨gT8, List.forall_mem_append.mpr ⟨gT9, List.forall_mem_append.mpr ⟨gT10, List.forall_mem_append.mpr ⟨gT11, List.forall_mem_append.mpr ⟨gT12, List.forall_mem_append.mpr ⟨gT13, List.forall_mem_append.mpr ⟨gT14, List.forall_mem_append.mpr ⟨gT15, List.forall_mem_append.mpr ⟨gT16, List.forall_mem_append.mpr ⟨gT17, List.forall_mem_append.mpr ⟨gT18, List.forall_mem_append.mpr ⟨gT19, List.forall_mem_append.mpr ⟨gT20, List.forall_mem_append.mpr ⟨gT21, List.forall_mem_append.mpr ⟨gT22, List.forall_mem_append.mpr ⟨gT23, List.forall_mem_append.mpr ⟨gT24, List.forall_mem_append.mpr ⟨gT25, List.forall_mem_append.mpr ⟨gT26, List.forall_mem_append.mpr ⟨gT27, List.forall_mem_append.mpr ⟨gT28, List.forall_mem_append.mpr ⟨gT29, List.forall_mem_append.mpr ⟨gT30, List.forall_mem_append.mpr ⟨gT31, List.forall_mem_append.mpr ⟨gT32, List.forall_mem_append.mpr ⟨gT33, List.forall_mem_append.mpr ⟨gT34, List.forall_mem_append.mpr ⟨gT35, gT36⟩⟩⟩⟩⟩⟩⟩⟩⟩⟩⟩⟩⟩⟩⟩⟩⟩⟩⟩⟩⟩⟩⟩⟩⟩⟩⟩⟩⟩⟩⟩⟩⟩⟩⟩, gTX7⟩, gTX8⟩, gTX5⟩, gTX3⟩, gTX1⟩, gTX4⟩, gTX6⟩, gTX0⟩, gTX2⟩, fun _ h => absurd h List.not_mem_nil⟩
end
section
/-! part 02: the flat memory. Everything that the law makes lies in one stretch of cells from Z on; a cell's kind is K of its offset, its numbers are σ offset place. -/
def Sg : Type := Nat → Nat → Int32
/-- a place of the memory written -/
def wr (σ : Nat → Nat → Int32) (o k : Nat) (v : Int32) : Nat → Nat → Int32 := fun a => if a = o then upd (σ o) k v else σ a
theorem wr_eq (σ : Nat → Nat → Int32) (o k : Nat) (v : Int32) : wr σ o k v o = upd (σ o) k v := if_pos rfl
theorem wr_ne {σ : Nat → Nat → Int32} {o k a : Nat} {v : Int32} (h : a ≠ o) : wr σ o k v a = σ a := if_neg h
/-- a row of the memory copied over another's beginning -/
def wc (σ : Nat → Nat → Int32) (o a n : Nat) : Nat → Nat → Int32 := fun b => if b = o then va_cpy (σ a) (σ o) 0 0 n else σ b
/-- an object's cell by its kind -/
def fO (cS : ClassId) (Z k o : Nat) (g : Nat → Int32) : va_E := match k with
  | 0 => .inr (0, [.int (g 0), .int (g 1), .int (g 2), .ref (Z + (o + 1)), .ref (Z + (o + 3))])
  | 1 => .inr (1, [.ref (Z + (o + 1)), .ref (Z + (o + 3)), .int (g 2), .int (g 3), .int (g 4), .int (g 5), .int (g 6)])
  | 2 => .inr (2, [.int (g 0), .ref (Z + (o + 1)), .ref (Z + (o + 3)), .ref (Z + (o + 5)), .ref (Z + (o + 7)), .ref (Z + (o + 9)), .ref (Z + (o + 11))])
  | 3 => .inr (3, [.ref (Z + (o + 1)), .int (g 1), .int (g 2)])
  | 4 => .inr (4, [.ref (Z + (o + 1))])
  | 5 => .inr (5, [.ref (Z + (o + 1)), .ref (Z + (o + 8)), .ref (Z + (o + 13)), .ref (Z + (o + 15))])
  | 6 => .inr (6, [.int (g 0), .int (g 1), .ref (Z + (o + 1)), .ref (Z + (o + 3)), .ref (Z + (o + 5))])
  | 7 => .inr (7, [.ref (Z + (o + 1)), .ref (Z + (o + 29)), .ref (Z + (o + 171)), .ref (Z + (o + 179)), .ref (Z + (o + 181))])
  | 8 => .inr (8, [.int (g 0), .ref (Z + (o + 1)), .ref (Z + (o + 2)), .ref (Z + (o + 3)), .int (g 4), .ref (Z + (o + 4)), .int (g 6), .ref (Z + (o + 5)), .ref (Z + (o + 6)), .int (g 9), .int (g 10), .int (g 11), .int (g 12)])
  | _ => .inl (cS, 5, .inr (.inr (.inr (.inr (fun i => some (Z + (o + 1 + 28 * i)))))))
def fE (cI cS : ClassId) (Z k o : Nat) (g : Nat → Int32) : va_E := match Nat.ble 100 k with
  | true => .inl (cI, k - 100, .inl g)
  | false => fO cS Z k o g
theorem fE_a (cI cS : ClassId) (Z n o : Nat) (g : Nat → Int32) : fE cI cS Z (100 + n) o g = .inl (cI, n, .inl g) := by
  have h : Nat.ble 100 (100 + n) = true := Nat.ble_eq.mpr (by omega)
  simp [fE, h]
theorem ne99 (n : Nat) : 100 + n ≠ 99 := by omega
def fI (D : va_G) (cI cS : ClassId) (Z : Nat) (K : Nat → Nat) (σ : Nat → Nat → Int32) (H : Heap) : Prop := ∀ o, K o ≠ 99 → va_at D vwCl (Z + o, fE cI cS Z (K o) o (σ o)) H
theorem fI.one {D : va_G} {cI cS : ClassId} {Z : Nat} {K : Nat → Nat} {σ : Nat → Nat → Int32} {H : Heap} (h : fI D cI cS Z K σ H) {o kd : Nat} {x : va_E} (hk : K o = kd) (h9 : kd ≠ 99) (hx : fE cI cS Z kd o (σ o) = x) : va_P D vwCl [(Z + o, x)] H := by
  intro k q hq
  have h1 := h o (by rw [hk]; exact h9)
  rw [hk, hx] at h1
  match k, hq with
  | 0, hq => cases hq; exact h1
  | k + 1, hq => simp at hq
/-- one row of the memory changed: the others stay -/
theorem fI.upd1 {D : va_G} {cI cS : ClassId} {Z : Nat} {K : Nat → Nat} {σ σ' : Nat → Nat → Int32} {H H1 : Heap} (h : fI D cI cS Z K σ H) {o : Nat} (hne : ∀ a, a ≠ o → σ' a = σ a) (h1 : va_at D vwCl (Z + o, fE cI cS Z (K o) o (σ' o)) H1) (oq : ∀ q : Nat, q ≠ Z + o → H1[q]? = H[q]?) : fI D cI cS Z K σ' H1 := by
  intro a ha
  by_cases e : a = o
  · subst e; exact h1
  · rw [hne a e]
    exact (h a ha).kept (oq _ (by show Z + a ≠ Z + o; omega))
/-- the layout: from offset o on the kinds are those of the list -/
def ly (K : Nat → Nat) (o : Nat) (L : List Nat) : Prop := ∀ i k, L[i]? = some k → K (o + i) = k
theorem ly_at {K : Nat → Nat} {o : Nat} {L : List Nat} (h : ly K o L) (i : Nat) {k : Nat} (e : L[i]? = some k) : K (o + i) = k := h i k e
theorem ly_sub {K : Nat → Nat} {o : Nat} {L L' : List Nat} (h : ly K o L) (i : Nat) (e : (L.drop i).take L'.length = L') : ly K (o + i) L' := by
  intro j k hj
  have h1 : L[i + j]? = some k := by
    rw [← e, List.getElem?_take] at hj
    split at hj
    · rw [List.getElem?_drop] at hj; exact hj
    · cases hj
  rw [Nat.add_assoc]
  exact h _ _ h1
abbrev lyNum (n : Nat) : List Nat := [4, 100 + n]
abbrev lyChain : List Nat := [0, 4, 124, 4, 124]
abbrev lyWarp : List Nat := [6, 4, 132, 4, 132, 4, 108]
abbrev lyCloth : List Nat := [2, 4, 164, 4, 164, 4, 164, 4, 164, 4, 164, 4, 164]
abbrev lyState : List Nat := [5, 6, 4, 132, 4, 132, 4, 108, 0, 4, 124, 4, 124, 4, 110, 2, 4, 164, 4, 164, 4, 164, 4, 164, 4, 164, 4, 164]
abbrev lyReader : List Nat := [1, 4, 220, 0, 4, 124, 4, 124]
abbrev lyHist : List Nat := [3, 10] ++ (lyState ++ (lyState ++ (lyState ++ (lyState ++ lyState))))
abbrev lyLoom : List Nat := [7] ++ (lyState ++ (lyHist ++ (lyReader ++ [4, 124, 4, 110])))
abbrev lyModel : List Nat := [8, 556, 110, 2380, 220, 124, 124]
/-- the links to private methods of nest mates: they come with the start, not with the words -/
def nsL : List (String × Nat × MethodName × String) := [(RX5, 11, yX6_init, RX7), (RX5, 20, yX0_init, RX7), (RX5, 36, yX2_init, RX7), (RX7, 25, yX1_init, RX7), (RX1, 22, yX0_init, RX7), (RX6, 44, yX7_isBetween, RX7), (RX0, 41, yX7_isBetween, RX7), (RX1, 101, yX7_isBetween, RX7), (RX6, 52, yX7_bitOf, RX7), (RX5, 114, yX7_bitOf, RX7), (RX2, 59, yX7_bitOf, RX7), (RX2, 43, yX7_isBetween, RX7)]
def gK (D : va_G) (cI cS : ClassId) (U : State) : Prop := va_K D vwCl [(cI, .int), (cS, .object "DobbyLoom$State")] U ∧ ∀ q ∈ nsL, va_Nw (.methodLinkNest q.1 q.2.1 q.2.2.1 q.2.2.2) U
theorem gK.warm {D : va_G} {cI cS : ClassId} {s U : State} (hW : s.WarmedH U.vm) (h : gK D cI cS s) : gK D cI cS U := ⟨va_K.moved hW.alike h.1, fun q hq => va_Nw.warmM hW (h.2 q hq)⟩
theorem gK.call {D : va_G} {cI cS : ClassId} {U : State} {g : JFrame} {mk : MethodId} {a : Array Value} (h : gK D cI cS U) : gK D cI cS (U.calling g mk a) := ⟨va_K.moved (u := U) (U := U.calling g mk a) (Vm.Alike.refl U.vm) h.1, fun q hq => va_Nw.same rfl rfl (h.2 q hq)⟩
/-- the words of every method: its own code, and all words of the law -/
def wsT (y : MethodName) (cc : ByteArray) (mL : Nat) (ret : Option FieldType) : List Cond := Cond.code y cc mL ret :: wsL_law
theorem goodIn_T {ws : List Cond} (h : ∀ w ∈ ws, w ∈ wsL_law) : GoodIn wsL_law ws := fun w hw => ⟨h w hw, good_of_word (good_T w (h w hw))⟩
theorem in_wsT {y : MethodName} {cc : ByteArray} {mL : Nat} {ret : Option FieldType} (h : Cond.code y cc mL ret ∈ wsL_law) : ∀ w ∈ wsT y cc mL ret, w ∈ wsL_law := by
  intro w hw
  rcases List.mem_cons.mp hw with e | e
  · rw [e]; exact h
  · exact e
/-- a method's start and ends over the memory -/
def Pm (D : va_G) (cI cS : ClassId) (Z : Nat) (K : Nat → Nat) (av : List Value) (σ : Nat → Nat → Int32) : Array Value → State → Prop := va_Pc av (fun U => fI D cI cS Z K σ U.heap ∧ gK D cI cS U)
theorem Pm.blind {D : va_G} {cI cS : ClassId} {Z : Nat} {K : Nat → Nat} {av : List Value} {σ : Nat → Nat → Int32} : FrameBlind (Pm D cI cS Z K av σ) := fun a U g mk q => ⟨q.1, q.2.1, q.2.2.call⟩
def aZ (Z : Nat) : Nat → Prop := fun q => Z ≤ q
def Qi (D : va_G) (cI cS : ClassId) (Z : Nat) (K : Nat → Nat) (r : Int32) (σ : Nat → Nat → Int32) : Array Value → State → Outcome → State → Prop := va_Qi (fun (x : Int32) (_ : Unit) => x = r) (fun _ t => fI D cI cS Z K σ t.heap) (aZ Z)
def Qv (D : va_G) (cI cS : ClassId) (Z : Nat) (K : Nat → Nat) (σ : Nat → Nat → Int32) : Array Value → State → Outcome → State → Prop := va_Qv (fun (_ : Unit) => True) (fun _ t => fI D cI cS Z K σ t.heap) (aZ Z)
/-- an answer that is a truth value -/
def Qz (D : va_G) (cI cS : ClassId) (Z : Nat) (K : Nat → Nat) (r : Int32) (σ : Nat → Nat → Int32) : Array Value → State → Outcome → State → Prop := va_Qi (fun (x : Int32) (_ : Unit) => x = r ∧ (x = 0 ∨ x = 1)) (fun _ t => fI D cI cS Z K σ t.heap) (aZ Z)
section FM
variable {p : Program} {l : Launch} {e : Env} {R : Room} {s : State} {m : MethodId} {args : Array Value} {below : List Frame} {meth : Method} {c : Code} {H H0 : Heap} {locs : List Loc} {cells slots : Nat} {Q : State → Prop}
variable {cc : ByteArray} {pc : Nat} {ls : Array Slot} {rest : List Value} {D : va_G} {cI cS : ClassId} {Z : Nat} {K : Nat → Nat} {σ : Nat → Nat → Int32}
/-- a contract out of a walk of the body -/
theorem mm_met {y : MethodName} {mL : Nat} {ret : Option FieldType} {rm : Room} {Qc : Array Value → State → Outcome → State → Prop} {av : List Value} {lv : List (Nat × Value)} (hy : plainName y.cls = true) (hav : (lg_sl av).length ≤ mL) (hlv : lv_args 0 av = lv)
    (body : ∀ (p : Program) (e : Env) (s : State) (m : MethodId) (args : Array Value) (below : List Frame) (meth : Method) (c : Code) (ls : Array Slot), p.tables.exec = Jvm.exec → c.code = cc → meth.sig.returnType = ret → c.maxLocals = mL → (∀ w ∈ wsL_law, w.before args s = true) → s.vm.findClass y.cls = some m.cls → meth.locks = false → gK D cI cS s → lv_has ls mL lv → fI D cI cS Z K σ s.heap → va_S (aZ Z) s.heap s.heap [] →
      W p l e rm s m args below meth c s.heap [] 0 0 (MQ below Qc args s 0 0 (aZ Z)) (F0 m 0 ls [])) : Met l y (wsT y cc mL ret) rm (Pm D cI cS Z K av σ) Qc 0 0 (aZ Z) := by
  refine Met.ofW (cc := cc) (maxL := mL) (ret := ret) hy rfl ?_
  intro p e s m args below meth c s₁ B hml hv
  obtain ⟨rfl, hI, hG⟩ := hv
  have hts0 := atoms_spec (ws := wsT y cc mL ret) B.pre
  have hts : ∀ w ∈ wsL_law, w.before av.toArray s = true := fun w hw => hts0 w (List.mem_cons_of_mem _ hw)
  have hown : s.vm.findClass y.cls = some m.cls := findClass_of_methodNamed B.named
  have hl := lv_entry av hav
  rw [lg_entry_eq]
  generalize (lg_sl av ++ List.replicate (mL - (lg_sl av).length) Slot.unset).toArray = ls at hl ⊢
  rw [hlv] at hl
  exact body p e s m _ below meth c ls B.exec B.bytes B.returns hml hts hown B.notSynchronized hG hl hI va_S.rf
/-- a name for the number on top -/
theorem mm_name {x v : Int32} (h : x = v) (k : W p l e R s m args below meth c H locs cells slots Q (F0 m pc ls (.int x :: rest))) : W p l e R s m args below meth c H locs cells slots Q (F0 m pc ls (.int v :: rest)) := by subst h; exact k
theorem mm_get (hx : p.tables.exec = Jvm.exec) (hb : c.code = cc) (hts : ∀ w ∈ wsL_law, w.before args s = true) {own C : String} {T : u_T} {N ci index kd o : Nat} {fs : List Value} {v : Value} (hown : s.vm.findClass own = some m.cls) (hG : gK D cI cS s) (hI : fI D cI cS Z K σ H) (hk : K o = kd) (hin : ∀ w ∈ u_ws C T N, w ∈ wsL_law) (h9 : kd ≠ 99) (hfs : fE cI cS Z kd o (σ o) = .inr (ci, fs)) (hc : vwCl[ci]? = some (C, T, N)) (k : Nat) (hkN : k < N) (hlink : Cond.fieldLink own index (T k).1 (T k).2.1 (T k).2.2.1 ∈ wsL_law) (hv : fs[k]? = some v) (hdg : decode cc pc = .ok (.getfield index, 3))
    (kk : W p l e R s m args below meth c H locs cells slots Q (F0 m (pc + 3) ls (v :: rest))) : W p l e R s m args below meth c H locs cells slots Q (F0 m pc ls (.ref (Z + o) :: rest)) :=
  va_get (D := D) (ci := ci) hx hb hts hin hown hG.1 (hI.one hk h9 hfs) 0 rfl hc k hkN (hts _ hlink) (fun _ h => h) hv hdg kk
theorem mm_put (hx : p.tables.exec = Jvm.exec) (hb : c.code = cc) (hts : ∀ w ∈ wsL_law, w.before args s = true) {own C : String} {T : u_T} {N ci index kd o : Nat} {fs : List Value} {v : Int32} (hown : s.vm.findClass own = some m.cls) (hG : gK D cI cS s) (hI : fI D cI cS Z K σ H) (hS : va_S (aZ Z) H0 H locs) (hk : K o = kd) (hin : ∀ w ∈ u_ws C T N, w ∈ wsL_law) (ty0 : Nat → FieldType) (hty : ∀ k, k < N → parseFieldDescriptor (T k).2.2.1 = some (ty0 k)) (hnm : ∀ a, a < N → ∀ b, b < N → a ≠ b → (T a).2.1 ≠ (T b).2.1) (h9 : kd ≠ 99) (hc : vwCl[ci]? = some (C, T, N)) (k : Nat) (hkN : k < N) (hfs : fE cI cS Z kd o (σ o) = .inr (ci, fs)) (hfs' : fE cI cS Z kd o (upd (σ o) k v) = .inr (ci, fs.set k (.int v))) (hl : k < fs.length) (hlink : Cond.fieldLink own index (T k).1 (T k).2.1 (T k).2.2.1 ∈ wsL_law) (hfin : (T k).2.2.2 = false) (hd : parseFieldDescriptor (T k).2.2.1 = some .int) (hdg : decode cc pc = .ok (.putfield index, 3))
    (kk : ∀ (H1 : Heap) (locs1 : List Loc), fI D cI cS Z K (wr σ o k v) H1 → va_S (aZ Z) H0 H1 locs1 → W p l e R s m args below meth c H1 locs1 cells slots Q (F0 m (pc + 3) ls rest)) : W p l e R s m args below meth c H locs cells slots Q (F0 m pc ls (.int v :: .ref (Z + o) :: rest)) := by
  have hP := hI.one hk h9 hfs
  have he : [((Z + o : Nat), (Sum.inr (ci, fs) : va_E))][0]? = some (Z + o, .inr (ci, fs)) := rfl
  have hap := va_apart (own := own) hts hin ty0 hty hnm hG.1 hc
  obtain ⟨r, h1, cell, q1, q2, q3, q4⟩ := hP 0 _ he
  have hr : r = (C, T, N) := Option.some.inj (h1.symm.trans hc)
  subst hr
  obtain ⟨hSl, hfc, kC, hkC, hkind⟩ := hG.1.1 ci _ hc
  obtain ⟨cf, kf, fi, f, hi, hsl⟩ := hSl k hkN
  have hlay := hts _ (hin _ (u_in_lay hkN))
  unfold u_lay at hlay
  rw [if_neg (by rw [hfin]; decide)] at hlay
  have hst := (u_facts hfc hkC (u_lays hts hin hkN) hi).1
  have h6 := u_store hfc hkC hkind hlay hi hd (show narrow .int (.int v) = .int v from rfl) (show fits .int (.int v) = true from rfl)
  refine W.putK hx hb (f := f) ⟨hown, hts _ hlink, ⟨_, _, _, hi⟩, hst⟩ (by rw [q2]; exact h6) q1 q3 (by rw [hsl]; exact k2_hasslot (q4 k hkN)) rfl rfl hdg fun H' e1 e2 e3 => ?_
  rw [hsl] at e1 ⊢
  refine kk H' _ (hI.upd1 (o := o) (fun a ha => wr_ne ha) ?_ e3) (hS.put e2 e3 (Nat.le_add_right Z o))
  rw [wr_eq, hk, hfs']
  exact ⟨_, hc, t_OB.to (V := updV (vp_V fs) k (.int v)) ⟨_, e1, q2, q3, t_set q4 hap hkN _⟩ (fun j _ => vp_updV_set hl _ j)⟩
theorem mm_ald (hx : p.tables.exec = Jvm.exec) (hb : c.code = cc) (hG : gK D cI cS s) (hI : fI D cI cS Z K σ H) {o n k : Nat} (hk : K o = 100 + n) {i : Int32} (hin : ¬ (i < 0 ∨ n ≤ i.toNatClampNeg)) (hik : i.toNatClampNeg = k) (hdg : decode cc pc = .ok (.iaload, 1))
    (kk : W p l e R s m args below meth c H locs cells slots Q (F0 m (pc + 1) ls (.int (σ o k) :: rest))) : W p l e R s m args below meth c H locs cells slots Q (F0 m pc ls (.int i :: .ref (Z + o) :: rest)) :=
  va_iald (D := D) hx hb hG.1 (hI.one hk (ne99 n) (fE_a ..)) 0 0 rfl rfl hin hdg (by rw [hik]; exact kk)
theorem mm_alen (hx : p.tables.exec = Jvm.exec) (hb : c.code = cc) (hG : gK D cI cS s) (hI : fI D cI cS Z K σ H) {o n : Nat} (hk : K o = 100 + n) (hdg : decode cc pc = .ok (.arraylength, 1))
    (kk : W p l e R s m args below meth c H locs cells slots Q (F0 m (pc + 1) ls (.int (nI n) :: rest))) : W p l e R s m args below meth c H locs cells slots Q (F0 m pc ls (.ref (Z + o) :: rest)) :=
  va_alen (D := D) hx hb hG.1 (hI.one hk (ne99 n) (fE_a ..)) 0 0 rfl rfl rfl hdg kk
theorem mm_ast (hx : p.tables.exec = Jvm.exec) (hb : c.code = cc) (hG : gK D cI cS s) (hI : fI D cI cS Z K σ H) (hS : va_S (aZ Z) H0 H locs) {o n k : Nat} (hk : K o = 100 + n) {i x : Int32} (hin : ¬ (i < 0 ∨ n ≤ i.toNatClampNeg)) (hik : i.toNatClampNeg = k) (hdg : decode cc pc = .ok (.iastore, 1))
    (kk : ∀ (H1 : Heap) (locs1 : List Loc), fI D cI cS Z K (wr σ o k x) H1 → va_S (aZ Z) H0 H1 locs1 → W p l e R s m args below meth c H1 locs1 cells slots Q (F0 m (pc + 1) ls rest)) : W p l e R s m args below meth c H locs cells slots Q (F0 m pc ls (.int x :: .int i :: .ref (Z + o) :: rest)) := by
  subst hik
  have hP := hI.one hk (ne99 n) (fE_a ..)
  have ha : [((Z + o : Nat), (Sum.inl (cI, n, .inl (σ o)) : va_E))][0]? = some (Z + o, .inl (cI, n, .inl (σ o))) := rfl
  refine W.iast hx hb (hP 0 _ ha) ((hG.1.2 0 _ rfl).1 n (fun j => .int (σ o j))) (fun q => by cases q) (by show ¬ (i < 0 ∨ (arrV _ _ _).slots.size ≤ _); rw [arrV_size]; exact hin) rfl rfl hdg fun H1 e1 z oq => ?_
  refine kk H1 _ (hI.upd1 (o := o) (fun a ha => wr_ne ha) ?_ oq) (hS.put z oq (Nat.le_add_right Z o))
  rw [wr_eq, hk, fE_a]
  show H1[Z + o]? = some (vp_cell _ _)
  rw [e1]
  rw [vp_cell_i, vp_cell_i, arrV_store]
  congr 2
  funext q
  by_cases hq : q = i.toNatClampNeg
  · subst hq
    simp [updV, upd]
  · simp [updV, upd, hq]
/-- a copy of the first n places of one row over another's -/
theorem mm_copy (hx : p.tables.exec = Jvm.exec) (hb : c.code = cc) (hts : ∀ w ∈ wsL_law, w.before args s = true) (hml : c.maxLocals = ls.size) {own : String} {index o a n0 n1 : Nat} (hown : s.vm.findClass own = some m.cls) (hG : gK D cI cS s) (hI : fI D cI cS Z K σ H) (hS : va_S (aZ Z) H0 H locs) (hk : K o = 100 + n1) (hka : K a = 100 + n0) (hoa : o ≠ a) (hlink : Cond.methodLink own index arraycopyName ∈ wsL_law) (hnat : Cond.native arraycopyName ∈ wsL_law) (hstat : Cond.static arraycopyName ∈ wsL_law) (hini : Cond.initialized "java/lang/System" ∈ wsL_law) {n : Int32} {sp dp : Int32} (hsp : sp = 0) (hdp : dp = 0) (h3 : ¬ n < 0) (h4 : n.toNatClampNeg ≤ n0) (h5 : n.toNatClampNeg ≤ n1)
    (hframes : 1 ≤ R.frames) (hlocals : (rest.map fun v => v.category).sum + (nativeFrameWords "java/lang/System" "arraycopy" 5 + 11) ≤ R.locals) (hdg : decode cc pc = .ok (.invokestatic index, 3))
    (kk : ∀ (H1 : Heap) (locs1 : List Loc), fI D cI cS Z K (wc σ o a n.toNatClampNeg) H1 → va_S (aZ Z) H0 H1 locs1 → W p l e R s m args below meth c H1 locs1 cells slots Q (F0 m (pc + 3) ls rest)) : W p l e R s m args below meth c H locs cells slots Q (F0 m pc ls (.int n :: .int dp :: .ref (Z + o) :: .int sp :: .ref (Z + a) :: rest)) := by
  subst hsp; subst hdp
  have hP1 := hI.one hk (ne99 n1) (fE_a ..)
  have hP0 := hI.one hka (ne99 n0) (fE_a ..)
  intro T hT X
  have hc0 : H[Z + a]? = some (vp_cell cI (n0, .inl (σ a))) := hP0 0 _ rfl
  have hc1 : H[Z + o]? = some (vp_cell cI (n1, .inl (σ o))) := hP1 0 _ rfl
  obtain ⟨-, k0, hk0, cm0, hkk0⟩ := (hG.1.2 0 _ rfl).1 n0 (fun j => .int (σ a j))
  obtain ⟨-, k1, hk1, cm1, hkk1⟩ := (hG.1.2 0 _ rfl).1 n1 (fun j => .int (σ o j))
  have nn : ∀ z : Int32, ¬ z < 0 → z.toInt = (z.toNatClampNeg : Int) := by
    intro z hz
    have hz0 : (0 : Int) ≤ z.toInt := by
      have := Int32.not_lt.mp hz
      simpa using Int32.le_iff_toInt_le.mp this
    show z.toInt = ((z.toInt.toNat : Nat) : Int)
    omega
  have z0 : ¬ (0 : Int32) < 0 := by decide
  have zc : (0 : Int32).toNatClampNeg = 0 := by decide
  obtain ⟨vm', X', step⟩ := X.arraycopy hx hown (hts _ hlink) (hts _ hnat) (hts _ hstat) (hts _ hini) (src := Z + a) (dst := Z + o) (cs := vp_cell cI (n0, .inl (σ a))) (cd := vp_cell cI (n1, .inl (σ o))) (srcPos := 0) (destPos := 0) (n := n) (by rw [hT]; exact hc0) (by rw [hT]; exact hc1)
    (fun _ h => by cases h) (fun _ h => by cases h) (fun h => by cases h) (fun h => by cases h) hk0 hk1 hkk0 hkk1 (by simp [refKind]) z0 z0 h3
    (by rw [nn 0 z0, nn n h3]; show ¬ _ > ((arrV cI n0 (fun j => .int (σ a j))).slots.size : Int); rw [arrV_size]; omega)
    (by rw [nn 0 z0, nn n h3]; show ¬ _ > ((arrV cI n1 (fun j => .int (σ o j))).slots.size : Int); rw [arrV_size]; omega)
    (fun vm₁ _ i hi => by
      have e : (vp_cell cI (n0, .inl (σ a))).slots.getD ((0 : Int32).toNatClampNeg + i) .null = .int (σ a ((0 : Int32).toNatClampNeg + i)) := by
        show (arrV cI n0 (fun j => .int (σ a j))).slots.getD _ _ = _
        rw [Array.getD_eq_getD_getElem?, arrV_read _ _ (by omega)]
        rfl
      refine ⟨?_, ?_⟩
      · rw [e]; rfl
      · rw [e]
        exact trivial)
    (g := F0 m pc ls (.int n :: .int 0 :: .ref (Z + o) :: .int 0 :: .ref (Z + a) :: rest)) rfl (by rw [hml]) (rest := rest) rfl (by rw [hb]; exact hdg) hframes (by show 2 * 0 + _ + _ ≤ _; omega)
  have e1 : copied (vp_cell cI (n0, .inl (σ a))) (vp_cell cI (n1, .inl (σ o))) 0 0 n = vp_cell cI (n1, .inl (va_cpy (σ a) (σ o) (0 : Int32).toNatClampNeg (0 : Int32).toNatClampNeg n.toNatClampNeg)) := va_copied (fun z => .int z) cI cI (σ a) (σ o) (by rw [zc]; omega)
  rw [e1] at X' step
  have hl : Z + o < H.size := (Array.getElem?_eq_some_iff.mp hc1).1
  have hheap : ((T.setVm vm').setCell (Z + o) (vp_cell cI (n1, .inl (va_cpy (σ a) (σ o) (0 : Int32).toNatClampNeg (0 : Int32).toNatClampNeg n.toNatClampNeg)))).heap = H.setIfInBounds (Z + o) (vp_cell cI (n1, .inl (va_cpy (σ a) (σ o) (0 : Int32).toNatClampNeg (0 : Int32).toNatClampNeg n.toNatClampNeg))) := by rw [← hT]; rfl
  have oq : ∀ q : Nat, q ≠ Z + o → (H.setIfInBounds (Z + o) (vp_cell cI (n1, .inl (va_cpy (σ a) (σ o) (0 : Int32).toNatClampNeg (0 : Int32).toNatClampNeg n.toNatClampNeg))))[q]? = H[q]? := fun q hq => by simp [Array.getElem?_setIfInBounds, Ne.symm hq]
  obtain ⟨t, a1, b1⟩ := kk _ _ (hI.upd1 (σ' := wc σ o a n.toNatClampNeg) (o := o) (fun b hb => if_neg hb) (by
      rw [hk, fE_a]
      show (H.setIfInBounds (Z + o) _)[Z + o]? = some _
      rw [show wc σ o a n.toNatClampNeg o = va_cpy (σ a) (σ o) 0 0 n.toNatClampNeg from if_pos rfl]
      simp [Array.getElem?_setIfInBounds, hl, zc]) oq) ⟨by simp; exact hS.1, fun q g1 g2 => by
      rw [oq q (fun e => g2 (by rw [e]; exact Nat.le_add_right Z o))]
      exact hS.2.1 q g1 g2, fun q hq => by
      rcases List.mem_append.mp hq with h | h
      · exact hS.2.2 q h
      · obtain ⟨z, -, hz⟩ := List.mem_map.mp h
        rw [← hz]
        exact Nat.le_add_right Z o⟩ _ hheap X'
  exact ⟨t, step t a1, b1⟩
/-- returns -/
theorem mm_ret {Qc : Array Value → State → Outcome → State → Prop} (hx : p.tables.exec = Jvm.exec) (hb : c.code = cc) {ty : FieldType} {v : Int32} (hr : meth.sig.returnType = some ty) (hlocks : meth.locks = false) (hn : narrow ty (.int v) = .int v) (hI : fI D cI cS Z K σ H) (hS : va_S (aZ Z) s.heap H locs) (hdg : decode cc pc = .ok (.ireturn, 1)) : W p l e R s m args below meth c H locs cells slots (MQ below (Qi D cI cS Z K v σ) args s cells slots (aZ Z)) (F0 m pc ls [.int v]) :=
  W.zret hx hb hr hn (fun t ht hW => ⟨⟨v, (), rfl, rfl, by show fI D cI cS Z K σ t.heap; rw [ht]; exact hI⟩, hS.F ht⟩) hS.2.2 hdg hlocks
theorem mm_zret (hx : p.tables.exec = Jvm.exec) (hb : c.code = cc) {v : Int32} (hr : meth.sig.returnType = some .boolean) (hlocks : meth.locks = false) (hv : v = 0 ∨ v = 1) (hI : fI D cI cS Z K σ H) (hS : va_S (aZ Z) s.heap H locs) (hdg : decode cc pc = .ok (.ireturn, 1)) : W p l e R s m args below meth c H locs cells slots (MQ below (Qz D cI cS Z K v σ) args s cells slots (aZ Z)) (F0 m pc ls [.int v]) :=
  W.zret hx hb hr (by rcases hv with h | h <;> rw [h] <;> rfl) (fun t ht hW => ⟨⟨v, (), rfl, ⟨rfl, hv⟩, by show fI D cI cS Z K σ t.heap; rw [ht]; exact hI⟩, hS.F ht⟩) hS.2.2 hdg hlocks
theorem mm_vret (hx : p.tables.exec = Jvm.exec) (hb : c.code = cc) (hr : meth.sig.returnType = none) (hlocks : meth.locks = false) (hI : fI D cI cS Z K σ H) (hS : va_S (aZ Z) s.heap H locs) (hdg : decode cc pc = .ok (.return_, 1)) : W p l e R s m args below meth c H locs cells slots (MQ below (Qv D cI cS Z K σ) args s cells slots (aZ Z)) (F0 m pc ls []) :=
  W.vret hx hb hr (fun t ht hW => ⟨⟨(), rfl, trivial, by show fI D cI cS Z K σ t.heap; rw [ht]; exact hI⟩, hS.F ht⟩) hS.2.2 hdg hlocks
variable {y : MethodName} {bytes : ByteArray} {mL nL n index kd ci o N : Nat} {ret : Option FieldType} {rm : Room} {own C : String} {T : u_T} {As st : List Value} {r : Int32} {σ' : Nat → Nat → Int32} {fs : List Value} {av : List Value}
theorem mm_pre {U : State} (hW : s.WarmedH U.vm) (hU : U.heap = H) (hG : gK D cI cS s) (hI : fI D cI cS Z K σ H) (hav : av = As) : Pm D cI cS Z K av σ As.toArray U := by
  subst hav
  exact ⟨rfl, by rw [hU]; exact hI, hG.warm hW⟩
/-- calls of an object's own methods -/
theorem mm_runV {Qc : Array Value → State → Outcome → State → Prop} (hx : p.tables.exec = Jvm.exec) (hb : c.code = cc) (hml : c.maxLocals = nL) (hts : ∀ w ∈ wsL_law, w.before args s = true) (hown : s.vm.findClass own = some m.cls) (hG : gK D cI cS s) (hI : fI D cI cS Z K σ H)
    (hsz : ls.size = nL) (hM : Met l y (wsT y bytes mL ret) rm (Pm D cI cS Z K (.ref (Z + o) :: As) σ) Qc 0 0 (aZ Z)) (hk : K o = kd) (h9 : kd ≠ 99) (hfs : fE cI cS Z kd o (σ o) = .inr (ci, fs)) (hc : vwCl[ci]? = some (C, T, N)) (hw1 : Cond.methodLink own index y ∈ wsL_law) (hw2 : Cond.instanceMethod y ∈ wsL_law) (hw3 : Cond.selects C y y ∈ wsL_law) (hw4 : Cond.initialized C ∈ wsL_law) (hw5 : Cond.code y bytes mL ret ∈ wsL_law) (hd : y.cls = C ∧ y.cls ≠ "java/lang/invoke/MethodHandle" ∧ y.cls ≠ "java/lang/invoke/VarHandle" ∧ (parseMethodDescriptor y.desc).map (fun d => d.parameters.length) = some n) (hR : rm.frames + 1 ≤ R.frames ∧ 8 + (mL + 11) + rm.locals ≤ R.locals) (hrc : rm.cells = 0) (hrs : rm.slots = 0) (hn : As.length = n) (hst : st = As.reverse ++ .ref (Z + o) :: rest) (hcat : (rest.map fun v => v.category).sum ≤ 8) (hf : cells ≤ R.cells ∧ slots ≤ R.slots) (hdg : decode cc pc = .ok (.invokevirtual index, 3)) :
    va_Run p l e R s m args below meth c H locs cells slots 0 0 (F0 m pc ls st) rest (Qc (Value.ref (Z + o) :: As).toArray) (aZ Z) := by
  have hP := hI.one hk h9 hfs
  refine va_runV (As := As) (rest := rest) ⟨hx, hb, hml, hown, hts⟩ hM (cwV n hts (goodIn_T (fun w hw => ?_)) rfl hrc hrs hd hR) ⟨Pm.blind, va_recv (ci := ci) hG.1 hP (q0 := 0) hc rfl, fun U hU hW => mm_pre hW hU hG hI rfl⟩ rfl hn hsz hst (lv_room (rest := st) hcat) hdg hf
  unfold wsV at hw
  rcases List.mem_append.mp hw with h | h
  · simp only [List.mem_cons, List.not_mem_nil, or_false] at h
    rcases h with h | h | h | h <;> rw [h] <;> assumption
  · exact in_wsT hw5 w h
theorem mm_runS {Qc : Array Value → State → Outcome → State → Prop} (hx : p.tables.exec = Jvm.exec) (hb : c.code = cc) (hml : c.maxLocals = nL) (hts : ∀ w ∈ wsL_law, w.before args s = true) (hown : s.vm.findClass own = some m.cls) (hG : gK D cI cS s) (hI : fI D cI cS Z K σ H)
    (hsz : ls.size = nL) (hM : Met l y (wsT y bytes mL ret) rm (Pm D cI cS Z K As σ) Qc 0 0 (aZ Z)) (hw1 : Cond.methodLink own index y ∈ wsL_law) (hw2 : Cond.static y ∈ wsL_law) (hw4 : Cond.initialized y.cls ∈ wsL_law) (hw5 : Cond.code y bytes mL ret ∈ wsL_law) (hd : y.cls ≠ "java/lang/invoke/MethodHandle" ∧ y.cls ≠ "java/lang/invoke/VarHandle" ∧ (parseMethodDescriptor y.desc).map (fun d => d.parameters.length) = some n) (hR : rm.frames + 1 ≤ R.frames ∧ 8 + (mL + 11) + rm.locals ≤ R.locals) (hrc : rm.cells = 0) (hrs : rm.slots = 0) (hn : As.length = n) (hst : st = As.reverse ++ rest) (hcat : (rest.map fun v => v.category).sum ≤ 8) (hf : cells ≤ R.cells ∧ slots ≤ R.slots) (hdg : decode cc pc = .ok (.invokestatic index, 3)) :
    va_Run p l e R s m args below meth c H locs cells slots 0 0 (F0 m pc ls st) rest (Qc As.toArray) (aZ Z) := by
  refine va_runS (As := As) (rest := rest) ⟨hx, hb, hml, hown, hts⟩ hM (va_cwS n hts (goodIn_T (fun w hw => ?_)) rfl hrc hrs hd hR) ⟨Pm.blind, fun U hU hW => mm_pre hW hU hG hI rfl⟩ rfl hn hsz hst (lv_room (rest := st) hcat) hdg hf
  unfold va_wsS at hw
  rcases List.mem_append.mp hw with h | h
  · simp only [List.mem_cons, List.not_mem_nil, or_false] at h
    rcases h with h | h | h <;> rw [h] <;> assumption
  · exact in_wsT hw5 w h
/-- calls of a nest mate's private static method -/
theorem mm_runSN {Qc : Array Value → State → Outcome → State → Prop} {host : String} (hx : p.tables.exec = Jvm.exec) (hb : c.code = cc) (hml : c.maxLocals = nL) (hts : ∀ w ∈ wsL_law, w.before args s = true) (hown : s.vm.findClass own = some m.cls) (hG : gK D cI cS s) (hI : fI D cI cS Z K σ H)
    (hsz : ls.size = nL) (hM : Met l y (wsT y bytes mL ret) rm (Pm D cI cS Z K As σ) Qc 0 0 (aZ Z)) (hw1 : (own, index, y, host) ∈ nsL) (hw2 : Cond.static y ∈ wsL_law) (hw4 : Cond.initialized y.cls ∈ wsL_law) (hw5 : Cond.code y bytes mL ret ∈ wsL_law) (hd : y.cls ≠ "java/lang/invoke/MethodHandle" ∧ y.cls ≠ "java/lang/invoke/VarHandle" ∧ (parseMethodDescriptor y.desc).map (fun d => d.parameters.length) = some n) (hR : rm.frames + 1 ≤ R.frames ∧ 8 + (mL + 11) + rm.locals ≤ R.locals) (hrc : rm.cells = 0) (hrs : rm.slots = 0) (hn : As.length = n) (hst : st = As.reverse ++ rest) (hcat : (rest.map fun v => v.category).sum ≤ 8) (hf : cells ≤ R.cells ∧ slots ≤ R.slots) (hdg : decode cc pc = .ok (.invokestatic index, 3)) :
    va_Run p l e R s m args below meth c H locs cells slots 0 0 (F0 m pc ls st) rest (Qc As.toArray) (aZ Z) :=
  va_runSN (As := As) (rest := rest) (host := host) ⟨hx, hb, hml, hown, hts⟩ hM ⟨va_cnB n hts (goodIn_T (in_wsT hw5)) rfl hrc hrs (hG.2 _ hw1) (hts _ hw4) hd hR, hts _ hw2, trivial⟩ ⟨Pm.blind, fun U hU hW => mm_pre hW hU hG hI rfl⟩ rfl hn hsz hst (lv_room (rest := st) hcat) hdg hf
theorem mm_bz {a : Array Value} (hS : va_S (aZ Z) H0 H locs) (hr : va_Run p l e R s m args below meth c H locs cells slots 0 0 (F0 m pc ls st) rest (Qz D cI cS Z K r σ' a) (aZ Z))
    (kk : (r = 0 ∨ r = 1) → ∀ (H1 : Heap) (locs1 : List Loc), fI D cI cS Z K σ' H1 → va_S (aZ Z) H0 H1 locs1 → W p l e R s m args below meth c H1 locs1 cells slots Q (F0 m (pc + 3) ls (.int r :: rest))) : W p l e R s m args below meth c H locs cells slots Q (F0 m pc ls st) := by
  refine va_calli hr hS (fun q _ h => h) (fun q h => h) ?_
  intro r' u t H1 locs1 ht hvm hw hB hz hk hS1
  obtain ⟨hw, hw2⟩ := hw
  subst hw
  exact kk hw2 H1 locs1 (by rw [← ht]; exact hB) hS1
/-- behind a call -/
theorem mm_bi {a : Array Value} (hS : va_S (aZ Z) H0 H locs) (hr : va_Run p l e R s m args below meth c H locs cells slots 0 0 (F0 m pc ls st) rest (Qi D cI cS Z K r σ' a) (aZ Z))
    (kk : ∀ (H1 : Heap) (locs1 : List Loc), fI D cI cS Z K σ' H1 → va_S (aZ Z) H0 H1 locs1 → W p l e R s m args below meth c H1 locs1 cells slots Q (F0 m (pc + 3) ls (.int r :: rest))) : W p l e R s m args below meth c H locs cells slots Q (F0 m pc ls st) := by
  refine va_calli hr hS (fun q _ h => h) (fun q h => h) ?_
  intro r' u t H1 locs1 ht hvm hw hB hz hk hS1
  subst hw
  exact kk H1 locs1 (by rw [← ht]; exact hB) hS1
theorem mm_bv {a : Array Value} (hS : va_S (aZ Z) H0 H locs) (hr : va_Run p l e R s m args below meth c H locs cells slots 0 0 (F0 m pc ls st) rest (Qv D cI cS Z K σ' a) (aZ Z))
    (kk : ∀ (H1 : Heap) (locs1 : List Loc), fI D cI cS Z K σ' H1 → va_S (aZ Z) H0 H1 locs1 → W p l e R s m args below meth c H1 locs1 cells slots Q (F0 m (pc + 3) ls rest)) : W p l e R s m args below meth c H locs cells slots Q (F0 m pc ls st) := by
  refine va_callv hr hS (fun q _ h => h) (fun q h => h) ?_
  intro u t H1 locs1 ht hvm hw hB hz hk hS1
  exact kk H1 locs1 (by rw [← ht]; exact hB) hS1
end FM
end
section
/-! part 03: the words of the mirrored programs -/
def vl {α β : Sort _} (a : α) (f : α → β) : β := f a
theorem vl_e {α : Sort _} {β : Sort _} {a : α} {f : α → β} {y : β} (h : vl a f = y) : ∃ x, x = a ∧ f x = y := ⟨a, rfl, h⟩
def jn {α β : Sort _} (b : α → β) (k : α) : β := b k
theorem jn_e {α β : Sort _} {b : α → β} {k : α} {y : β} (h : jn b k = y) : ∃ x, x = k ∧ b x = y := ⟨k, rfl, h⟩
def bi {α β : Type _} (a : Option α) (f : α → Option β) : Option β := match a with
  | none => none
  | some x => f x
theorem bi_e {α β : Type _} {a : Option α} {f : α → Option β} {y : β} (h : bi a f = some y) : ∃ x, a = some x ∧ f x = some y := by
  cases a with
  | none => cases h
  | some x => exact ⟨x, rfl, h⟩
def b2 {α1 α2 β : Type _} (a : Option (α1 × α2)) (f : α1 → α2 → Option β) : Option β := bi a (fun x => f x.1 x.2)
theorem b2_e {α1 α2 β : Type _} {a : Option (α1 × α2)} {f : α1 → α2 → Option β} {y : β} (h : b2 a f = some y) : ∃ x1 x2, a = some (x1, x2) ∧ f x1 x2 = some y := by
  obtain ⟨x, h1, h2⟩ := bi_e h
  exact ⟨x.1, x.2, h1, h2⟩
def b3 {α1 α2 α3 β : Type _} (a : Option (α1 × α2 × α3)) (f : α1 → α2 → α3 → Option β) : Option β := bi a (fun x => f x.1 x.2.1 x.2.2)
theorem b3_e {α1 α2 α3 β : Type _} {a : Option (α1 × α2 × α3)} {f : α1 → α2 → α3 → Option β} {y : β} (h : b3 a f = some y) : ∃ x1 x2 x3, a = some (x1, x2, x3) ∧ f x1 x2 x3 = some y := by
  obtain ⟨x, h1, h2⟩ := bi_e h
  exact ⟨x.1, x.2.1, x.2.2, h1, h2⟩
def b4 {α1 α2 α3 α4 β : Type _} (a : Option (α1 × α2 × α3 × α4)) (f : α1 → α2 → α3 → α4 → Option β) : Option β := bi a (fun x => f x.1 x.2.1 x.2.2.1 x.2.2.2)
theorem b4_e {α1 α2 α3 α4 β : Type _} {a : Option (α1 × α2 × α3 × α4)} {f : α1 → α2 → α3 → α4 → Option β} {y : β} (h : b4 a f = some y) : ∃ x1 x2 x3 x4, a = some (x1, x2, x3, x4) ∧ f x1 x2 x3 x4 = some y := by
  obtain ⟨x, h1, h2⟩ := bi_e h
  exact ⟨x.1, x.2.1, x.2.2.1, x.2.2.2, h1, h2⟩
/-- an index that is looked at -/
def ix {β : Type _} (i : Int32) (n : Nat) (k : Option β) : Option β := if i < 0 ∨ n ≤ i.toNatClampNeg then none else k
theorem ix_e {β : Type _} {i : Int32} {n : Nat} {k : Option β} {y : β} (h : ix i n k = some y) : vp_in i n ∧ k = some y := by
  unfold ix at h
  split at h
  · cases h
  · exact ⟨by assumption, h⟩
def nz {β : Type _} (i : Int32) (k : Option β) : Option β := if i = 0 then none else k
theorem nz_e {β : Type _} {i : Int32} {k : Option β} {y : β} (h : nz i k = some y) : ¬ i = 0 ∧ k = some y := by
  unfold nz at h
  split at h
  · cases h
  · exact ⟨by assumption, h⟩
def bz {β : Type _} (i : Int32) (k : Option β) : Option β := if i = 0 ∨ i = 1 then k else none
theorem bz_e {β : Type _} {i : Int32} {k : Option β} {y : β} (h : bz i k = some y) : (i = 0 ∨ i = 1) ∧ k = some y := by
  unfold bz at h
  split at h
  · exact ⟨by assumption, h⟩
  · cases h
def cg {β : Type _} (n : Int32) (a b : Nat) (k : Option β) : Option β := if ¬ n < 0 ∧ n.toNatClampNeg ≤ a ∧ n.toNatClampNeg ≤ b then k else none
theorem cg_e {β : Type _} {n : Int32} {a b : Nat} {k : Option β} {y : β} (h : cg n a b k = some y) : ¬ n < 0 ∧ n.toNatClampNeg ≤ a ∧ n.toNatClampNeg ≤ b ∧ k = some y := by
  unfold cg at h
  split at h
  · next q => exact ⟨q.1, q.2.1, q.2.2, h⟩
  · cases h
theorem pos_e {γ : Sort _} {c : Prop} [Decidable c] {a b y : γ} (h : c) (hf : (if c then a else b) = y) : a = y := by rw [if_pos h] at hf; exact hf
theorem neg_e {γ : Sort _} {c : Prop} [Decidable c] {a b y : γ} (h : ¬ c) (hf : (if c then a else b) = y) : b = y := by rw [if_neg h] at hf; exact hf
/-- a loop: the body goes on (inl) or leaves (inr) -/
def lk {α β : Type _} (g : α → Option β) (z : α ⊕ β) : Option β := match z with
  | .inl x => g x
  | .inr y => some y
def lp {α β : Type _} (f : α → Option (α ⊕ β)) : Nat → α → Option β
  | 0, _ => none
  | n + 1, x => bi (f x) (lk (lp f n))
theorem lp_0 {α β : Type _} {f : α → Option (α ⊕ β)} {x : α} {y : β} (h : lp f 0 x = some y) : False := by cases h
theorem lp_e {α β : Type _} {f : α → Option (α ⊕ β)} {n : Nat} {x : α} {y : β} (h : lp f (n + 1) x = some y) : ∃ z, f x = some z ∧ lk (lp f n) z = some y := bi_e h
theorem lk_r {α β : Type _} {g : α → Option β} {y y2 : β} (h : lk g (.inr y) = some y2) : y = y2 := Option.some.inj h
def FU : Nat := 4096
def sm {α β γ : Type _} (z : α ⊕ β) (f : α → γ) (g : β → γ) : γ := match z with
  | .inl x => f x
  | .inr y => g y
theorem sm_e {α β γ : Type _} {y : β} {f : α → γ} {g : β → γ} {x : γ} (h : sm (.inr y) f g = x) : g y = x := h
def cur2 {β1 β2 γ : Type _} (g : β1 → β2 → γ) (y : β1 × β2) : γ := g y.1 y.2
theorem smc2_e {α β1 β2 γ : Type _} {y1 : β1} {y2 : β2} {f : α → γ} {g : β1 → β2 → γ} {x : γ} (h : sm (.inr (y1, y2)) f (cur2 g) = x) : g y1 y2 = x := h
def usr (x y : Int32) : Int32 := (x.toUInt32 >>> (y.toUInt32 &&& Int32.toUInt32 31)).toInt32
def imax (x y : Int32) : Int32 := if x < y then y else x
def imin (x y : Int32) : Int32 := if y < x then y else x
theorem sw_ne {x k : Int32} (h : ¬ x = k) : x.toInt ≠ k.toInt := fun e => h (Int32.toInt_inj.mp e)
theorem sw_out3 {x : Int32} (h0 : ¬ x = 0) (h1 : ¬ x = 1) (h2 : ¬ x = 2) (h3 : ¬ x = 3) : x.toInt < 0 ∨ 3 < x.toInt := by
  have e0 := sw_ne h0; rw [show (0 : Int32).toInt = 0 from rfl] at e0
  have e1 := sw_ne h1; rw [show (1 : Int32).toInt = 1 from rfl] at e1
  have e2 := sw_ne h2; rw [show (2 : Int32).toInt = 2 from rfl] at e2
  have e3 := sw_ne h3; rw [show (3 : Int32).toInt = 3 from rfl] at e3
  omega
theorem sw_out4 {x : Int32} (h0 : ¬ x = 0) (h1 : ¬ x = 1) (h2 : ¬ x = 2) (h3 : ¬ x = 3) (h4 : ¬ x = 4) : x.toInt < 0 ∨ 4 < x.toInt := by
  have e0 := sw_ne h0; rw [show (0 : Int32).toInt = 0 from rfl] at e0
  have e1 := sw_ne h1; rw [show (1 : Int32).toInt = 1 from rfl] at e1
  have e2 := sw_ne h2; rw [show (2 : Int32).toInt = 2 from rfl] at e2
  have e3 := sw_ne h3; rw [show (3 : Int32).toInt = 3 from rfl] at e3
  have e4 := sw_ne h4; rw [show (4 : Int32).toInt = 4 from rfl] at e4
  omega
theorem sw_out6 {x : Int32} (h0 : ¬ x = 0) (h1 : ¬ x = 1) (h2 : ¬ x = 2) (h3 : ¬ x = 3) (h4 : ¬ x = 4) (h5 : ¬ x = 5) (h6 : ¬ x = 6) : x.toInt < 0 ∨ 6 < x.toInt := by
  have e0 := sw_ne h0; rw [show (0 : Int32).toInt = 0 from rfl] at e0
  have e1 := sw_ne h1; rw [show (1 : Int32).toInt = 1 from rfl] at e1
  have e2 := sw_ne h2; rw [show (2 : Int32).toInt = 2 from rfl] at e2
  have e3 := sw_ne h3; rw [show (3 : Int32).toInt = 3 from rfl] at e3
  have e4 := sw_ne h4; rw [show (4 : Int32).toInt = 4 from rfl] at e4
  have e5 := sw_ne h5; rw [show (5 : Int32).toInt = 5 from rfl] at e5
  have e6 := sw_ne h6; rw [show (6 : Int32).toInt = 6 from rfl] at e6
  omega
theorem sw_out9 {x : Int32} (h0 : ¬ x = 0) (h1 : ¬ x = 1) (h2 : ¬ x = 2) (h3 : ¬ x = 3) (h4 : ¬ x = 4) (h5 : ¬ x = 5) (h6 : ¬ x = 6) (h7 : ¬ x = 7) (h8 : ¬ x = 8) (h9 : ¬ x = 9) : x.toInt < 0 ∨ 9 < x.toInt := by
  have e0 := sw_ne h0; rw [show (0 : Int32).toInt = 0 from rfl] at e0
  have e1 := sw_ne h1; rw [show (1 : Int32).toInt = 1 from rfl] at e1
  have e2 := sw_ne h2; rw [show (2 : Int32).toInt = 2 from rfl] at e2
  have e3 := sw_ne h3; rw [show (3 : Int32).toInt = 3 from rfl] at e3
  have e4 := sw_ne h4; rw [show (4 : Int32).toInt = 4 from rfl] at e4
  have e5 := sw_ne h5; rw [show (5 : Int32).toInt = 5 from rfl] at e5
  have e6 := sw_ne h6; rw [show (6 : Int32).toInt = 6 from rfl] at e6
  have e7 := sw_ne h7; rw [show (7 : Int32).toInt = 7 from rfl] at e7
  have e8 := sw_ne h8; rw [show (8 : Int32).toInt = 8 from rfl] at e8
  have e9 := sw_ne h9; rw [show (9 : Int32).toInt = 9 from rfl] at e9
  omega
theorem sw_out25 {x : Int32} (h0 : ¬ x = 0) (h1 : ¬ x = 1) (h2 : ¬ x = 2) (h3 : ¬ x = 3) (h4 : ¬ x = 4) (h5 : ¬ x = 5) (h6 : ¬ x = 6) (h7 : ¬ x = 7) (h8 : ¬ x = 8) (h9 : ¬ x = 9) (h10 : ¬ x = 10) (h11 : ¬ x = 11) (h12 : ¬ x = 12) (h13 : ¬ x = 13) (h14 : ¬ x = 14) (h15 : ¬ x = 15) (h16 : ¬ x = 16) (h17 : ¬ x = 17) (h18 : ¬ x = 18) (h19 : ¬ x = 19) (h20 : ¬ x = 20) (h21 : ¬ x = 21) (h22 : ¬ x = 22) (h23 : ¬ x = 23) (h24 : ¬ x = 24) (h25 : ¬ x = 25) : x.toInt < 0 ∨ 25 < x.toInt := by
  have e0 := sw_ne h0; rw [show (0 : Int32).toInt = 0 from rfl] at e0
  have e1 := sw_ne h1; rw [show (1 : Int32).toInt = 1 from rfl] at e1
  have e2 := sw_ne h2; rw [show (2 : Int32).toInt = 2 from rfl] at e2
  have e3 := sw_ne h3; rw [show (3 : Int32).toInt = 3 from rfl] at e3
  have e4 := sw_ne h4; rw [show (4 : Int32).toInt = 4 from rfl] at e4
  have e5 := sw_ne h5; rw [show (5 : Int32).toInt = 5 from rfl] at e5
  have e6 := sw_ne h6; rw [show (6 : Int32).toInt = 6 from rfl] at e6
  have e7 := sw_ne h7; rw [show (7 : Int32).toInt = 7 from rfl] at e7
  have e8 := sw_ne h8; rw [show (8 : Int32).toInt = 8 from rfl] at e8
  have e9 := sw_ne h9; rw [show (9 : Int32).toInt = 9 from rfl] at e9
  have e10 := sw_ne h10; rw [show (10 : Int32).toInt = 10 from rfl] at e10
  have e11 := sw_ne h11; rw [show (11 : Int32).toInt = 11 from rfl] at e11
  have e12 := sw_ne h12; rw [show (12 : Int32).toInt = 12 from rfl] at e12
  have e13 := sw_ne h13; rw [show (13 : Int32).toInt = 13 from rfl] at e13
  have e14 := sw_ne h14; rw [show (14 : Int32).toInt = 14 from rfl] at e14
  have e15 := sw_ne h15; rw [show (15 : Int32).toInt = 15 from rfl] at e15
  have e16 := sw_ne h16; rw [show (16 : Int32).toInt = 16 from rfl] at e16
  have e17 := sw_ne h17; rw [show (17 : Int32).toInt = 17 from rfl] at e17
  have e18 := sw_ne h18; rw [show (18 : Int32).toInt = 18 from rfl] at e18
  have e19 := sw_ne h19; rw [show (19 : Int32).toInt = 19 from rfl] at e19
  have e20 := sw_ne h20; rw [show (20 : Int32).toInt = 20 from rfl] at e20
  have e21 := sw_ne h21; rw [show (21 : Int32).toInt = 21 from rfl] at e21
  have e22 := sw_ne h22; rw [show (22 : Int32).toInt = 22 from rfl] at e22
  have e23 := sw_ne h23; rw [show (23 : Int32).toInt = 23 from rfl] at e23
  have e24 := sw_ne h24; rw [show (24 : Int32).toInt = 24 from rfl] at e24
  have e25 := sw_ne h25; rw [show (25 : Int32).toInt = 25 from rfl] at e25
  omega
end
section
/-! part 04: rows for the fields and the calls, a row a link (written by wip/whole/gen.py) -/
theorem ly_sub_0_colorOf {K : Nat → Nat} {o : Nat} (h : ly K o lyChain) : ly K (o + 3) (lyNum 24) := ly_sub h 3 (by decide +kernel)
theorem ly_sub_0_liftOf {K : Nat → Nat} {o : Nat} (h : ly K o lyChain) : ly K (o + 1) (lyNum 24) := ly_sub h 1 (by decide +kernel)
theorem ly_sub_1_chain {K : Nat → Nat} {o : Nat} (h : ly K o lyReader) : ly K (o + 3) lyChain := ly_sub h 3 (by decide +kernel)
theorem ly_sub_1_text {K : Nat → Nat} {o : Nat} (h : ly K o lyReader) : ly K (o + 1) (lyNum 120) := ly_sub h 1 (by decide +kernel)
theorem ly_sub_2_aboveOf {K : Nat → Nat} {o : Nat} (h : ly K o lyCloth) : ly K (o + 7) (lyNum 64) := ly_sub h 7 (by decide +kernel)
theorem ly_sub_2_barOf {K : Nat → Nat} {o : Nat} (h : ly K o lyCloth) : ly K (o + 3) (lyNum 64) := ly_sub h 3 (by decide +kernel)
theorem ly_sub_2_colorOf {K : Nat → Nat} {o : Nat} (h : ly K o lyCloth) : ly K (o + 1) (lyNum 64) := ly_sub h 1 (by decide +kernel)
theorem ly_sub_2_missingOf {K : Nat → Nat} {o : Nat} (h : ly K o lyCloth) : ly K (o + 9) (lyNum 64) := ly_sub h 9 (by decide +kernel)
theorem ly_sub_2_planOf {K : Nat → Nat} {o : Nat} (h : ly K o lyCloth) : ly K (o + 11) (lyNum 64) := ly_sub h 11 (by decide +kernel)
theorem ly_sub_2_usedOf {K : Nat → Nat} {o : Nat} (h : ly K o lyCloth) : ly K (o + 5) (lyNum 64) := ly_sub h 5 (by decide +kernel)
theorem ly_sub_5_bobbins {K : Nat → Nat} {o : Nat} (h : ly K o lyState) : ly K (o + 13) (lyNum 10) := ly_sub h 13 (by decide +kernel)
theorem ly_sub_5_chain {K : Nat → Nat} {o : Nat} (h : ly K o lyState) : ly K (o + 8) lyChain := ly_sub h 8 (by decide +kernel)
theorem ly_sub_5_cloth {K : Nat → Nat} {o : Nat} (h : ly K o lyState) : ly K (o + 15) lyCloth := ly_sub h 15 (by decide +kernel)
theorem ly_sub_5_warp {K : Nat → Nat} {o : Nat} (h : ly K o lyState) : ly K (o + 1) lyWarp := ly_sub h 1 (by decide +kernel)
theorem ly_sub_6_colorOf {K : Nat → Nat} {o : Nat} (h : ly K o lyWarp) : ly K (o + 3) (lyNum 32) := ly_sub h 3 (by decide +kernel)
theorem ly_sub_6_faultOf {K : Nat → Nat} {o : Nat} (h : ly K o lyWarp) : ly K (o + 5) (lyNum 8) := ly_sub h 5 (by decide +kernel)
theorem ly_sub_6_shaftOf {K : Nat → Nat} {o : Nat} (h : ly K o lyWarp) : ly K (o + 1) (lyNum 32) := ly_sub h 1 (by decide +kernel)
theorem ly_sub_7_history {K : Nat → Nat} {o : Nat} (h : ly K o lyLoom) : ly K (o + 29) lyHist := ly_sub h 29 (by decide +kernel)
theorem ly_sub_7_needs {K : Nat → Nat} {o : Nat} (h : ly K o lyLoom) : ly K (o + 179) (lyNum 24) := ly_sub h 179 (by decide +kernel)
theorem ly_sub_7_now {K : Nat → Nat} {o : Nat} (h : ly K o lyLoom) : ly K (o + 1) lyState := ly_sub h 1 (by decide +kernel)
theorem ly_sub_7_reader {K : Nat → Nat} {o : Nat} (h : ly K o lyLoom) : ly K (o + 171) lyReader := ly_sub h 171 (by decide +kernel)
theorem ly_sub_7_yarnLeft {K : Nat → Nat} {o : Nat} (h : ly K o lyLoom) : ly K (o + 181) (lyNum 10) := ly_sub h 181 (by decide +kernel)
section RW
variable {p : Program} {l : Launch} {e : Env} {R : Room} {s : State} {m : MethodId} {args : Array Value} {below : List Frame} {meth : Method} {c : Code} {H H0 : Heap} {locs : List Loc} {cells slots : Nat} {Q : State → Prop} {cc : ByteArray} {pc : Nat} {ls : Array Slot} {rest : List Value} {D : va_G} {cI cS : ClassId} {Z : Nat} {K : Nat → Nat} {σ : Nat → Nat → Int32}
theorem gX0_14 {o o' : Nat} (hx : p.tables.exec = Jvm.exec) (hb : c.code = cc) (hts : ∀ w ∈ wsL_law, w.before args s = true) (hown : s.vm.findClass RX0 = some m.cls) (hG : gK D cI cS s) (hI : fI D cI cS Z K σ H) (hL : ly K o lyChain) (ho : o + 1 = o') (hdg : decode cc pc = .ok (.getfield 14, 3)) (kk : W p l e R s m args below meth c H locs cells slots Q (F0 m (pc + 3) ls (.ref (Z + o') :: rest))) : W p l e R s m args below meth c H locs cells slots Q (F0 m pc ls (.ref (Z + o) :: rest)) := by
  subst ho
  exact mm_get hx hb hts hown hG hI (ly_at hL 0 rfl) inlX0 (by decide) rfl rfl 3 (by decide) (mT3 _ (List.mem_of_getElem? (i := 20) rfl)) rfl hdg kk
theorem gX0_20 {o o' : Nat} (hx : p.tables.exec = Jvm.exec) (hb : c.code = cc) (hts : ∀ w ∈ wsL_law, w.before args s = true) (hown : s.vm.findClass RX0 = some m.cls) (hG : gK D cI cS s) (hI : fI D cI cS Z K σ H) (hL : ly K o lyChain) (ho : o + 3 = o') (hdg : decode cc pc = .ok (.getfield 20, 3)) (kk : W p l e R s m args below meth c H locs cells slots Q (F0 m (pc + 3) ls (.ref (Z + o') :: rest))) : W p l e R s m args below meth c H locs cells slots Q (F0 m pc ls (.ref (Z + o) :: rest)) := by
  subst ho
  exact mm_get hx hb hts hown hG hI (ly_at hL 0 rfl) inlX0 (by decide) rfl rfl 4 (by decide) (mT3 _ (List.mem_of_getElem? (i := 21) rfl)) rfl hdg kk
theorem gX0_23 {o : Nat} (hx : p.tables.exec = Jvm.exec) (hb : c.code = cc) (hts : ∀ w ∈ wsL_law, w.before args s = true) (hown : s.vm.findClass RX0 = some m.cls) (hG : gK D cI cS s) (hI : fI D cI cS Z K σ H) (hL : ly K o lyChain) (hdg : decode cc pc = .ok (.getfield 23, 3)) (kk : W p l e R s m args below meth c H locs cells slots Q (F0 m (pc + 3) ls (.int (σ o 0) :: rest))) : W p l e R s m args below meth c H locs cells slots Q (F0 m pc ls (.ref (Z + o) :: rest)) := mm_get hx hb hts hown hG hI (ly_at hL 0 rfl) inlX0 (by decide) rfl rfl 0 (by decide) (mT5 _ (List.mem_of_getElem? (i := 11) rfl)) rfl hdg kk
theorem gX0_27 {o : Nat} (hx : p.tables.exec = Jvm.exec) (hb : c.code = cc) (hts : ∀ w ∈ wsL_law, w.before args s = true) (hown : s.vm.findClass RX0 = some m.cls) (hG : gK D cI cS s) (hI : fI D cI cS Z K σ H) (hL : ly K o lyChain) (hdg : decode cc pc = .ok (.getfield 27, 3)) (kk : W p l e R s m args below meth c H locs cells slots Q (F0 m (pc + 3) ls (.int (σ o 1) :: rest))) : W p l e R s m args below meth c H locs cells slots Q (F0 m pc ls (.ref (Z + o) :: rest)) := mm_get hx hb hts hown hG hI (ly_at hL 0 rfl) inlX0 (by decide) rfl rfl 1 (by decide) (mT5 _ (List.mem_of_getElem? (i := 12) rfl)) rfl hdg kk
theorem gX0_38 {o : Nat} (hx : p.tables.exec = Jvm.exec) (hb : c.code = cc) (hts : ∀ w ∈ wsL_law, w.before args s = true) (hown : s.vm.findClass RX0 = some m.cls) (hG : gK D cI cS s) (hI : fI D cI cS Z K σ H) (hL : ly K o lyChain) (hdg : decode cc pc = .ok (.getfield 38, 3)) (kk : W p l e R s m args below meth c H locs cells slots Q (F0 m (pc + 3) ls (.int (σ o 2) :: rest))) : W p l e R s m args below meth c H locs cells slots Q (F0 m pc ls (.ref (Z + o) :: rest)) := mm_get hx hb hts hown hG hI (ly_at hL 0 rfl) inlX0 (by decide) rfl rfl 2 (by decide) (mT8 _ (List.mem_of_getElem? (i := 16) rfl)) rfl hdg kk
theorem gX1_14 {o o' : Nat} (hx : p.tables.exec = Jvm.exec) (hb : c.code = cc) (hts : ∀ w ∈ wsL_law, w.before args s = true) (hown : s.vm.findClass RX1 = some m.cls) (hG : gK D cI cS s) (hI : fI D cI cS Z K σ H) (hL : ly K o lyReader) (ho : o + 1 = o') (hdg : decode cc pc = .ok (.getfield 14, 3)) (kk : W p l e R s m args below meth c H locs cells slots Q (F0 m (pc + 3) ls (.ref (Z + o') :: rest))) : W p l e R s m args below meth c H locs cells slots Q (F0 m pc ls (.ref (Z + o) :: rest)) := by
  subst ho
  exact mm_get hx hb hts hown hG hI (ly_at hL 0 rfl) inlX1 (by decide) rfl rfl 0 (by decide) (mT6 _ (List.mem_of_getElem? (i := 1) rfl)) rfl hdg kk
theorem gX1_23 {o o' : Nat} (hx : p.tables.exec = Jvm.exec) (hb : c.code = cc) (hts : ∀ w ∈ wsL_law, w.before args s = true) (hown : s.vm.findClass RX1 = some m.cls) (hG : gK D cI cS s) (hI : fI D cI cS Z K σ H) (hL : ly K o lyReader) (ho : o + 3 = o') (hdg : decode cc pc = .ok (.getfield 23, 3)) (kk : W p l e R s m args below meth c H locs cells slots Q (F0 m (pc + 3) ls (.ref (Z + o') :: rest))) : W p l e R s m args below meth c H locs cells slots Q (F0 m pc ls (.ref (Z + o) :: rest)) := by
  subst ho
  exact mm_get hx hb hts hown hG hI (ly_at hL 0 rfl) inlX1 (by decide) rfl rfl 1 (by decide) (mT6 _ (List.mem_of_getElem? (i := 3) rfl)) rfl hdg kk
theorem gX1_27 {o : Nat} (hx : p.tables.exec = Jvm.exec) (hb : c.code = cc) (hts : ∀ w ∈ wsL_law, w.before args s = true) (hown : s.vm.findClass RX1 = some m.cls) (hG : gK D cI cS s) (hI : fI D cI cS Z K σ H) (hL : ly K o lyReader) (hdg : decode cc pc = .ok (.getfield 27, 3)) (kk : W p l e R s m args below meth c H locs cells slots Q (F0 m (pc + 3) ls (.int (σ o 2) :: rest))) : W p l e R s m args below meth c H locs cells slots Q (F0 m pc ls (.ref (Z + o) :: rest)) := mm_get hx hb hts hown hG hI (ly_at hL 0 rfl) inlX1 (by decide) rfl rfl 2 (by decide) (mT15 _ (List.mem_of_getElem? (i := 11) rfl)) rfl hdg kk
theorem gX1_39 {o : Nat} (hx : p.tables.exec = Jvm.exec) (hb : c.code = cc) (hts : ∀ w ∈ wsL_law, w.before args s = true) (hown : s.vm.findClass RX1 = some m.cls) (hG : gK D cI cS s) (hI : fI D cI cS Z K σ H) (hL : ly K o lyReader) (hdg : decode cc pc = .ok (.getfield 39, 3)) (kk : W p l e R s m args below meth c H locs cells slots Q (F0 m (pc + 3) ls (.int (σ o 4) :: rest))) : W p l e R s m args below meth c H locs cells slots Q (F0 m pc ls (.ref (Z + o) :: rest)) := mm_get hx hb hts hown hG hI (ly_at hL 0 rfl) inlX1 (by decide) rfl rfl 4 (by decide) (mT16 _ (List.mem_of_getElem? (i := 18) rfl)) rfl hdg kk
theorem gX1_42 {o : Nat} (hx : p.tables.exec = Jvm.exec) (hb : c.code = cc) (hts : ∀ w ∈ wsL_law, w.before args s = true) (hown : s.vm.findClass RX1 = some m.cls) (hG : gK D cI cS s) (hI : fI D cI cS Z K σ H) (hL : ly K o lyReader) (hdg : decode cc pc = .ok (.getfield 42, 3)) (kk : W p l e R s m args below meth c H locs cells slots Q (F0 m (pc + 3) ls (.int (σ o 3) :: rest))) : W p l e R s m args below meth c H locs cells slots Q (F0 m pc ls (.ref (Z + o) :: rest)) := mm_get hx hb hts hown hG hI (ly_at hL 0 rfl) inlX1 (by decide) rfl rfl 3 (by decide) (mT16 _ (List.mem_of_getElem? (i := 19) rfl)) rfl hdg kk
theorem gX1_45 {o : Nat} (hx : p.tables.exec = Jvm.exec) (hb : c.code = cc) (hts : ∀ w ∈ wsL_law, w.before args s = true) (hown : s.vm.findClass RX1 = some m.cls) (hG : gK D cI cS s) (hI : fI D cI cS Z K σ H) (hL : ly K o lyReader) (hdg : decode cc pc = .ok (.getfield 45, 3)) (kk : W p l e R s m args below meth c H locs cells slots Q (F0 m (pc + 3) ls (.int (σ o 5) :: rest))) : W p l e R s m args below meth c H locs cells slots Q (F0 m pc ls (.ref (Z + o) :: rest)) := mm_get hx hb hts hown hG hI (ly_at hL 0 rfl) inlX1 (by decide) rfl rfl 5 (by decide) (mT16 _ (List.mem_of_getElem? (i := 20) rfl)) rfl hdg kk
theorem gX1_71 {o : Nat} (hx : p.tables.exec = Jvm.exec) (hb : c.code = cc) (hts : ∀ w ∈ wsL_law, w.before args s = true) (hown : s.vm.findClass RX1 = some m.cls) (hG : gK D cI cS s) (hI : fI D cI cS Z K σ H) (hL : ly K o lyChain) (hdg : decode cc pc = .ok (.getfield 71, 3)) (kk : W p l e R s m args below meth c H locs cells slots Q (F0 m (pc + 3) ls (.int (σ o 0) :: rest))) : W p l e R s m args below meth c H locs cells slots Q (F0 m pc ls (.ref (Z + o) :: rest)) := mm_get hx hb hts hown hG hI (ly_at hL 0 rfl) inlX0 (by decide) rfl rfl 0 (by decide) (mT17 _ (List.mem_of_getElem? (i := 2) rfl)) rfl hdg kk
theorem gX1_74 {o : Nat} (hx : p.tables.exec = Jvm.exec) (hb : c.code = cc) (hts : ∀ w ∈ wsL_law, w.before args s = true) (hown : s.vm.findClass RX1 = some m.cls) (hG : gK D cI cS s) (hI : fI D cI cS Z K σ H) (hL : ly K o lyReader) (hdg : decode cc pc = .ok (.getfield 74, 3)) (kk : W p l e R s m args below meth c H locs cells slots Q (F0 m (pc + 3) ls (.int (σ o 6) :: rest))) : W p l e R s m args below meth c H locs cells slots Q (F0 m pc ls (.ref (Z + o) :: rest)) := mm_get hx hb hts hown hG hI (ly_at hL 0 rfl) inlX1 (by decide) rfl rfl 6 (by decide) (mT17 _ (List.mem_of_getElem? (i := 3) rfl)) rfl hdg kk
theorem gX2_14 {o o' : Nat} (hx : p.tables.exec = Jvm.exec) (hb : c.code = cc) (hts : ∀ w ∈ wsL_law, w.before args s = true) (hown : s.vm.findClass RX2 = some m.cls) (hG : gK D cI cS s) (hI : fI D cI cS Z K σ H) (hL : ly K o lyCloth) (ho : o + 1 = o') (hdg : decode cc pc = .ok (.getfield 14, 3)) (kk : W p l e R s m args below meth c H locs cells slots Q (F0 m (pc + 3) ls (.ref (Z + o') :: rest))) : W p l e R s m args below meth c H locs cells slots Q (F0 m pc ls (.ref (Z + o) :: rest)) := by
  subst ho
  exact mm_get hx hb hts hown hG hI (ly_at hL 0 rfl) inlX2 (by decide) rfl rfl 1 (by decide) (mT4 _ (List.mem_of_getElem? (i := 4) rfl)) rfl hdg kk
theorem gX2_20 {o o' : Nat} (hx : p.tables.exec = Jvm.exec) (hb : c.code = cc) (hts : ∀ w ∈ wsL_law, w.before args s = true) (hown : s.vm.findClass RX2 = some m.cls) (hG : gK D cI cS s) (hI : fI D cI cS Z K σ H) (hL : ly K o lyCloth) (ho : o + 3 = o') (hdg : decode cc pc = .ok (.getfield 20, 3)) (kk : W p l e R s m args below meth c H locs cells slots Q (F0 m (pc + 3) ls (.ref (Z + o') :: rest))) : W p l e R s m args below meth c H locs cells slots Q (F0 m pc ls (.ref (Z + o) :: rest)) := by
  subst ho
  exact mm_get hx hb hts hown hG hI (ly_at hL 0 rfl) inlX2 (by decide) rfl rfl 2 (by decide) (mT4 _ (List.mem_of_getElem? (i := 5) rfl)) rfl hdg kk
theorem gX2_23 {o o' : Nat} (hx : p.tables.exec = Jvm.exec) (hb : c.code = cc) (hts : ∀ w ∈ wsL_law, w.before args s = true) (hown : s.vm.findClass RX2 = some m.cls) (hG : gK D cI cS s) (hI : fI D cI cS Z K σ H) (hL : ly K o lyCloth) (ho : o + 5 = o') (hdg : decode cc pc = .ok (.getfield 23, 3)) (kk : W p l e R s m args below meth c H locs cells slots Q (F0 m (pc + 3) ls (.ref (Z + o') :: rest))) : W p l e R s m args below meth c H locs cells slots Q (F0 m pc ls (.ref (Z + o) :: rest)) := by
  subst ho
  exact mm_get hx hb hts hown hG hI (ly_at hL 0 rfl) inlX2 (by decide) rfl rfl 3 (by decide) (mT4 _ (List.mem_of_getElem? (i := 6) rfl)) rfl hdg kk
theorem gX2_26 {o o' : Nat} (hx : p.tables.exec = Jvm.exec) (hb : c.code = cc) (hts : ∀ w ∈ wsL_law, w.before args s = true) (hown : s.vm.findClass RX2 = some m.cls) (hG : gK D cI cS s) (hI : fI D cI cS Z K σ H) (hL : ly K o lyCloth) (ho : o + 7 = o') (hdg : decode cc pc = .ok (.getfield 26, 3)) (kk : W p l e R s m args below meth c H locs cells slots Q (F0 m (pc + 3) ls (.ref (Z + o') :: rest))) : W p l e R s m args below meth c H locs cells slots Q (F0 m pc ls (.ref (Z + o) :: rest)) := by
  subst ho
  exact mm_get hx hb hts hown hG hI (ly_at hL 0 rfl) inlX2 (by decide) rfl rfl 4 (by decide) (mT4 _ (List.mem_of_getElem? (i := 7) rfl)) rfl hdg kk
theorem gX2_29 {o o' : Nat} (hx : p.tables.exec = Jvm.exec) (hb : c.code = cc) (hts : ∀ w ∈ wsL_law, w.before args s = true) (hown : s.vm.findClass RX2 = some m.cls) (hG : gK D cI cS s) (hI : fI D cI cS Z K σ H) (hL : ly K o lyCloth) (ho : o + 9 = o') (hdg : decode cc pc = .ok (.getfield 29, 3)) (kk : W p l e R s m args below meth c H locs cells slots Q (F0 m (pc + 3) ls (.ref (Z + o') :: rest))) : W p l e R s m args below meth c H locs cells slots Q (F0 m pc ls (.ref (Z + o) :: rest)) := by
  subst ho
  exact mm_get hx hb hts hown hG hI (ly_at hL 0 rfl) inlX2 (by decide) rfl rfl 5 (by decide) (mT4 _ (List.mem_of_getElem? (i := 8) rfl)) rfl hdg kk
theorem gX2_32 {o o' : Nat} (hx : p.tables.exec = Jvm.exec) (hb : c.code = cc) (hts : ∀ w ∈ wsL_law, w.before args s = true) (hown : s.vm.findClass RX2 = some m.cls) (hG : gK D cI cS s) (hI : fI D cI cS Z K σ H) (hL : ly K o lyCloth) (ho : o + 11 = o') (hdg : decode cc pc = .ok (.getfield 32, 3)) (kk : W p l e R s m args below meth c H locs cells slots Q (F0 m (pc + 3) ls (.ref (Z + o') :: rest))) : W p l e R s m args below meth c H locs cells slots Q (F0 m pc ls (.ref (Z + o) :: rest)) := by
  subst ho
  exact mm_get hx hb hts hown hG hI (ly_at hL 0 rfl) inlX2 (by decide) rfl rfl 6 (by decide) (mT4 _ (List.mem_of_getElem? (i := 9) rfl)) rfl hdg kk
theorem gX2_35 {o : Nat} (hx : p.tables.exec = Jvm.exec) (hb : c.code = cc) (hts : ∀ w ∈ wsL_law, w.before args s = true) (hown : s.vm.findClass RX2 = some m.cls) (hG : gK D cI cS s) (hI : fI D cI cS Z K σ H) (hL : ly K o lyCloth) (hdg : decode cc pc = .ok (.getfield 35, 3)) (kk : W p l e R s m args below meth c H locs cells slots Q (F0 m (pc + 3) ls (.int (σ o 0) :: rest))) : W p l e R s m args below meth c H locs cells slots Q (F0 m pc ls (.ref (Z + o) :: rest)) := mm_get hx hb hts hown hG hI (ly_at hL 0 rfl) inlX2 (by decide) rfl rfl 0 (by decide) (mT9 _ (List.mem_of_getElem? (i := 3) rfl)) rfl hdg kk
theorem gX4_13 {o o' : Nat} {n : Nat} (hx : p.tables.exec = Jvm.exec) (hb : c.code = cc) (hts : ∀ w ∈ wsL_law, w.before args s = true) (hown : s.vm.findClass RX4 = some m.cls) (hG : gK D cI cS s) (hI : fI D cI cS Z K σ H) (hL : ly K o (lyNum n)) (ho : o + 1 = o') (hdg : decode cc pc = .ok (.getfield 13, 3)) (kk : W p l e R s m args below meth c H locs cells slots Q (F0 m (pc + 3) ls (.ref (Z + o') :: rest))) : W p l e R s m args below meth c H locs cells slots Q (F0 m pc ls (.ref (Z + o) :: rest)) := by
  subst ho
  exact mm_get hx hb hts hown hG hI (ly_at hL 0 rfl) inlX4 (by decide) rfl rfl 0 (by decide) (mT3 _ (List.mem_of_getElem? (i := 15) rfl)) rfl hdg kk
theorem gX5_12 {o o' : Nat} (hx : p.tables.exec = Jvm.exec) (hb : c.code = cc) (hts : ∀ w ∈ wsL_law, w.before args s = true) (hown : s.vm.findClass RX5 = some m.cls) (hG : gK D cI cS s) (hI : fI D cI cS Z K σ H) (hL : ly K o lyState) (ho : o + 1 = o') (hdg : decode cc pc = .ok (.getfield 12, 3)) (kk : W p l e R s m args below meth c H locs cells slots Q (F0 m (pc + 3) ls (.ref (Z + o') :: rest))) : W p l e R s m args below meth c H locs cells slots Q (F0 m pc ls (.ref (Z + o) :: rest)) := by
  subst ho
  exact mm_get hx hb hts hown hG hI (ly_at hL 0 rfl) inlX5 (by decide) rfl rfl 0 (by decide) (mT2 _ (List.mem_of_getElem? (i := 12) rfl)) rfl hdg kk
theorem gX5_21 {o o' : Nat} (hx : p.tables.exec = Jvm.exec) (hb : c.code = cc) (hts : ∀ w ∈ wsL_law, w.before args s = true) (hown : s.vm.findClass RX5 = some m.cls) (hG : gK D cI cS s) (hI : fI D cI cS Z K σ H) (hL : ly K o lyState) (ho : o + 8 = o') (hdg : decode cc pc = .ok (.getfield 21, 3)) (kk : W p l e R s m args below meth c H locs cells slots Q (F0 m (pc + 3) ls (.ref (Z + o') :: rest))) : W p l e R s m args below meth c H locs cells slots Q (F0 m pc ls (.ref (Z + o) :: rest)) := by
  subst ho
  exact mm_get hx hb hts hown hG hI (ly_at hL 0 rfl) inlX5 (by decide) rfl rfl 1 (by decide) (mT2 _ (List.mem_of_getElem? (i := 16) rfl)) rfl hdg kk
theorem gX5_30 {o o' : Nat} (hx : p.tables.exec = Jvm.exec) (hb : c.code = cc) (hts : ∀ w ∈ wsL_law, w.before args s = true) (hown : s.vm.findClass RX5 = some m.cls) (hG : gK D cI cS s) (hI : fI D cI cS Z K σ H) (hL : ly K o lyState) (ho : o + 13 = o') (hdg : decode cc pc = .ok (.getfield 30, 3)) (kk : W p l e R s m args below meth c H locs cells slots Q (F0 m (pc + 3) ls (.ref (Z + o') :: rest))) : W p l e R s m args below meth c H locs cells slots Q (F0 m pc ls (.ref (Z + o) :: rest)) := by
  subst ho
  exact mm_get hx hb hts hown hG hI (ly_at hL 0 rfl) inlX5 (by decide) rfl rfl 2 (by decide) (mT2 _ (List.mem_of_getElem? (i := 18) rfl)) rfl hdg kk
theorem gX5_37 {o o' : Nat} (hx : p.tables.exec = Jvm.exec) (hb : c.code = cc) (hts : ∀ w ∈ wsL_law, w.before args s = true) (hown : s.vm.findClass RX5 = some m.cls) (hG : gK D cI cS s) (hI : fI D cI cS Z K σ H) (hL : ly K o lyState) (ho : o + 15 = o') (hdg : decode cc pc = .ok (.getfield 37, 3)) (kk : W p l e R s m args below meth c H locs cells slots Q (F0 m (pc + 3) ls (.ref (Z + o') :: rest))) : W p l e R s m args below meth c H locs cells slots Q (F0 m pc ls (.ref (Z + o) :: rest)) := by
  subst ho
  exact mm_get hx hb hts hown hG hI (ly_at hL 0 rfl) inlX5 (by decide) rfl rfl 3 (by decide) (mT2 _ (List.mem_of_getElem? (i := 22) rfl)) rfl hdg kk
theorem gX5_56 {o : Nat} (hx : p.tables.exec = Jvm.exec) (hb : c.code = cc) (hts : ∀ w ∈ wsL_law, w.before args s = true) (hown : s.vm.findClass RX5 = some m.cls) (hG : gK D cI cS s) (hI : fI D cI cS Z K σ H) (hL : ly K o lyCloth) (hdg : decode cc pc = .ok (.getfield 56, 3)) (kk : W p l e R s m args below meth c H locs cells slots Q (F0 m (pc + 3) ls (.int (σ o 0) :: rest))) : W p l e R s m args below meth c H locs cells slots Q (F0 m pc ls (.ref (Z + o) :: rest)) := mm_get hx hb hts hown hG hI (ly_at hL 0 rfl) inlX2 (by decide) rfl rfl 0 (by decide) (mT4 _ (List.mem_of_getElem? (i := 16) rfl)) rfl hdg kk
theorem gX5_72 {o o' : Nat} (hx : p.tables.exec = Jvm.exec) (hb : c.code = cc) (hts : ∀ w ∈ wsL_law, w.before args s = true) (hown : s.vm.findClass RX5 = some m.cls) (hG : gK D cI cS s) (hI : fI D cI cS Z K σ H) (hL : ly K o lyChain) (ho : o + 3 = o') (hdg : decode cc pc = .ok (.getfield 72, 3)) (kk : W p l e R s m args below meth c H locs cells slots Q (F0 m (pc + 3) ls (.ref (Z + o') :: rest))) : W p l e R s m args below meth c H locs cells slots Q (F0 m pc ls (.ref (Z + o) :: rest)) := by
  subst ho
  exact mm_get hx hb hts hown hG hI (ly_at hL 0 rfl) inlX0 (by decide) rfl rfl 4 (by decide) (mT21 _ (List.mem_of_getElem? (i := 17) rfl)) rfl hdg kk
theorem gX5_75 {o : Nat} (hx : p.tables.exec = Jvm.exec) (hb : c.code = cc) (hts : ∀ w ∈ wsL_law, w.before args s = true) (hown : s.vm.findClass RX5 = some m.cls) (hG : gK D cI cS s) (hI : fI D cI cS Z K σ H) (hL : ly K o lyChain) (hdg : decode cc pc = .ok (.getfield 75, 3)) (kk : W p l e R s m args below meth c H locs cells slots Q (F0 m (pc + 3) ls (.int (σ o 1) :: rest))) : W p l e R s m args below meth c H locs cells slots Q (F0 m pc ls (.ref (Z + o) :: rest)) := mm_get hx hb hts hown hG hI (ly_at hL 0 rfl) inlX0 (by decide) rfl rfl 1 (by decide) (mT21 _ (List.mem_of_getElem? (i := 18) rfl)) rfl hdg kk
theorem gX5_82 {o o' : Nat} (hx : p.tables.exec = Jvm.exec) (hb : c.code = cc) (hts : ∀ w ∈ wsL_law, w.before args s = true) (hown : s.vm.findClass RX5 = some m.cls) (hG : gK D cI cS s) (hI : fI D cI cS Z K σ H) (hL : ly K o lyChain) (ho : o + 1 = o') (hdg : decode cc pc = .ok (.getfield 82, 3)) (kk : W p l e R s m args below meth c H locs cells slots Q (F0 m (pc + 3) ls (.ref (Z + o') :: rest))) : W p l e R s m args below meth c H locs cells slots Q (F0 m pc ls (.ref (Z + o) :: rest)) := by
  subst ho
  exact mm_get hx hb hts hown hG hI (ly_at hL 0 rfl) inlX0 (by decide) rfl rfl 3 (by decide) (mT21 _ (List.mem_of_getElem? (i := 19) rfl)) rfl hdg kk
theorem gX5_85 {o o' : Nat} (hx : p.tables.exec = Jvm.exec) (hb : c.code = cc) (hts : ∀ w ∈ wsL_law, w.before args s = true) (hown : s.vm.findClass RX5 = some m.cls) (hG : gK D cI cS s) (hI : fI D cI cS Z K σ H) (hL : ly K o lyCloth) (ho : o + 1 = o') (hdg : decode cc pc = .ok (.getfield 85, 3)) (kk : W p l e R s m args below meth c H locs cells slots Q (F0 m (pc + 3) ls (.ref (Z + o') :: rest))) : W p l e R s m args below meth c H locs cells slots Q (F0 m pc ls (.ref (Z + o) :: rest)) := by
  subst ho
  exact mm_get hx hb hts hown hG hI (ly_at hL 0 rfl) inlX2 (by decide) rfl rfl 1 (by decide) (mT21 _ (List.mem_of_getElem? (i := 20) rfl)) rfl hdg kk
theorem gX5_89 {o o' : Nat} (hx : p.tables.exec = Jvm.exec) (hb : c.code = cc) (hts : ∀ w ∈ wsL_law, w.before args s = true) (hown : s.vm.findClass RX5 = some m.cls) (hG : gK D cI cS s) (hI : fI D cI cS Z K σ H) (hL : ly K o lyCloth) (ho : o + 3 = o') (hdg : decode cc pc = .ok (.getfield 89, 3)) (kk : W p l e R s m args below meth c H locs cells slots Q (F0 m (pc + 3) ls (.ref (Z + o') :: rest))) : W p l e R s m args below meth c H locs cells slots Q (F0 m pc ls (.ref (Z + o) :: rest)) := by
  subst ho
  exact mm_get hx hb hts hown hG hI (ly_at hL 0 rfl) inlX2 (by decide) rfl rfl 2 (by decide) (mT21 _ (List.mem_of_getElem? (i := 21) rfl)) rfl hdg kk
theorem gX5_92 {o o' : Nat} (hx : p.tables.exec = Jvm.exec) (hb : c.code = cc) (hts : ∀ w ∈ wsL_law, w.before args s = true) (hown : s.vm.findClass RX5 = some m.cls) (hG : gK D cI cS s) (hI : fI D cI cS Z K σ H) (hL : ly K o lyCloth) (ho : o + 11 = o') (hdg : decode cc pc = .ok (.getfield 92, 3)) (kk : W p l e R s m args below meth c H locs cells slots Q (F0 m (pc + 3) ls (.ref (Z + o') :: rest))) : W p l e R s m args below meth c H locs cells slots Q (F0 m pc ls (.ref (Z + o) :: rest)) := by
  subst ho
  exact mm_get hx hb hts hown hG hI (ly_at hL 0 rfl) inlX2 (by decide) rfl rfl 6 (by decide) (mT21 _ (List.mem_of_getElem? (i := 22) rfl)) rfl hdg kk
theorem gX5_105 {o o' : Nat} (hx : p.tables.exec = Jvm.exec) (hb : c.code = cc) (hts : ∀ w ∈ wsL_law, w.before args s = true) (hown : s.vm.findClass RX5 = some m.cls) (hG : gK D cI cS s) (hI : fI D cI cS Z K σ H) (hL : ly K o lyCloth) (ho : o + 5 = o') (hdg : decode cc pc = .ok (.getfield 105, 3)) (kk : W p l e R s m args below meth c H locs cells slots Q (F0 m (pc + 3) ls (.ref (Z + o') :: rest))) : W p l e R s m args below meth c H locs cells slots Q (F0 m pc ls (.ref (Z + o) :: rest)) := by
  subst ho
  exact mm_get hx hb hts hown hG hI (ly_at hL 0 rfl) inlX2 (by decide) rfl rfl 3 (by decide) (mT21 _ (List.mem_of_getElem? (i := 23) rfl)) rfl hdg kk
theorem gX5_111 {o : Nat} (hx : p.tables.exec = Jvm.exec) (hb : c.code = cc) (hts : ∀ w ∈ wsL_law, w.before args s = true) (hown : s.vm.findClass RX5 = some m.cls) (hG : gK D cI cS s) (hI : fI D cI cS Z K σ H) (hL : ly K o lyWarp) (hdg : decode cc pc = .ok (.getfield 111, 3)) (kk : W p l e R s m args below meth c H locs cells slots Q (F0 m (pc + 3) ls (.int (σ o 1) :: rest))) : W p l e R s m args below meth c H locs cells slots Q (F0 m pc ls (.ref (Z + o) :: rest)) := mm_get hx hb hts hown hG hI (ly_at hL 0 rfl) inlX6 (by decide) rfl rfl 1 (by decide) (mT22 _ (List.mem_of_getElem? (i := 17) rfl)) rfl hdg kk
theorem gX5_118 {o o' : Nat} (hx : p.tables.exec = Jvm.exec) (hb : c.code = cc) (hts : ∀ w ∈ wsL_law, w.before args s = true) (hown : s.vm.findClass RX5 = some m.cls) (hG : gK D cI cS s) (hI : fI D cI cS Z K σ H) (hL : ly K o lyCloth) (ho : o + 7 = o') (hdg : decode cc pc = .ok (.getfield 118, 3)) (kk : W p l e R s m args below meth c H locs cells slots Q (F0 m (pc + 3) ls (.ref (Z + o') :: rest))) : W p l e R s m args below meth c H locs cells slots Q (F0 m pc ls (.ref (Z + o) :: rest)) := by
  subst ho
  exact mm_get hx hb hts hown hG hI (ly_at hL 0 rfl) inlX2 (by decide) rfl rfl 4 (by decide) (mT22 _ (List.mem_of_getElem? (i := 18) rfl)) rfl hdg kk
theorem gX5_121 {o o' : Nat} (hx : p.tables.exec = Jvm.exec) (hb : c.code = cc) (hts : ∀ w ∈ wsL_law, w.before args s = true) (hown : s.vm.findClass RX5 = some m.cls) (hG : gK D cI cS s) (hI : fI D cI cS Z K σ H) (hL : ly K o lyCloth) (ho : o + 9 = o') (hdg : decode cc pc = .ok (.getfield 121, 3)) (kk : W p l e R s m args below meth c H locs cells slots Q (F0 m (pc + 3) ls (.ref (Z + o') :: rest))) : W p l e R s m args below meth c H locs cells slots Q (F0 m pc ls (.ref (Z + o) :: rest)) := by
  subst ho
  exact mm_get hx hb hts hown hG hI (ly_at hL 0 rfl) inlX2 (by decide) rfl rfl 5 (by decide) (mT22 _ (List.mem_of_getElem? (i := 19) rfl)) rfl hdg kk
theorem gX6_14 {o o' : Nat} (hx : p.tables.exec = Jvm.exec) (hb : c.code = cc) (hts : ∀ w ∈ wsL_law, w.before args s = true) (hown : s.vm.findClass RX6 = some m.cls) (hG : gK D cI cS s) (hI : fI D cI cS Z K σ H) (hL : ly K o lyWarp) (ho : o + 1 = o') (hdg : decode cc pc = .ok (.getfield 14, 3)) (kk : W p l e R s m args below meth c H locs cells slots Q (F0 m (pc + 3) ls (.ref (Z + o') :: rest))) : W p l e R s m args below meth c H locs cells slots Q (F0 m pc ls (.ref (Z + o) :: rest)) := by
  subst ho
  exact mm_get hx hb hts hown hG hI (ly_at hL 0 rfl) inlX6 (by decide) rfl rfl 2 (by decide) (mT3 _ (List.mem_of_getElem? (i := 3) rfl)) rfl hdg kk
theorem gX6_20 {o o' : Nat} (hx : p.tables.exec = Jvm.exec) (hb : c.code = cc) (hts : ∀ w ∈ wsL_law, w.before args s = true) (hown : s.vm.findClass RX6 = some m.cls) (hG : gK D cI cS s) (hI : fI D cI cS Z K σ H) (hL : ly K o lyWarp) (ho : o + 3 = o') (hdg : decode cc pc = .ok (.getfield 20, 3)) (kk : W p l e R s m args below meth c H locs cells slots Q (F0 m (pc + 3) ls (.ref (Z + o') :: rest))) : W p l e R s m args below meth c H locs cells slots Q (F0 m pc ls (.ref (Z + o) :: rest)) := by
  subst ho
  exact mm_get hx hb hts hown hG hI (ly_at hL 0 rfl) inlX6 (by decide) rfl rfl 3 (by decide) (mT3 _ (List.mem_of_getElem? (i := 4) rfl)) rfl hdg kk
theorem gX6_23 {o o' : Nat} (hx : p.tables.exec = Jvm.exec) (hb : c.code = cc) (hts : ∀ w ∈ wsL_law, w.before args s = true) (hown : s.vm.findClass RX6 = some m.cls) (hG : gK D cI cS s) (hI : fI D cI cS Z K σ H) (hL : ly K o lyWarp) (ho : o + 5 = o') (hdg : decode cc pc = .ok (.getfield 23, 3)) (kk : W p l e R s m args below meth c H locs cells slots Q (F0 m (pc + 3) ls (.ref (Z + o') :: rest))) : W p l e R s m args below meth c H locs cells slots Q (F0 m pc ls (.ref (Z + o) :: rest)) := by
  subst ho
  exact mm_get hx hb hts hown hG hI (ly_at hL 0 rfl) inlX6 (by decide) rfl rfl 4 (by decide) (mT3 _ (List.mem_of_getElem? (i := 5) rfl)) rfl hdg kk
theorem gX6_26 {o : Nat} (hx : p.tables.exec = Jvm.exec) (hb : c.code = cc) (hts : ∀ w ∈ wsL_law, w.before args s = true) (hown : s.vm.findClass RX6 = some m.cls) (hG : gK D cI cS s) (hI : fI D cI cS Z K σ H) (hL : ly K o lyWarp) (hdg : decode cc pc = .ok (.getfield 26, 3)) (kk : W p l e R s m args below meth c H locs cells slots Q (F0 m (pc + 3) ls (.int (σ o 0) :: rest))) : W p l e R s m args below meth c H locs cells slots Q (F0 m pc ls (.ref (Z + o) :: rest)) := mm_get hx hb hts hown hG hI (ly_at hL 0 rfl) inlX6 (by decide) rfl rfl 0 (by decide) (mT4 _ (List.mem_of_getElem? (i := 21) rfl)) rfl hdg kk
theorem gX6_30 {o : Nat} (hx : p.tables.exec = Jvm.exec) (hb : c.code = cc) (hts : ∀ w ∈ wsL_law, w.before args s = true) (hown : s.vm.findClass RX6 = some m.cls) (hG : gK D cI cS s) (hI : fI D cI cS Z K σ H) (hL : ly K o lyWarp) (hdg : decode cc pc = .ok (.getfield 30, 3)) (kk : W p l e R s m args below meth c H locs cells slots Q (F0 m (pc + 3) ls (.int (σ o 1) :: rest))) : W p l e R s m args below meth c H locs cells slots Q (F0 m pc ls (.ref (Z + o) :: rest)) := mm_get hx hb hts hown hG hI (ly_at hL 0 rfl) inlX6 (by decide) rfl rfl 1 (by decide) (mT4 _ (List.mem_of_getElem? (i := 22) rfl)) rfl hdg kk
theorem gX7_10 {o o' : Nat} (hx : p.tables.exec = Jvm.exec) (hb : c.code = cc) (hts : ∀ w ∈ wsL_law, w.before args s = true) (hown : s.vm.findClass RX7 = some m.cls) (hG : gK D cI cS s) (hI : fI D cI cS Z K σ H) (hL : ly K o lyLoom) (ho : o + 1 = o') (hdg : decode cc pc = .ok (.getfield 10, 3)) (kk : W p l e R s m args below meth c H locs cells slots Q (F0 m (pc + 3) ls (.ref (Z + o') :: rest))) : W p l e R s m args below meth c H locs cells slots Q (F0 m pc ls (.ref (Z + o) :: rest)) := by
  subst ho
  exact mm_get hx hb hts hown hG hI (ly_at hL 0 rfl) inlX7 (by decide) rfl rfl 0 (by decide) (mT1 _ (List.mem_of_getElem? (i := 15) rfl)) rfl hdg kk
theorem gX7_19 {o o' : Nat} (hx : p.tables.exec = Jvm.exec) (hb : c.code = cc) (hts : ∀ w ∈ wsL_law, w.before args s = true) (hown : s.vm.findClass RX7 = some m.cls) (hG : gK D cI cS s) (hI : fI D cI cS Z K σ H) (hL : ly K o lyLoom) (ho : o + 29 = o') (hdg : decode cc pc = .ok (.getfield 19, 3)) (kk : W p l e R s m args below meth c H locs cells slots Q (F0 m (pc + 3) ls (.ref (Z + o') :: rest))) : W p l e R s m args below meth c H locs cells slots Q (F0 m pc ls (.ref (Z + o) :: rest)) := by
  subst ho
  exact mm_get hx hb hts hown hG hI (ly_at hL 0 rfl) inlX7 (by decide) rfl rfl 1 (by decide) (mT1 _ (List.mem_of_getElem? (i := 19) rfl)) rfl hdg kk
theorem gX7_26 {o o' : Nat} (hx : p.tables.exec = Jvm.exec) (hb : c.code = cc) (hts : ∀ w ∈ wsL_law, w.before args s = true) (hown : s.vm.findClass RX7 = some m.cls) (hG : gK D cI cS s) (hI : fI D cI cS Z K σ H) (hL : ly K o lyLoom) (ho : o + 171 = o') (hdg : decode cc pc = .ok (.getfield 26, 3)) (kk : W p l e R s m args below meth c H locs cells slots Q (F0 m (pc + 3) ls (.ref (Z + o') :: rest))) : W p l e R s m args below meth c H locs cells slots Q (F0 m pc ls (.ref (Z + o) :: rest)) := by
  subst ho
  exact mm_get hx hb hts hown hG hI (ly_at hL 0 rfl) inlX7 (by decide) rfl rfl 2 (by decide) (mT1 _ (List.mem_of_getElem? (i := 23) rfl)) rfl hdg kk
theorem gX7_35 {o o' : Nat} (hx : p.tables.exec = Jvm.exec) (hb : c.code = cc) (hts : ∀ w ∈ wsL_law, w.before args s = true) (hown : s.vm.findClass RX7 = some m.cls) (hG : gK D cI cS s) (hI : fI D cI cS Z K σ H) (hL : ly K o lyLoom) (ho : o + 179 = o') (hdg : decode cc pc = .ok (.getfield 35, 3)) (kk : W p l e R s m args below meth c H locs cells slots Q (F0 m (pc + 3) ls (.ref (Z + o') :: rest))) : W p l e R s m args below meth c H locs cells slots Q (F0 m pc ls (.ref (Z + o) :: rest)) := by
  subst ho
  exact mm_get hx hb hts hown hG hI (ly_at hL 0 rfl) inlX7 (by decide) rfl rfl 3 (by decide) (mT2 _ (List.mem_of_getElem? (i := 3) rfl)) rfl hdg kk
theorem gX7_39 {o o' : Nat} (hx : p.tables.exec = Jvm.exec) (hb : c.code = cc) (hts : ∀ w ∈ wsL_law, w.before args s = true) (hown : s.vm.findClass RX7 = some m.cls) (hG : gK D cI cS s) (hI : fI D cI cS Z K σ H) (hL : ly K o lyLoom) (ho : o + 181 = o') (hdg : decode cc pc = .ok (.getfield 39, 3)) (kk : W p l e R s m args below meth c H locs cells slots Q (F0 m (pc + 3) ls (.ref (Z + o') :: rest))) : W p l e R s m args below meth c H locs cells slots Q (F0 m pc ls (.ref (Z + o) :: rest)) := by
  subst ho
  exact mm_get hx hb hts hown hG hI (ly_at hL 0 rfl) inlX7 (by decide) rfl rfl 4 (by decide) (mT2 _ (List.mem_of_getElem? (i := 4) rfl)) rfl hdg kk
theorem gX7_50 {o o' : Nat} (hx : p.tables.exec = Jvm.exec) (hb : c.code = cc) (hts : ∀ w ∈ wsL_law, w.before args s = true) (hown : s.vm.findClass RX7 = some m.cls) (hG : gK D cI cS s) (hI : fI D cI cS Z K σ H) (hL : ly K o lyState) (ho : o + 15 = o') (hdg : decode cc pc = .ok (.getfield 50, 3)) (kk : W p l e R s m args below meth c H locs cells slots Q (F0 m (pc + 3) ls (.ref (Z + o') :: rest))) : W p l e R s m args below meth c H locs cells slots Q (F0 m pc ls (.ref (Z + o) :: rest)) := by
  subst ho
  exact mm_get hx hb hts hown hG hI (ly_at hL 0 rfl) inlX5 (by decide) rfl rfl 3 (by decide) (mT7 _ (List.mem_of_getElem? (i := 1) rfl)) rfl hdg kk
theorem gX7_54 {o : Nat} (hx : p.tables.exec = Jvm.exec) (hb : c.code = cc) (hts : ∀ w ∈ wsL_law, w.before args s = true) (hown : s.vm.findClass RX7 = some m.cls) (hG : gK D cI cS s) (hI : fI D cI cS Z K σ H) (hL : ly K o lyCloth) (hdg : decode cc pc = .ok (.getfield 54, 3)) (kk : W p l e R s m args below meth c H locs cells slots Q (F0 m (pc + 3) ls (.int (σ o 0) :: rest))) : W p l e R s m args below meth c H locs cells slots Q (F0 m pc ls (.ref (Z + o) :: rest)) := mm_get hx hb hts hown hG hI (ly_at hL 0 rfl) inlX2 (by decide) rfl rfl 0 (by decide) (mT7 _ (List.mem_of_getElem? (i := 2) rfl)) rfl hdg kk
theorem gX7_64 {o o' : Nat} (hx : p.tables.exec = Jvm.exec) (hb : c.code = cc) (hts : ∀ w ∈ wsL_law, w.before args s = true) (hown : s.vm.findClass RX7 = some m.cls) (hG : gK D cI cS s) (hI : fI D cI cS Z K σ H) (hL : ly K o lyState) (ho : o + 1 = o') (hdg : decode cc pc = .ok (.getfield 64, 3)) (kk : W p l e R s m args below meth c H locs cells slots Q (F0 m (pc + 3) ls (.ref (Z + o') :: rest))) : W p l e R s m args below meth c H locs cells slots Q (F0 m pc ls (.ref (Z + o) :: rest)) := by
  subst ho
  exact mm_get hx hb hts hown hG hI (ly_at hL 0 rfl) inlX5 (by decide) rfl rfl 0 (by decide) (mT9 _ (List.mem_of_getElem? (i := 22) rfl)) rfl hdg kk
theorem gX7_80 {o o' : Nat} (hx : p.tables.exec = Jvm.exec) (hb : c.code = cc) (hts : ∀ w ∈ wsL_law, w.before args s = true) (hown : s.vm.findClass RX7 = some m.cls) (hG : gK D cI cS s) (hI : fI D cI cS Z K σ H) (hL : ly K o lyWarp) (ho : o + 1 = o') (hdg : decode cc pc = .ok (.getfield 80, 3)) (kk : W p l e R s m args below meth c H locs cells slots Q (F0 m (pc + 3) ls (.ref (Z + o') :: rest))) : W p l e R s m args below meth c H locs cells slots Q (F0 m pc ls (.ref (Z + o) :: rest)) := by
  subst ho
  exact mm_get hx hb hts hown hG hI (ly_at hL 0 rfl) inlX6 (by decide) rfl rfl 2 (by decide) (mT9 _ (List.mem_of_getElem? (i := 23) rfl)) rfl hdg kk
theorem gX7_87 {o o' : Nat} (hx : p.tables.exec = Jvm.exec) (hb : c.code = cc) (hts : ∀ w ∈ wsL_law, w.before args s = true) (hown : s.vm.findClass RX7 = some m.cls) (hG : gK D cI cS s) (hI : fI D cI cS Z K σ H) (hL : ly K o lyWarp) (ho : o + 3 = o') (hdg : decode cc pc = .ok (.getfield 87, 3)) (kk : W p l e R s m args below meth c H locs cells slots Q (F0 m (pc + 3) ls (.ref (Z + o') :: rest))) : W p l e R s m args below meth c H locs cells slots Q (F0 m pc ls (.ref (Z + o) :: rest)) := by
  subst ho
  exact mm_get hx hb hts hown hG hI (ly_at hL 0 rfl) inlX6 (by decide) rfl rfl 3 (by decide) (mT10 _ (List.mem_of_getElem? (i := 0) rfl)) rfl hdg kk
theorem gX7_93 {o o' : Nat} (hx : p.tables.exec = Jvm.exec) (hb : c.code = cc) (hts : ∀ w ∈ wsL_law, w.before args s = true) (hown : s.vm.findClass RX7 = some m.cls) (hG : gK D cI cS s) (hI : fI D cI cS Z K σ H) (hL : ly K o lyWarp) (ho : o + 5 = o') (hdg : decode cc pc = .ok (.getfield 93, 3)) (kk : W p l e R s m args below meth c H locs cells slots Q (F0 m (pc + 3) ls (.ref (Z + o') :: rest))) : W p l e R s m args below meth c H locs cells slots Q (F0 m pc ls (.ref (Z + o) :: rest)) := by
  subst ho
  exact mm_get hx hb hts hown hG hI (ly_at hL 0 rfl) inlX6 (by decide) rfl rfl 4 (by decide) (mT11 _ (List.mem_of_getElem? (i := 12) rfl)) rfl hdg kk
theorem gX7_99 {o o' : Nat} (hx : p.tables.exec = Jvm.exec) (hb : c.code = cc) (hts : ∀ w ∈ wsL_law, w.before args s = true) (hown : s.vm.findClass RX7 = some m.cls) (hG : gK D cI cS s) (hI : fI D cI cS Z K σ H) (hL : ly K o lyState) (ho : o + 8 = o') (hdg : decode cc pc = .ok (.getfield 99, 3)) (kk : W p l e R s m args below meth c H locs cells slots Q (F0 m (pc + 3) ls (.ref (Z + o') :: rest))) : W p l e R s m args below meth c H locs cells slots Q (F0 m pc ls (.ref (Z + o) :: rest)) := by
  subst ho
  exact mm_get hx hb hts hown hG hI (ly_at hL 0 rfl) inlX5 (by decide) rfl rfl 1 (by decide) (mT12 _ (List.mem_of_getElem? (i := 1) rfl)) rfl hdg kk
theorem gX7_112 {o : Nat} (hx : p.tables.exec = Jvm.exec) (hb : c.code = cc) (hts : ∀ w ∈ wsL_law, w.before args s = true) (hown : s.vm.findClass RX7 = some m.cls) (hG : gK D cI cS s) (hI : fI D cI cS Z K σ H) (hL : ly K o lyChain) (hdg : decode cc pc = .ok (.getfield 112, 3)) (kk : W p l e R s m args below meth c H locs cells slots Q (F0 m (pc + 3) ls (.int (σ o 0) :: rest))) : W p l e R s m args below meth c H locs cells slots Q (F0 m pc ls (.ref (Z + o) :: rest)) := mm_get hx hb hts hown hG hI (ly_at hL 0 rfl) inlX0 (by decide) rfl rfl 0 (by decide) (mT12 _ (List.mem_of_getElem? (i := 2) rfl)) rfl hdg kk
theorem gX7_118 {o o' : Nat} (hx : p.tables.exec = Jvm.exec) (hb : c.code = cc) (hts : ∀ w ∈ wsL_law, w.before args s = true) (hown : s.vm.findClass RX7 = some m.cls) (hG : gK D cI cS s) (hI : fI D cI cS Z K σ H) (hL : ly K o lyChain) (ho : o + 1 = o') (hdg : decode cc pc = .ok (.getfield 118, 3)) (kk : W p l e R s m args below meth c H locs cells slots Q (F0 m (pc + 3) ls (.ref (Z + o') :: rest))) : W p l e R s m args below meth c H locs cells slots Q (F0 m pc ls (.ref (Z + o) :: rest)) := by
  subst ho
  exact mm_get hx hb hts hown hG hI (ly_at hL 0 rfl) inlX0 (by decide) rfl rfl 3 (by decide) (mT13 _ (List.mem_of_getElem? (i := 9) rfl)) rfl hdg kk
theorem gX7_121 {o o' : Nat} (hx : p.tables.exec = Jvm.exec) (hb : c.code = cc) (hts : ∀ w ∈ wsL_law, w.before args s = true) (hown : s.vm.findClass RX7 = some m.cls) (hG : gK D cI cS s) (hI : fI D cI cS Z K σ H) (hL : ly K o lyChain) (ho : o + 3 = o') (hdg : decode cc pc = .ok (.getfield 121, 3)) (kk : W p l e R s m args below meth c H locs cells slots Q (F0 m (pc + 3) ls (.ref (Z + o') :: rest))) : W p l e R s m args below meth c H locs cells slots Q (F0 m pc ls (.ref (Z + o) :: rest)) := by
  subst ho
  exact mm_get hx hb hts hown hG hI (ly_at hL 0 rfl) inlX0 (by decide) rfl rfl 4 (by decide) (mT13 _ (List.mem_of_getElem? (i := 10) rfl)) rfl hdg kk
theorem gX7_122 {o : Nat} (hx : p.tables.exec = Jvm.exec) (hb : c.code = cc) (hts : ∀ w ∈ wsL_law, w.before args s = true) (hown : s.vm.findClass RX7 = some m.cls) (hG : gK D cI cS s) (hI : fI D cI cS Z K σ H) (hL : ly K o lyChain) (hdg : decode cc pc = .ok (.getfield 122, 3)) (kk : W p l e R s m args below meth c H locs cells slots Q (F0 m (pc + 3) ls (.int (σ o 2) :: rest))) : W p l e R s m args below meth c H locs cells slots Q (F0 m pc ls (.ref (Z + o) :: rest)) := mm_get hx hb hts hown hG hI (ly_at hL 0 rfl) inlX0 (by decide) rfl rfl 2 (by decide) (mT14 _ (List.mem_of_getElem? (i := 3) rfl)) rfl hdg kk
theorem gX7_125 {o : Nat} (hx : p.tables.exec = Jvm.exec) (hb : c.code = cc) (hts : ∀ w ∈ wsL_law, w.before args s = true) (hown : s.vm.findClass RX7 = some m.cls) (hG : gK D cI cS s) (hI : fI D cI cS Z K σ H) (hL : ly K o lyChain) (hdg : decode cc pc = .ok (.getfield 125, 3)) (kk : W p l e R s m args below meth c H locs cells slots Q (F0 m (pc + 3) ls (.int (σ o 1) :: rest))) : W p l e R s m args below meth c H locs cells slots Q (F0 m pc ls (.ref (Z + o) :: rest)) := mm_get hx hb hts hown hG hI (ly_at hL 0 rfl) inlX0 (by decide) rfl rfl 1 (by decide) (mT14 _ (List.mem_of_getElem? (i := 12) rfl)) rfl hdg kk
theorem gX7_128 {o o' : Nat} (hx : p.tables.exec = Jvm.exec) (hb : c.code = cc) (hts : ∀ w ∈ wsL_law, w.before args s = true) (hown : s.vm.findClass RX7 = some m.cls) (hG : gK D cI cS s) (hI : fI D cI cS Z K σ H) (hL : ly K o lyState) (ho : o + 13 = o') (hdg : decode cc pc = .ok (.getfield 128, 3)) (kk : W p l e R s m args below meth c H locs cells slots Q (F0 m (pc + 3) ls (.ref (Z + o') :: rest))) : W p l e R s m args below meth c H locs cells slots Q (F0 m pc ls (.ref (Z + o) :: rest)) := by
  subst ho
  exact mm_get hx hb hts hown hG hI (ly_at hL 0 rfl) inlX5 (by decide) rfl rfl 2 (by decide) (mT14 _ (List.mem_of_getElem? (i := 21) rfl)) rfl hdg kk
theorem gX7_134 {o : Nat} (hx : p.tables.exec = Jvm.exec) (hb : c.code = cc) (hts : ∀ w ∈ wsL_law, w.before args s = true) (hown : s.vm.findClass RX7 = some m.cls) (hG : gK D cI cS s) (hI : fI D cI cS Z K σ H) (hL : ly K o lyReader) (hdg : decode cc pc = .ok (.getfield 134, 3)) (kk : W p l e R s m args below meth c H locs cells slots Q (F0 m (pc + 3) ls (.int (σ o 2) :: rest))) : W p l e R s m args below meth c H locs cells slots Q (F0 m pc ls (.ref (Z + o) :: rest)) := mm_get hx hb hts hown hG hI (ly_at hL 0 rfl) inlX1 (by decide) rfl rfl 2 (by decide) (mT15 _ (List.mem_of_getElem? (i := 6) rfl)) rfl hdg kk
theorem gX7_137 {o : Nat} (hx : p.tables.exec = Jvm.exec) (hb : c.code = cc) (hts : ∀ w ∈ wsL_law, w.before args s = true) (hown : s.vm.findClass RX7 = some m.cls) (hG : gK D cI cS s) (hI : fI D cI cS Z K σ H) (hL : ly K o lyWarp) (hdg : decode cc pc = .ok (.getfield 137, 3)) (kk : W p l e R s m args below meth c H locs cells slots Q (F0 m (pc + 3) ls (.int (σ o 0) :: rest))) : W p l e R s m args below meth c H locs cells slots Q (F0 m pc ls (.ref (Z + o) :: rest)) := mm_get hx hb hts hown hG hI (ly_at hL 0 rfl) inlX6 (by decide) rfl rfl 0 (by decide) (mT16 _ (List.mem_of_getElem? (i := 11) rfl)) rfl hdg kk
theorem gX7_143 {o : Nat} (hx : p.tables.exec = Jvm.exec) (hb : c.code = cc) (hts : ∀ w ∈ wsL_law, w.before args s = true) (hown : s.vm.findClass RX7 = some m.cls) (hG : gK D cI cS s) (hI : fI D cI cS Z K σ H) (hL : ly K o lyReader) (hdg : decode cc pc = .ok (.getfield 143, 3)) (kk : W p l e R s m args below meth c H locs cells slots Q (F0 m (pc + 3) ls (.int (σ o 3) :: rest))) : W p l e R s m args below meth c H locs cells slots Q (F0 m pc ls (.ref (Z + o) :: rest)) := mm_get hx hb hts hown hG hI (ly_at hL 0 rfl) inlX1 (by decide) rfl rfl 3 (by decide) (mT16 _ (List.mem_of_getElem? (i := 12) rfl)) rfl hdg kk
theorem gX7_146 {o o' : Nat} (hx : p.tables.exec = Jvm.exec) (hb : c.code = cc) (hts : ∀ w ∈ wsL_law, w.before args s = true) (hown : s.vm.findClass RX7 = some m.cls) (hG : gK D cI cS s) (hI : fI D cI cS Z K σ H) (hL : ly K o lyReader) (ho : o + 3 = o') (hdg : decode cc pc = .ok (.getfield 146, 3)) (kk : W p l e R s m args below meth c H locs cells slots Q (F0 m (pc + 3) ls (.ref (Z + o') :: rest))) : W p l e R s m args below meth c H locs cells slots Q (F0 m pc ls (.ref (Z + o) :: rest)) := by
  subst ho
  exact mm_get hx hb hts hown hG hI (ly_at hL 0 rfl) inlX1 (by decide) rfl rfl 1 (by decide) (mT16 _ (List.mem_of_getElem? (i := 13) rfl)) rfl hdg kk
theorem gX7_161 {o : Nat} (hx : p.tables.exec = Jvm.exec) (hb : c.code = cc) (hts : ∀ w ∈ wsL_law, w.before args s = true) (hown : s.vm.findClass RX7 = some m.cls) (hG : gK D cI cS s) (hI : fI D cI cS Z K σ H) (hL : ly K o lyHist) (hdg : decode cc pc = .ok (.getfield 161, 3)) (kk : W p l e R s m args below meth c H locs cells slots Q (F0 m (pc + 3) ls (.int (σ o 2) :: rest))) : W p l e R s m args below meth c H locs cells slots Q (F0 m pc ls (.ref (Z + o) :: rest)) := mm_get hx hb hts hown hG hI (ly_at hL 0 rfl) inlX3 (by decide) rfl rfl 2 (by decide) (mT26 _ (List.mem_of_getElem? (i := 19) rfl)) rfl hdg kk
theorem gX7_167 {o : Nat} (hx : p.tables.exec = Jvm.exec) (hb : c.code = cc) (hts : ∀ w ∈ wsL_law, w.before args s = true) (hown : s.vm.findClass RX7 = some m.cls) (hG : gK D cI cS s) (hI : fI D cI cS Z K σ H) (hL : ly K o lyWarp) (hdg : decode cc pc = .ok (.getfield 167, 3)) (kk : W p l e R s m args below meth c H locs cells slots Q (F0 m (pc + 3) ls (.int (σ o 1) :: rest))) : W p l e R s m args below meth c H locs cells slots Q (F0 m pc ls (.ref (Z + o) :: rest)) := mm_get hx hb hts hown hG hI (ly_at hL 0 rfl) inlX6 (by decide) rfl rfl 1 (by decide) (mT27 _ (List.mem_of_getElem? (i := 8) rfl)) rfl hdg kk
theorem gX7_193 {o o' : Nat} (hx : p.tables.exec = Jvm.exec) (hb : c.code = cc) (hts : ∀ w ∈ wsL_law, w.before args s = true) (hown : s.vm.findClass RX7 = some m.cls) (hG : gK D cI cS s) (hI : fI D cI cS Z K σ H) (hL : ly K o lyCloth) (ho : o + 1 = o') (hdg : decode cc pc = .ok (.getfield 193, 3)) (kk : W p l e R s m args below meth c H locs cells slots Q (F0 m (pc + 3) ls (.ref (Z + o') :: rest))) : W p l e R s m args below meth c H locs cells slots Q (F0 m pc ls (.ref (Z + o) :: rest)) := by
  subst ho
  exact mm_get hx hb hts hown hG hI (ly_at hL 0 rfl) inlX2 (by decide) rfl rfl 1 (by decide) (mT32 _ (List.mem_of_getElem? (i := 7) rfl)) rfl hdg kk
theorem gX7_194 {o o' : Nat} (hx : p.tables.exec = Jvm.exec) (hb : c.code = cc) (hts : ∀ w ∈ wsL_law, w.before args s = true) (hown : s.vm.findClass RX7 = some m.cls) (hG : gK D cI cS s) (hI : fI D cI cS Z K σ H) (hL : ly K o lyCloth) (ho : o + 3 = o') (hdg : decode cc pc = .ok (.getfield 194, 3)) (kk : W p l e R s m args below meth c H locs cells slots Q (F0 m (pc + 3) ls (.ref (Z + o') :: rest))) : W p l e R s m args below meth c H locs cells slots Q (F0 m pc ls (.ref (Z + o) :: rest)) := by
  subst ho
  exact mm_get hx hb hts hown hG hI (ly_at hL 0 rfl) inlX2 (by decide) rfl rfl 2 (by decide) (mT32 _ (List.mem_of_getElem? (i := 8) rfl)) rfl hdg kk
theorem gX7_197 {o o' : Nat} (hx : p.tables.exec = Jvm.exec) (hb : c.code = cc) (hts : ∀ w ∈ wsL_law, w.before args s = true) (hown : s.vm.findClass RX7 = some m.cls) (hG : gK D cI cS s) (hI : fI D cI cS Z K σ H) (hL : ly K o lyCloth) (ho : o + 5 = o') (hdg : decode cc pc = .ok (.getfield 197, 3)) (kk : W p l e R s m args below meth c H locs cells slots Q (F0 m (pc + 3) ls (.ref (Z + o') :: rest))) : W p l e R s m args below meth c H locs cells slots Q (F0 m pc ls (.ref (Z + o) :: rest)) := by
  subst ho
  exact mm_get hx hb hts hown hG hI (ly_at hL 0 rfl) inlX2 (by decide) rfl rfl 3 (by decide) (mT32 _ (List.mem_of_getElem? (i := 9) rfl)) rfl hdg kk
theorem gX7_200 {o o' : Nat} (hx : p.tables.exec = Jvm.exec) (hb : c.code = cc) (hts : ∀ w ∈ wsL_law, w.before args s = true) (hown : s.vm.findClass RX7 = some m.cls) (hG : gK D cI cS s) (hI : fI D cI cS Z K σ H) (hL : ly K o lyCloth) (ho : o + 7 = o') (hdg : decode cc pc = .ok (.getfield 200, 3)) (kk : W p l e R s m args below meth c H locs cells slots Q (F0 m (pc + 3) ls (.ref (Z + o') :: rest))) : W p l e R s m args below meth c H locs cells slots Q (F0 m pc ls (.ref (Z + o) :: rest)) := by
  subst ho
  exact mm_get hx hb hts hown hG hI (ly_at hL 0 rfl) inlX2 (by decide) rfl rfl 4 (by decide) (mT32 _ (List.mem_of_getElem? (i := 10) rfl)) rfl hdg kk
theorem gX7_208 {o o' : Nat} (hx : p.tables.exec = Jvm.exec) (hb : c.code = cc) (hts : ∀ w ∈ wsL_law, w.before args s = true) (hown : s.vm.findClass RX7 = some m.cls) (hG : gK D cI cS s) (hI : fI D cI cS Z K σ H) (hL : ly K o lyCloth) (ho : o + 9 = o') (hdg : decode cc pc = .ok (.getfield 208, 3)) (kk : W p l e R s m args below meth c H locs cells slots Q (F0 m (pc + 3) ls (.ref (Z + o') :: rest))) : W p l e R s m args below meth c H locs cells slots Q (F0 m pc ls (.ref (Z + o) :: rest)) := by
  subst ho
  exact mm_get hx hb hts hown hG hI (ly_at hL 0 rfl) inlX2 (by decide) rfl rfl 5 (by decide) (mT32 _ (List.mem_of_getElem? (i := 11) rfl)) rfl hdg kk
theorem gX7_224 {o o' : Nat} (hx : p.tables.exec = Jvm.exec) (hb : c.code = cc) (hts : ∀ w ∈ wsL_law, w.before args s = true) (hown : s.vm.findClass RX7 = some m.cls) (hG : gK D cI cS s) (hI : fI D cI cS Z K σ H) (hL : ly K o lyCloth) (ho : o + 11 = o') (hdg : decode cc pc = .ok (.getfield 224, 3)) (kk : W p l e R s m args below meth c H locs cells slots Q (F0 m (pc + 3) ls (.ref (Z + o') :: rest))) : W p l e R s m args below meth c H locs cells slots Q (F0 m pc ls (.ref (Z + o) :: rest)) := by
  subst ho
  exact mm_get hx hb hts hown hG hI (ly_at hL 0 rfl) inlX2 (by decide) rfl rfl 6 (by decide) (mT33 _ (List.mem_of_getElem? (i := 6) rfl)) rfl hdg kk
theorem gX8_7 {o o' : Nat} (hx : p.tables.exec = Jvm.exec) (hb : c.code = cc) (hts : ∀ w ∈ wsL_law, w.before args s = true) (hown : s.vm.findClass RX8 = some m.cls) (hG : gK D cI cS s) (hI : fI D cI cS Z K σ H) (hL : ly K o lyModel) (ho : o + 1 = o') (hdg : decode cc pc = .ok (.getfield 7, 3)) (kk : W p l e R s m args below meth c H locs cells slots Q (F0 m (pc + 3) ls (.ref (Z + o') :: rest))) : W p l e R s m args below meth c H locs cells slots Q (F0 m pc ls (.ref (Z + o) :: rest)) := by
  subst ho
  exact mm_get hx hb hts hown hG hI (ly_at hL 0 rfl) inlX8 (by decide) rfl rfl 1 (by decide) (mT6 _ (List.mem_of_getElem? (i := 10) rfl)) rfl hdg kk
theorem gX8_13 {o o' : Nat} (hx : p.tables.exec = Jvm.exec) (hb : c.code = cc) (hts : ∀ w ∈ wsL_law, w.before args s = true) (hown : s.vm.findClass RX8 = some m.cls) (hG : gK D cI cS s) (hI : fI D cI cS Z K σ H) (hL : ly K o lyModel) (ho : o + 2 = o') (hdg : decode cc pc = .ok (.getfield 13, 3)) (kk : W p l e R s m args below meth c H locs cells slots Q (F0 m (pc + 3) ls (.ref (Z + o') :: rest))) : W p l e R s m args below meth c H locs cells slots Q (F0 m pc ls (.ref (Z + o) :: rest)) := by
  subst ho
  exact mm_get hx hb hts hown hG hI (ly_at hL 0 rfl) inlX8 (by decide) rfl rfl 2 (by decide) (mT6 _ (List.mem_of_getElem? (i := 11) rfl)) rfl hdg kk
theorem gX8_16 {o o' : Nat} (hx : p.tables.exec = Jvm.exec) (hb : c.code = cc) (hts : ∀ w ∈ wsL_law, w.before args s = true) (hown : s.vm.findClass RX8 = some m.cls) (hG : gK D cI cS s) (hI : fI D cI cS Z K σ H) (hL : ly K o lyModel) (ho : o + 3 = o') (hdg : decode cc pc = .ok (.getfield 16, 3)) (kk : W p l e R s m args below meth c H locs cells slots Q (F0 m (pc + 3) ls (.ref (Z + o') :: rest))) : W p l e R s m args below meth c H locs cells slots Q (F0 m pc ls (.ref (Z + o) :: rest)) := by
  subst ho
  exact mm_get hx hb hts hown hG hI (ly_at hL 0 rfl) inlX8 (by decide) rfl rfl 3 (by decide) (mT6 _ (List.mem_of_getElem? (i := 12) rfl)) rfl hdg kk
theorem gX8_19 {o o' : Nat} (hx : p.tables.exec = Jvm.exec) (hb : c.code = cc) (hts : ∀ w ∈ wsL_law, w.before args s = true) (hown : s.vm.findClass RX8 = some m.cls) (hG : gK D cI cS s) (hI : fI D cI cS Z K σ H) (hL : ly K o lyModel) (ho : o + 4 = o') (hdg : decode cc pc = .ok (.getfield 19, 3)) (kk : W p l e R s m args below meth c H locs cells slots Q (F0 m (pc + 3) ls (.ref (Z + o') :: rest))) : W p l e R s m args below meth c H locs cells slots Q (F0 m pc ls (.ref (Z + o) :: rest)) := by
  subst ho
  exact mm_get hx hb hts hown hG hI (ly_at hL 0 rfl) inlX8 (by decide) rfl rfl 5 (by decide) (mT6 _ (List.mem_of_getElem? (i := 13) rfl)) rfl hdg kk
theorem gX8_22 {o o' : Nat} (hx : p.tables.exec = Jvm.exec) (hb : c.code = cc) (hts : ∀ w ∈ wsL_law, w.before args s = true) (hown : s.vm.findClass RX8 = some m.cls) (hG : gK D cI cS s) (hI : fI D cI cS Z K σ H) (hL : ly K o lyModel) (ho : o + 5 = o') (hdg : decode cc pc = .ok (.getfield 22, 3)) (kk : W p l e R s m args below meth c H locs cells slots Q (F0 m (pc + 3) ls (.ref (Z + o') :: rest))) : W p l e R s m args below meth c H locs cells slots Q (F0 m pc ls (.ref (Z + o) :: rest)) := by
  subst ho
  exact mm_get hx hb hts hown hG hI (ly_at hL 0 rfl) inlX8 (by decide) rfl rfl 7 (by decide) (mT6 _ (List.mem_of_getElem? (i := 14) rfl)) rfl hdg kk
theorem gX8_25 {o o' : Nat} (hx : p.tables.exec = Jvm.exec) (hb : c.code = cc) (hts : ∀ w ∈ wsL_law, w.before args s = true) (hown : s.vm.findClass RX8 = some m.cls) (hG : gK D cI cS s) (hI : fI D cI cS Z K σ H) (hL : ly K o lyModel) (ho : o + 6 = o') (hdg : decode cc pc = .ok (.getfield 25, 3)) (kk : W p l e R s m args below meth c H locs cells slots Q (F0 m (pc + 3) ls (.ref (Z + o') :: rest))) : W p l e R s m args below meth c H locs cells slots Q (F0 m pc ls (.ref (Z + o) :: rest)) := by
  subst ho
  exact mm_get hx hb hts hown hG hI (ly_at hL 0 rfl) inlX8 (by decide) rfl rfl 8 (by decide) (mT6 _ (List.mem_of_getElem? (i := 15) rfl)) rfl hdg kk
theorem gX8_36 {o : Nat} (hx : p.tables.exec = Jvm.exec) (hb : c.code = cc) (hts : ∀ w ∈ wsL_law, w.before args s = true) (hown : s.vm.findClass RX8 = some m.cls) (hG : gK D cI cS s) (hI : fI D cI cS Z K σ H) (hL : ly K o lyModel) (hdg : decode cc pc = .ok (.getfield 36, 3)) (kk : W p l e R s m args below meth c H locs cells slots Q (F0 m (pc + 3) ls (.int (σ o 4) :: rest))) : W p l e R s m args below meth c H locs cells slots Q (F0 m pc ls (.ref (Z + o) :: rest)) := mm_get hx hb hts hown hG hI (ly_at hL 0 rfl) inlX8 (by decide) rfl rfl 4 (by decide) (mT9 _ (List.mem_of_getElem? (i := 17) rfl)) rfl hdg kk
theorem gX8_70 {o : Nat} (hx : p.tables.exec = Jvm.exec) (hb : c.code = cc) (hts : ∀ w ∈ wsL_law, w.before args s = true) (hown : s.vm.findClass RX8 = some m.cls) (hG : gK D cI cS s) (hI : fI D cI cS Z K σ H) (hL : ly K o lyModel) (hdg : decode cc pc = .ok (.getfield 70, 3)) (kk : W p l e R s m args below meth c H locs cells slots Q (F0 m (pc + 3) ls (.int (σ o 6) :: rest))) : W p l e R s m args below meth c H locs cells slots Q (F0 m pc ls (.ref (Z + o) :: rest)) := mm_get hx hb hts hown hG hI (ly_at hL 0 rfl) inlX8 (by decide) rfl rfl 6 (by decide) (mT15 _ (List.mem_of_getElem? (i := 22) rfl)) rfl hdg kk
theorem gX8_73 {o : Nat} (hx : p.tables.exec = Jvm.exec) (hb : c.code = cc) (hts : ∀ w ∈ wsL_law, w.before args s = true) (hown : s.vm.findClass RX8 = some m.cls) (hG : gK D cI cS s) (hI : fI D cI cS Z K σ H) (hL : ly K o lyModel) (hdg : decode cc pc = .ok (.getfield 73, 3)) (kk : W p l e R s m args below meth c H locs cells slots Q (F0 m (pc + 3) ls (.int (σ o 10) :: rest))) : W p l e R s m args below meth c H locs cells slots Q (F0 m pc ls (.ref (Z + o) :: rest)) := mm_get hx hb hts hown hG hI (ly_at hL 0 rfl) inlX8 (by decide) rfl rfl 10 (by decide) (mT19 _ (List.mem_of_getElem? (i := 11) rfl)) rfl hdg kk
theorem gX8_87 {o : Nat} (hx : p.tables.exec = Jvm.exec) (hb : c.code = cc) (hts : ∀ w ∈ wsL_law, w.before args s = true) (hown : s.vm.findClass RX8 = some m.cls) (hG : gK D cI cS s) (hI : fI D cI cS Z K σ H) (hL : ly K o lyModel) (hdg : decode cc pc = .ok (.getfield 87, 3)) (kk : W p l e R s m args below meth c H locs cells slots Q (F0 m (pc + 3) ls (.int (σ o 9) :: rest))) : W p l e R s m args below meth c H locs cells slots Q (F0 m pc ls (.ref (Z + o) :: rest)) := mm_get hx hb hts hown hG hI (ly_at hL 0 rfl) inlX8 (by decide) rfl rfl 9 (by decide) (mT19 _ (List.mem_of_getElem? (i := 10) rfl)) rfl hdg kk
theorem gX8_157 {o : Nat} (hx : p.tables.exec = Jvm.exec) (hb : c.code = cc) (hts : ∀ w ∈ wsL_law, w.before args s = true) (hown : s.vm.findClass RX8 = some m.cls) (hG : gK D cI cS s) (hI : fI D cI cS Z K σ H) (hL : ly K o lyModel) (hdg : decode cc pc = .ok (.getfield 157, 3)) (kk : W p l e R s m args below meth c H locs cells slots Q (F0 m (pc + 3) ls (.int (σ o 11) :: rest))) : W p l e R s m args below meth c H locs cells slots Q (F0 m pc ls (.ref (Z + o) :: rest)) := mm_get hx hb hts hown hG hI (ly_at hL 0 rfl) inlX8 (by decide) rfl rfl 11 (by decide) (mT30 _ (List.mem_of_getElem? (i := 8) rfl)) rfl hdg kk
theorem gX8_160 {o : Nat} (hx : p.tables.exec = Jvm.exec) (hb : c.code = cc) (hts : ∀ w ∈ wsL_law, w.before args s = true) (hown : s.vm.findClass RX8 = some m.cls) (hG : gK D cI cS s) (hI : fI D cI cS Z K σ H) (hL : ly K o lyModel) (hdg : decode cc pc = .ok (.getfield 160, 3)) (kk : W p l e R s m args below meth c H locs cells slots Q (F0 m (pc + 3) ls (.int (σ o 12) :: rest))) : W p l e R s m args below meth c H locs cells slots Q (F0 m pc ls (.ref (Z + o) :: rest)) := mm_get hx hb hts hown hG hI (ly_at hL 0 rfl) inlX8 (by decide) rfl rfl 12 (by decide) (mT30 _ (List.mem_of_getElem? (i := 9) rfl)) rfl hdg kk
theorem kX0_30 (hx : p.tables.exec = Jvm.exec) (hb : c.code = cc) {nL : Nat} (hml : c.maxLocals = nL) (hts : ∀ w ∈ wsL_law, w.before args s = true) (hown : s.vm.findClass RX0 = some m.cls) (hG : gK D cI cS s) (hI : fI D cI cS Z K σ H) (hS : va_S (aZ Z) H0 H locs) (hsz : ls.size = nL) {o : Nat} {n : Nat} (hL : ly K o (lyNum n)) {As : List Value} {σ' : Nat → Nat → Int32} (hM : Met l yX4_copyFrom (wsT yX4_copyFrom cX4_copyFrom 2 none) { frames := 1, cells := 0, slots := 0, locals := 40 } (Pm D cI cS Z K (.ref (Z + o) :: As) σ) (Qv D cI cS Z K σ') 0 0 (aZ Z)) (hR : 2 ≤ R.frames ∧ 61 ≤ R.locals) (hn : As.length = 1) (hcat : (rest.map fun v => v.category).sum ≤ 8) (hf : cells ≤ R.cells ∧ slots ≤ R.slots) (hdg : decode cc pc = .ok (.invokevirtual 30, 3)) (kk : ∀ (H1 : Heap) (locs1 : List Loc), fI D cI cS Z K σ' H1 → va_S (aZ Z) H0 H1 locs1 → W p l e R s m args below meth c H1 locs1 cells slots Q (F0 m (pc + 3) ls rest)) : W p l e R s m args below meth c H locs cells slots Q (F0 m pc ls (As.reverse ++ .ref (Z + o) :: rest)) := mm_bv hS (mm_runV hx hb hml hts hown hG hI hsz hM (ly_at hL 0 rfl) (by decide) rfl rfl (mT8 _ (List.mem_of_getElem? (i := 21) rfl)) (mT8 _ (List.mem_of_getElem? (i := 4) rfl)) (mT8 _ (List.mem_of_getElem? (i := 5) rfl)) (mT2 _ (List.mem_of_getElem? (i := 2) rfl)) (mT8 _ (List.mem_of_getElem? (i := 6) rfl)) (by decide +kernel) hR rfl rfl hn rfl hcat hf hdg) kk
theorem kX0_34 (hx : p.tables.exec = Jvm.exec) (hb : c.code = cc) {nL : Nat} (hml : c.maxLocals = nL) (hts : ∀ w ∈ wsL_law, w.before args s = true) (hown : s.vm.findClass RX0 = some m.cls) (hG : gK D cI cS s) (hI : fI D cI cS Z K σ H) (hS : va_S (aZ Z) H0 H locs) (hsz : ls.size = nL) {o : Nat} (hL : ly K o lyChain) {As : List Value} {σ' : Nat → Nat → Int32} (hM : Met l yX0_takeBarsOf (wsT yX0_takeBarsOf cX0_takeBarsOf 2 none) { frames := 2, cells := 0, slots := 0, locals := 61 } (Pm D cI cS Z K (.ref (Z + o) :: As) σ) (Qv D cI cS Z K σ') 0 0 (aZ Z)) (hR : 3 ≤ R.frames ∧ 82 ≤ R.locals) (hn : As.length = 1) (hcat : (rest.map fun v => v.category).sum ≤ 8) (hf : cells ≤ R.cells ∧ slots ≤ R.slots) (hdg : decode cc pc = .ok (.invokevirtual 34, 3)) (kk : ∀ (H1 : Heap) (locs1 : List Loc), fI D cI cS Z K σ' H1 → va_S (aZ Z) H0 H1 locs1 → W p l e R s m args below meth c H1 locs1 cells slots Q (F0 m (pc + 3) ls rest)) : W p l e R s m args below meth c H locs cells slots Q (F0 m pc ls (As.reverse ++ .ref (Z + o) :: rest)) := mm_bv hS (mm_runV hx hb hml hts hown hG hI hsz hM (ly_at hL 0 rfl) (by decide) rfl rfl (mT8 _ (List.mem_of_getElem? (i := 17) rfl)) (mT8 _ (List.mem_of_getElem? (i := 18) rfl)) (mT8 _ (List.mem_of_getElem? (i := 19) rfl)) (mT2 _ (List.mem_of_getElem? (i := 15) rfl)) (mT8 _ (List.mem_of_getElem? (i := 20) rfl)) (by decide +kernel) hR rfl rfl hn rfl hcat hf hdg) kk
theorem kX0_41 (hx : p.tables.exec = Jvm.exec) (hb : c.code = cc) {nL : Nat} (hml : c.maxLocals = nL) (hts : ∀ w ∈ wsL_law, w.before args s = true) (hown : s.vm.findClass RX0 = some m.cls) (hG : gK D cI cS s) (hI : fI D cI cS Z K σ H) (hS : va_S (aZ Z) H0 H locs) (hsz : ls.size = nL) {As : List Value} {r : Int32} {σ' : Nat → Nat → Int32} (hM : Met l yX7_isBetween (wsT yX7_isBetween cX7_isBetween 3 (some .boolean)) { frames := 0, cells := 0, slots := 0, locals := 0 } (Pm D cI cS Z K As σ) (Qz D cI cS Z K r σ') 0 0 (aZ Z)) (hR : 1 ≤ R.frames ∧ 22 ≤ R.locals) (hn : As.length = 3) (hcat : (rest.map fun v => v.category).sum ≤ 8) (hf : cells ≤ R.cells ∧ slots ≤ R.slots) (hdg : decode cc pc = .ok (.invokestatic 41, 3)) (kk : (r = 0 ∨ r = 1) → ∀ (H1 : Heap) (locs1 : List Loc), fI D cI cS Z K σ' H1 → va_S (aZ Z) H0 H1 locs1 → W p l e R s m args below meth c H1 locs1 cells slots Q (F0 m (pc + 3) ls (.int r :: rest))) : W p l e R s m args below meth c H locs cells slots Q (F0 m pc ls (As.reverse ++ rest)) := mm_bz hS (mm_runSN (host := RX7) hx hb hml hts hown hG hI hsz hM (List.mem_of_getElem? (i := 6) rfl) (mT7 _ (List.mem_of_getElem? (i := 4) rfl)) (mT1 _ (List.mem_of_getElem? (i := 2) rfl)) (mT7 _ (List.mem_of_getElem? (i := 5) rfl)) (by decide +kernel) hR rfl rfl hn rfl hcat hf hdg) kk
theorem kX0_45 (hx : p.tables.exec = Jvm.exec) (hb : c.code = cc) {nL : Nat} (hml : c.maxLocals = nL) (hts : ∀ w ∈ wsL_law, w.before args s = true) (hown : s.vm.findClass RX0 = some m.cls) (hG : gK D cI cS s) (hI : fI D cI cS Z K σ H) (hS : va_S (aZ Z) H0 H locs) (hsz : ls.size = nL) {o : Nat} (hL : ly K o lyChain) {As : List Value} {r : Int32} {σ' : Nat → Nat → Int32} (hM : Met l yX0_isFull (wsT yX0_isFull cX0_isFull 1 (some .boolean)) { frames := 0, cells := 0, slots := 0, locals := 0 } (Pm D cI cS Z K (.ref (Z + o) :: As) σ) (Qz D cI cS Z K r σ') 0 0 (aZ Z)) (hR : 1 ≤ R.frames ∧ 20 ≤ R.locals) (hn : As.length = 0) (hcat : (rest.map fun v => v.category).sum ≤ 8) (hf : cells ≤ R.cells ∧ slots ≤ R.slots) (hdg : decode cc pc = .ok (.invokevirtual 45, 3)) (kk : (r = 0 ∨ r = 1) → ∀ (H1 : Heap) (locs1 : List Loc), fI D cI cS Z K σ' H1 → va_S (aZ Z) H0 H1 locs1 → W p l e R s m args below meth c H1 locs1 cells slots Q (F0 m (pc + 3) ls (.int r :: rest))) : W p l e R s m args below meth c H locs cells slots Q (F0 m pc ls (As.reverse ++ .ref (Z + o) :: rest)) := mm_bz hS (mm_runV hx hb hml hts hown hG hI hsz hM (ly_at hL 0 rfl) (by decide) rfl rfl (mT12 _ (List.mem_of_getElem? (i := 15) rfl)) (mT12 _ (List.mem_of_getElem? (i := 8) rfl)) (mT12 _ (List.mem_of_getElem? (i := 9) rfl)) (mT2 _ (List.mem_of_getElem? (i := 15) rfl)) (mT12 _ (List.mem_of_getElem? (i := 10) rfl)) (by decide +kernel) hR rfl rfl hn rfl hcat hf hdg) kk
theorem kX0_49 (hx : p.tables.exec = Jvm.exec) (hb : c.code = cc) {nL : Nat} (hml : c.maxLocals = nL) (hts : ∀ w ∈ wsL_law, w.before args s = true) (hown : s.vm.findClass RX0 = some m.cls) (hG : gK D cI cS s) (hI : fI D cI cS Z K σ H) (hS : va_S (aZ Z) H0 H locs) (hsz : ls.size = nL) {o : Nat} {n : Nat} (hL : ly K o (lyNum n)) {As : List Value} {σ' : Nat → Nat → Int32} (hM : Met l yX4_put (wsT yX4_put cX4_put 3 none) { frames := 0, cells := 0, slots := 0, locals := 0 } (Pm D cI cS Z K (.ref (Z + o) :: As) σ) (Qv D cI cS Z K σ') 0 0 (aZ Z)) (hR : 1 ≤ R.frames ∧ 22 ≤ R.locals) (hn : As.length = 2) (hcat : (rest.map fun v => v.category).sum ≤ 8) (hf : cells ≤ R.cells ∧ slots ≤ R.slots) (hdg : decode cc pc = .ok (.invokevirtual 49, 3)) (kk : ∀ (H1 : Heap) (locs1 : List Loc), fI D cI cS Z K σ' H1 → va_S (aZ Z) H0 H1 locs1 → W p l e R s m args below meth c H1 locs1 cells slots Q (F0 m (pc + 3) ls rest)) : W p l e R s m args below meth c H locs cells slots Q (F0 m pc ls (As.reverse ++ .ref (Z + o) :: rest)) := mm_bv hS (mm_runV hx hb hml hts hown hG hI hsz hM (ly_at hL 0 rfl) (by decide) rfl rfl (mT12 _ (List.mem_of_getElem? (i := 16) rfl)) (mT5 _ (List.mem_of_getElem? (i := 4) rfl)) (mT5 _ (List.mem_of_getElem? (i := 5) rfl)) (mT2 _ (List.mem_of_getElem? (i := 2) rfl)) (mT5 _ (List.mem_of_getElem? (i := 6) rfl)) (by decide +kernel) hR rfl rfl hn rfl hcat hf hdg) kk
theorem kX0_53 (hx : p.tables.exec = Jvm.exec) (hb : c.code = cc) {nL : Nat} (hml : c.maxLocals = nL) (hts : ∀ w ∈ wsL_law, w.before args s = true) (hown : s.vm.findClass RX0 = some m.cls) (hG : gK D cI cS s) (hI : fI D cI cS Z K σ H) (hS : va_S (aZ Z) H0 H locs) (hsz : ls.size = nL) {o : Nat} {n : Nat} (hL : ly K o (lyNum n)) {As : List Value} {r : Int32} {σ' : Nat → Nat → Int32} (hM : Met l yX4_at (wsT yX4_at cX4_at 2 (some .int)) { frames := 0, cells := 0, slots := 0, locals := 0 } (Pm D cI cS Z K (.ref (Z + o) :: As) σ) (Qi D cI cS Z K r σ') 0 0 (aZ Z)) (hR : 1 ≤ R.frames ∧ 21 ≤ R.locals) (hn : As.length = 1) (hcat : (rest.map fun v => v.category).sum ≤ 8) (hf : cells ≤ R.cells ∧ slots ≤ R.slots) (hdg : decode cc pc = .ok (.invokevirtual 53, 3)) (kk : ∀ (H1 : Heap) (locs1 : List Loc), fI D cI cS Z K σ' H1 → va_S (aZ Z) H0 H1 locs1 → W p l e R s m args below meth c H1 locs1 cells slots Q (F0 m (pc + 3) ls (.int r :: rest))) : W p l e R s m args below meth c H locs cells slots Q (F0 m pc ls (As.reverse ++ .ref (Z + o) :: rest)) := mm_bi hS (mm_runV hx hb hml hts hown hG hI hsz hM (ly_at hL 0 rfl) (by decide) rfl rfl (mT19 _ (List.mem_of_getElem? (i := 3) rfl)) (mT10 _ (List.mem_of_getElem? (i := 13) rfl)) (mT10 _ (List.mem_of_getElem? (i := 14) rfl)) (mT2 _ (List.mem_of_getElem? (i := 2) rfl)) (mT10 _ (List.mem_of_getElem? (i := 15) rfl)) (by decide +kernel) hR rfl rfl hn rfl hcat hf hdg) kk
theorem kX0_57 (hx : p.tables.exec = Jvm.exec) (hb : c.code = cc) {nL : Nat} (hml : c.maxLocals = nL) (hts : ∀ w ∈ wsL_law, w.before args s = true) (hown : s.vm.findClass RX0 = some m.cls) (hG : gK D cI cS s) (hI : fI D cI cS Z K σ H) (hS : va_S (aZ Z) H0 H locs) (hsz : ls.size = nL) {o : Nat} (hL : ly K o lyChain) {As : List Value} {σ' : Nat → Nat → Int32} (hM : Met l yX0_addLast (wsT yX0_addLast cX0_addLast 3 none) { frames := 1, cells := 0, slots := 0, locals := 22 } (Pm D cI cS Z K (.ref (Z + o) :: As) σ) (Qv D cI cS Z K σ') 0 0 (aZ Z)) (hR : 2 ≤ R.frames ∧ 44 ≤ R.locals) (hn : As.length = 2) (hcat : (rest.map fun v => v.category).sum ≤ 8) (hf : cells ≤ R.cells ∧ slots ≤ R.slots) (hdg : decode cc pc = .ok (.invokevirtual 57, 3)) (kk : ∀ (H1 : Heap) (locs1 : List Loc), fI D cI cS Z K σ' H1 → va_S (aZ Z) H0 H1 locs1 → W p l e R s m args below meth c H1 locs1 cells slots Q (F0 m (pc + 3) ls rest)) : W p l e R s m args below meth c H locs cells slots Q (F0 m pc ls (As.reverse ++ .ref (Z + o) :: rest)) := mm_bv hS (mm_runV hx hb hml hts hown hG hI hsz hM (ly_at hL 0 rfl) (by decide) rfl rfl (mT19 _ (List.mem_of_getElem? (i := 4) rfl)) (mT12 _ (List.mem_of_getElem? (i := 12) rfl)) (mT12 _ (List.mem_of_getElem? (i := 13) rfl)) (mT2 _ (List.mem_of_getElem? (i := 15) rfl)) (mT12 _ (List.mem_of_getElem? (i := 14) rfl)) (by decide +kernel) hR rfl rfl hn rfl hcat hf hdg) kk
theorem kX0_60 (hx : p.tables.exec = Jvm.exec) (hb : c.code = cc) {nL : Nat} (hml : c.maxLocals = nL) (hts : ∀ w ∈ wsL_law, w.before args s = true) (hown : s.vm.findClass RX0 = some m.cls) (hG : gK D cI cS s) (hI : fI D cI cS Z K σ H) (hS : va_S (aZ Z) H0 H locs) (hsz : ls.size = nL) {o : Nat} (hL : ly K o lyChain) {As : List Value} {r : Int32} {σ' : Nat → Nat → Int32} (hM : Met l yX0_barBelow (wsT yX0_barBelow cX0_barBelow 2 (some .int)) { frames := 0, cells := 0, slots := 0, locals := 0 } (Pm D cI cS Z K (.ref (Z + o) :: As) σ) (Qi D cI cS Z K r σ') 0 0 (aZ Z)) (hR : 1 ≤ R.frames ∧ 21 ≤ R.locals) (hn : As.length = 1) (hcat : (rest.map fun v => v.category).sum ≤ 8) (hf : cells ≤ R.cells ∧ slots ≤ R.slots) (hdg : decode cc pc = .ok (.invokevirtual 60, 3)) (kk : ∀ (H1 : Heap) (locs1 : List Loc), fI D cI cS Z K σ' H1 → va_S (aZ Z) H0 H1 locs1 → W p l e R s m args below meth c H1 locs1 cells slots Q (F0 m (pc + 3) ls (.int r :: rest))) : W p l e R s m args below meth c H locs cells slots Q (F0 m pc ls (As.reverse ++ .ref (Z + o) :: rest)) := mm_bi hS (mm_runV hx hb hml hts hown hG hI hsz hM (ly_at hL 0 rfl) (by decide) rfl rfl (mT23 _ (List.mem_of_getElem? (i := 4) rfl)) (mT23 _ (List.mem_of_getElem? (i := 5) rfl)) (mT23 _ (List.mem_of_getElem? (i := 6) rfl)) (mT2 _ (List.mem_of_getElem? (i := 15) rfl)) (mT23 _ (List.mem_of_getElem? (i := 7) rfl)) (by decide +kernel) hR rfl rfl hn rfl hcat hf hdg) kk
theorem kX0_63 (hx : p.tables.exec = Jvm.exec) (hb : c.code = cc) {nL : Nat} (hml : c.maxLocals = nL) (hts : ∀ w ∈ wsL_law, w.before args s = true) (hown : s.vm.findClass RX0 = some m.cls) (hG : gK D cI cS s) (hI : fI D cI cS Z K σ H) (hS : va_S (aZ Z) H0 H locs) (hsz : ls.size = nL) {o : Nat} (hL : ly K o lyChain) {As : List Value} {r : Int32} {σ' : Nat → Nat → Int32} (hM : Met l yX0_barAbove (wsT yX0_barAbove cX0_barAbove 2 (some .int)) { frames := 0, cells := 0, slots := 0, locals := 0 } (Pm D cI cS Z K (.ref (Z + o) :: As) σ) (Qi D cI cS Z K r σ') 0 0 (aZ Z)) (hR : 1 ≤ R.frames ∧ 21 ≤ R.locals) (hn : As.length = 1) (hcat : (rest.map fun v => v.category).sum ≤ 8) (hf : cells ≤ R.cells ∧ slots ≤ R.slots) (hdg : decode cc pc = .ok (.invokevirtual 63, 3)) (kk : ∀ (H1 : Heap) (locs1 : List Loc), fI D cI cS Z K σ' H1 → va_S (aZ Z) H0 H1 locs1 → W p l e R s m args below meth c H1 locs1 cells slots Q (F0 m (pc + 3) ls (.int r :: rest))) : W p l e R s m args below meth c H locs cells slots Q (F0 m pc ls (As.reverse ++ .ref (Z + o) :: rest)) := mm_bi hS (mm_runV hx hb hml hts hown hG hI hsz hM (ly_at hL 0 rfl) (by decide) rfl rfl (mT23 _ (List.mem_of_getElem? (i := 8) rfl)) (mT23 _ (List.mem_of_getElem? (i := 9) rfl)) (mT23 _ (List.mem_of_getElem? (i := 10) rfl)) (mT2 _ (List.mem_of_getElem? (i := 15) rfl)) (mT23 _ (List.mem_of_getElem? (i := 11) rfl)) (by decide +kernel) hR rfl rfl hn rfl hcat hf hdg) kk
theorem kX1_31 (hx : p.tables.exec = Jvm.exec) (hb : c.code = cc) {nL : Nat} (hml : c.maxLocals = nL) (hts : ∀ w ∈ wsL_law, w.before args s = true) (hown : s.vm.findClass RX1 = some m.cls) (hG : gK D cI cS s) (hI : fI D cI cS Z K σ H) (hS : va_S (aZ Z) H0 H locs) (hsz : ls.size = nL) {o : Nat} (hL : ly K o lyReader) {As : List Value} {r : Int32} {σ' : Nat → Nat → Int32} (hM : Met l yX1_isFull (wsT yX1_isFull cX1_isFull 1 (some .boolean)) { frames := 0, cells := 0, slots := 0, locals := 0 } (Pm D cI cS Z K (.ref (Z + o) :: As) σ) (Qz D cI cS Z K r σ') 0 0 (aZ Z)) (hR : 1 ≤ R.frames ∧ 20 ≤ R.locals) (hn : As.length = 0) (hcat : (rest.map fun v => v.category).sum ≤ 8) (hf : cells ≤ R.cells ∧ slots ≤ R.slots) (hdg : decode cc pc = .ok (.invokevirtual 31, 3)) (kk : (r = 0 ∨ r = 1) → ∀ (H1 : Heap) (locs1 : List Loc), fI D cI cS Z K σ' H1 → va_S (aZ Z) H0 H1 locs1 → W p l e R s m args below meth c H1 locs1 cells slots Q (F0 m (pc + 3) ls (.int r :: rest))) : W p l e R s m args below meth c H locs cells slots Q (F0 m pc ls (As.reverse ++ .ref (Z + o) :: rest)) := mm_bz hS (mm_runV hx hb hml hts hown hG hI hsz hM (ly_at hL 0 rfl) (by decide) rfl rfl (mT15 _ (List.mem_of_getElem? (i := 16) rfl)) (mT15 _ (List.mem_of_getElem? (i := 8) rfl)) (mT15 _ (List.mem_of_getElem? (i := 9) rfl)) (mT1 _ (List.mem_of_getElem? (i := 22) rfl)) (mT15 _ (List.mem_of_getElem? (i := 10) rfl)) (by decide +kernel) hR rfl rfl hn rfl hcat hf hdg) kk
theorem kX1_35 (hx : p.tables.exec = Jvm.exec) (hb : c.code = cc) {nL : Nat} (hml : c.maxLocals = nL) (hts : ∀ w ∈ wsL_law, w.before args s = true) (hown : s.vm.findClass RX1 = some m.cls) (hG : gK D cI cS s) (hI : fI D cI cS Z K σ H) (hS : va_S (aZ Z) H0 H locs) (hsz : ls.size = nL) {o : Nat} {n : Nat} (hL : ly K o (lyNum n)) {As : List Value} {σ' : Nat → Nat → Int32} (hM : Met l yX4_put (wsT yX4_put cX4_put 3 none) { frames := 0, cells := 0, slots := 0, locals := 0 } (Pm D cI cS Z K (.ref (Z + o) :: As) σ) (Qv D cI cS Z K σ') 0 0 (aZ Z)) (hR : 1 ≤ R.frames ∧ 22 ≤ R.locals) (hn : As.length = 2) (hcat : (rest.map fun v => v.category).sum ≤ 8) (hf : cells ≤ R.cells ∧ slots ≤ R.slots) (hdg : decode cc pc = .ok (.invokevirtual 35, 3)) (kk : ∀ (H1 : Heap) (locs1 : List Loc), fI D cI cS Z K σ' H1 → va_S (aZ Z) H0 H1 locs1 → W p l e R s m args below meth c H1 locs1 cells slots Q (F0 m (pc + 3) ls rest)) : W p l e R s m args below meth c H locs cells slots Q (F0 m pc ls (As.reverse ++ .ref (Z + o) :: rest)) := mm_bv hS (mm_runV hx hb hml hts hown hG hI hsz hM (ly_at hL 0 rfl) (by decide) rfl rfl (mT15 _ (List.mem_of_getElem? (i := 17) rfl)) (mT5 _ (List.mem_of_getElem? (i := 4) rfl)) (mT5 _ (List.mem_of_getElem? (i := 5) rfl)) (mT2 _ (List.mem_of_getElem? (i := 2) rfl)) (mT5 _ (List.mem_of_getElem? (i := 6) rfl)) (by decide +kernel) hR rfl rfl hn rfl hcat hf hdg) kk
theorem kX1_48 (hx : p.tables.exec = Jvm.exec) (hb : c.code = cc) {nL : Nat} (hml : c.maxLocals = nL) (hts : ∀ w ∈ wsL_law, w.before args s = true) (hown : s.vm.findClass RX1 = some m.cls) (hG : gK D cI cS s) (hI : fI D cI cS Z K σ H) (hS : va_S (aZ Z) H0 H locs) (hsz : ls.size = nL) {o : Nat} (hL : ly K o lyChain) {As : List Value} {σ' : Nat → Nat → Int32} (hM : Met l yX0_removeBars (wsT yX0_removeBars cX0_removeBars 1 none) { frames := 0, cells := 0, slots := 0, locals := 0 } (Pm D cI cS Z K (.ref (Z + o) :: As) σ) (Qv D cI cS Z K σ') 0 0 (aZ Z)) (hR : 1 ≤ R.frames ∧ 20 ≤ R.locals) (hn : As.length = 0) (hcat : (rest.map fun v => v.category).sum ≤ 8) (hf : cells ≤ R.cells ∧ slots ≤ R.slots) (hdg : decode cc pc = .ok (.invokevirtual 48, 3)) (kk : ∀ (H1 : Heap) (locs1 : List Loc), fI D cI cS Z K σ' H1 → va_S (aZ Z) H0 H1 locs1 → W p l e R s m args below meth c H1 locs1 cells slots Q (F0 m (pc + 3) ls rest)) : W p l e R s m args below meth c H locs cells slots Q (F0 m pc ls (As.reverse ++ .ref (Z + o) :: rest)) := mm_bv hS (mm_runV hx hb hml hts hown hG hI hsz hM (ly_at hL 0 rfl) (by decide) rfl rfl (mT16 _ (List.mem_of_getElem? (i := 21) rfl)) (mT5 _ (List.mem_of_getElem? (i := 8) rfl)) (mT5 _ (List.mem_of_getElem? (i := 9) rfl)) (mT2 _ (List.mem_of_getElem? (i := 15) rfl)) (mT5 _ (List.mem_of_getElem? (i := 10) rfl)) (by decide +kernel) hR rfl rfl hn rfl hcat hf hdg) kk
theorem kX1_51 (hx : p.tables.exec = Jvm.exec) (hb : c.code = cc) {nL : Nat} (hml : c.maxLocals = nL) (hts : ∀ w ∈ wsL_law, w.before args s = true) (hown : s.vm.findClass RX1 = some m.cls) (hG : gK D cI cS s) (hI : fI D cI cS Z K σ H) (hS : va_S (aZ Z) H0 H locs) (hsz : ls.size = nL) {o : Nat} (hL : ly K o lyReader) {As : List Value} {r : Int32} {σ' : Nat → Nat → Int32} (hM : Met l yX1_openBrackets (wsT yX1_openBrackets cX1_openBrackets 2 (some .boolean)) { frames := 4, cells := 0, slots := 0, locals := 84 } (Pm D cI cS Z K (.ref (Z + o) :: As) σ) (Qz D cI cS Z K r σ') 0 0 (aZ Z)) (hR : 5 ≤ R.frames ∧ 105 ≤ R.locals) (hn : As.length = 0) (hcat : (rest.map fun v => v.category).sum ≤ 8) (hf : cells ≤ R.cells ∧ slots ≤ R.slots) (hdg : decode cc pc = .ok (.invokevirtual 51, 3)) (kk : (r = 0 ∨ r = 1) → ∀ (H1 : Heap) (locs1 : List Loc), fI D cI cS Z K σ' H1 → va_S (aZ Z) H0 H1 locs1 → W p l e R s m args below meth c H1 locs1 cells slots Q (F0 m (pc + 3) ls (.int r :: rest))) : W p l e R s m args below meth c H locs cells slots Q (F0 m pc ls (As.reverse ++ .ref (Z + o) :: rest)) := mm_bz hS (mm_runV hx hb hml hts hown hG hI hsz hM (ly_at hL 0 rfl) (by decide) rfl rfl (mT16 _ (List.mem_of_getElem? (i := 22) rfl)) (mT16 _ (List.mem_of_getElem? (i := 23) rfl)) (mT17 _ (List.mem_of_getElem? (i := 0) rfl)) (mT1 _ (List.mem_of_getElem? (i := 22) rfl)) (mT17 _ (List.mem_of_getElem? (i := 1) rfl)) (by decide +kernel) hR rfl rfl hn rfl hcat hf hdg) kk
theorem kX1_54 (hx : p.tables.exec = Jvm.exec) (hb : c.code = cc) {nL : Nat} (hml : c.maxLocals = nL) (hts : ∀ w ∈ wsL_law, w.before args s = true) (hown : s.vm.findClass RX1 = some m.cls) (hG : gK D cI cS s) (hI : fI D cI cS Z K σ H) (hS : va_S (aZ Z) H0 H locs) (hsz : ls.size = nL) {o : Nat} (hL : ly K o lyReader) {As : List Value} {r : Int32} {σ' : Nat → Nat → Int32} (hM : Met l yX1_readBar (wsT yX1_readBar cX1_readBar 4 (some .boolean)) { frames := 4, cells := 0, slots := 0, locals := 85 } (Pm D cI cS Z K (.ref (Z + o) :: As) σ) (Qz D cI cS Z K r σ') 0 0 (aZ Z)) (hR : 5 ≤ R.frames ∧ 108 ≤ R.locals) (hn : As.length = 0) (hcat : (rest.map fun v => v.category).sum ≤ 8) (hf : cells ≤ R.cells ∧ slots ≤ R.slots) (hdg : decode cc pc = .ok (.invokevirtual 54, 3)) (kk : (r = 0 ∨ r = 1) → ∀ (H1 : Heap) (locs1 : List Loc), fI D cI cS Z K σ' H1 → va_S (aZ Z) H0 H1 locs1 → W p l e R s m args below meth c H1 locs1 cells slots Q (F0 m (pc + 3) ls (.int r :: rest))) : W p l e R s m args below meth c H locs cells slots Q (F0 m pc ls (As.reverse ++ .ref (Z + o) :: rest)) := mm_bz hS (mm_runV hx hb hml hts hown hG hI hsz hM (ly_at hL 0 rfl) (by decide) rfl rfl (mT18 _ (List.mem_of_getElem? (i := 5) rfl)) (mT18 _ (List.mem_of_getElem? (i := 6) rfl)) (mT18 _ (List.mem_of_getElem? (i := 7) rfl)) (mT1 _ (List.mem_of_getElem? (i := 22) rfl)) (mT18 _ (List.mem_of_getElem? (i := 8) rfl)) (by decide +kernel) hR rfl rfl hn rfl hcat hf hdg) kk
theorem kX1_57 (hx : p.tables.exec = Jvm.exec) (hb : c.code = cc) {nL : Nat} (hml : c.maxLocals = nL) (hts : ∀ w ∈ wsL_law, w.before args s = true) (hown : s.vm.findClass RX1 = some m.cls) (hG : gK D cI cS s) (hI : fI D cI cS Z K σ H) (hS : va_S (aZ Z) H0 H locs) (hsz : ls.size = nL) {o : Nat} (hL : ly K o lyReader) {As : List Value} {r : Int32} {σ' : Nat → Nat → Int32} (hM : Met l yX1_closeBrackets (wsT yX1_closeBrackets cX1_closeBrackets 1 (some .boolean)) { frames := 4, cells := 0, slots := 0, locals := 84 } (Pm D cI cS Z K (.ref (Z + o) :: As) σ) (Qz D cI cS Z K r σ') 0 0 (aZ Z)) (hR : 5 ≤ R.frames ∧ 104 ≤ R.locals) (hn : As.length = 0) (hcat : (rest.map fun v => v.category).sum ≤ 8) (hf : cells ≤ R.cells ∧ slots ≤ R.slots) (hdg : decode cc pc = .ok (.invokevirtual 57, 3)) (kk : (r = 0 ∨ r = 1) → ∀ (H1 : Heap) (locs1 : List Loc), fI D cI cS Z K σ' H1 → va_S (aZ Z) H0 H1 locs1 → W p l e R s m args below meth c H1 locs1 cells slots Q (F0 m (pc + 3) ls (.int r :: rest))) : W p l e R s m args below meth c H locs cells slots Q (F0 m pc ls (As.reverse ++ .ref (Z + o) :: rest)) := mm_bz hS (mm_runV hx hb hml hts hown hG hI hsz hM (ly_at hL 0 rfl) (by decide) rfl rfl (mT18 _ (List.mem_of_getElem? (i := 19) rfl)) (mT18 _ (List.mem_of_getElem? (i := 20) rfl)) (mT18 _ (List.mem_of_getElem? (i := 21) rfl)) (mT1 _ (List.mem_of_getElem? (i := 22) rfl)) (mT18 _ (List.mem_of_getElem? (i := 22) rfl)) (by decide +kernel) hR rfl rfl hn rfl hcat hf hdg) kk
theorem kX1_60 (hx : p.tables.exec = Jvm.exec) (hb : c.code = cc) {nL : Nat} (hml : c.maxLocals = nL) (hts : ∀ w ∈ wsL_law, w.before args s = true) (hown : s.vm.findClass RX1 = some m.cls) (hG : gK D cI cS s) (hI : fI D cI cS Z K σ H) (hS : va_S (aZ Z) H0 H locs) (hsz : ls.size = nL) {o : Nat} (hL : ly K o lyReader) {As : List Value} {r : Int32} {σ' : Nat → Nat → Int32} (hM : Met l yX1_take (wsT yX1_take cX1_take 2 (some .boolean)) { frames := 3, cells := 0, slots := 0, locals := 63 } (Pm D cI cS Z K (.ref (Z + o) :: As) σ) (Qz D cI cS Z K r σ') 0 0 (aZ Z)) (hR : 4 ≤ R.frames ∧ 84 ≤ R.locals) (hn : As.length = 1) (hcat : (rest.map fun v => v.category).sum ≤ 8) (hf : cells ≤ R.cells ∧ slots ≤ R.slots) (hdg : decode cc pc = .ok (.invokevirtual 60, 3)) (kk : (r = 0 ∨ r = 1) → ∀ (H1 : Heap) (locs1 : List Loc), fI D cI cS Z K σ' H1 → va_S (aZ Z) H0 H1 locs1 → W p l e R s m args below meth c H1 locs1 cells slots Q (F0 m (pc + 3) ls (.int r :: rest))) : W p l e R s m args below meth c H locs cells slots Q (F0 m pc ls (As.reverse ++ .ref (Z + o) :: rest)) := mm_bz hS (mm_runV hx hb hml hts hown hG hI hsz hM (ly_at hL 0 rfl) (by decide) rfl rfl (mT18 _ (List.mem_of_getElem? (i := 1) rfl)) (mT18 _ (List.mem_of_getElem? (i := 2) rfl)) (mT18 _ (List.mem_of_getElem? (i := 3) rfl)) (mT1 _ (List.mem_of_getElem? (i := 22) rfl)) (mT18 _ (List.mem_of_getElem? (i := 4) rfl)) (by decide +kernel) hR rfl rfl hn rfl hcat hf hdg) kk
theorem kX1_64 (hx : p.tables.exec = Jvm.exec) (hb : c.code = cc) {nL : Nat} (hml : c.maxLocals = nL) (hts : ∀ w ∈ wsL_law, w.before args s = true) (hown : s.vm.findClass RX1 = some m.cls) (hG : gK D cI cS s) (hI : fI D cI cS Z K σ H) (hS : va_S (aZ Z) H0 H locs) (hsz : ls.size = nL) {o : Nat} (hL : ly K o lyReader) {As : List Value} {r : Int32} {σ' : Nat → Nat → Int32} (hM : Met l yX1_peek (wsT yX1_peek cX1_peek 1 (some .int)) { frames := 2, cells := 0, slots := 0, locals := 43 } (Pm D cI cS Z K (.ref (Z + o) :: As) σ) (Qi D cI cS Z K r σ') 0 0 (aZ Z)) (hR : 3 ≤ R.frames ∧ 63 ≤ R.locals) (hn : As.length = 0) (hcat : (rest.map fun v => v.category).sum ≤ 8) (hf : cells ≤ R.cells ∧ slots ≤ R.slots) (hdg : decode cc pc = .ok (.invokevirtual 64, 3)) (kk : ∀ (H1 : Heap) (locs1 : List Loc), fI D cI cS Z K σ' H1 → va_S (aZ Z) H0 H1 locs1 → W p l e R s m args below meth c H1 locs1 cells slots Q (F0 m (pc + 3) ls (.int r :: rest))) : W p l e R s m args below meth c H locs cells slots Q (F0 m pc ls (As.reverse ++ .ref (Z + o) :: rest)) := mm_bi hS (mm_runV hx hb hml hts hown hG hI hsz hM (ly_at hL 0 rfl) (by decide) rfl rfl (mT17 _ (List.mem_of_getElem? (i := 8) rfl)) (mT17 _ (List.mem_of_getElem? (i := 9) rfl)) (mT17 _ (List.mem_of_getElem? (i := 10) rfl)) (mT1 _ (List.mem_of_getElem? (i := 22) rfl)) (mT17 _ (List.mem_of_getElem? (i := 11) rfl)) (by decide +kernel) hR rfl rfl hn rfl hcat hf hdg) kk
theorem kX1_68 (hx : p.tables.exec = Jvm.exec) (hb : c.code = cc) {nL : Nat} (hml : c.maxLocals = nL) (hts : ∀ w ∈ wsL_law, w.before args s = true) (hown : s.vm.findClass RX1 = some m.cls) (hG : gK D cI cS s) (hI : fI D cI cS Z K σ H) (hS : va_S (aZ Z) H0 H locs) (hsz : ls.size = nL) {o : Nat} (hL : ly K o lyReader) {As : List Value} {r : Int32} {σ' : Nat → Nat → Int32} (hM : Met l yX1_isNumberAhead (wsT yX1_isNumberAhead cX1_isNumberAhead 1 (some .boolean)) { frames := 3, cells := 0, slots := 0, locals := 63 } (Pm D cI cS Z K (.ref (Z + o) :: As) σ) (Qz D cI cS Z K r σ') 0 0 (aZ Z)) (hR : 4 ≤ R.frames ∧ 83 ≤ R.locals) (hn : As.length = 0) (hcat : (rest.map fun v => v.category).sum ≤ 8) (hf : cells ≤ R.cells ∧ slots ≤ R.slots) (hdg : decode cc pc = .ok (.invokevirtual 68, 3)) (kk : (r = 0 ∨ r = 1) → ∀ (H1 : Heap) (locs1 : List Loc), fI D cI cS Z K σ' H1 → va_S (aZ Z) H0 H1 locs1 → W p l e R s m args below meth c H1 locs1 cells slots Q (F0 m (pc + 3) ls (.int r :: rest))) : W p l e R s m args below meth c H locs cells slots Q (F0 m pc ls (As.reverse ++ .ref (Z + o) :: rest)) := mm_bz hS (mm_runV hx hb hml hts hown hG hI hsz hM (ly_at hL 0 rfl) (by decide) rfl rfl (mT17 _ (List.mem_of_getElem? (i := 4) rfl)) (mT17 _ (List.mem_of_getElem? (i := 5) rfl)) (mT17 _ (List.mem_of_getElem? (i := 6) rfl)) (mT1 _ (List.mem_of_getElem? (i := 22) rfl)) (mT17 _ (List.mem_of_getElem? (i := 7) rfl)) (by decide +kernel) hR rfl rfl hn rfl hcat hf hdg) kk
theorem kX1_77 (hx : p.tables.exec = Jvm.exec) (hb : c.code = cc) {nL : Nat} (hml : c.maxLocals = nL) (hts : ∀ w ∈ wsL_law, w.before args s = true) (hown : s.vm.findClass RX1 = some m.cls) (hG : gK D cI cS s) (hI : fI D cI cS Z K σ H) (hS : va_S (aZ Z) H0 H locs) (hsz : ls.size = nL) {o : Nat} (hL : ly K o lyChain) {As : List Value} {r : Int32} {σ' : Nat → Nat → Int32} (hM : Met l yX0_repeatFrom (wsT yX0_repeatFrom cX0_repeatFrom 6 (some .boolean)) { frames := 2, cells := 0, slots := 0, locals := 44 } (Pm D cI cS Z K (.ref (Z + o) :: As) σ) (Qz D cI cS Z K r σ') 0 0 (aZ Z)) (hR : 3 ≤ R.frames ∧ 69 ≤ R.locals) (hn : As.length = 2) (hcat : (rest.map fun v => v.category).sum ≤ 8) (hf : cells ≤ R.cells ∧ slots ≤ R.slots) (hdg : decode cc pc = .ok (.invokevirtual 77, 3)) (kk : (r = 0 ∨ r = 1) → ∀ (H1 : Heap) (locs1 : List Loc), fI D cI cS Z K σ' H1 → va_S (aZ Z) H0 H1 locs1 → W p l e R s m args below meth c H1 locs1 cells slots Q (F0 m (pc + 3) ls (.int r :: rest))) : W p l e R s m args below meth c H locs cells slots Q (F0 m pc ls (As.reverse ++ .ref (Z + o) :: rest)) := mm_bz hS (mm_runV hx hb hml hts hown hG hI hsz hM (ly_at hL 0 rfl) (by decide) rfl rfl (mT18 _ (List.mem_of_getElem? (i := 23) rfl)) (mT19 _ (List.mem_of_getElem? (i := 0) rfl)) (mT19 _ (List.mem_of_getElem? (i := 1) rfl)) (mT2 _ (List.mem_of_getElem? (i := 15) rfl)) (mT19 _ (List.mem_of_getElem? (i := 2) rfl)) (by decide +kernel) hR rfl rfl hn rfl hcat hf hdg) kk
theorem kX1_81 (hx : p.tables.exec = Jvm.exec) (hb : c.code = cc) {nL : Nat} (hml : c.maxLocals = nL) (hts : ∀ w ∈ wsL_law, w.before args s = true) (hown : s.vm.findClass RX1 = some m.cls) (hG : gK D cI cS s) (hI : fI D cI cS Z K σ H) (hS : va_S (aZ Z) H0 H locs) (hsz : ls.size = nL) {o : Nat} (hL : ly K o lyChain) {As : List Value} {r : Int32} {σ' : Nat → Nat → Int32} (hM : Met l yX0_isFull (wsT yX0_isFull cX0_isFull 1 (some .boolean)) { frames := 0, cells := 0, slots := 0, locals := 0 } (Pm D cI cS Z K (.ref (Z + o) :: As) σ) (Qz D cI cS Z K r σ') 0 0 (aZ Z)) (hR : 1 ≤ R.frames ∧ 20 ≤ R.locals) (hn : As.length = 0) (hcat : (rest.map fun v => v.category).sum ≤ 8) (hf : cells ≤ R.cells ∧ slots ≤ R.slots) (hdg : decode cc pc = .ok (.invokevirtual 81, 3)) (kk : (r = 0 ∨ r = 1) → ∀ (H1 : Heap) (locs1 : List Loc), fI D cI cS Z K σ' H1 → va_S (aZ Z) H0 H1 locs1 → W p l e R s m args below meth c H1 locs1 cells slots Q (F0 m (pc + 3) ls (.int r :: rest))) : W p l e R s m args below meth c H locs cells slots Q (F0 m pc ls (As.reverse ++ .ref (Z + o) :: rest)) := mm_bz hS (mm_runV hx hb hml hts hown hG hI hsz hM (ly_at hL 0 rfl) (by decide) rfl rfl (mT18 _ (List.mem_of_getElem? (i := 9) rfl)) (mT12 _ (List.mem_of_getElem? (i := 8) rfl)) (mT12 _ (List.mem_of_getElem? (i := 9) rfl)) (mT2 _ (List.mem_of_getElem? (i := 15) rfl)) (mT12 _ (List.mem_of_getElem? (i := 10) rfl)) (by decide +kernel) hR rfl rfl hn rfl hcat hf hdg) kk
theorem kX1_82 (hx : p.tables.exec = Jvm.exec) (hb : c.code = cc) {nL : Nat} (hml : c.maxLocals = nL) (hts : ∀ w ∈ wsL_law, w.before args s = true) (hown : s.vm.findClass RX1 = some m.cls) (hG : gK D cI cS s) (hI : fI D cI cS Z K σ H) (hS : va_S (aZ Z) H0 H locs) (hsz : ls.size = nL) {o : Nat} (hL : ly K o lyReader) {As : List Value} {r : Int32} {σ' : Nat → Nat → Int32} (hM : Met l yX1_isShaft (wsT yX1_isShaft cX1_isShaft 2 (some .boolean)) { frames := 1, cells := 0, slots := 0, locals := 22 } (Pm D cI cS Z K (.ref (Z + o) :: As) σ) (Qz D cI cS Z K r σ') 0 0 (aZ Z)) (hR : 2 ≤ R.frames ∧ 43 ≤ R.locals) (hn : As.length = 1) (hcat : (rest.map fun v => v.category).sum ≤ 8) (hf : cells ≤ R.cells ∧ slots ≤ R.slots) (hdg : decode cc pc = .ok (.invokevirtual 82, 3)) (kk : (r = 0 ∨ r = 1) → ∀ (H1 : Heap) (locs1 : List Loc), fI D cI cS Z K σ' H1 → va_S (aZ Z) H0 H1 locs1 → W p l e R s m args below meth c H1 locs1 cells slots Q (F0 m (pc + 3) ls (.int r :: rest))) : W p l e R s m args below meth c H locs cells slots Q (F0 m pc ls (As.reverse ++ .ref (Z + o) :: rest)) := mm_bz hS (mm_runV hx hb hml hts hown hG hI hsz hM (ly_at hL 0 rfl) (by decide) rfl rfl (mT18 _ (List.mem_of_getElem? (i := 10) rfl)) (mT18 _ (List.mem_of_getElem? (i := 11) rfl)) (mT18 _ (List.mem_of_getElem? (i := 12) rfl)) (mT1 _ (List.mem_of_getElem? (i := 22) rfl)) (mT18 _ (List.mem_of_getElem? (i := 13) rfl)) (by decide +kernel) hR rfl rfl hn rfl hcat hf hdg) kk
theorem kX1_85 (hx : p.tables.exec = Jvm.exec) (hb : c.code = cc) {nL : Nat} (hml : c.maxLocals = nL) (hts : ∀ w ∈ wsL_law, w.before args s = true) (hown : s.vm.findClass RX1 = some m.cls) (hG : gK D cI cS s) (hI : fI D cI cS Z K σ H) (hS : va_S (aZ Z) H0 H locs) (hsz : ls.size = nL) {o : Nat} (hL : ly K o lyReader) {As : List Value} {r : Int32} {σ' : Nat → Nat → Int32} (hM : Met l yX1_readShafts (wsT yX1_readShafts cX1_readShafts 3 (some .int)) { frames := 3, cells := 0, slots := 0, locals := 63 } (Pm D cI cS Z K (.ref (Z + o) :: As) σ) (Qi D cI cS Z K r σ') 0 0 (aZ Z)) (hR : 4 ≤ R.frames ∧ 85 ≤ R.locals) (hn : As.length = 0) (hcat : (rest.map fun v => v.category).sum ≤ 8) (hf : cells ≤ R.cells ∧ slots ≤ R.slots) (hdg : decode cc pc = .ok (.invokevirtual 85, 3)) (kk : ∀ (H1 : Heap) (locs1 : List Loc), fI D cI cS Z K σ' H1 → va_S (aZ Z) H0 H1 locs1 → W p l e R s m args below meth c H1 locs1 cells slots Q (F0 m (pc + 3) ls (.int r :: rest))) : W p l e R s m args below meth c H locs cells slots Q (F0 m pc ls (As.reverse ++ .ref (Z + o) :: rest)) := mm_bi hS (mm_runV hx hb hml hts hown hG hI hsz hM (ly_at hL 0 rfl) (by decide) rfl rfl (mT18 _ (List.mem_of_getElem? (i := 14) rfl)) (mT18 _ (List.mem_of_getElem? (i := 15) rfl)) (mT18 _ (List.mem_of_getElem? (i := 16) rfl)) (mT1 _ (List.mem_of_getElem? (i := 22) rfl)) (mT18 _ (List.mem_of_getElem? (i := 17) rfl)) (by decide +kernel) hR rfl rfl hn rfl hcat hf hdg) kk
theorem kX1_88 (hx : p.tables.exec = Jvm.exec) (hb : c.code = cc) {nL : Nat} (hml : c.maxLocals = nL) (hts : ∀ w ∈ wsL_law, w.before args s = true) (hown : s.vm.findClass RX1 = some m.cls) (hG : gK D cI cS s) (hI : fI D cI cS Z K σ H) (hS : va_S (aZ Z) H0 H locs) (hsz : ls.size = nL) {o : Nat} (hL : ly K o lyReader) {As : List Value} {r : Int32} {σ' : Nat → Nat → Int32} (hM : Met l yX1_isDigit (wsT yX1_isDigit cX1_isDigit 2 (some .boolean)) { frames := 1, cells := 0, slots := 0, locals := 22 } (Pm D cI cS Z K (.ref (Z + o) :: As) σ) (Qz D cI cS Z K r σ') 0 0 (aZ Z)) (hR : 2 ≤ R.frames ∧ 43 ≤ R.locals) (hn : As.length = 1) (hcat : (rest.map fun v => v.category).sum ≤ 8) (hf : cells ≤ R.cells ∧ slots ≤ R.slots) (hdg : decode cc pc = .ok (.invokevirtual 88, 3)) (kk : (r = 0 ∨ r = 1) → ∀ (H1 : Heap) (locs1 : List Loc), fI D cI cS Z K σ' H1 → va_S (aZ Z) H0 H1 locs1 → W p l e R s m args below meth c H1 locs1 cells slots Q (F0 m (pc + 3) ls (.int r :: rest))) : W p l e R s m args below meth c H locs cells slots Q (F0 m pc ls (As.reverse ++ .ref (Z + o) :: rest)) := mm_bz hS (mm_runV hx hb hml hts hown hG hI hsz hM (ly_at hL 0 rfl) (by decide) rfl rfl (mT17 _ (List.mem_of_getElem? (i := 21) rfl)) (mT17 _ (List.mem_of_getElem? (i := 22) rfl)) (mT17 _ (List.mem_of_getElem? (i := 23) rfl)) (mT1 _ (List.mem_of_getElem? (i := 22) rfl)) (mT18 _ (List.mem_of_getElem? (i := 0) rfl)) (by decide +kernel) hR rfl rfl hn rfl hcat hf hdg) kk
theorem kX1_91 (hx : p.tables.exec = Jvm.exec) (hb : c.code = cc) {nL : Nat} (hml : c.maxLocals = nL) (hts : ∀ w ∈ wsL_law, w.before args s = true) (hown : s.vm.findClass RX1 = some m.cls) (hG : gK D cI cS s) (hI : fI D cI cS Z K σ H) (hS : va_S (aZ Z) H0 H locs) (hsz : ls.size = nL) {o : Nat} (hL : ly K o lyChain) {As : List Value} {σ' : Nat → Nat → Int32} (hM : Met l yX0_addLast (wsT yX0_addLast cX0_addLast 3 none) { frames := 1, cells := 0, slots := 0, locals := 22 } (Pm D cI cS Z K (.ref (Z + o) :: As) σ) (Qv D cI cS Z K σ') 0 0 (aZ Z)) (hR : 2 ≤ R.frames ∧ 44 ≤ R.locals) (hn : As.length = 2) (hcat : (rest.map fun v => v.category).sum ≤ 8) (hf : cells ≤ R.cells ∧ slots ≤ R.slots) (hdg : decode cc pc = .ok (.invokevirtual 91, 3)) (kk : ∀ (H1 : Heap) (locs1 : List Loc), fI D cI cS Z K σ' H1 → va_S (aZ Z) H0 H1 locs1 → W p l e R s m args below meth c H1 locs1 cells slots Q (F0 m (pc + 3) ls rest)) : W p l e R s m args below meth c H locs cells slots Q (F0 m pc ls (As.reverse ++ .ref (Z + o) :: rest)) := mm_bv hS (mm_runV hx hb hml hts hown hG hI hsz hM (ly_at hL 0 rfl) (by decide) rfl rfl (mT18 _ (List.mem_of_getElem? (i := 18) rfl)) (mT12 _ (List.mem_of_getElem? (i := 12) rfl)) (mT12 _ (List.mem_of_getElem? (i := 13) rfl)) (mT2 _ (List.mem_of_getElem? (i := 15) rfl)) (mT12 _ (List.mem_of_getElem? (i := 14) rfl)) (by decide +kernel) hR rfl rfl hn rfl hcat hf hdg) kk
theorem kX1_94 (hx : p.tables.exec = Jvm.exec) (hb : c.code = cc) {nL : Nat} (hml : c.maxLocals = nL) (hts : ∀ w ∈ wsL_law, w.before args s = true) (hown : s.vm.findClass RX1 = some m.cls) (hG : gK D cI cS s) (hI : fI D cI cS Z K σ H) (hS : va_S (aZ Z) H0 H locs) (hsz : ls.size = nL) {o : Nat} (hL : ly K o lyReader) {As : List Value} {r : Int32} {σ' : Nat → Nat → Int32} (hM : Met l yX1_placeBehindSpaces (wsT yX1_placeBehindSpaces cX1_placeBehindSpaces 3 (some .int)) { frames := 1, cells := 0, slots := 0, locals := 21 } (Pm D cI cS Z K (.ref (Z + o) :: As) σ) (Qi D cI cS Z K r σ') 0 0 (aZ Z)) (hR : 2 ≤ R.frames ∧ 43 ≤ R.locals) (hn : As.length = 1) (hcat : (rest.map fun v => v.category).sum ≤ 8) (hf : cells ≤ R.cells ∧ slots ≤ R.slots) (hdg : decode cc pc = .ok (.invokevirtual 94, 3)) (kk : ∀ (H1 : Heap) (locs1 : List Loc), fI D cI cS Z K σ' H1 → va_S (aZ Z) H0 H1 locs1 → W p l e R s m args below meth c H1 locs1 cells slots Q (F0 m (pc + 3) ls (.int r :: rest))) : W p l e R s m args below meth c H locs cells slots Q (F0 m pc ls (As.reverse ++ .ref (Z + o) :: rest)) := mm_bi hS (mm_runV hx hb hml hts hown hG hI hsz hM (ly_at hL 0 rfl) (by decide) rfl rfl (mT17 _ (List.mem_of_getElem? (i := 12) rfl)) (mT17 _ (List.mem_of_getElem? (i := 13) rfl)) (mT17 _ (List.mem_of_getElem? (i := 14) rfl)) (mT1 _ (List.mem_of_getElem? (i := 22) rfl)) (mT17 _ (List.mem_of_getElem? (i := 15) rfl)) (by decide +kernel) hR rfl rfl hn rfl hcat hf hdg) kk
theorem kX1_98 (hx : p.tables.exec = Jvm.exec) (hb : c.code = cc) {nL : Nat} (hml : c.maxLocals = nL) (hts : ∀ w ∈ wsL_law, w.before args s = true) (hown : s.vm.findClass RX1 = some m.cls) (hG : gK D cI cS s) (hI : fI D cI cS Z K σ H) (hS : va_S (aZ Z) H0 H locs) (hsz : ls.size = nL) {o : Nat} (hL : ly K o lyReader) {As : List Value} {r : Int32} {σ' : Nat → Nat → Int32} (hM : Met l yX1_characterAt (wsT yX1_characterAt cX1_characterAt 2 (some .int)) { frames := 1, cells := 0, slots := 0, locals := 21 } (Pm D cI cS Z K (.ref (Z + o) :: As) σ) (Qi D cI cS Z K r σ') 0 0 (aZ Z)) (hR : 2 ≤ R.frames ∧ 42 ≤ R.locals) (hn : As.length = 1) (hcat : (rest.map fun v => v.category).sum ≤ 8) (hf : cells ≤ R.cells ∧ slots ≤ R.slots) (hdg : decode cc pc = .ok (.invokevirtual 98, 3)) (kk : ∀ (H1 : Heap) (locs1 : List Loc), fI D cI cS Z K σ' H1 → va_S (aZ Z) H0 H1 locs1 → W p l e R s m args below meth c H1 locs1 cells slots Q (F0 m (pc + 3) ls (.int r :: rest))) : W p l e R s m args below meth c H locs cells slots Q (F0 m pc ls (As.reverse ++ .ref (Z + o) :: rest)) := mm_bi hS (mm_runV hx hb hml hts hown hG hI hsz hM (ly_at hL 0 rfl) (by decide) rfl rfl (mT17 _ (List.mem_of_getElem? (i := 17) rfl)) (mT17 _ (List.mem_of_getElem? (i := 18) rfl)) (mT17 _ (List.mem_of_getElem? (i := 19) rfl)) (mT1 _ (List.mem_of_getElem? (i := 22) rfl)) (mT17 _ (List.mem_of_getElem? (i := 20) rfl)) (by decide +kernel) hR rfl rfl hn rfl hcat hf hdg) kk
theorem kX1_101 (hx : p.tables.exec = Jvm.exec) (hb : c.code = cc) {nL : Nat} (hml : c.maxLocals = nL) (hts : ∀ w ∈ wsL_law, w.before args s = true) (hown : s.vm.findClass RX1 = some m.cls) (hG : gK D cI cS s) (hI : fI D cI cS Z K σ H) (hS : va_S (aZ Z) H0 H locs) (hsz : ls.size = nL) {As : List Value} {r : Int32} {σ' : Nat → Nat → Int32} (hM : Met l yX7_isBetween (wsT yX7_isBetween cX7_isBetween 3 (some .boolean)) { frames := 0, cells := 0, slots := 0, locals := 0 } (Pm D cI cS Z K As σ) (Qz D cI cS Z K r σ') 0 0 (aZ Z)) (hR : 1 ≤ R.frames ∧ 22 ≤ R.locals) (hn : As.length = 3) (hcat : (rest.map fun v => v.category).sum ≤ 8) (hf : cells ≤ R.cells ∧ slots ≤ R.slots) (hdg : decode cc pc = .ok (.invokestatic 101, 3)) (kk : (r = 0 ∨ r = 1) → ∀ (H1 : Heap) (locs1 : List Loc), fI D cI cS Z K σ' H1 → va_S (aZ Z) H0 H1 locs1 → W p l e R s m args below meth c H1 locs1 cells slots Q (F0 m (pc + 3) ls (.int r :: rest))) : W p l e R s m args below meth c H locs cells slots Q (F0 m pc ls (As.reverse ++ rest)) := mm_bz hS (mm_runSN (host := RX7) hx hb hml hts hown hG hI hsz hM (List.mem_of_getElem? (i := 7) rfl) (mT7 _ (List.mem_of_getElem? (i := 4) rfl)) (mT1 _ (List.mem_of_getElem? (i := 2) rfl)) (mT7 _ (List.mem_of_getElem? (i := 5) rfl)) (by decide +kernel) hR rfl rfl hn rfl hcat hf hdg) kk
theorem kX1_105 (hx : p.tables.exec = Jvm.exec) (hb : c.code = cc) {nL : Nat} (hml : c.maxLocals = nL) (hts : ∀ w ∈ wsL_law, w.before args s = true) (hown : s.vm.findClass RX1 = some m.cls) (hG : gK D cI cS s) (hI : fI D cI cS Z K σ H) (hS : va_S (aZ Z) H0 H locs) (hsz : ls.size = nL) {o : Nat} {n : Nat} (hL : ly K o (lyNum n)) {As : List Value} {r : Int32} {σ' : Nat → Nat → Int32} (hM : Met l yX4_at (wsT yX4_at cX4_at 2 (some .int)) { frames := 0, cells := 0, slots := 0, locals := 0 } (Pm D cI cS Z K (.ref (Z + o) :: As) σ) (Qi D cI cS Z K r σ') 0 0 (aZ Z)) (hR : 1 ≤ R.frames ∧ 21 ≤ R.locals) (hn : As.length = 1) (hcat : (rest.map fun v => v.category).sum ≤ 8) (hf : cells ≤ R.cells ∧ slots ≤ R.slots) (hdg : decode cc pc = .ok (.invokevirtual 105, 3)) (kk : ∀ (H1 : Heap) (locs1 : List Loc), fI D cI cS Z K σ' H1 → va_S (aZ Z) H0 H1 locs1 → W p l e R s m args below meth c H1 locs1 cells slots Q (F0 m (pc + 3) ls (.int r :: rest))) : W p l e R s m args below meth c H locs cells slots Q (F0 m pc ls (As.reverse ++ .ref (Z + o) :: rest)) := mm_bi hS (mm_runV hx hb hml hts hown hG hI hsz hM (ly_at hL 0 rfl) (by decide) rfl rfl (mT17 _ (List.mem_of_getElem? (i := 16) rfl)) (mT10 _ (List.mem_of_getElem? (i := 13) rfl)) (mT10 _ (List.mem_of_getElem? (i := 14) rfl)) (mT2 _ (List.mem_of_getElem? (i := 2) rfl)) (mT10 _ (List.mem_of_getElem? (i := 15) rfl)) (by decide +kernel) hR rfl rfl hn rfl hcat hf hdg) kk
theorem kX2_39 (hx : p.tables.exec = Jvm.exec) (hb : c.code = cc) {nL : Nat} (hml : c.maxLocals = nL) (hts : ∀ w ∈ wsL_law, w.before args s = true) (hown : s.vm.findClass RX2 = some m.cls) (hG : gK D cI cS s) (hI : fI D cI cS Z K σ H) (hS : va_S (aZ Z) H0 H locs) (hsz : ls.size = nL) {o : Nat} {n : Nat} (hL : ly K o (lyNum n)) {As : List Value} {σ' : Nat → Nat → Int32} (hM : Met l yX4_copyFrom (wsT yX4_copyFrom cX4_copyFrom 2 none) { frames := 1, cells := 0, slots := 0, locals := 40 } (Pm D cI cS Z K (.ref (Z + o) :: As) σ) (Qv D cI cS Z K σ') 0 0 (aZ Z)) (hR : 2 ≤ R.frames ∧ 61 ≤ R.locals) (hn : As.length = 1) (hcat : (rest.map fun v => v.category).sum ≤ 8) (hf : cells ≤ R.cells ∧ slots ≤ R.slots) (hdg : decode cc pc = .ok (.invokevirtual 39, 3)) (kk : ∀ (H1 : Heap) (locs1 : List Loc), fI D cI cS Z K σ' H1 → va_S (aZ Z) H0 H1 locs1 → W p l e R s m args below meth c H1 locs1 cells slots Q (F0 m (pc + 3) ls rest)) : W p l e R s m args below meth c H locs cells slots Q (F0 m pc ls (As.reverse ++ .ref (Z + o) :: rest)) := mm_bv hS (mm_runV hx hb hml hts hown hG hI hsz hM (ly_at hL 0 rfl) (by decide) rfl rfl (mT9 _ (List.mem_of_getElem? (i := 4) rfl)) (mT8 _ (List.mem_of_getElem? (i := 4) rfl)) (mT8 _ (List.mem_of_getElem? (i := 5) rfl)) (mT2 _ (List.mem_of_getElem? (i := 2) rfl)) (mT8 _ (List.mem_of_getElem? (i := 6) rfl)) (by decide +kernel) hR rfl rfl hn rfl hcat hf hdg) kk
theorem kX2_43 (hx : p.tables.exec = Jvm.exec) (hb : c.code = cc) {nL : Nat} (hml : c.maxLocals = nL) (hts : ∀ w ∈ wsL_law, w.before args s = true) (hown : s.vm.findClass RX2 = some m.cls) (hG : gK D cI cS s) (hI : fI D cI cS Z K σ H) (hS : va_S (aZ Z) H0 H locs) (hsz : ls.size = nL) {As : List Value} {r : Int32} {σ' : Nat → Nat → Int32} (hM : Met l yX7_isBetween (wsT yX7_isBetween cX7_isBetween 3 (some .boolean)) { frames := 0, cells := 0, slots := 0, locals := 0 } (Pm D cI cS Z K As σ) (Qz D cI cS Z K r σ') 0 0 (aZ Z)) (hR : 1 ≤ R.frames ∧ 22 ≤ R.locals) (hn : As.length = 3) (hcat : (rest.map fun v => v.category).sum ≤ 8) (hf : cells ≤ R.cells ∧ slots ≤ R.slots) (hdg : decode cc pc = .ok (.invokestatic 43, 3)) (kk : (r = 0 ∨ r = 1) → ∀ (H1 : Heap) (locs1 : List Loc), fI D cI cS Z K σ' H1 → va_S (aZ Z) H0 H1 locs1 → W p l e R s m args below meth c H1 locs1 cells slots Q (F0 m (pc + 3) ls (.int r :: rest))) : W p l e R s m args below meth c H locs cells slots Q (F0 m pc ls (As.reverse ++ rest)) := mm_bz hS (mm_runSN (host := RX7) hx hb hml hts hown hG hI hsz hM (List.mem_of_getElem? (i := 11) rfl) (mT7 _ (List.mem_of_getElem? (i := 4) rfl)) (mT1 _ (List.mem_of_getElem? (i := 2) rfl)) (mT7 _ (List.mem_of_getElem? (i := 5) rfl)) (by decide +kernel) hR rfl rfl hn rfl hcat hf hdg) kk
theorem kX2_47 (hx : p.tables.exec = Jvm.exec) (hb : c.code = cc) {nL : Nat} (hml : c.maxLocals = nL) (hts : ∀ w ∈ wsL_law, w.before args s = true) (hown : s.vm.findClass RX2 = some m.cls) (hG : gK D cI cS s) (hI : fI D cI cS Z K σ H) (hS : va_S (aZ Z) H0 H locs) (hsz : ls.size = nL) {o : Nat} {n : Nat} (hL : ly K o (lyNum n)) {As : List Value} {r : Int32} {σ' : Nat → Nat → Int32} (hM : Met l yX4_at (wsT yX4_at cX4_at 2 (some .int)) { frames := 0, cells := 0, slots := 0, locals := 0 } (Pm D cI cS Z K (.ref (Z + o) :: As) σ) (Qi D cI cS Z K r σ') 0 0 (aZ Z)) (hR : 1 ≤ R.frames ∧ 21 ≤ R.locals) (hn : As.length = 1) (hcat : (rest.map fun v => v.category).sum ≤ 8) (hf : cells ≤ R.cells ∧ slots ≤ R.slots) (hdg : decode cc pc = .ok (.invokevirtual 47, 3)) (kk : ∀ (H1 : Heap) (locs1 : List Loc), fI D cI cS Z K σ' H1 → va_S (aZ Z) H0 H1 locs1 → W p l e R s m args below meth c H1 locs1 cells slots Q (F0 m (pc + 3) ls (.int r :: rest))) : W p l e R s m args below meth c H locs cells slots Q (F0 m pc ls (As.reverse ++ .ref (Z + o) :: rest)) := mm_bi hS (mm_runV hx hb hml hts hown hG hI hsz hM (ly_at hL 0 rfl) (by decide) rfl rfl (mT21 _ (List.mem_of_getElem? (i := 8) rfl)) (mT10 _ (List.mem_of_getElem? (i := 13) rfl)) (mT10 _ (List.mem_of_getElem? (i := 14) rfl)) (mT2 _ (List.mem_of_getElem? (i := 2) rfl)) (mT10 _ (List.mem_of_getElem? (i := 15) rfl)) (by decide +kernel) hR rfl rfl hn rfl hcat hf hdg) kk
theorem kX2_51 (hx : p.tables.exec = Jvm.exec) (hb : c.code = cc) {nL : Nat} (hml : c.maxLocals = nL) (hts : ∀ w ∈ wsL_law, w.before args s = true) (hown : s.vm.findClass RX2 = some m.cls) (hG : gK D cI cS s) (hI : fI D cI cS Z K σ H) (hS : va_S (aZ Z) H0 H locs) (hsz : ls.size = nL) {o : Nat} (hL : ly K o lyCloth) {As : List Value} {r : Int32} {σ' : Nat → Nat → Int32} (hM : Met l yX2_wrongEnds (wsT yX2_wrongEnds cX2_wrongEnds 2 (some .int)) { frames := 1, cells := 0, slots := 0, locals := 21 } (Pm D cI cS Z K (.ref (Z + o) :: As) σ) (Qi D cI cS Z K r σ') 0 0 (aZ Z)) (hR : 2 ≤ R.frames ∧ 42 ≤ R.locals) (hn : As.length = 1) (hcat : (rest.map fun v => v.category).sum ≤ 8) (hf : cells ≤ R.cells ∧ slots ≤ R.slots) (hdg : decode cc pc = .ok (.invokevirtual 51, 3)) (kk : ∀ (H1 : Heap) (locs1 : List Loc), fI D cI cS Z K σ' H1 → va_S (aZ Z) H0 H1 locs1 → W p l e R s m args below meth c H1 locs1 cells slots Q (F0 m (pc + 3) ls (.int r :: rest))) : W p l e R s m args below meth c H locs cells slots Q (F0 m pc ls (As.reverse ++ .ref (Z + o) :: rest)) := mm_bi hS (mm_runV hx hb hml hts hown hG hI hsz hM (ly_at hL 0 rfl) (by decide) rfl rfl (mT27 _ (List.mem_of_getElem? (i := 13) rfl)) (mT27 _ (List.mem_of_getElem? (i := 14) rfl)) (mT27 _ (List.mem_of_getElem? (i := 15) rfl)) (mT2 _ (List.mem_of_getElem? (i := 21) rfl)) (mT27 _ (List.mem_of_getElem? (i := 16) rfl)) (by decide +kernel) hR rfl rfl hn rfl hcat hf hdg) kk
theorem kX2_54 (hx : p.tables.exec = Jvm.exec) (hb : c.code = cc) {nL : Nat} (hml : c.maxLocals = nL) (hts : ∀ w ∈ wsL_law, w.before args s = true) (hown : s.vm.findClass RX2 = some m.cls) (hG : gK D cI cS s) (hI : fI D cI cS Z K σ H) (hS : va_S (aZ Z) H0 H locs) (hsz : ls.size = nL) {As : List Value} {r : Int32} {σ' : Nat → Nat → Int32} (hM : Met l yJ6_bitCount_0f7a4 (wsT yJ6_bitCount_0f7a4 cJ6_bitCount_0f7a4 1 (some .int)) { frames := 0, cells := 0, slots := 0, locals := 0 } (Pm D cI cS Z K As σ) (Qi D cI cS Z K r σ') 0 0 (aZ Z)) (hR : 1 ≤ R.frames ∧ 20 ≤ R.locals) (hn : As.length = 1) (hcat : (rest.map fun v => v.category).sum ≤ 8) (hf : cells ≤ R.cells ∧ slots ≤ R.slots) (hdg : decode cc pc = .ok (.invokestatic 54, 3)) (kk : ∀ (H1 : Heap) (locs1 : List Loc), fI D cI cS Z K σ' H1 → va_S (aZ Z) H0 H1 locs1 → W p l e R s m args below meth c H1 locs1 cells slots Q (F0 m (pc + 3) ls (.int r :: rest))) : W p l e R s m args below meth c H locs cells slots Q (F0 m pc ls (As.reverse ++ rest)) := mm_bi hS (mm_runS hx hb hml hts hown hG hI hsz hM (mT27 _ (List.mem_of_getElem? (i := 17) rfl)) (mT27 _ (List.mem_of_getElem? (i := 18) rfl)) (mT27 _ (List.mem_of_getElem? (i := 19) rfl)) (mT27 _ (List.mem_of_getElem? (i := 20) rfl)) (by decide +kernel) hR rfl rfl hn rfl hcat hf hdg) kk
theorem kX2_59 (hx : p.tables.exec = Jvm.exec) (hb : c.code = cc) {nL : Nat} (hml : c.maxLocals = nL) (hts : ∀ w ∈ wsL_law, w.before args s = true) (hown : s.vm.findClass RX2 = some m.cls) (hG : gK D cI cS s) (hI : fI D cI cS Z K σ H) (hS : va_S (aZ Z) H0 H locs) (hsz : ls.size = nL) {As : List Value} {r : Int32} {σ' : Nat → Nat → Int32} (hM : Met l yX7_bitOf (wsT yX7_bitOf cX7_bitOf 2 (some .int)) { frames := 0, cells := 0, slots := 0, locals := 0 } (Pm D cI cS Z K As σ) (Qi D cI cS Z K r σ') 0 0 (aZ Z)) (hR : 1 ≤ R.frames ∧ 21 ≤ R.locals) (hn : As.length = 2) (hcat : (rest.map fun v => v.category).sum ≤ 8) (hf : cells ≤ R.cells ∧ slots ≤ R.slots) (hdg : decode cc pc = .ok (.invokestatic 59, 3)) (kk : ∀ (H1 : Heap) (locs1 : List Loc), fI D cI cS Z K σ' H1 → va_S (aZ Z) H0 H1 locs1 → W p l e R s m args below meth c H1 locs1 cells slots Q (F0 m (pc + 3) ls (.int r :: rest))) : W p l e R s m args below meth c H locs cells slots Q (F0 m pc ls (As.reverse ++ rest)) := mm_bi hS (mm_runSN (host := RX7) hx hb hml hts hown hG hI hsz hM (List.mem_of_getElem? (i := 10) rfl) (mT22 _ (List.mem_of_getElem? (i := 7) rfl)) (mT1 _ (List.mem_of_getElem? (i := 2) rfl)) (mT22 _ (List.mem_of_getElem? (i := 8) rfl)) (by decide +kernel) hR rfl rfl hn rfl hcat hf hdg) kk
theorem kX2_63 (hx : p.tables.exec = Jvm.exec) (hb : c.code = cc) {nL : Nat} (hml : c.maxLocals = nL) (hts : ∀ w ∈ wsL_law, w.before args s = true) (hown : s.vm.findClass RX2 = some m.cls) (hG : gK D cI cS s) (hI : fI D cI cS Z K σ H) (hS : va_S (aZ Z) H0 H locs) (hsz : ls.size = nL) {o : Nat} (hL : ly K o lyCloth) {As : List Value} {r : Int32} {σ' : Nat → Nat → Int32} (hM : Met l yX2_sideAt (wsT yX2_sideAt cX2_sideAt 3 (some .int)) { frames := 1, cells := 0, slots := 0, locals := 21 } (Pm D cI cS Z K (.ref (Z + o) :: As) σ) (Qi D cI cS Z K r σ') 0 0 (aZ Z)) (hR : 2 ≤ R.frames ∧ 43 ≤ R.locals) (hn : As.length = 2) (hcat : (rest.map fun v => v.category).sum ≤ 8) (hf : cells ≤ R.cells ∧ slots ≤ R.slots) (hdg : decode cc pc = .ok (.invokevirtual 63, 3)) (kk : ∀ (H1 : Heap) (locs1 : List Loc), fI D cI cS Z K σ' H1 → va_S (aZ Z) H0 H1 locs1 → W p l e R s m args below meth c H1 locs1 cells slots Q (F0 m (pc + 3) ls (.int r :: rest))) : W p l e R s m args below meth c H locs cells slots Q (F0 m pc ls (As.reverse ++ .ref (Z + o) :: rest)) := mm_bi hS (mm_runV hx hb hml hts hown hG hI hsz hM (ly_at hL 0 rfl) (by decide) rfl rfl (mT29 _ (List.mem_of_getElem? (i := 12) rfl)) (mT29 _ (List.mem_of_getElem? (i := 13) rfl)) (mT29 _ (List.mem_of_getElem? (i := 14) rfl)) (mT2 _ (List.mem_of_getElem? (i := 21) rfl)) (mT29 _ (List.mem_of_getElem? (i := 15) rfl)) (by decide +kernel) hR rfl rfl hn rfl hcat hf hdg) kk
theorem kX2_66 (hx : p.tables.exec = Jvm.exec) (hb : c.code = cc) {nL : Nat} (hml : c.maxLocals = nL) (hts : ∀ w ∈ wsL_law, w.before args s = true) (hown : s.vm.findClass RX2 = some m.cls) (hG : gK D cI cS s) (hI : fI D cI cS Z K σ H) (hS : va_S (aZ Z) H0 H locs) (hsz : ls.size = nL) {o : Nat} (hL : ly K o lyCloth) {As : List Value} {r : Int32} {σ' : Nat → Nat → Int32} (hM : Met l yX2_sideAlong (wsT yX2_sideAlong cX2_sideAlong 4 (some .int)) { frames := 2, cells := 0, slots := 0, locals := 43 } (Pm D cI cS Z K (.ref (Z + o) :: As) σ) (Qi D cI cS Z K r σ') 0 0 (aZ Z)) (hR : 3 ≤ R.frames ∧ 66 ≤ R.locals) (hn : As.length = 3) (hcat : (rest.map fun v => v.category).sum ≤ 8) (hf : cells ≤ R.cells ∧ slots ≤ R.slots) (hdg : decode cc pc = .ok (.invokevirtual 66, 3)) (kk : ∀ (H1 : Heap) (locs1 : List Loc), fI D cI cS Z K σ' H1 → va_S (aZ Z) H0 H1 locs1 → W p l e R s m args below meth c H1 locs1 cells slots Q (F0 m (pc + 3) ls (.int r :: rest))) : W p l e R s m args below meth c H locs cells slots Q (F0 m pc ls (As.reverse ++ .ref (Z + o) :: rest)) := mm_bi hS (mm_runV hx hb hml hts hown hG hI hsz hM (ly_at hL 0 rfl) (by decide) rfl rfl (mT29 _ (List.mem_of_getElem? (i := 8) rfl)) (mT29 _ (List.mem_of_getElem? (i := 9) rfl)) (mT29 _ (List.mem_of_getElem? (i := 10) rfl)) (mT2 _ (List.mem_of_getElem? (i := 21) rfl)) (mT29 _ (List.mem_of_getElem? (i := 11) rfl)) (by decide +kernel) hR rfl rfl hn rfl hcat hf hdg) kk
theorem kX2_70 (hx : p.tables.exec = Jvm.exec) (hb : c.code = cc) {nL : Nat} (hml : c.maxLocals = nL) (hts : ∀ w ∈ wsL_law, w.before args s = true) (hown : s.vm.findClass RX2 = some m.cls) (hG : gK D cI cS s) (hI : fI D cI cS Z K σ H) (hS : va_S (aZ Z) H0 H locs) (hsz : ls.size = nL) {o : Nat} (hL : ly K o lyCloth) {As : List Value} {r : Int32} {σ' : Nat → Nat → Int32} (hM : Met l yX2_runWith (wsT yX2_runWith cX2_runWith 4 (some .int)) { frames := 0, cells := 0, slots := 0, locals := 0 } (Pm D cI cS Z K (.ref (Z + o) :: As) σ) (Qi D cI cS Z K r σ') 0 0 (aZ Z)) (hR : 1 ≤ R.frames ∧ 23 ≤ R.locals) (hn : As.length = 3) (hcat : (rest.map fun v => v.category).sum ≤ 8) (hf : cells ≤ R.cells ∧ slots ≤ R.slots) (hdg : decode cc pc = .ok (.invokevirtual 70, 3)) (kk : ∀ (H1 : Heap) (locs1 : List Loc), fI D cI cS Z K σ' H1 → va_S (aZ Z) H0 H1 locs1 → W p l e R s m args below meth c H1 locs1 cells slots Q (F0 m (pc + 3) ls (.int r :: rest))) : W p l e R s m args below meth c H locs cells slots Q (F0 m pc ls (As.reverse ++ .ref (Z + o) :: rest)) := mm_bi hS (mm_runV hx hb hml hts hown hG hI hsz hM (ly_at hL 0 rfl) (by decide) rfl rfl (mT29 _ (List.mem_of_getElem? (i := 16) rfl)) (mT29 _ (List.mem_of_getElem? (i := 17) rfl)) (mT29 _ (List.mem_of_getElem? (i := 18) rfl)) (mT2 _ (List.mem_of_getElem? (i := 21) rfl)) (mT29 _ (List.mem_of_getElem? (i := 19) rfl)) (by decide +kernel) hR rfl rfl hn rfl hcat hf hdg) kk
theorem kX2_78 (hx : p.tables.exec = Jvm.exec) (hb : c.code = cc) {nL : Nat} (hml : c.maxLocals = nL) (hts : ∀ w ∈ wsL_law, w.before args s = true) (hown : s.vm.findClass RX2 = some m.cls) (hG : gK D cI cS s) (hI : fI D cI cS Z K σ H) (hS : va_S (aZ Z) H0 H locs) (hsz : ls.size = nL) {o : Nat} (hL : ly K o lyCloth) {As : List Value} {r : Int32} {σ' : Nat → Nat → Int32} (hM : Met l yX2_areAlike (wsT yX2_areAlike cX2_areAlike 3 (some .boolean)) { frames := 1, cells := 0, slots := 0, locals := 21 } (Pm D cI cS Z K (.ref (Z + o) :: As) σ) (Qz D cI cS Z K r σ') 0 0 (aZ Z)) (hR : 2 ≤ R.frames ∧ 43 ≤ R.locals) (hn : As.length = 2) (hcat : (rest.map fun v => v.category).sum ≤ 8) (hf : cells ≤ R.cells ∧ slots ≤ R.slots) (hdg : decode cc pc = .ok (.invokevirtual 78, 3)) (kk : (r = 0 ∨ r = 1) → ∀ (H1 : Heap) (locs1 : List Loc), fI D cI cS Z K σ' H1 → va_S (aZ Z) H0 H1 locs1 → W p l e R s m args below meth c H1 locs1 cells slots Q (F0 m (pc + 3) ls (.int r :: rest))) : W p l e R s m args below meth c H locs cells slots Q (F0 m pc ls (As.reverse ++ .ref (Z + o) :: rest)) := mm_bz hS (mm_runV hx hb hml hts hown hG hI hsz hM (ly_at hL 0 rfl) (by decide) rfl rfl (mT34 _ (List.mem_of_getElem? (i := 13) rfl)) (mT34 _ (List.mem_of_getElem? (i := 14) rfl)) (mT34 _ (List.mem_of_getElem? (i := 15) rfl)) (mT2 _ (List.mem_of_getElem? (i := 21) rfl)) (mT34 _ (List.mem_of_getElem? (i := 16) rfl)) (by decide +kernel) hR rfl rfl hn rfl hcat hf hdg) kk
theorem kX5_45 (hx : p.tables.exec = Jvm.exec) (hb : c.code = cc) {nL : Nat} (hml : c.maxLocals = nL) (hts : ∀ w ∈ wsL_law, w.before args s = true) (hown : s.vm.findClass RX5 = some m.cls) (hG : gK D cI cS s) (hI : fI D cI cS Z K σ H) (hS : va_S (aZ Z) H0 H locs) (hsz : ls.size = nL) {o : Nat} (hL : ly K o lyWarp) {As : List Value} {σ' : Nat → Nat → Int32} (hM : Met l yX6_reset (wsT yX6_reset cX6_reset 5 none) { frames := 1, cells := 0, slots := 0, locals := 22 } (Pm D cI cS Z K (.ref (Z + o) :: As) σ) (Qv D cI cS Z K σ') 0 0 (aZ Z)) (hR : 2 ≤ R.frames ∧ 46 ≤ R.locals) (hn : As.length = 2) (hcat : (rest.map fun v => v.category).sum ≤ 8) (hf : cells ≤ R.cells ∧ slots ≤ R.slots) (hdg : decode cc pc = .ok (.invokevirtual 45, 3)) (kk : ∀ (H1 : Heap) (locs1 : List Loc), fI D cI cS Z K σ' H1 → va_S (aZ Z) H0 H1 locs1 → W p l e R s m args below meth c H1 locs1 cells slots Q (F0 m (pc + 3) ls rest)) : W p l e R s m args below meth c H locs cells slots Q (F0 m pc ls (As.reverse ++ .ref (Z + o) :: rest)) := mm_bv hS (mm_runV hx hb hml hts hown hG hI hsz hM (ly_at hL 0 rfl) (by decide) rfl rfl (mT4 _ (List.mem_of_getElem? (i := 17) rfl)) (mT4 _ (List.mem_of_getElem? (i := 18) rfl)) (mT4 _ (List.mem_of_getElem? (i := 19) rfl)) (mT2 _ (List.mem_of_getElem? (i := 11) rfl)) (mT4 _ (List.mem_of_getElem? (i := 20) rfl)) (by decide +kernel) hR rfl rfl hn rfl hcat hf hdg) kk
theorem kX5_46 (hx : p.tables.exec = Jvm.exec) (hb : c.code = cc) {nL : Nat} (hml : c.maxLocals = nL) (hts : ∀ w ∈ wsL_law, w.before args s = true) (hown : s.vm.findClass RX5 = some m.cls) (hG : gK D cI cS s) (hI : fI D cI cS Z K σ H) (hS : va_S (aZ Z) H0 H locs) (hsz : ls.size = nL) {o : Nat} (hL : ly K o lyChain) {As : List Value} {σ' : Nat → Nat → Int32} (hM : Met l yX0_removeBars (wsT yX0_removeBars cX0_removeBars 1 none) { frames := 0, cells := 0, slots := 0, locals := 0 } (Pm D cI cS Z K (.ref (Z + o) :: As) σ) (Qv D cI cS Z K σ') 0 0 (aZ Z)) (hR : 1 ≤ R.frames ∧ 20 ≤ R.locals) (hn : As.length = 0) (hcat : (rest.map fun v => v.category).sum ≤ 8) (hf : cells ≤ R.cells ∧ slots ≤ R.slots) (hdg : decode cc pc = .ok (.invokevirtual 46, 3)) (kk : ∀ (H1 : Heap) (locs1 : List Loc), fI D cI cS Z K σ' H1 → va_S (aZ Z) H0 H1 locs1 → W p l e R s m args below meth c H1 locs1 cells slots Q (F0 m (pc + 3) ls rest)) : W p l e R s m args below meth c H locs cells slots Q (F0 m pc ls (As.reverse ++ .ref (Z + o) :: rest)) := mm_bv hS (mm_runV hx hb hml hts hown hG hI hsz hM (ly_at hL 0 rfl) (by decide) rfl rfl (mT5 _ (List.mem_of_getElem? (i := 7) rfl)) (mT5 _ (List.mem_of_getElem? (i := 8) rfl)) (mT5 _ (List.mem_of_getElem? (i := 9) rfl)) (mT2 _ (List.mem_of_getElem? (i := 15) rfl)) (mT5 _ (List.mem_of_getElem? (i := 10) rfl)) (by decide +kernel) hR rfl rfl hn rfl hcat hf hdg) kk
theorem kX5_53 (hx : p.tables.exec = Jvm.exec) (hb : c.code = cc) {nL : Nat} (hml : c.maxLocals = nL) (hts : ∀ w ∈ wsL_law, w.before args s = true) (hown : s.vm.findClass RX5 = some m.cls) (hG : gK D cI cS s) (hI : fI D cI cS Z K σ H) (hS : va_S (aZ Z) H0 H locs) (hsz : ls.size = nL) {o : Nat} {n : Nat} (hL : ly K o (lyNum n)) {As : List Value} {σ' : Nat → Nat → Int32} (hM : Met l yX4_putAll (wsT yX4_putAll cX4_putAll 3 none) { frames := 0, cells := 0, slots := 0, locals := 0 } (Pm D cI cS Z K (.ref (Z + o) :: As) σ) (Qv D cI cS Z K σ') 0 0 (aZ Z)) (hR : 1 ≤ R.frames ∧ 22 ≤ R.locals) (hn : As.length = 1) (hcat : (rest.map fun v => v.category).sum ≤ 8) (hf : cells ≤ R.cells ∧ slots ≤ R.slots) (hdg : decode cc pc = .ok (.invokevirtual 53, 3)) (kk : ∀ (H1 : Heap) (locs1 : List Loc), fI D cI cS Z K σ' H1 → va_S (aZ Z) H0 H1 locs1 → W p l e R s m args below meth c H1 locs1 cells slots Q (F0 m (pc + 3) ls rest)) : W p l e R s m args below meth c H locs cells slots Q (F0 m pc ls (As.reverse ++ .ref (Z + o) :: rest)) := mm_bv hS (mm_runV hx hb hml hts hown hG hI hsz hM (ly_at hL 0 rfl) (by decide) rfl rfl (mT5 _ (List.mem_of_getElem? (i := 13) rfl)) (mT5 _ (List.mem_of_getElem? (i := 0) rfl)) (mT5 _ (List.mem_of_getElem? (i := 1) rfl)) (mT2 _ (List.mem_of_getElem? (i := 2) rfl)) (mT5 _ (List.mem_of_getElem? (i := 2) rfl)) (by decide +kernel) hR rfl rfl hn rfl hcat hf hdg) kk
theorem kX5_59 (hx : p.tables.exec = Jvm.exec) (hb : c.code = cc) {nL : Nat} (hml : c.maxLocals = nL) (hts : ∀ w ∈ wsL_law, w.before args s = true) (hown : s.vm.findClass RX5 = some m.cls) (hG : gK D cI cS s) (hI : fI D cI cS Z K σ H) (hS : va_S (aZ Z) H0 H locs) (hsz : ls.size = nL) {o : Nat} (hL : ly K o lyWarp) {As : List Value} {σ' : Nat → Nat → Int32} (hM : Met l yX6_copyFrom (wsT yX6_copyFrom cX6_copyFrom 2 none) { frames := 2, cells := 0, slots := 0, locals := 61 } (Pm D cI cS Z K (.ref (Z + o) :: As) σ) (Qv D cI cS Z K σ') 0 0 (aZ Z)) (hR : 3 ≤ R.frames ∧ 82 ≤ R.locals) (hn : As.length = 1) (hcat : (rest.map fun v => v.category).sum ≤ 8) (hf : cells ≤ R.cells ∧ slots ≤ R.slots) (hdg : decode cc pc = .ok (.invokevirtual 59, 3)) (kk : ∀ (H1 : Heap) (locs1 : List Loc), fI D cI cS Z K σ' H1 → va_S (aZ Z) H0 H1 locs1 → W p l e R s m args below meth c H1 locs1 cells slots Q (F0 m (pc + 3) ls rest)) : W p l e R s m args below meth c H locs cells slots Q (F0 m pc ls (As.reverse ++ .ref (Z + o) :: rest)) := mm_bv hS (mm_runV hx hb hml hts hown hG hI hsz hM (ly_at hL 0 rfl) (by decide) rfl rfl (mT7 _ (List.mem_of_getElem? (i := 23) rfl)) (mT8 _ (List.mem_of_getElem? (i := 0) rfl)) (mT8 _ (List.mem_of_getElem? (i := 1) rfl)) (mT2 _ (List.mem_of_getElem? (i := 11) rfl)) (mT8 _ (List.mem_of_getElem? (i := 2) rfl)) (by decide +kernel) hR rfl rfl hn rfl hcat hf hdg) kk
theorem kX5_63 (hx : p.tables.exec = Jvm.exec) (hb : c.code = cc) {nL : Nat} (hml : c.maxLocals = nL) (hts : ∀ w ∈ wsL_law, w.before args s = true) (hown : s.vm.findClass RX5 = some m.cls) (hG : gK D cI cS s) (hI : fI D cI cS Z K σ H) (hS : va_S (aZ Z) H0 H locs) (hsz : ls.size = nL) {o : Nat} (hL : ly K o lyChain) {As : List Value} {σ' : Nat → Nat → Int32} (hM : Met l yX0_copyFrom (wsT yX0_copyFrom cX0_copyFrom 2 none) { frames := 3, cells := 0, slots := 0, locals := 82 } (Pm D cI cS Z K (.ref (Z + o) :: As) σ) (Qv D cI cS Z K σ') 0 0 (aZ Z)) (hR : 4 ≤ R.frames ∧ 103 ≤ R.locals) (hn : As.length = 1) (hcat : (rest.map fun v => v.category).sum ≤ 8) (hf : cells ≤ R.cells ∧ slots ≤ R.slots) (hdg : decode cc pc = .ok (.invokevirtual 63, 3)) (kk : ∀ (H1 : Heap) (locs1 : List Loc), fI D cI cS Z K σ' H1 → va_S (aZ Z) H0 H1 locs1 → W p l e R s m args below meth c H1 locs1 cells slots Q (F0 m (pc + 3) ls rest)) : W p l e R s m args below meth c H locs cells slots Q (F0 m pc ls (As.reverse ++ .ref (Z + o) :: rest)) := mm_bv hS (mm_runV hx hb hml hts hown hG hI hsz hM (ly_at hL 0 rfl) (by decide) rfl rfl (mT8 _ (List.mem_of_getElem? (i := 12) rfl)) (mT8 _ (List.mem_of_getElem? (i := 13) rfl)) (mT8 _ (List.mem_of_getElem? (i := 14) rfl)) (mT2 _ (List.mem_of_getElem? (i := 15) rfl)) (mT8 _ (List.mem_of_getElem? (i := 15) rfl)) (by decide +kernel) hR rfl rfl hn rfl hcat hf hdg) kk
theorem kX5_66 (hx : p.tables.exec = Jvm.exec) (hb : c.code = cc) {nL : Nat} (hml : c.maxLocals = nL) (hts : ∀ w ∈ wsL_law, w.before args s = true) (hown : s.vm.findClass RX5 = some m.cls) (hG : gK D cI cS s) (hI : fI D cI cS Z K σ H) (hS : va_S (aZ Z) H0 H locs) (hsz : ls.size = nL) {o : Nat} {n : Nat} (hL : ly K o (lyNum n)) {As : List Value} {σ' : Nat → Nat → Int32} (hM : Met l yX4_copyFrom (wsT yX4_copyFrom cX4_copyFrom 2 none) { frames := 1, cells := 0, slots := 0, locals := 40 } (Pm D cI cS Z K (.ref (Z + o) :: As) σ) (Qv D cI cS Z K σ') 0 0 (aZ Z)) (hR : 2 ≤ R.frames ∧ 61 ≤ R.locals) (hn : As.length = 1) (hcat : (rest.map fun v => v.category).sum ≤ 8) (hf : cells ≤ R.cells ∧ slots ≤ R.slots) (hdg : decode cc pc = .ok (.invokevirtual 66, 3)) (kk : ∀ (H1 : Heap) (locs1 : List Loc), fI D cI cS Z K σ' H1 → va_S (aZ Z) H0 H1 locs1 → W p l e R s m args below meth c H1 locs1 cells slots Q (F0 m (pc + 3) ls rest)) : W p l e R s m args below meth c H locs cells slots Q (F0 m pc ls (As.reverse ++ .ref (Z + o) :: rest)) := mm_bv hS (mm_runV hx hb hml hts hown hG hI hsz hM (ly_at hL 0 rfl) (by decide) rfl rfl (mT8 _ (List.mem_of_getElem? (i := 22) rfl)) (mT8 _ (List.mem_of_getElem? (i := 4) rfl)) (mT8 _ (List.mem_of_getElem? (i := 5) rfl)) (mT2 _ (List.mem_of_getElem? (i := 2) rfl)) (mT8 _ (List.mem_of_getElem? (i := 6) rfl)) (by decide +kernel) hR rfl rfl hn rfl hcat hf hdg) kk
theorem kX5_69 (hx : p.tables.exec = Jvm.exec) (hb : c.code = cc) {nL : Nat} (hml : c.maxLocals = nL) (hts : ∀ w ∈ wsL_law, w.before args s = true) (hown : s.vm.findClass RX5 = some m.cls) (hG : gK D cI cS s) (hI : fI D cI cS Z K σ H) (hS : va_S (aZ Z) H0 H locs) (hsz : ls.size = nL) {o : Nat} (hL : ly K o lyCloth) {As : List Value} {σ' : Nat → Nat → Int32} (hM : Met l yX2_copyFrom (wsT yX2_copyFrom cX2_copyFrom 2 none) { frames := 2, cells := 0, slots := 0, locals := 61 } (Pm D cI cS Z K (.ref (Z + o) :: As) σ) (Qv D cI cS Z K σ') 0 0 (aZ Z)) (hR : 3 ≤ R.frames ∧ 82 ≤ R.locals) (hn : As.length = 1) (hcat : (rest.map fun v => v.category).sum ≤ 8) (hf : cells ≤ R.cells ∧ slots ≤ R.slots) (hdg : decode cc pc = .ok (.invokevirtual 69, 3)) (kk : ∀ (H1 : Heap) (locs1 : List Loc), fI D cI cS Z K σ' H1 → va_S (aZ Z) H0 H1 locs1 → W p l e R s m args below meth c H1 locs1 cells slots Q (F0 m (pc + 3) ls rest)) : W p l e R s m args below meth c H locs cells slots Q (F0 m pc ls (As.reverse ++ .ref (Z + o) :: rest)) := mm_bv hS (mm_runV hx hb hml hts hown hG hI hsz hM (ly_at hL 0 rfl) (by decide) rfl rfl (mT8 _ (List.mem_of_getElem? (i := 23) rfl)) (mT9 _ (List.mem_of_getElem? (i := 0) rfl)) (mT9 _ (List.mem_of_getElem? (i := 1) rfl)) (mT2 _ (List.mem_of_getElem? (i := 21) rfl)) (mT9 _ (List.mem_of_getElem? (i := 2) rfl)) (by decide +kernel) hR rfl rfl hn rfl hcat hf hdg) kk
theorem kX5_78 (hx : p.tables.exec = Jvm.exec) (hb : c.code = cc) {nL : Nat} (hml : c.maxLocals = nL) (hts : ∀ w ∈ wsL_law, w.before args s = true) (hown : s.vm.findClass RX5 = some m.cls) (hG : gK D cI cS s) (hI : fI D cI cS Z K σ H) (hS : va_S (aZ Z) H0 H locs) (hsz : ls.size = nL) {o : Nat} {n : Nat} (hL : ly K o (lyNum n)) {As : List Value} {r : Int32} {σ' : Nat → Nat → Int32} (hM : Met l yX4_at (wsT yX4_at cX4_at 2 (some .int)) { frames := 0, cells := 0, slots := 0, locals := 0 } (Pm D cI cS Z K (.ref (Z + o) :: As) σ) (Qi D cI cS Z K r σ') 0 0 (aZ Z)) (hR : 1 ≤ R.frames ∧ 21 ≤ R.locals) (hn : As.length = 1) (hcat : (rest.map fun v => v.category).sum ≤ 8) (hf : cells ≤ R.cells ∧ slots ≤ R.slots) (hdg : decode cc pc = .ok (.invokevirtual 78, 3)) (kk : ∀ (H1 : Heap) (locs1 : List Loc), fI D cI cS Z K σ' H1 → va_S (aZ Z) H0 H1 locs1 → W p l e R s m args below meth c H1 locs1 cells slots Q (F0 m (pc + 3) ls (.int r :: rest))) : W p l e R s m args below meth c H locs cells slots Q (F0 m pc ls (As.reverse ++ .ref (Z + o) :: rest)) := mm_bi hS (mm_runV hx hb hml hts hown hG hI hsz hM (ly_at hL 0 rfl) (by decide) rfl rfl (mT22 _ (List.mem_of_getElem? (i := 0) rfl)) (mT10 _ (List.mem_of_getElem? (i := 13) rfl)) (mT10 _ (List.mem_of_getElem? (i := 14) rfl)) (mT2 _ (List.mem_of_getElem? (i := 2) rfl)) (mT10 _ (List.mem_of_getElem? (i := 15) rfl)) (by decide +kernel) hR rfl rfl hn rfl hcat hf hdg) kk
theorem kX5_86 (hx : p.tables.exec = Jvm.exec) (hb : c.code = cc) {nL : Nat} (hml : c.maxLocals = nL) (hts : ∀ w ∈ wsL_law, w.before args s = true) (hown : s.vm.findClass RX5 = some m.cls) (hG : gK D cI cS s) (hI : fI D cI cS Z K σ H) (hS : va_S (aZ Z) H0 H locs) (hsz : ls.size = nL) {o : Nat} {n : Nat} (hL : ly K o (lyNum n)) {As : List Value} {σ' : Nat → Nat → Int32} (hM : Met l yX4_put (wsT yX4_put cX4_put 3 none) { frames := 0, cells := 0, slots := 0, locals := 0 } (Pm D cI cS Z K (.ref (Z + o) :: As) σ) (Qv D cI cS Z K σ') 0 0 (aZ Z)) (hR : 1 ≤ R.frames ∧ 22 ≤ R.locals) (hn : As.length = 2) (hcat : (rest.map fun v => v.category).sum ≤ 8) (hf : cells ≤ R.cells ∧ slots ≤ R.slots) (hdg : decode cc pc = .ok (.invokevirtual 86, 3)) (kk : ∀ (H1 : Heap) (locs1 : List Loc), fI D cI cS Z K σ' H1 → va_S (aZ Z) H0 H1 locs1 → W p l e R s m args below meth c H1 locs1 cells slots Q (F0 m (pc + 3) ls rest)) : W p l e R s m args below meth c H locs cells slots Q (F0 m pc ls (As.reverse ++ .ref (Z + o) :: rest)) := mm_bv hS (mm_runV hx hb hml hts hown hG hI hsz hM (ly_at hL 0 rfl) (by decide) rfl rfl (mT22 _ (List.mem_of_getElem? (i := 1) rfl)) (mT5 _ (List.mem_of_getElem? (i := 4) rfl)) (mT5 _ (List.mem_of_getElem? (i := 5) rfl)) (mT2 _ (List.mem_of_getElem? (i := 2) rfl)) (mT5 _ (List.mem_of_getElem? (i := 6) rfl)) (by decide +kernel) hR rfl rfl hn rfl hcat hf hdg) kk
theorem kX5_95 (hx : p.tables.exec = Jvm.exec) (hb : c.code = cc) {nL : Nat} (hml : c.maxLocals = nL) (hts : ∀ w ∈ wsL_law, w.before args s = true) (hown : s.vm.findClass RX5 = some m.cls) (hG : gK D cI cS s) (hI : fI D cI cS Z K σ H) (hS : va_S (aZ Z) H0 H locs) (hsz : ls.size = nL) {o : Nat} (hL : ly K o lyWarp) {As : List Value} {r : Int32} {σ' : Nat → Nat → Int32} (hM : Met l yX6_endsOn (wsT yX6_endsOn cX6_endsOn 4 (some .int)) { frames := 1, cells := 0, slots := 0, locals := 21 } (Pm D cI cS Z K (.ref (Z + o) :: As) σ) (Qi D cI cS Z K r σ') 0 0 (aZ Z)) (hR : 2 ≤ R.frames ∧ 44 ≤ R.locals) (hn : As.length = 1) (hcat : (rest.map fun v => v.category).sum ≤ 8) (hf : cells ≤ R.cells ∧ slots ≤ R.slots) (hdg : decode cc pc = .ok (.invokevirtual 95, 3)) (kk : ∀ (H1 : Heap) (locs1 : List Loc), fI D cI cS Z K σ' H1 → va_S (aZ Z) H0 H1 locs1 → W p l e R s m args below meth c H1 locs1 cells slots Q (F0 m (pc + 3) ls (.int r :: rest))) : W p l e R s m args below meth c H locs cells slots Q (F0 m pc ls (As.reverse ++ .ref (Z + o) :: rest)) := mm_bi hS (mm_runV hx hb hml hts hown hG hI hsz hM (ly_at hL 0 rfl) (by decide) rfl rfl (mT22 _ (List.mem_of_getElem? (i := 2) rfl)) (mT22 _ (List.mem_of_getElem? (i := 3) rfl)) (mT22 _ (List.mem_of_getElem? (i := 4) rfl)) (mT2 _ (List.mem_of_getElem? (i := 11) rfl)) (mT22 _ (List.mem_of_getElem? (i := 5) rfl)) (by decide +kernel) hR rfl rfl hn rfl hcat hf hdg) kk
theorem kX5_98 (hx : p.tables.exec = Jvm.exec) (hb : c.code = cc) {nL : Nat} (hml : c.maxLocals = nL) (hts : ∀ w ∈ wsL_law, w.before args s = true) (hown : s.vm.findClass RX5 = some m.cls) (hG : gK D cI cS s) (hI : fI D cI cS Z K σ H) (hS : va_S (aZ Z) H0 H locs) (hsz : ls.size = nL) {o : Nat} (hL : ly K o lyWarp) {As : List Value} {r : Int32} {σ' : Nat → Nat → Int32} (hM : Met l yX6_liftedShafts (wsT yX6_liftedShafts cX6_liftedShafts 5 (some .int)) { frames := 1, cells := 0, slots := 0, locals := 21 } (Pm D cI cS Z K (.ref (Z + o) :: As) σ) (Qi D cI cS Z K r σ') 0 0 (aZ Z)) (hR : 2 ≤ R.frames ∧ 45 ≤ R.locals) (hn : As.length = 1) (hcat : (rest.map fun v => v.category).sum ≤ 8) (hf : cells ≤ R.cells ∧ slots ≤ R.slots) (hdg : decode cc pc = .ok (.invokevirtual 98, 3)) (kk : ∀ (H1 : Heap) (locs1 : List Loc), fI D cI cS Z K σ' H1 → va_S (aZ Z) H0 H1 locs1 → W p l e R s m args below meth c H1 locs1 cells slots Q (F0 m (pc + 3) ls (.int r :: rest))) : W p l e R s m args below meth c H locs cells slots Q (F0 m pc ls (As.reverse ++ .ref (Z + o) :: rest)) := mm_bi hS (mm_runV hx hb hml hts hown hG hI hsz hM (ly_at hL 0 rfl) (by decide) rfl rfl (mT22 _ (List.mem_of_getElem? (i := 9) rfl)) (mT22 _ (List.mem_of_getElem? (i := 10) rfl)) (mT22 _ (List.mem_of_getElem? (i := 11) rfl)) (mT2 _ (List.mem_of_getElem? (i := 11) rfl)) (mT22 _ (List.mem_of_getElem? (i := 12) rfl)) (by decide +kernel) hR rfl rfl hn rfl hcat hf hdg) kk
theorem kX5_101 (hx : p.tables.exec = Jvm.exec) (hb : c.code = cc) {nL : Nat} (hml : c.maxLocals = nL) (hts : ∀ w ∈ wsL_law, w.before args s = true) (hown : s.vm.findClass RX5 = some m.cls) (hG : gK D cI cS s) (hI : fI D cI cS Z K σ H) (hS : va_S (aZ Z) H0 H locs) (hsz : ls.size = nL) {o : Nat} (hL : ly K o lyState) {As : List Value} {σ' : Nat → Nat → Int32} (hM : Met l yX5_layWeft (wsT yX5_layWeft cX5_layWeft 12 none) { frames := 1, cells := 0, slots := 0, locals := 22 } (Pm D cI cS Z K (.ref (Z + o) :: As) σ) (Qv D cI cS Z K σ') 0 0 (aZ Z)) (hR : 2 ≤ R.frames ∧ 53 ≤ R.locals) (hn : As.length = 3) (hcat : (rest.map fun v => v.category).sum ≤ 8) (hf : cells ≤ R.cells ∧ slots ≤ R.slots) (hdg : decode cc pc = .ok (.invokevirtual 101, 3)) (kk : ∀ (H1 : Heap) (locs1 : List Loc), fI D cI cS Z K σ' H1 → va_S (aZ Z) H0 H1 locs1 → W p l e R s m args below meth c H1 locs1 cells slots Q (F0 m (pc + 3) ls rest)) : W p l e R s m args below meth c H locs cells slots Q (F0 m pc ls (As.reverse ++ .ref (Z + o) :: rest)) := mm_bv hS (mm_runV hx hb hml hts hown hG hI hsz hM (ly_at hL 0 rfl) (by decide) rfl rfl (mT22 _ (List.mem_of_getElem? (i := 13) rfl)) (mT22 _ (List.mem_of_getElem? (i := 14) rfl)) (mT22 _ (List.mem_of_getElem? (i := 15) rfl)) (mT1 _ (List.mem_of_getElem? (i := 14) rfl)) (mT22 _ (List.mem_of_getElem? (i := 16) rfl)) (by decide +kernel) hR rfl rfl hn rfl hcat hf hdg) kk
theorem kX5_108 (hx : p.tables.exec = Jvm.exec) (hb : c.code = cc) {nL : Nat} (hml : c.maxLocals = nL) (hts : ∀ w ∈ wsL_law, w.before args s = true) (hown : s.vm.findClass RX5 = some m.cls) (hG : gK D cI cS s) (hI : fI D cI cS Z K σ H) (hS : va_S (aZ Z) H0 H locs) (hsz : ls.size = nL) {o : Nat} (hL : ly K o lyChain) {As : List Value} {r : Int32} {σ' : Nat → Nat → Int32} (hM : Met l yX0_barAfter (wsT yX0_barAfter cX0_barAfter 2 (some .int)) { frames := 1, cells := 0, slots := 0, locals := 21 } (Pm D cI cS Z K (.ref (Z + o) :: As) σ) (Qi D cI cS Z K r σ') 0 0 (aZ Z)) (hR : 2 ≤ R.frames ∧ 42 ≤ R.locals) (hn : As.length = 1) (hcat : (rest.map fun v => v.category).sum ≤ 8) (hf : cells ≤ R.cells ∧ slots ≤ R.slots) (hdg : decode cc pc = .ok (.invokevirtual 108, 3)) (kk : ∀ (H1 : Heap) (locs1 : List Loc), fI D cI cS Z K σ' H1 → va_S (aZ Z) H0 H1 locs1 → W p l e R s m args below meth c H1 locs1 cells slots Q (F0 m (pc + 3) ls (.int r :: rest))) : W p l e R s m args below meth c H locs cells slots Q (F0 m pc ls (As.reverse ++ .ref (Z + o) :: rest)) := mm_bi hS (mm_runV hx hb hml hts hown hG hI hsz hM (ly_at hL 0 rfl) (by decide) rfl rfl (mT23 _ (List.mem_of_getElem? (i := 0) rfl)) (mT23 _ (List.mem_of_getElem? (i := 1) rfl)) (mT23 _ (List.mem_of_getElem? (i := 2) rfl)) (mT2 _ (List.mem_of_getElem? (i := 15) rfl)) (mT23 _ (List.mem_of_getElem? (i := 3) rfl)) (by decide +kernel) hR rfl rfl hn rfl hcat hf hdg) kk
theorem kX5_114 (hx : p.tables.exec = Jvm.exec) (hb : c.code = cc) {nL : Nat} (hml : c.maxLocals = nL) (hts : ∀ w ∈ wsL_law, w.before args s = true) (hown : s.vm.findClass RX5 = some m.cls) (hG : gK D cI cS s) (hI : fI D cI cS Z K σ H) (hS : va_S (aZ Z) H0 H locs) (hsz : ls.size = nL) {As : List Value} {r : Int32} {σ' : Nat → Nat → Int32} (hM : Met l yX7_bitOf (wsT yX7_bitOf cX7_bitOf 2 (some .int)) { frames := 0, cells := 0, slots := 0, locals := 0 } (Pm D cI cS Z K As σ) (Qi D cI cS Z K r σ') 0 0 (aZ Z)) (hR : 1 ≤ R.frames ∧ 21 ≤ R.locals) (hn : As.length = 2) (hcat : (rest.map fun v => v.category).sum ≤ 8) (hf : cells ≤ R.cells ∧ slots ≤ R.slots) (hdg : decode cc pc = .ok (.invokestatic 114, 3)) (kk : ∀ (H1 : Heap) (locs1 : List Loc), fI D cI cS Z K σ' H1 → va_S (aZ Z) H0 H1 locs1 → W p l e R s m args below meth c H1 locs1 cells slots Q (F0 m (pc + 3) ls (.int r :: rest))) : W p l e R s m args below meth c H locs cells slots Q (F0 m pc ls (As.reverse ++ rest)) := mm_bi hS (mm_runSN (host := RX7) hx hb hml hts hown hG hI hsz hM (List.mem_of_getElem? (i := 9) rfl) (mT22 _ (List.mem_of_getElem? (i := 7) rfl)) (mT1 _ (List.mem_of_getElem? (i := 2) rfl)) (mT22 _ (List.mem_of_getElem? (i := 8) rfl)) (by decide +kernel) hR rfl rfl hn rfl hcat hf hdg) kk
theorem kX5_124 (hx : p.tables.exec = Jvm.exec) (hb : c.code = cc) {nL : Nat} (hml : c.maxLocals = nL) (hts : ∀ w ∈ wsL_law, w.before args s = true) (hown : s.vm.findClass RX5 = some m.cls) (hG : gK D cI cS s) (hI : fI D cI cS Z K σ H) (hS : va_S (aZ Z) H0 H locs) (hsz : ls.size = nL) {o : Nat} (hL : ly K o lyWarp) {As : List Value} {r : Int32} {σ' : Nat → Nat → Int32} (hM : Met l yX6_allEnds (wsT yX6_allEnds cX6_allEnds 1 (some .int)) { frames := 0, cells := 0, slots := 0, locals := 0 } (Pm D cI cS Z K (.ref (Z + o) :: As) σ) (Qi D cI cS Z K r σ') 0 0 (aZ Z)) (hR : 1 ≤ R.frames ∧ 20 ≤ R.locals) (hn : As.length = 0) (hcat : (rest.map fun v => v.category).sum ≤ 8) (hf : cells ≤ R.cells ∧ slots ≤ R.slots) (hdg : decode cc pc = .ok (.invokevirtual 124, 3)) (kk : ∀ (H1 : Heap) (locs1 : List Loc), fI D cI cS Z K σ' H1 → va_S (aZ Z) H0 H1 locs1 → W p l e R s m args below meth c H1 locs1 cells slots Q (F0 m (pc + 3) ls (.int r :: rest))) : W p l e R s m args below meth c H locs cells slots Q (F0 m pc ls (As.reverse ++ .ref (Z + o) :: rest)) := mm_bi hS (mm_runV hx hb hml hts hown hG hI hsz hM (ly_at hL 0 rfl) (by decide) rfl rfl (mT22 _ (List.mem_of_getElem? (i := 20) rfl)) (mT22 _ (List.mem_of_getElem? (i := 21) rfl)) (mT22 _ (List.mem_of_getElem? (i := 22) rfl)) (mT2 _ (List.mem_of_getElem? (i := 11) rfl)) (mT22 _ (List.mem_of_getElem? (i := 23) rfl)) (by decide +kernel) hR rfl rfl hn rfl hcat hf hdg) kk
theorem kX5_128 (hx : p.tables.exec = Jvm.exec) (hb : c.code = cc) {nL : Nat} (hml : c.maxLocals = nL) (hts : ∀ w ∈ wsL_law, w.before args s = true) (hown : s.vm.findClass RX5 = some m.cls) (hG : gK D cI cS s) (hI : fI D cI cS Z K σ H) (hS : va_S (aZ Z) H0 H locs) (hsz : ls.size = nL) {o : Nat} (hL : ly K o lyChain) {As : List Value} {r : Int32} {σ' : Nat → Nat → Int32} (hM : Met l yX0_barBefore (wsT yX0_barBefore cX0_barBefore 2 (some .int)) { frames := 1, cells := 0, slots := 0, locals := 21 } (Pm D cI cS Z K (.ref (Z + o) :: As) σ) (Qi D cI cS Z K r σ') 0 0 (aZ Z)) (hR : 2 ≤ R.frames ∧ 42 ≤ R.locals) (hn : As.length = 1) (hcat : (rest.map fun v => v.category).sum ≤ 8) (hf : cells ≤ R.cells ∧ slots ≤ R.slots) (hdg : decode cc pc = .ok (.invokevirtual 128, 3)) (kk : ∀ (H1 : Heap) (locs1 : List Loc), fI D cI cS Z K σ' H1 → va_S (aZ Z) H0 H1 locs1 → W p l e R s m args below meth c H1 locs1 cells slots Q (F0 m (pc + 3) ls (.int r :: rest))) : W p l e R s m args below meth c H locs cells slots Q (F0 m pc ls (As.reverse ++ .ref (Z + o) :: rest)) := mm_bi hS (mm_runV hx hb hml hts hown hG hI hsz hM (ly_at hL 0 rfl) (by decide) rfl rfl (mT25 _ (List.mem_of_getElem? (i := 19) rfl)) (mT25 _ (List.mem_of_getElem? (i := 20) rfl)) (mT25 _ (List.mem_of_getElem? (i := 21) rfl)) (mT2 _ (List.mem_of_getElem? (i := 15) rfl)) (mT25 _ (List.mem_of_getElem? (i := 22) rfl)) (by decide +kernel) hR rfl rfl hn rfl hcat hf hdg) kk
theorem kX6_33 (hx : p.tables.exec = Jvm.exec) (hb : c.code = cc) {nL : Nat} (hml : c.maxLocals = nL) (hts : ∀ w ∈ wsL_law, w.before args s = true) (hown : s.vm.findClass RX6 = some m.cls) (hG : gK D cI cS s) (hI : fI D cI cS Z K σ H) (hS : va_S (aZ Z) H0 H locs) (hsz : ls.size = nL) {o : Nat} {n : Nat} (hL : ly K o (lyNum n)) {As : List Value} {σ' : Nat → Nat → Int32} (hM : Met l yX4_putAll (wsT yX4_putAll cX4_putAll 3 none) { frames := 0, cells := 0, slots := 0, locals := 0 } (Pm D cI cS Z K (.ref (Z + o) :: As) σ) (Qv D cI cS Z K σ') 0 0 (aZ Z)) (hR : 1 ≤ R.frames ∧ 22 ≤ R.locals) (hn : As.length = 1) (hcat : (rest.map fun v => v.category).sum ≤ 8) (hf : cells ≤ R.cells ∧ slots ≤ R.slots) (hdg : decode cc pc = .ok (.invokevirtual 33, 3)) (kk : ∀ (H1 : Heap) (locs1 : List Loc), fI D cI cS Z K σ' H1 → va_S (aZ Z) H0 H1 locs1 → W p l e R s m args below meth c H1 locs1 cells slots Q (F0 m (pc + 3) ls rest)) : W p l e R s m args below meth c H locs cells slots Q (F0 m pc ls (As.reverse ++ .ref (Z + o) :: rest)) := mm_bv hS (mm_runV hx hb hml hts hown hG hI hsz hM (ly_at hL 0 rfl) (by decide) rfl rfl (mT4 _ (List.mem_of_getElem? (i := 23) rfl)) (mT5 _ (List.mem_of_getElem? (i := 0) rfl)) (mT5 _ (List.mem_of_getElem? (i := 1) rfl)) (mT2 _ (List.mem_of_getElem? (i := 2) rfl)) (mT5 _ (List.mem_of_getElem? (i := 2) rfl)) (by decide +kernel) hR rfl rfl hn rfl hcat hf hdg) kk
theorem kX6_36 (hx : p.tables.exec = Jvm.exec) (hb : c.code = cc) {nL : Nat} (hml : c.maxLocals = nL) (hts : ∀ w ∈ wsL_law, w.before args s = true) (hown : s.vm.findClass RX6 = some m.cls) (hG : gK D cI cS s) (hI : fI D cI cS Z K σ H) (hS : va_S (aZ Z) H0 H locs) (hsz : ls.size = nL) {o : Nat} {n : Nat} (hL : ly K o (lyNum n)) {As : List Value} {σ' : Nat → Nat → Int32} (hM : Met l yX4_put (wsT yX4_put cX4_put 3 none) { frames := 0, cells := 0, slots := 0, locals := 0 } (Pm D cI cS Z K (.ref (Z + o) :: As) σ) (Qv D cI cS Z K σ') 0 0 (aZ Z)) (hR : 1 ≤ R.frames ∧ 22 ≤ R.locals) (hn : As.length = 2) (hcat : (rest.map fun v => v.category).sum ≤ 8) (hf : cells ≤ R.cells ∧ slots ≤ R.slots) (hdg : decode cc pc = .ok (.invokevirtual 36, 3)) (kk : ∀ (H1 : Heap) (locs1 : List Loc), fI D cI cS Z K σ' H1 → va_S (aZ Z) H0 H1 locs1 → W p l e R s m args below meth c H1 locs1 cells slots Q (F0 m (pc + 3) ls rest)) : W p l e R s m args below meth c H locs cells slots Q (F0 m pc ls (As.reverse ++ .ref (Z + o) :: rest)) := mm_bv hS (mm_runV hx hb hml hts hown hG hI hsz hM (ly_at hL 0 rfl) (by decide) rfl rfl (mT5 _ (List.mem_of_getElem? (i := 3) rfl)) (mT5 _ (List.mem_of_getElem? (i := 4) rfl)) (mT5 _ (List.mem_of_getElem? (i := 5) rfl)) (mT2 _ (List.mem_of_getElem? (i := 2) rfl)) (mT5 _ (List.mem_of_getElem? (i := 6) rfl)) (by decide +kernel) hR rfl rfl hn rfl hcat hf hdg) kk
theorem kX6_40 (hx : p.tables.exec = Jvm.exec) (hb : c.code = cc) {nL : Nat} (hml : c.maxLocals = nL) (hts : ∀ w ∈ wsL_law, w.before args s = true) (hown : s.vm.findClass RX6 = some m.cls) (hG : gK D cI cS s) (hI : fI D cI cS Z K σ H) (hS : va_S (aZ Z) H0 H locs) (hsz : ls.size = nL) {o : Nat} {n : Nat} (hL : ly K o (lyNum n)) {As : List Value} {σ' : Nat → Nat → Int32} (hM : Met l yX4_copyFrom (wsT yX4_copyFrom cX4_copyFrom 2 none) { frames := 1, cells := 0, slots := 0, locals := 40 } (Pm D cI cS Z K (.ref (Z + o) :: As) σ) (Qv D cI cS Z K σ') 0 0 (aZ Z)) (hR : 2 ≤ R.frames ∧ 61 ≤ R.locals) (hn : As.length = 1) (hcat : (rest.map fun v => v.category).sum ≤ 8) (hf : cells ≤ R.cells ∧ slots ≤ R.slots) (hdg : decode cc pc = .ok (.invokevirtual 40, 3)) (kk : ∀ (H1 : Heap) (locs1 : List Loc), fI D cI cS Z K σ' H1 → va_S (aZ Z) H0 H1 locs1 → W p l e R s m args below meth c H1 locs1 cells slots Q (F0 m (pc + 3) ls rest)) : W p l e R s m args below meth c H locs cells slots Q (F0 m pc ls (As.reverse ++ .ref (Z + o) :: rest)) := mm_bv hS (mm_runV hx hb hml hts hown hG hI hsz hM (ly_at hL 0 rfl) (by decide) rfl rfl (mT8 _ (List.mem_of_getElem? (i := 3) rfl)) (mT8 _ (List.mem_of_getElem? (i := 4) rfl)) (mT8 _ (List.mem_of_getElem? (i := 5) rfl)) (mT2 _ (List.mem_of_getElem? (i := 2) rfl)) (mT8 _ (List.mem_of_getElem? (i := 6) rfl)) (by decide +kernel) hR rfl rfl hn rfl hcat hf hdg) kk
theorem kX6_44 (hx : p.tables.exec = Jvm.exec) (hb : c.code = cc) {nL : Nat} (hml : c.maxLocals = nL) (hts : ∀ w ∈ wsL_law, w.before args s = true) (hown : s.vm.findClass RX6 = some m.cls) (hG : gK D cI cS s) (hI : fI D cI cS Z K σ H) (hS : va_S (aZ Z) H0 H locs) (hsz : ls.size = nL) {As : List Value} {r : Int32} {σ' : Nat → Nat → Int32} (hM : Met l yX7_isBetween (wsT yX7_isBetween cX7_isBetween 3 (some .boolean)) { frames := 0, cells := 0, slots := 0, locals := 0 } (Pm D cI cS Z K As σ) (Qz D cI cS Z K r σ') 0 0 (aZ Z)) (hR : 1 ≤ R.frames ∧ 22 ≤ R.locals) (hn : As.length = 3) (hcat : (rest.map fun v => v.category).sum ≤ 8) (hf : cells ≤ R.cells ∧ slots ≤ R.slots) (hdg : decode cc pc = .ok (.invokestatic 44, 3)) (kk : (r = 0 ∨ r = 1) → ∀ (H1 : Heap) (locs1 : List Loc), fI D cI cS Z K σ' H1 → va_S (aZ Z) H0 H1 locs1 → W p l e R s m args below meth c H1 locs1 cells slots Q (F0 m (pc + 3) ls (.int r :: rest))) : W p l e R s m args below meth c H locs cells slots Q (F0 m pc ls (As.reverse ++ rest)) := mm_bz hS (mm_runSN (host := RX7) hx hb hml hts hown hG hI hsz hM (List.mem_of_getElem? (i := 5) rfl) (mT7 _ (List.mem_of_getElem? (i := 4) rfl)) (mT1 _ (List.mem_of_getElem? (i := 2) rfl)) (mT7 _ (List.mem_of_getElem? (i := 5) rfl)) (by decide +kernel) hR rfl rfl hn rfl hcat hf hdg) kk
theorem kX6_48 (hx : p.tables.exec = Jvm.exec) (hb : c.code = cc) {nL : Nat} (hml : c.maxLocals = nL) (hts : ∀ w ∈ wsL_law, w.before args s = true) (hown : s.vm.findClass RX6 = some m.cls) (hG : gK D cI cS s) (hI : fI D cI cS Z K σ H) (hS : va_S (aZ Z) H0 H locs) (hsz : ls.size = nL) {o : Nat} {n : Nat} (hL : ly K o (lyNum n)) {As : List Value} {r : Int32} {σ' : Nat → Nat → Int32} (hM : Met l yX4_at (wsT yX4_at cX4_at 2 (some .int)) { frames := 0, cells := 0, slots := 0, locals := 0 } (Pm D cI cS Z K (.ref (Z + o) :: As) σ) (Qi D cI cS Z K r σ') 0 0 (aZ Z)) (hR : 1 ≤ R.frames ∧ 21 ≤ R.locals) (hn : As.length = 1) (hcat : (rest.map fun v => v.category).sum ≤ 8) (hf : cells ≤ R.cells ∧ slots ≤ R.slots) (hdg : decode cc pc = .ok (.invokevirtual 48, 3)) (kk : ∀ (H1 : Heap) (locs1 : List Loc), fI D cI cS Z K σ' H1 → va_S (aZ Z) H0 H1 locs1 → W p l e R s m args below meth c H1 locs1 cells slots Q (F0 m (pc + 3) ls (.int r :: rest))) : W p l e R s m args below meth c H locs cells slots Q (F0 m pc ls (As.reverse ++ .ref (Z + o) :: rest)) := mm_bi hS (mm_runV hx hb hml hts hown hG hI hsz hM (ly_at hL 0 rfl) (by decide) rfl rfl (mT22 _ (List.mem_of_getElem? (i := 6) rfl)) (mT10 _ (List.mem_of_getElem? (i := 13) rfl)) (mT10 _ (List.mem_of_getElem? (i := 14) rfl)) (mT2 _ (List.mem_of_getElem? (i := 2) rfl)) (mT10 _ (List.mem_of_getElem? (i := 15) rfl)) (by decide +kernel) hR rfl rfl hn rfl hcat hf hdg) kk
theorem kX6_52 (hx : p.tables.exec = Jvm.exec) (hb : c.code = cc) {nL : Nat} (hml : c.maxLocals = nL) (hts : ∀ w ∈ wsL_law, w.before args s = true) (hown : s.vm.findClass RX6 = some m.cls) (hG : gK D cI cS s) (hI : fI D cI cS Z K σ H) (hS : va_S (aZ Z) H0 H locs) (hsz : ls.size = nL) {As : List Value} {r : Int32} {σ' : Nat → Nat → Int32} (hM : Met l yX7_bitOf (wsT yX7_bitOf cX7_bitOf 2 (some .int)) { frames := 0, cells := 0, slots := 0, locals := 0 } (Pm D cI cS Z K As σ) (Qi D cI cS Z K r σ') 0 0 (aZ Z)) (hR : 1 ≤ R.frames ∧ 21 ≤ R.locals) (hn : As.length = 2) (hcat : (rest.map fun v => v.category).sum ≤ 8) (hf : cells ≤ R.cells ∧ slots ≤ R.slots) (hdg : decode cc pc = .ok (.invokestatic 52, 3)) (kk : ∀ (H1 : Heap) (locs1 : List Loc), fI D cI cS Z K σ' H1 → va_S (aZ Z) H0 H1 locs1 → W p l e R s m args below meth c H1 locs1 cells slots Q (F0 m (pc + 3) ls (.int r :: rest))) : W p l e R s m args below meth c H locs cells slots Q (F0 m pc ls (As.reverse ++ rest)) := mm_bi hS (mm_runSN (host := RX7) hx hb hml hts hown hG hI hsz hM (List.mem_of_getElem? (i := 8) rfl) (mT22 _ (List.mem_of_getElem? (i := 7) rfl)) (mT1 _ (List.mem_of_getElem? (i := 2) rfl)) (mT22 _ (List.mem_of_getElem? (i := 8) rfl)) (by decide +kernel) hR rfl rfl hn rfl hcat hf hdg) kk
theorem kX6_56 (hx : p.tables.exec = Jvm.exec) (hb : c.code = cc) {nL : Nat} (hml : c.maxLocals = nL) (hts : ∀ w ∈ wsL_law, w.before args s = true) (hown : s.vm.findClass RX6 = some m.cls) (hG : gK D cI cS s) (hI : fI D cI cS Z K σ H) (hS : va_S (aZ Z) H0 H locs) (hsz : ls.size = nL) {o : Nat} (hL : ly K o lyWarp) {As : List Value} {r : Int32} {σ' : Nat → Nat → Int32} (hM : Met l yX6_liftedShafts (wsT yX6_liftedShafts cX6_liftedShafts 5 (some .int)) { frames := 1, cells := 0, slots := 0, locals := 21 } (Pm D cI cS Z K (.ref (Z + o) :: As) σ) (Qi D cI cS Z K r σ') 0 0 (aZ Z)) (hR : 2 ≤ R.frames ∧ 45 ≤ R.locals) (hn : As.length = 1) (hcat : (rest.map fun v => v.category).sum ≤ 8) (hf : cells ≤ R.cells ∧ slots ≤ R.slots) (hdg : decode cc pc = .ok (.invokevirtual 56, 3)) (kk : ∀ (H1 : Heap) (locs1 : List Loc), fI D cI cS Z K σ' H1 → va_S (aZ Z) H0 H1 locs1 → W p l e R s m args below meth c H1 locs1 cells slots Q (F0 m (pc + 3) ls (.int r :: rest))) : W p l e R s m args below meth c H locs cells slots Q (F0 m pc ls (As.reverse ++ .ref (Z + o) :: rest)) := mm_bi hS (mm_runV hx hb hml hts hown hG hI hsz hM (ly_at hL 0 rfl) (by decide) rfl rfl (mT31 _ (List.mem_of_getElem? (i := 7) rfl)) (mT22 _ (List.mem_of_getElem? (i := 10) rfl)) (mT22 _ (List.mem_of_getElem? (i := 11) rfl)) (mT2 _ (List.mem_of_getElem? (i := 11) rfl)) (mT22 _ (List.mem_of_getElem? (i := 12) rfl)) (by decide +kernel) hR rfl rfl hn rfl hcat hf hdg) kk
theorem kX6_59 (hx : p.tables.exec = Jvm.exec) (hb : c.code = cc) {nL : Nat} (hml : c.maxLocals = nL) (hts : ∀ w ∈ wsL_law, w.before args s = true) (hown : s.vm.findClass RX6 = some m.cls) (hG : gK D cI cS s) (hI : fI D cI cS Z K σ H) (hS : va_S (aZ Z) H0 H locs) (hsz : ls.size = nL) {o : Nat} (hL : ly K o lyWarp) {As : List Value} {r : Int32} {σ' : Nat → Nat → Int32} (hM : Met l yX6_endsOn (wsT yX6_endsOn cX6_endsOn 4 (some .int)) { frames := 1, cells := 0, slots := 0, locals := 21 } (Pm D cI cS Z K (.ref (Z + o) :: As) σ) (Qi D cI cS Z K r σ') 0 0 (aZ Z)) (hR : 2 ≤ R.frames ∧ 44 ≤ R.locals) (hn : As.length = 1) (hcat : (rest.map fun v => v.category).sum ≤ 8) (hf : cells ≤ R.cells ∧ slots ≤ R.slots) (hdg : decode cc pc = .ok (.invokevirtual 59, 3)) (kk : ∀ (H1 : Heap) (locs1 : List Loc), fI D cI cS Z K σ' H1 → va_S (aZ Z) H0 H1 locs1 → W p l e R s m args below meth c H1 locs1 cells slots Q (F0 m (pc + 3) ls (.int r :: rest))) : W p l e R s m args below meth c H locs cells slots Q (F0 m pc ls (As.reverse ++ .ref (Z + o) :: rest)) := mm_bi hS (mm_runV hx hb hml hts hown hG hI hsz hM (ly_at hL 0 rfl) (by decide) rfl rfl (mT31 _ (List.mem_of_getElem? (i := 8) rfl)) (mT22 _ (List.mem_of_getElem? (i := 3) rfl)) (mT22 _ (List.mem_of_getElem? (i := 4) rfl)) (mT2 _ (List.mem_of_getElem? (i := 11) rfl)) (mT22 _ (List.mem_of_getElem? (i := 5) rfl)) (by decide +kernel) hR rfl rfl hn rfl hcat hf hdg) kk
theorem kX6_62 (hx : p.tables.exec = Jvm.exec) (hb : c.code = cc) {nL : Nat} (hml : c.maxLocals = nL) (hts : ∀ w ∈ wsL_law, w.before args s = true) (hown : s.vm.findClass RX6 = some m.cls) (hG : gK D cI cS s) (hI : fI D cI cS Z K σ H) (hS : va_S (aZ Z) H0 H locs) (hsz : ls.size = nL) {o : Nat} (hL : ly K o lyWarp) {As : List Value} {r : Int32} {σ' : Nat → Nat → Int32} (hM : Met l yX6_allEnds (wsT yX6_allEnds cX6_allEnds 1 (some .int)) { frames := 0, cells := 0, slots := 0, locals := 0 } (Pm D cI cS Z K (.ref (Z + o) :: As) σ) (Qi D cI cS Z K r σ') 0 0 (aZ Z)) (hR : 1 ≤ R.frames ∧ 20 ≤ R.locals) (hn : As.length = 0) (hcat : (rest.map fun v => v.category).sum ≤ 8) (hf : cells ≤ R.cells ∧ slots ≤ R.slots) (hdg : decode cc pc = .ok (.invokevirtual 62, 3)) (kk : ∀ (H1 : Heap) (locs1 : List Loc), fI D cI cS Z K σ' H1 → va_S (aZ Z) H0 H1 locs1 → W p l e R s m args below meth c H1 locs1 cells slots Q (F0 m (pc + 3) ls (.int r :: rest))) : W p l e R s m args below meth c H locs cells slots Q (F0 m pc ls (As.reverse ++ .ref (Z + o) :: rest)) := mm_bi hS (mm_runV hx hb hml hts hown hG hI hsz hM (ly_at hL 0 rfl) (by decide) rfl rfl (mT31 _ (List.mem_of_getElem? (i := 9) rfl)) (mT22 _ (List.mem_of_getElem? (i := 21) rfl)) (mT22 _ (List.mem_of_getElem? (i := 22) rfl)) (mT2 _ (List.mem_of_getElem? (i := 11) rfl)) (mT22 _ (List.mem_of_getElem? (i := 23) rfl)) (by decide +kernel) hR rfl rfl hn rfl hcat hf hdg) kk
theorem kX6_66 (hx : p.tables.exec = Jvm.exec) (hb : c.code = cc) {nL : Nat} (hml : c.maxLocals = nL) (hts : ∀ w ∈ wsL_law, w.before args s = true) (hown : s.vm.findClass RX6 = some m.cls) (hG : gK D cI cS s) (hI : fI D cI cS Z K σ H) (hS : va_S (aZ Z) H0 H locs) (hsz : ls.size = nL) {As : List Value} {r : Int32} {σ' : Nat → Nat → Int32} (hM : Met l yJ6_bitCount_0f7a4 (wsT yJ6_bitCount_0f7a4 cJ6_bitCount_0f7a4 1 (some .int)) { frames := 0, cells := 0, slots := 0, locals := 0 } (Pm D cI cS Z K As σ) (Qi D cI cS Z K r σ') 0 0 (aZ Z)) (hR : 1 ≤ R.frames ∧ 20 ≤ R.locals) (hn : As.length = 1) (hcat : (rest.map fun v => v.category).sum ≤ 8) (hf : cells ≤ R.cells ∧ slots ≤ R.slots) (hdg : decode cc pc = .ok (.invokestatic 66, 3)) (kk : ∀ (H1 : Heap) (locs1 : List Loc), fI D cI cS Z K σ' H1 → va_S (aZ Z) H0 H1 locs1 → W p l e R s m args below meth c H1 locs1 cells slots Q (F0 m (pc + 3) ls (.int r :: rest))) : W p l e R s m args below meth c H locs cells slots Q (F0 m pc ls (As.reverse ++ rest)) := mm_bi hS (mm_runS hx hb hml hts hown hG hI hsz hM (mT31 _ (List.mem_of_getElem? (i := 10) rfl)) (mT27 _ (List.mem_of_getElem? (i := 18) rfl)) (mT27 _ (List.mem_of_getElem? (i := 19) rfl)) (mT27 _ (List.mem_of_getElem? (i := 20) rfl)) (by decide +kernel) hR rfl rfl hn rfl hcat hf hdg) kk
theorem kX7_42 (hx : p.tables.exec = Jvm.exec) (hb : c.code = cc) {nL : Nat} (hml : c.maxLocals = nL) (hts : ∀ w ∈ wsL_law, w.before args s = true) (hown : s.vm.findClass RX7 = some m.cls) (hG : gK D cI cS s) (hI : fI D cI cS Z K σ H) (hS : va_S (aZ Z) H0 H locs) (hsz : ls.size = nL) {As : List Value} {r : Int32} {σ' : Nat → Nat → Int32} (hM : Met l yX7_isBetween (wsT yX7_isBetween cX7_isBetween 3 (some .boolean)) { frames := 0, cells := 0, slots := 0, locals := 0 } (Pm D cI cS Z K As σ) (Qz D cI cS Z K r σ') 0 0 (aZ Z)) (hR : 1 ≤ R.frames ∧ 22 ≤ R.locals) (hn : As.length = 3) (hcat : (rest.map fun v => v.category).sum ≤ 8) (hf : cells ≤ R.cells ∧ slots ≤ R.slots) (hdg : decode cc pc = .ok (.invokestatic 42, 3)) (kk : (r = 0 ∨ r = 1) → ∀ (H1 : Heap) (locs1 : List Loc), fI D cI cS Z K σ' H1 → va_S (aZ Z) H0 H1 locs1 → W p l e R s m args below meth c H1 locs1 cells slots Q (F0 m (pc + 3) ls (.int r :: rest))) : W p l e R s m args below meth c H locs cells slots Q (F0 m pc ls (As.reverse ++ rest)) := mm_bz hS (mm_runS hx hb hml hts hown hG hI hsz hM (mT7 _ (List.mem_of_getElem? (i := 3) rfl)) (mT7 _ (List.mem_of_getElem? (i := 4) rfl)) (mT1 _ (List.mem_of_getElem? (i := 2) rfl)) (mT7 _ (List.mem_of_getElem? (i := 5) rfl)) (by decide +kernel) hR rfl rfl hn rfl hcat hf hdg) kk
theorem kX7_46 (hx : p.tables.exec = Jvm.exec) (hb : c.code = cc) {nL : Nat} (hml : c.maxLocals = nL) (hts : ∀ w ∈ wsL_law, w.before args s = true) (hown : s.vm.findClass RX7 = some m.cls) (hG : gK D cI cS s) (hI : fI D cI cS Z K σ H) (hS : va_S (aZ Z) H0 H locs) (hsz : ls.size = nL) {o : Nat} (hL : ly K o lyHist) {As : List Value} {σ' : Nat → Nat → Int32} (hM : Met l yX3_keep (wsT yX3_keep cX3_keep 3 none) { frames := 5, cells := 0, slots := 0, locals := 124 } (Pm D cI cS Z K (.ref (Z + o) :: As) σ) (Qv D cI cS Z K σ') 0 0 (aZ Z)) (hR : 6 ≤ R.frames ∧ 146 ≤ R.locals) (hn : As.length = 1) (hcat : (rest.map fun v => v.category).sum ≤ 8) (hf : cells ≤ R.cells ∧ slots ≤ R.slots) (hdg : decode cc pc = .ok (.invokevirtual 46, 3)) (kk : ∀ (H1 : Heap) (locs1 : List Loc), fI D cI cS Z K σ' H1 → va_S (aZ Z) H0 H1 locs1 → W p l e R s m args below meth c H1 locs1 cells slots Q (F0 m (pc + 3) ls rest)) : W p l e R s m args below meth c H locs cells slots Q (F0 m pc ls (As.reverse ++ .ref (Z + o) :: rest)) := mm_bv hS (mm_runV hx hb hml hts hown hG hI hsz hM (ly_at hL 0 rfl) (by decide) rfl rfl (mT7 _ (List.mem_of_getElem? (i := 6) rfl)) (mT7 _ (List.mem_of_getElem? (i := 7) rfl)) (mT7 _ (List.mem_of_getElem? (i := 8) rfl)) (mT1 _ (List.mem_of_getElem? (i := 18) rfl)) (mT7 _ (List.mem_of_getElem? (i := 9) rfl)) (by decide +kernel) hR rfl rfl hn rfl hcat hf hdg) kk
theorem kX7_60 (hx : p.tables.exec = Jvm.exec) (hb : c.code = cc) {nL : Nat} (hml : c.maxLocals = nL) (hts : ∀ w ∈ wsL_law, w.before args s = true) (hown : s.vm.findClass RX7 = some m.cls) (hG : gK D cI cS s) (hI : fI D cI cS Z K σ H) (hS : va_S (aZ Z) H0 H locs) (hsz : ls.size = nL) {o : Nat} (hL : ly K o lyState) {As : List Value} {σ' : Nat → Nat → Int32} (hM : Met l yX5_reset (wsT yX5_reset cX5_reset 3 none) { frames := 2, cells := 0, slots := 0, locals := 46 } (Pm D cI cS Z K (.ref (Z + o) :: As) σ) (Qv D cI cS Z K σ') 0 0 (aZ Z)) (hR : 3 ≤ R.frames ∧ 68 ≤ R.locals) (hn : As.length = 2) (hcat : (rest.map fun v => v.category).sum ≤ 8) (hf : cells ≤ R.cells ∧ slots ≤ R.slots) (hdg : decode cc pc = .ok (.invokevirtual 60, 3)) (kk : ∀ (H1 : Heap) (locs1 : List Loc), fI D cI cS Z K σ' H1 → va_S (aZ Z) H0 H1 locs1 → W p l e R s m args below meth c H1 locs1 cells slots Q (F0 m (pc + 3) ls rest)) : W p l e R s m args below meth c H locs cells slots Q (F0 m pc ls (As.reverse ++ .ref (Z + o) :: rest)) := mm_bv hS (mm_runV hx hb hml hts hown hG hI hsz hM (ly_at hL 0 rfl) (by decide) rfl rfl (mT9 _ (List.mem_of_getElem? (i := 5) rfl)) (mT4 _ (List.mem_of_getElem? (i := 12) rfl)) (mT4 _ (List.mem_of_getElem? (i := 13) rfl)) (mT1 _ (List.mem_of_getElem? (i := 14) rfl)) (mT4 _ (List.mem_of_getElem? (i := 14) rfl)) (by decide +kernel) hR rfl rfl hn rfl hcat hf hdg) kk
theorem kX7_68 (hx : p.tables.exec = Jvm.exec) (hb : c.code = cc) {nL : Nat} (hml : c.maxLocals = nL) (hts : ∀ w ∈ wsL_law, w.before args s = true) (hown : s.vm.findClass RX7 = some m.cls) (hG : gK D cI cS s) (hI : fI D cI cS Z K σ H) (hS : va_S (aZ Z) H0 H locs) (hsz : ls.size = nL) {o : Nat} (hL : ly K o lyWarp) {As : List Value} {r : Int32} {σ' : Nat → Nat → Int32} (hM : Met l yX6_hasEnd (wsT yX6_hasEnd cX6_hasEnd 2 (some .boolean)) { frames := 1, cells := 0, slots := 0, locals := 22 } (Pm D cI cS Z K (.ref (Z + o) :: As) σ) (Qz D cI cS Z K r σ') 0 0 (aZ Z)) (hR : 2 ≤ R.frames ∧ 43 ≤ R.locals) (hn : As.length = 1) (hcat : (rest.map fun v => v.category).sum ≤ 8) (hf : cells ≤ R.cells ∧ slots ≤ R.slots) (hdg : decode cc pc = .ok (.invokevirtual 68, 3)) (kk : (r = 0 ∨ r = 1) → ∀ (H1 : Heap) (locs1 : List Loc), fI D cI cS Z K σ' H1 → va_S (aZ Z) H0 H1 locs1 → W p l e R s m args below meth c H1 locs1 cells slots Q (F0 m (pc + 3) ls (.int r :: rest))) : W p l e R s m args below meth c H locs cells slots Q (F0 m pc ls (As.reverse ++ .ref (Z + o) :: rest)) := mm_bz hS (mm_runV hx hb hml hts hown hG hI hsz hM (ly_at hL 0 rfl) (by decide) rfl rfl (mT10 _ (List.mem_of_getElem? (i := 1) rfl)) (mT10 _ (List.mem_of_getElem? (i := 2) rfl)) (mT10 _ (List.mem_of_getElem? (i := 3) rfl)) (mT2 _ (List.mem_of_getElem? (i := 11) rfl)) (mT10 _ (List.mem_of_getElem? (i := 4) rfl)) (by decide +kernel) hR rfl rfl hn rfl hcat hf hdg) kk
theorem kX7_74 (hx : p.tables.exec = Jvm.exec) (hb : c.code = cc) {nL : Nat} (hml : c.maxLocals = nL) (hts : ∀ w ∈ wsL_law, w.before args s = true) (hown : s.vm.findClass RX7 = some m.cls) (hG : gK D cI cS s) (hI : fI D cI cS Z K σ H) (hS : va_S (aZ Z) H0 H locs) (hsz : ls.size = nL) {o : Nat} (hL : ly K o lyWarp) {As : List Value} {r : Int32} {σ' : Nat → Nat → Int32} (hM : Met l yX6_hasShaft (wsT yX6_hasShaft cX6_hasShaft 2 (some .boolean)) { frames := 1, cells := 0, slots := 0, locals := 22 } (Pm D cI cS Z K (.ref (Z + o) :: As) σ) (Qz D cI cS Z K r σ') 0 0 (aZ Z)) (hR : 2 ≤ R.frames ∧ 43 ≤ R.locals) (hn : As.length = 1) (hcat : (rest.map fun v => v.category).sum ≤ 8) (hf : cells ≤ R.cells ∧ slots ≤ R.slots) (hdg : decode cc pc = .ok (.invokevirtual 74, 3)) (kk : (r = 0 ∨ r = 1) → ∀ (H1 : Heap) (locs1 : List Loc), fI D cI cS Z K σ' H1 → va_S (aZ Z) H0 H1 locs1 → W p l e R s m args below meth c H1 locs1 cells slots Q (F0 m (pc + 3) ls (.int r :: rest))) : W p l e R s m args below meth c H locs cells slots Q (F0 m pc ls (As.reverse ++ .ref (Z + o) :: rest)) := mm_bz hS (mm_runV hx hb hml hts hown hG hI hsz hM (ly_at hL 0 rfl) (by decide) rfl rfl (mT10 _ (List.mem_of_getElem? (i := 5) rfl)) (mT10 _ (List.mem_of_getElem? (i := 6) rfl)) (mT10 _ (List.mem_of_getElem? (i := 7) rfl)) (mT2 _ (List.mem_of_getElem? (i := 11) rfl)) (mT10 _ (List.mem_of_getElem? (i := 8) rfl)) (by decide +kernel) hR rfl rfl hn rfl hcat hf hdg) kk
theorem kX7_77 (hx : p.tables.exec = Jvm.exec) (hb : c.code = cc) {nL : Nat} (hml : c.maxLocals = nL) (hts : ∀ w ∈ wsL_law, w.before args s = true) (hown : s.vm.findClass RX7 = some m.cls) (hG : gK D cI cS s) (hI : fI D cI cS Z K σ H) (hS : va_S (aZ Z) H0 H locs) (hsz : ls.size = nL) {As : List Value} {r : Int32} {σ' : Nat → Nat → Int32} (hM : Met l yX7_isColor (wsT yX7_isColor cX7_isColor 1 (some .boolean)) { frames := 1, cells := 0, slots := 0, locals := 22 } (Pm D cI cS Z K As σ) (Qz D cI cS Z K r σ') 0 0 (aZ Z)) (hR : 2 ≤ R.frames ∧ 42 ≤ R.locals) (hn : As.length = 1) (hcat : (rest.map fun v => v.category).sum ≤ 8) (hf : cells ≤ R.cells ∧ slots ≤ R.slots) (hdg : decode cc pc = .ok (.invokestatic 77, 3)) (kk : (r = 0 ∨ r = 1) → ∀ (H1 : Heap) (locs1 : List Loc), fI D cI cS Z K σ' H1 → va_S (aZ Z) H0 H1 locs1 → W p l e R s m args below meth c H1 locs1 cells slots Q (F0 m (pc + 3) ls (.int r :: rest))) : W p l e R s m args below meth c H locs cells slots Q (F0 m pc ls (As.reverse ++ rest)) := mm_bz hS (mm_runS hx hb hml hts hown hG hI hsz hM (mT10 _ (List.mem_of_getElem? (i := 9) rfl)) (mT10 _ (List.mem_of_getElem? (i := 10) rfl)) (mT1 _ (List.mem_of_getElem? (i := 2) rfl)) (mT10 _ (List.mem_of_getElem? (i := 11) rfl)) (by decide +kernel) hR rfl rfl hn rfl hcat hf hdg) kk
theorem kX7_83 (hx : p.tables.exec = Jvm.exec) (hb : c.code = cc) {nL : Nat} (hml : c.maxLocals = nL) (hts : ∀ w ∈ wsL_law, w.before args s = true) (hown : s.vm.findClass RX7 = some m.cls) (hG : gK D cI cS s) (hI : fI D cI cS Z K σ H) (hS : va_S (aZ Z) H0 H locs) (hsz : ls.size = nL) {o : Nat} {n : Nat} (hL : ly K o (lyNum n)) {As : List Value} {r : Int32} {σ' : Nat → Nat → Int32} (hM : Met l yX4_at (wsT yX4_at cX4_at 2 (some .int)) { frames := 0, cells := 0, slots := 0, locals := 0 } (Pm D cI cS Z K (.ref (Z + o) :: As) σ) (Qi D cI cS Z K r σ') 0 0 (aZ Z)) (hR : 1 ≤ R.frames ∧ 21 ≤ R.locals) (hn : As.length = 1) (hcat : (rest.map fun v => v.category).sum ≤ 8) (hf : cells ≤ R.cells ∧ slots ≤ R.slots) (hdg : decode cc pc = .ok (.invokevirtual 83, 3)) (kk : ∀ (H1 : Heap) (locs1 : List Loc), fI D cI cS Z K σ' H1 → va_S (aZ Z) H0 H1 locs1 → W p l e R s m args below meth c H1 locs1 cells slots Q (F0 m (pc + 3) ls (.int r :: rest))) : W p l e R s m args below meth c H locs cells slots Q (F0 m pc ls (As.reverse ++ .ref (Z + o) :: rest)) := mm_bi hS (mm_runV hx hb hml hts hown hG hI hsz hM (ly_at hL 0 rfl) (by decide) rfl rfl (mT10 _ (List.mem_of_getElem? (i := 12) rfl)) (mT10 _ (List.mem_of_getElem? (i := 13) rfl)) (mT10 _ (List.mem_of_getElem? (i := 14) rfl)) (mT2 _ (List.mem_of_getElem? (i := 2) rfl)) (mT10 _ (List.mem_of_getElem? (i := 15) rfl)) (by decide +kernel) hR rfl rfl hn rfl hcat hf hdg) kk
theorem kX7_90 (hx : p.tables.exec = Jvm.exec) (hb : c.code = cc) {nL : Nat} (hml : c.maxLocals = nL) (hts : ∀ w ∈ wsL_law, w.before args s = true) (hown : s.vm.findClass RX7 = some m.cls) (hG : gK D cI cS s) (hI : fI D cI cS Z K σ H) (hS : va_S (aZ Z) H0 H locs) (hsz : ls.size = nL) {o : Nat} {n : Nat} (hL : ly K o (lyNum n)) {As : List Value} {σ' : Nat → Nat → Int32} (hM : Met l yX4_put (wsT yX4_put cX4_put 3 none) { frames := 0, cells := 0, slots := 0, locals := 0 } (Pm D cI cS Z K (.ref (Z + o) :: As) σ) (Qv D cI cS Z K σ') 0 0 (aZ Z)) (hR : 1 ≤ R.frames ∧ 22 ≤ R.locals) (hn : As.length = 2) (hcat : (rest.map fun v => v.category).sum ≤ 8) (hf : cells ≤ R.cells ∧ slots ≤ R.slots) (hdg : decode cc pc = .ok (.invokevirtual 90, 3)) (kk : ∀ (H1 : Heap) (locs1 : List Loc), fI D cI cS Z K σ' H1 → va_S (aZ Z) H0 H1 locs1 → W p l e R s m args below meth c H1 locs1 cells slots Q (F0 m (pc + 3) ls rest)) : W p l e R s m args below meth c H locs cells slots Q (F0 m pc ls (As.reverse ++ .ref (Z + o) :: rest)) := mm_bv hS (mm_runV hx hb hml hts hown hG hI hsz hM (ly_at hL 0 rfl) (by decide) rfl rfl (mT10 _ (List.mem_of_getElem? (i := 16) rfl)) (mT5 _ (List.mem_of_getElem? (i := 4) rfl)) (mT5 _ (List.mem_of_getElem? (i := 5) rfl)) (mT2 _ (List.mem_of_getElem? (i := 2) rfl)) (mT5 _ (List.mem_of_getElem? (i := 6) rfl)) (by decide +kernel) hR rfl rfl hn rfl hcat hf hdg) kk
theorem kX7_96 (hx : p.tables.exec = Jvm.exec) (hb : c.code = cc) {nL : Nat} (hml : c.maxLocals = nL) (hts : ∀ w ∈ wsL_law, w.before args s = true) (hown : s.vm.findClass RX7 = some m.cls) (hG : gK D cI cS s) (hI : fI D cI cS Z K σ H) (hS : va_S (aZ Z) H0 H locs) (hsz : ls.size = nL) {o : Nat} (hL : ly K o lyWarp) {As : List Value} {r : Int32} {σ' : Nat → Nat → Int32} (hM : Met l yX6_isLift (wsT yX6_isLift cX6_isLift 2 (some .boolean)) { frames := 1, cells := 0, slots := 0, locals := 22 } (Pm D cI cS Z K (.ref (Z + o) :: As) σ) (Qz D cI cS Z K r σ') 0 0 (aZ Z)) (hR : 2 ≤ R.frames ∧ 43 ≤ R.locals) (hn : As.length = 1) (hcat : (rest.map fun v => v.category).sum ≤ 8) (hf : cells ≤ R.cells ∧ slots ≤ R.slots) (hdg : decode cc pc = .ok (.invokevirtual 96, 3)) (kk : (r = 0 ∨ r = 1) → ∀ (H1 : Heap) (locs1 : List Loc), fI D cI cS Z K σ' H1 → va_S (aZ Z) H0 H1 locs1 → W p l e R s m args below meth c H1 locs1 cells slots Q (F0 m (pc + 3) ls (.int r :: rest))) : W p l e R s m args below meth c H locs cells slots Q (F0 m pc ls (As.reverse ++ .ref (Z + o) :: rest)) := mm_bz hS (mm_runV hx hb hml hts hown hG hI hsz hM (ly_at hL 0 rfl) (by decide) rfl rfl (mT12 _ (List.mem_of_getElem? (i := 3) rfl)) (mT12 _ (List.mem_of_getElem? (i := 4) rfl)) (mT12 _ (List.mem_of_getElem? (i := 5) rfl)) (mT2 _ (List.mem_of_getElem? (i := 11) rfl)) (mT12 _ (List.mem_of_getElem? (i := 6) rfl)) (by decide +kernel) hR rfl rfl hn rfl hcat hf hdg) kk
theorem kX7_103 (hx : p.tables.exec = Jvm.exec) (hb : c.code = cc) {nL : Nat} (hml : c.maxLocals = nL) (hts : ∀ w ∈ wsL_law, w.before args s = true) (hown : s.vm.findClass RX7 = some m.cls) (hG : gK D cI cS s) (hI : fI D cI cS Z K σ H) (hS : va_S (aZ Z) H0 H locs) (hsz : ls.size = nL) {o : Nat} (hL : ly K o lyChain) {As : List Value} {r : Int32} {σ' : Nat → Nat → Int32} (hM : Met l yX0_isFull (wsT yX0_isFull cX0_isFull 1 (some .boolean)) { frames := 0, cells := 0, slots := 0, locals := 0 } (Pm D cI cS Z K (.ref (Z + o) :: As) σ) (Qz D cI cS Z K r σ') 0 0 (aZ Z)) (hR : 1 ≤ R.frames ∧ 20 ≤ R.locals) (hn : As.length = 0) (hcat : (rest.map fun v => v.category).sum ≤ 8) (hf : cells ≤ R.cells ∧ slots ≤ R.slots) (hdg : decode cc pc = .ok (.invokevirtual 103, 3)) (kk : (r = 0 ∨ r = 1) → ∀ (H1 : Heap) (locs1 : List Loc), fI D cI cS Z K σ' H1 → va_S (aZ Z) H0 H1 locs1 → W p l e R s m args below meth c H1 locs1 cells slots Q (F0 m (pc + 3) ls (.int r :: rest))) : W p l e R s m args below meth c H locs cells slots Q (F0 m pc ls (As.reverse ++ .ref (Z + o) :: rest)) := mm_bz hS (mm_runV hx hb hml hts hown hG hI hsz hM (ly_at hL 0 rfl) (by decide) rfl rfl (mT12 _ (List.mem_of_getElem? (i := 7) rfl)) (mT12 _ (List.mem_of_getElem? (i := 8) rfl)) (mT12 _ (List.mem_of_getElem? (i := 9) rfl)) (mT2 _ (List.mem_of_getElem? (i := 15) rfl)) (mT12 _ (List.mem_of_getElem? (i := 10) rfl)) (by decide +kernel) hR rfl rfl hn rfl hcat hf hdg) kk
theorem kX7_109 (hx : p.tables.exec = Jvm.exec) (hb : c.code = cc) {nL : Nat} (hml : c.maxLocals = nL) (hts : ∀ w ∈ wsL_law, w.before args s = true) (hown : s.vm.findClass RX7 = some m.cls) (hG : gK D cI cS s) (hI : fI D cI cS Z K σ H) (hS : va_S (aZ Z) H0 H locs) (hsz : ls.size = nL) {o : Nat} (hL : ly K o lyChain) {As : List Value} {σ' : Nat → Nat → Int32} (hM : Met l yX0_addLast (wsT yX0_addLast cX0_addLast 3 none) { frames := 1, cells := 0, slots := 0, locals := 22 } (Pm D cI cS Z K (.ref (Z + o) :: As) σ) (Qv D cI cS Z K σ') 0 0 (aZ Z)) (hR : 2 ≤ R.frames ∧ 44 ≤ R.locals) (hn : As.length = 2) (hcat : (rest.map fun v => v.category).sum ≤ 8) (hf : cells ≤ R.cells ∧ slots ≤ R.slots) (hdg : decode cc pc = .ok (.invokevirtual 109, 3)) (kk : ∀ (H1 : Heap) (locs1 : List Loc), fI D cI cS Z K σ' H1 → va_S (aZ Z) H0 H1 locs1 → W p l e R s m args below meth c H1 locs1 cells slots Q (F0 m (pc + 3) ls rest)) : W p l e R s m args below meth c H locs cells slots Q (F0 m pc ls (As.reverse ++ .ref (Z + o) :: rest)) := mm_bv hS (mm_runV hx hb hml hts hown hG hI hsz hM (ly_at hL 0 rfl) (by decide) rfl rfl (mT12 _ (List.mem_of_getElem? (i := 11) rfl)) (mT12 _ (List.mem_of_getElem? (i := 12) rfl)) (mT12 _ (List.mem_of_getElem? (i := 13) rfl)) (mT2 _ (List.mem_of_getElem? (i := 15) rfl)) (mT12 _ (List.mem_of_getElem? (i := 14) rfl)) (by decide +kernel) hR rfl rfl hn rfl hcat hf hdg) kk
theorem kX7_115 (hx : p.tables.exec = Jvm.exec) (hb : c.code = cc) {nL : Nat} (hml : c.maxLocals = nL) (hts : ∀ w ∈ wsL_law, w.before args s = true) (hown : s.vm.findClass RX7 = some m.cls) (hG : gK D cI cS s) (hI : fI D cI cS Z K σ H) (hS : va_S (aZ Z) H0 H locs) (hsz : ls.size = nL) {o : Nat} (hL : ly K o lyChain) {As : List Value} {r : Int32} {σ' : Nat → Nat → Int32} (hM : Met l yX0_hasBar (wsT yX0_hasBar cX0_hasBar 2 (some .boolean)) { frames := 1, cells := 0, slots := 0, locals := 22 } (Pm D cI cS Z K (.ref (Z + o) :: As) σ) (Qz D cI cS Z K r σ') 0 0 (aZ Z)) (hR : 2 ≤ R.frames ∧ 43 ≤ R.locals) (hn : As.length = 1) (hcat : (rest.map fun v => v.category).sum ≤ 8) (hf : cells ≤ R.cells ∧ slots ≤ R.slots) (hdg : decode cc pc = .ok (.invokevirtual 115, 3)) (kk : (r = 0 ∨ r = 1) → ∀ (H1 : Heap) (locs1 : List Loc), fI D cI cS Z K σ' H1 → va_S (aZ Z) H0 H1 locs1 → W p l e R s m args below meth c H1 locs1 cells slots Q (F0 m (pc + 3) ls (.int r :: rest))) : W p l e R s m args below meth c H locs cells slots Q (F0 m pc ls (As.reverse ++ .ref (Z + o) :: rest)) := mm_bz hS (mm_runV hx hb hml hts hown hG hI hsz hM (ly_at hL 0 rfl) (by decide) rfl rfl (mT13 _ (List.mem_of_getElem? (i := 11) rfl)) (mT13 _ (List.mem_of_getElem? (i := 12) rfl)) (mT13 _ (List.mem_of_getElem? (i := 13) rfl)) (mT2 _ (List.mem_of_getElem? (i := 15) rfl)) (mT13 _ (List.mem_of_getElem? (i := 14) rfl)) (by decide +kernel) hR rfl rfl hn rfl hcat hf hdg) kk
theorem kX7_131 (hx : p.tables.exec = Jvm.exec) (hb : c.code = cc) {nL : Nat} (hml : c.maxLocals = nL) (hts : ∀ w ∈ wsL_law, w.before args s = true) (hown : s.vm.findClass RX7 = some m.cls) (hG : gK D cI cS s) (hI : fI D cI cS Z K σ H) (hS : va_S (aZ Z) H0 H locs) (hsz : ls.size = nL) {o : Nat} (hL : ly K o lyReader) {As : List Value} {r : Int32} {σ' : Nat → Nat → Int32} (hM : Met l yX1_isFull (wsT yX1_isFull cX1_isFull 1 (some .boolean)) { frames := 0, cells := 0, slots := 0, locals := 0 } (Pm D cI cS Z K (.ref (Z + o) :: As) σ) (Qz D cI cS Z K r σ') 0 0 (aZ Z)) (hR : 1 ≤ R.frames ∧ 20 ≤ R.locals) (hn : As.length = 0) (hcat : (rest.map fun v => v.category).sum ≤ 8) (hf : cells ≤ R.cells ∧ slots ≤ R.slots) (hdg : decode cc pc = .ok (.invokevirtual 131, 3)) (kk : (r = 0 ∨ r = 1) → ∀ (H1 : Heap) (locs1 : List Loc), fI D cI cS Z K σ' H1 → va_S (aZ Z) H0 H1 locs1 → W p l e R s m args below meth c H1 locs1 cells slots Q (F0 m (pc + 3) ls (.int r :: rest))) : W p l e R s m args below meth c H locs cells slots Q (F0 m pc ls (As.reverse ++ .ref (Z + o) :: rest)) := mm_bz hS (mm_runV hx hb hml hts hown hG hI hsz hM (ly_at hL 0 rfl) (by decide) rfl rfl (mT15 _ (List.mem_of_getElem? (i := 7) rfl)) (mT15 _ (List.mem_of_getElem? (i := 8) rfl)) (mT15 _ (List.mem_of_getElem? (i := 9) rfl)) (mT1 _ (List.mem_of_getElem? (i := 22) rfl)) (mT15 _ (List.mem_of_getElem? (i := 10) rfl)) (by decide +kernel) hR rfl rfl hn rfl hcat hf hdg) kk
theorem kX7_132 (hx : p.tables.exec = Jvm.exec) (hb : c.code = cc) {nL : Nat} (hml : c.maxLocals = nL) (hts : ∀ w ∈ wsL_law, w.before args s = true) (hown : s.vm.findClass RX7 = some m.cls) (hG : gK D cI cS s) (hI : fI D cI cS Z K σ H) (hS : va_S (aZ Z) H0 H locs) (hsz : ls.size = nL) {o : Nat} (hL : ly K o lyReader) {As : List Value} {σ' : Nat → Nat → Int32} (hM : Met l yX1_addLast (wsT yX1_addLast cX1_addLast 2 none) { frames := 1, cells := 0, slots := 0, locals := 22 } (Pm D cI cS Z K (.ref (Z + o) :: As) σ) (Qv D cI cS Z K σ') 0 0 (aZ Z)) (hR : 2 ≤ R.frames ∧ 43 ≤ R.locals) (hn : As.length = 1) (hcat : (rest.map fun v => v.category).sum ≤ 8) (hf : cells ≤ R.cells ∧ slots ≤ R.slots) (hdg : decode cc pc = .ok (.invokevirtual 132, 3)) (kk : ∀ (H1 : Heap) (locs1 : List Loc), fI D cI cS Z K σ' H1 → va_S (aZ Z) H0 H1 locs1 → W p l e R s m args below meth c H1 locs1 cells slots Q (F0 m (pc + 3) ls rest)) : W p l e R s m args below meth c H locs cells slots Q (F0 m pc ls (As.reverse ++ .ref (Z + o) :: rest)) := mm_bv hS (mm_runV hx hb hml hts hown hG hI hsz hM (ly_at hL 0 rfl) (by decide) rfl rfl (mT15 _ (List.mem_of_getElem? (i := 12) rfl)) (mT15 _ (List.mem_of_getElem? (i := 13) rfl)) (mT15 _ (List.mem_of_getElem? (i := 14) rfl)) (mT1 _ (List.mem_of_getElem? (i := 22) rfl)) (mT15 _ (List.mem_of_getElem? (i := 15) rfl)) (by decide +kernel) hR rfl rfl hn rfl hcat hf hdg) kk
theorem kX7_140 (hx : p.tables.exec = Jvm.exec) (hb : c.code = cc) {nL : Nat} (hml : c.maxLocals = nL) (hts : ∀ w ∈ wsL_law, w.before args s = true) (hown : s.vm.findClass RX7 = some m.cls) (hG : gK D cI cS s) (hI : fI D cI cS Z K σ H) (hS : va_S (aZ Z) H0 H locs) (hsz : ls.size = nL) {o : Nat} (hL : ly K o lyReader) {As : List Value} {r : Int32} {σ' : Nat → Nat → Int32} (hM : Met l yX1_readChain (wsT yX1_readChain cX1_readChain 3 (some .boolean)) { frames := 5, cells := 0, slots := 0, locals := 108 } (Pm D cI cS Z K (.ref (Z + o) :: As) σ) (Qz D cI cS Z K r σ') 0 0 (aZ Z)) (hR : 6 ≤ R.frames ∧ 130 ≤ R.locals) (hn : As.length = 1) (hcat : (rest.map fun v => v.category).sum ≤ 8) (hf : cells ≤ R.cells ∧ slots ≤ R.slots) (hdg : decode cc pc = .ok (.invokevirtual 140, 3)) (kk : (r = 0 ∨ r = 1) → ∀ (H1 : Heap) (locs1 : List Loc), fI D cI cS Z K σ' H1 → va_S (aZ Z) H0 H1 locs1 → W p l e R s m args below meth c H1 locs1 cells slots Q (F0 m (pc + 3) ls (.int r :: rest))) : W p l e R s m args below meth c H locs cells slots Q (F0 m pc ls (As.reverse ++ .ref (Z + o) :: rest)) := mm_bz hS (mm_runV hx hb hml hts hown hG hI hsz hM (ly_at hL 0 rfl) (by decide) rfl rfl (mT16 _ (List.mem_of_getElem? (i := 14) rfl)) (mT16 _ (List.mem_of_getElem? (i := 15) rfl)) (mT16 _ (List.mem_of_getElem? (i := 16) rfl)) (mT1 _ (List.mem_of_getElem? (i := 22) rfl)) (mT16 _ (List.mem_of_getElem? (i := 17) rfl)) (by decide +kernel) hR rfl rfl hn rfl hcat hf hdg) kk
theorem kX7_147 (hx : p.tables.exec = Jvm.exec) (hb : c.code = cc) {nL : Nat} (hml : c.maxLocals = nL) (hts : ∀ w ∈ wsL_law, w.before args s = true) (hown : s.vm.findClass RX7 = some m.cls) (hG : gK D cI cS s) (hI : fI D cI cS Z K σ H) (hS : va_S (aZ Z) H0 H locs) (hsz : ls.size = nL) {o : Nat} (hL : ly K o lyChain) {As : List Value} {σ' : Nat → Nat → Int32} (hM : Met l yX0_takeBarsOf (wsT yX0_takeBarsOf cX0_takeBarsOf 2 none) { frames := 2, cells := 0, slots := 0, locals := 61 } (Pm D cI cS Z K (.ref (Z + o) :: As) σ) (Qv D cI cS Z K σ') 0 0 (aZ Z)) (hR : 3 ≤ R.frames ∧ 82 ≤ R.locals) (hn : As.length = 1) (hcat : (rest.map fun v => v.category).sum ≤ 8) (hf : cells ≤ R.cells ∧ slots ≤ R.slots) (hdg : decode cc pc = .ok (.invokevirtual 147, 3)) (kk : ∀ (H1 : Heap) (locs1 : List Loc), fI D cI cS Z K σ' H1 → va_S (aZ Z) H0 H1 locs1 → W p l e R s m args below meth c H1 locs1 cells slots Q (F0 m (pc + 3) ls rest)) : W p l e R s m args below meth c H locs cells slots Q (F0 m pc ls (As.reverse ++ .ref (Z + o) :: rest)) := mm_bv hS (mm_runV hx hb hml hts hown hG hI hsz hM (ly_at hL 0 rfl) (by decide) rfl rfl (mT19 _ (List.mem_of_getElem? (i := 5) rfl)) (mT8 _ (List.mem_of_getElem? (i := 18) rfl)) (mT8 _ (List.mem_of_getElem? (i := 19) rfl)) (mT2 _ (List.mem_of_getElem? (i := 15) rfl)) (mT8 _ (List.mem_of_getElem? (i := 20) rfl)) (by decide +kernel) hR rfl rfl hn rfl hcat hf hdg) kk
theorem kX7_151 (hx : p.tables.exec = Jvm.exec) (hb : c.code = cc) {nL : Nat} (hml : c.maxLocals = nL) (hts : ∀ w ∈ wsL_law, w.before args s = true) (hown : s.vm.findClass RX7 = some m.cls) (hG : gK D cI cS s) (hI : fI D cI cS Z K σ H) (hS : va_S (aZ Z) H0 H locs) (hsz : ls.size = nL) {o : Nat} (hL : ly K o lyCloth) {As : List Value} {r : Int32} {σ' : Nat → Nat → Int32} (hM : Met l yX2_isStanding (wsT yX2_isStanding cX2_isStanding 1 (some .boolean)) { frames := 1, cells := 0, slots := 0, locals := 21 } (Pm D cI cS Z K (.ref (Z + o) :: As) σ) (Qz D cI cS Z K r σ') 0 0 (aZ Z)) (hR : 2 ≤ R.frames ∧ 41 ≤ R.locals) (hn : As.length = 0) (hcat : (rest.map fun v => v.category).sum ≤ 8) (hf : cells ≤ R.cells ∧ slots ≤ R.slots) (hdg : decode cc pc = .ok (.invokevirtual 151, 3)) (kk : (r = 0 ∨ r = 1) → ∀ (H1 : Heap) (locs1 : List Loc), fI D cI cS Z K σ' H1 → va_S (aZ Z) H0 H1 locs1 → W p l e R s m args below meth c H1 locs1 cells slots Q (F0 m (pc + 3) ls (.int r :: rest))) : W p l e R s m args below meth c H locs cells slots Q (F0 m pc ls (As.reverse ++ .ref (Z + o) :: rest)) := mm_bz hS (mm_runV hx hb hml hts hown hG hI hsz hM (ly_at hL 0 rfl) (by decide) rfl rfl (mT21 _ (List.mem_of_getElem? (i := 4) rfl)) (mT21 _ (List.mem_of_getElem? (i := 5) rfl)) (mT21 _ (List.mem_of_getElem? (i := 6) rfl)) (mT2 _ (List.mem_of_getElem? (i := 21) rfl)) (mT21 _ (List.mem_of_getElem? (i := 7) rfl)) (by decide +kernel) hR rfl rfl hn rfl hcat hf hdg) kk
theorem kX7_154 (hx : p.tables.exec = Jvm.exec) (hb : c.code = cc) {nL : Nat} (hml : c.maxLocals = nL) (hts : ∀ w ∈ wsL_law, w.before args s = true) (hown : s.vm.findClass RX7 = some m.cls) (hG : gK D cI cS s) (hI : fI D cI cS Z K σ H) (hS : va_S (aZ Z) H0 H locs) (hsz : ls.size = nL) {o : Nat} (hL : ly K o lyCloth) {As : List Value} {r : Int32} {σ' : Nat → Nat → Int32} (hM : Met l yX2_isFull (wsT yX2_isFull cX2_isFull 1 (some .boolean)) { frames := 0, cells := 0, slots := 0, locals := 0 } (Pm D cI cS Z K (.ref (Z + o) :: As) σ) (Qz D cI cS Z K r σ') 0 0 (aZ Z)) (hR : 1 ≤ R.frames ∧ 20 ≤ R.locals) (hn : As.length = 0) (hcat : (rest.map fun v => v.category).sum ≤ 8) (hf : cells ≤ R.cells ∧ slots ≤ R.slots) (hdg : decode cc pc = .ok (.invokevirtual 154, 3)) (kk : (r = 0 ∨ r = 1) → ∀ (H1 : Heap) (locs1 : List Loc), fI D cI cS Z K σ' H1 → va_S (aZ Z) H0 H1 locs1 → W p l e R s m args below meth c H1 locs1 cells slots Q (F0 m (pc + 3) ls (.int r :: rest))) : W p l e R s m args below meth c H locs cells slots Q (F0 m pc ls (As.reverse ++ .ref (Z + o) :: rest)) := mm_bz hS (mm_runV hx hb hml hts hown hG hI hsz hM (ly_at hL 0 rfl) (by decide) rfl rfl (mT21 _ (List.mem_of_getElem? (i := 9) rfl)) (mT21 _ (List.mem_of_getElem? (i := 10) rfl)) (mT21 _ (List.mem_of_getElem? (i := 11) rfl)) (mT2 _ (List.mem_of_getElem? (i := 21) rfl)) (mT21 _ (List.mem_of_getElem? (i := 12) rfl)) (by decide +kernel) hR rfl rfl hn rfl hcat hf hdg) kk
theorem kX7_155 (hx : p.tables.exec = Jvm.exec) (hb : c.code = cc) {nL : Nat} (hml : c.maxLocals = nL) (hts : ∀ w ∈ wsL_law, w.before args s = true) (hown : s.vm.findClass RX7 = some m.cls) (hG : gK D cI cS s) (hI : fI D cI cS Z K σ H) (hS : va_S (aZ Z) H0 H locs) (hsz : ls.size = nL) {o : Nat} (hL : ly K o lyState) {As : List Value} {σ' : Nat → Nat → Int32} (hM : Met l yX5_makePick (wsT yX5_makePick cX5_makePick 4 none) { frames := 2, cells := 0, slots := 0, locals := 53 } (Pm D cI cS Z K (.ref (Z + o) :: As) σ) (Qv D cI cS Z K σ') 0 0 (aZ Z)) (hR : 3 ≤ R.frames ∧ 76 ≤ R.locals) (hn : As.length = 0) (hcat : (rest.map fun v => v.category).sum ≤ 8) (hf : cells ≤ R.cells ∧ slots ≤ R.slots) (hdg : decode cc pc = .ok (.invokevirtual 155, 3)) (kk : ∀ (H1 : Heap) (locs1 : List Loc), fI D cI cS Z K σ' H1 → va_S (aZ Z) H0 H1 locs1 → W p l e R s m args below meth c H1 locs1 cells slots Q (F0 m (pc + 3) ls rest)) : W p l e R s m args below meth c H locs cells slots Q (F0 m pc ls (As.reverse ++ .ref (Z + o) :: rest)) := mm_bv hS (mm_runV hx hb hml hts hown hG hI hsz hM (ly_at hL 0 rfl) (by decide) rfl rfl (mT21 _ (List.mem_of_getElem? (i := 13) rfl)) (mT21 _ (List.mem_of_getElem? (i := 14) rfl)) (mT21 _ (List.mem_of_getElem? (i := 15) rfl)) (mT1 _ (List.mem_of_getElem? (i := 14) rfl)) (mT21 _ (List.mem_of_getElem? (i := 16) rfl)) (by decide +kernel) hR rfl rfl hn rfl hcat hf hdg) kk
theorem kX7_158 (hx : p.tables.exec = Jvm.exec) (hb : c.code = cc) {nL : Nat} (hml : c.maxLocals = nL) (hts : ∀ w ∈ wsL_law, w.before args s = true) (hown : s.vm.findClass RX7 = some m.cls) (hG : gK D cI cS s) (hI : fI D cI cS Z K σ H) (hS : va_S (aZ Z) H0 H locs) (hsz : ls.size = nL) {o : Nat} (hL : ly K o lyState) {As : List Value} {σ' : Nat → Nat → Int32} (hM : Met l yX5_takeOutLastRow (wsT yX5_takeOutLastRow cX5_takeOutLastRow 3 none) { frames := 2, cells := 0, slots := 0, locals := 42 } (Pm D cI cS Z K (.ref (Z + o) :: As) σ) (Qv D cI cS Z K σ') 0 0 (aZ Z)) (hR : 3 ≤ R.frames ∧ 64 ≤ R.locals) (hn : As.length = 0) (hcat : (rest.map fun v => v.category).sum ≤ 8) (hf : cells ≤ R.cells ∧ slots ≤ R.slots) (hdg : decode cc pc = .ok (.invokevirtual 158, 3)) (kk : ∀ (H1 : Heap) (locs1 : List Loc), fI D cI cS Z K σ' H1 → va_S (aZ Z) H0 H1 locs1 → W p l e R s m args below meth c H1 locs1 cells slots Q (F0 m (pc + 3) ls rest)) : W p l e R s m args below meth c H locs cells slots Q (F0 m pc ls (As.reverse ++ .ref (Z + o) :: rest)) := mm_bv hS (mm_runV hx hb hml hts hown hG hI hsz hM (ly_at hL 0 rfl) (by decide) rfl rfl (mT25 _ (List.mem_of_getElem? (i := 15) rfl)) (mT25 _ (List.mem_of_getElem? (i := 16) rfl)) (mT25 _ (List.mem_of_getElem? (i := 17) rfl)) (mT1 _ (List.mem_of_getElem? (i := 14) rfl)) (mT25 _ (List.mem_of_getElem? (i := 18) rfl)) (by decide +kernel) hR rfl rfl hn rfl hcat hf hdg) kk
theorem kX7_164 (hx : p.tables.exec = Jvm.exec) (hb : c.code = cc) {nL : Nat} (hml : c.maxLocals = nL) (hts : ∀ w ∈ wsL_law, w.before args s = true) (hown : s.vm.findClass RX7 = some m.cls) (hG : gK D cI cS s) (hI : fI D cI cS Z K σ H) (hS : va_S (aZ Z) H0 H locs) (hsz : ls.size = nL) {o : Nat} (hL : ly K o lyHist) {As : List Value} {σ' : Nat → Nat → Int32} (hM : Met l yX3_restoreInto (wsT yX3_restoreInto cX3_restoreInto 4 none) { frames := 5, cells := 0, slots := 0, locals := 124 } (Pm D cI cS Z K (.ref (Z + o) :: As) σ) (Qv D cI cS Z K σ') 0 0 (aZ Z)) (hR : 6 ≤ R.frames ∧ 147 ≤ R.locals) (hn : As.length = 1) (hcat : (rest.map fun v => v.category).sum ≤ 8) (hf : cells ≤ R.cells ∧ slots ≤ R.slots) (hdg : decode cc pc = .ok (.invokevirtual 164, 3)) (kk : ∀ (H1 : Heap) (locs1 : List Loc), fI D cI cS Z K σ' H1 → va_S (aZ Z) H0 H1 locs1 → W p l e R s m args below meth c H1 locs1 cells slots Q (F0 m (pc + 3) ls rest)) : W p l e R s m args below meth c H locs cells slots Q (F0 m pc ls (As.reverse ++ .ref (Z + o) :: rest)) := mm_bv hS (mm_runV hx hb hml hts hown hG hI hsz hM (ly_at hL 0 rfl) (by decide) rfl rfl (mT26 _ (List.mem_of_getElem? (i := 20) rfl)) (mT26 _ (List.mem_of_getElem? (i := 21) rfl)) (mT26 _ (List.mem_of_getElem? (i := 22) rfl)) (mT1 _ (List.mem_of_getElem? (i := 18) rfl)) (mT26 _ (List.mem_of_getElem? (i := 23) rfl)) (by decide +kernel) hR rfl rfl hn rfl hcat hf hdg) kk
theorem kX7_170 (hx : p.tables.exec = Jvm.exec) (hb : c.code = cc) {nL : Nat} (hml : c.maxLocals = nL) (hts : ∀ w ∈ wsL_law, w.before args s = true) (hown : s.vm.findClass RX7 = some m.cls) (hG : gK D cI cS s) (hI : fI D cI cS Z K σ H) (hS : va_S (aZ Z) H0 H locs) (hsz : ls.size = nL) {o : Nat} (hL : ly K o lyCloth) {As : List Value} {r : Int32} {σ' : Nat → Nat → Int32} (hM : Met l yX2_wrongPlaces (wsT yX2_wrongPlaces cX2_wrongPlaces 3 (some .int)) { frames := 2, cells := 0, slots := 0, locals := 42 } (Pm D cI cS Z K (.ref (Z + o) :: As) σ) (Qi D cI cS Z K r σ') 0 0 (aZ Z)) (hR : 3 ≤ R.frames ∧ 64 ≤ R.locals) (hn : As.length = 0) (hcat : (rest.map fun v => v.category).sum ≤ 8) (hf : cells ≤ R.cells ∧ slots ≤ R.slots) (hdg : decode cc pc = .ok (.invokevirtual 170, 3)) (kk : ∀ (H1 : Heap) (locs1 : List Loc), fI D cI cS Z K σ' H1 → va_S (aZ Z) H0 H1 locs1 → W p l e R s m args below meth c H1 locs1 cells slots Q (F0 m (pc + 3) ls (.int r :: rest))) : W p l e R s m args below meth c H locs cells slots Q (F0 m pc ls (As.reverse ++ .ref (Z + o) :: rest)) := mm_bi hS (mm_runV hx hb hml hts hown hG hI hsz hM (ly_at hL 0 rfl) (by decide) rfl rfl (mT27 _ (List.mem_of_getElem? (i := 9) rfl)) (mT27 _ (List.mem_of_getElem? (i := 10) rfl)) (mT27 _ (List.mem_of_getElem? (i := 11) rfl)) (mT2 _ (List.mem_of_getElem? (i := 21) rfl)) (mT27 _ (List.mem_of_getElem? (i := 12) rfl)) (by decide +kernel) hR rfl rfl hn rfl hcat hf hdg) kk
theorem kX7_174 (hx : p.tables.exec = Jvm.exec) (hb : c.code = cc) {nL : Nat} (hml : c.maxLocals = nL) (hts : ∀ w ∈ wsL_law, w.before args s = true) (hown : s.vm.findClass RX7 = some m.cls) (hG : gK D cI cS s) (hI : fI D cI cS Z K σ H) (hS : va_S (aZ Z) H0 H locs) (hsz : ls.size = nL) {o : Nat} (hL : ly K o lyCloth) {As : List Value} {r : Int32} {σ' : Nat → Nat → Int32} (hM : Met l yX2_rowsAbove (wsT yX2_rowsAbove cX2_rowsAbove 4 (some .int)) { frames := 1, cells := 0, slots := 0, locals := 21 } (Pm D cI cS Z K (.ref (Z + o) :: As) σ) (Qi D cI cS Z K r σ') 0 0 (aZ Z)) (hR : 2 ≤ R.frames ∧ 44 ≤ R.locals) (hn : As.length = 1) (hcat : (rest.map fun v => v.category).sum ≤ 8) (hf : cells ≤ R.cells ∧ slots ≤ R.slots) (hdg : decode cc pc = .ok (.invokevirtual 174, 3)) (kk : ∀ (H1 : Heap) (locs1 : List Loc), fI D cI cS Z K σ' H1 → va_S (aZ Z) H0 H1 locs1 → W p l e R s m args below meth c H1 locs1 cells slots Q (F0 m (pc + 3) ls (.int r :: rest))) : W p l e R s m args below meth c H locs cells slots Q (F0 m pc ls (As.reverse ++ .ref (Z + o) :: rest)) := mm_bi hS (mm_runV hx hb hml hts hown hG hI hsz hM (ly_at hL 0 rfl) (by decide) rfl rfl (mT28 _ (List.mem_of_getElem? (i := 19) rfl)) (mT28 _ (List.mem_of_getElem? (i := 20) rfl)) (mT28 _ (List.mem_of_getElem? (i := 21) rfl)) (mT2 _ (List.mem_of_getElem? (i := 21) rfl)) (mT28 _ (List.mem_of_getElem? (i := 22) rfl)) (by decide +kernel) hR rfl rfl hn rfl hcat hf hdg) kk
theorem kX7_177 (hx : p.tables.exec = Jvm.exec) (hb : c.code = cc) {nL : Nat} (hml : c.maxLocals = nL) (hts : ∀ w ∈ wsL_law, w.before args s = true) (hown : s.vm.findClass RX7 = some m.cls) (hG : gK D cI cS s) (hI : fI D cI cS Z K σ H) (hS : va_S (aZ Z) H0 H locs) (hsz : ls.size = nL) {o : Nat} (hL : ly K o lyCloth) {As : List Value} {r : Int32} {σ' : Nat → Nat → Int32} (hM : Met l yX2_rowsWrong (wsT yX2_rowsWrong cX2_rowsWrong 4 (some .int)) { frames := 2, cells := 0, slots := 0, locals := 42 } (Pm D cI cS Z K (.ref (Z + o) :: As) σ) (Qi D cI cS Z K r σ') 0 0 (aZ Z)) (hR : 3 ≤ R.frames ∧ 65 ≤ R.locals) (hn : As.length = 1) (hcat : (rest.map fun v => v.category).sum ≤ 8) (hf : cells ≤ R.cells ∧ slots ≤ R.slots) (hdg : decode cc pc = .ok (.invokevirtual 177, 3)) (kk : ∀ (H1 : Heap) (locs1 : List Loc), fI D cI cS Z K σ' H1 → va_S (aZ Z) H0 H1 locs1 → W p l e R s m args below meth c H1 locs1 cells slots Q (F0 m (pc + 3) ls (.int r :: rest))) : W p l e R s m args below meth c H locs cells slots Q (F0 m pc ls (As.reverse ++ .ref (Z + o) :: rest)) := mm_bi hS (mm_runV hx hb hml hts hown hG hI hsz hM (ly_at hL 0 rfl) (by decide) rfl rfl (mT28 _ (List.mem_of_getElem? (i := 23) rfl)) (mT29 _ (List.mem_of_getElem? (i := 0) rfl)) (mT29 _ (List.mem_of_getElem? (i := 1) rfl)) (mT2 _ (List.mem_of_getElem? (i := 21) rfl)) (mT29 _ (List.mem_of_getElem? (i := 2) rfl)) (by decide +kernel) hR rfl rfl hn rfl hcat hf hdg) kk
theorem kX7_180 (hx : p.tables.exec = Jvm.exec) (hb : c.code = cc) {nL : Nat} (hml : c.maxLocals = nL) (hts : ∀ w ∈ wsL_law, w.before args s = true) (hown : s.vm.findClass RX7 = some m.cls) (hG : gK D cI cS s) (hI : fI D cI cS Z K σ H) (hS : va_S (aZ Z) H0 H locs) (hsz : ls.size = nL) {o : Nat} (hL : ly K o lyCloth) {As : List Value} {r : Int32} {σ' : Nat → Nat → Int32} (hM : Met l yX2_longestFloat (wsT yX2_longestFloat cX2_longestFloat 9 (some .int)) { frames := 3, cells := 0, slots := 0, locals := 66 } (Pm D cI cS Z K (.ref (Z + o) :: As) σ) (Qi D cI cS Z K r σ') 0 0 (aZ Z)) (hR : 4 ≤ R.frames ∧ 94 ≤ R.locals) (hn : As.length = 3) (hcat : (rest.map fun v => v.category).sum ≤ 8) (hf : cells ≤ R.cells ∧ slots ≤ R.slots) (hdg : decode cc pc = .ok (.invokevirtual 180, 3)) (kk : ∀ (H1 : Heap) (locs1 : List Loc), fI D cI cS Z K σ' H1 → va_S (aZ Z) H0 H1 locs1 → W p l e R s m args below meth c H1 locs1 cells slots Q (F0 m (pc + 3) ls (.int r :: rest))) : W p l e R s m args below meth c H locs cells slots Q (F0 m pc ls (As.reverse ++ .ref (Z + o) :: rest)) := mm_bi hS (mm_runV hx hb hml hts hown hG hI hsz hM (ly_at hL 0 rfl) (by decide) rfl rfl (mT29 _ (List.mem_of_getElem? (i := 3) rfl)) (mT29 _ (List.mem_of_getElem? (i := 4) rfl)) (mT29 _ (List.mem_of_getElem? (i := 5) rfl)) (mT2 _ (List.mem_of_getElem? (i := 21) rfl)) (mT29 _ (List.mem_of_getElem? (i := 6) rfl)) (by decide +kernel) hR rfl rfl hn rfl hcat hf hdg) kk
theorem kX7_184 (hx : p.tables.exec = Jvm.exec) (hb : c.code = cc) {nL : Nat} (hml : c.maxLocals = nL) (hts : ∀ w ∈ wsL_law, w.before args s = true) (hown : s.vm.findClass RX7 = some m.cls) (hG : gK D cI cS s) (hI : fI D cI cS Z K σ H) (hS : va_S (aZ Z) H0 H locs) (hsz : ls.size = nL) {o : Nat} (hL : ly K o lyWarp) {As : List Value} {r : Int32} {σ' : Nat → Nat → Int32} (hM : Met l yX6_liftedShafts (wsT yX6_liftedShafts cX6_liftedShafts 5 (some .int)) { frames := 1, cells := 0, slots := 0, locals := 21 } (Pm D cI cS Z K (.ref (Z + o) :: As) σ) (Qi D cI cS Z K r σ') 0 0 (aZ Z)) (hR : 2 ≤ R.frames ∧ 45 ≤ R.locals) (hn : As.length = 1) (hcat : (rest.map fun v => v.category).sum ≤ 8) (hf : cells ≤ R.cells ∧ slots ≤ R.slots) (hdg : decode cc pc = .ok (.invokevirtual 184, 3)) (kk : ∀ (H1 : Heap) (locs1 : List Loc), fI D cI cS Z K σ' H1 → va_S (aZ Z) H0 H1 locs1 → W p l e R s m args below meth c H1 locs1 cells slots Q (F0 m (pc + 3) ls (.int r :: rest))) : W p l e R s m args below meth c H locs cells slots Q (F0 m pc ls (As.reverse ++ .ref (Z + o) :: rest)) := mm_bi hS (mm_runV hx hb hml hts hown hG hI hsz hM (ly_at hL 0 rfl) (by decide) rfl rfl (mT31 _ (List.mem_of_getElem? (i := 2) rfl)) (mT22 _ (List.mem_of_getElem? (i := 10) rfl)) (mT22 _ (List.mem_of_getElem? (i := 11) rfl)) (mT2 _ (List.mem_of_getElem? (i := 11) rfl)) (mT22 _ (List.mem_of_getElem? (i := 12) rfl)) (by decide +kernel) hR rfl rfl hn rfl hcat hf hdg) kk
theorem kX7_187 (hx : p.tables.exec = Jvm.exec) (hb : c.code = cc) {nL : Nat} (hml : c.maxLocals = nL) (hts : ∀ w ∈ wsL_law, w.before args s = true) (hown : s.vm.findClass RX7 = some m.cls) (hG : gK D cI cS s) (hI : fI D cI cS Z K σ H) (hS : va_S (aZ Z) H0 H locs) (hsz : ls.size = nL) {o : Nat} (hL : ly K o lyWarp) {As : List Value} {r : Int32} {σ' : Nat → Nat → Int32} (hM : Met l yX6_yarnOfWholePick (wsT yX6_yarnOfWholePick cX6_yarnOfWholePick 4 (some .int)) { frames := 2, cells := 0, slots := 0, locals := 45 } (Pm D cI cS Z K (.ref (Z + o) :: As) σ) (Qi D cI cS Z K r σ') 0 0 (aZ Z)) (hR : 3 ≤ R.frames ∧ 68 ≤ R.locals) (hn : As.length = 1) (hcat : (rest.map fun v => v.category).sum ≤ 8) (hf : cells ≤ R.cells ∧ slots ≤ R.slots) (hdg : decode cc pc = .ok (.invokevirtual 187, 3)) (kk : ∀ (H1 : Heap) (locs1 : List Loc), fI D cI cS Z K σ' H1 → va_S (aZ Z) H0 H1 locs1 → W p l e R s m args below meth c H1 locs1 cells slots Q (F0 m (pc + 3) ls (.int r :: rest))) : W p l e R s m args below meth c H locs cells slots Q (F0 m pc ls (As.reverse ++ .ref (Z + o) :: rest)) := mm_bi hS (mm_runV hx hb hml hts hown hG hI hsz hM (ly_at hL 0 rfl) (by decide) rfl rfl (mT31 _ (List.mem_of_getElem? (i := 3) rfl)) (mT31 _ (List.mem_of_getElem? (i := 4) rfl)) (mT31 _ (List.mem_of_getElem? (i := 5) rfl)) (mT2 _ (List.mem_of_getElem? (i := 11) rfl)) (mT31 _ (List.mem_of_getElem? (i := 6) rfl)) (by decide +kernel) hR rfl rfl hn rfl hcat hf hdg) kk
theorem kX7_190 (hx : p.tables.exec = Jvm.exec) (hb : c.code = cc) {nL : Nat} (hml : c.maxLocals = nL) (hts : ∀ w ∈ wsL_law, w.before args s = true) (hown : s.vm.findClass RX7 = some m.cls) (hG : gK D cI cS s) (hI : fI D cI cS Z K σ H) (hS : va_S (aZ Z) H0 H locs) (hsz : ls.size = nL) {o : Nat} (hL : ly K o lyCloth) {As : List Value} {r : Int32} {σ' : Nat → Nat → Int32} (hM : Met l yX2_hasRow (wsT yX2_hasRow cX2_hasRow 2 (some .boolean)) { frames := 1, cells := 0, slots := 0, locals := 22 } (Pm D cI cS Z K (.ref (Z + o) :: As) σ) (Qz D cI cS Z K r σ') 0 0 (aZ Z)) (hR : 2 ≤ R.frames ∧ 43 ≤ R.locals) (hn : As.length = 1) (hcat : (rest.map fun v => v.category).sum ≤ 8) (hf : cells ≤ R.cells ∧ slots ≤ R.slots) (hdg : decode cc pc = .ok (.invokevirtual 190, 3)) (kk : (r = 0 ∨ r = 1) → ∀ (H1 : Heap) (locs1 : List Loc), fI D cI cS Z K σ' H1 → va_S (aZ Z) H0 H1 locs1 → W p l e R s m args below meth c H1 locs1 cells slots Q (F0 m (pc + 3) ls (.int r :: rest))) : W p l e R s m args below meth c H locs cells slots Q (F0 m pc ls (As.reverse ++ .ref (Z + o) :: rest)) := mm_bz hS (mm_runV hx hb hml hts hown hG hI hsz hM (ly_at hL 0 rfl) (by decide) rfl rfl (mT32 _ (List.mem_of_getElem? (i := 12) rfl)) (mT32 _ (List.mem_of_getElem? (i := 13) rfl)) (mT32 _ (List.mem_of_getElem? (i := 14) rfl)) (mT2 _ (List.mem_of_getElem? (i := 21) rfl)) (mT32 _ (List.mem_of_getElem? (i := 15) rfl)) (by decide +kernel) hR rfl rfl hn rfl hcat hf hdg) kk
theorem kX7_203 (hx : p.tables.exec = Jvm.exec) (hb : c.code = cc) {nL : Nat} (hml : c.maxLocals = nL) (hts : ∀ w ∈ wsL_law, w.before args s = true) (hown : s.vm.findClass RX7 = some m.cls) (hG : gK D cI cS s) (hI : fI D cI cS Z K σ H) (hS : va_S (aZ Z) H0 H locs) (hsz : ls.size = nL) {As : List Value} {r : Int32} {σ' : Nat → Nat → Int32} (hM : Met l yJ6_bitCount_0f7a4 (wsT yJ6_bitCount_0f7a4 cJ6_bitCount_0f7a4 1 (some .int)) { frames := 0, cells := 0, slots := 0, locals := 0 } (Pm D cI cS Z K As σ) (Qi D cI cS Z K r σ') 0 0 (aZ Z)) (hR : 1 ≤ R.frames ∧ 20 ≤ R.locals) (hn : As.length = 1) (hcat : (rest.map fun v => v.category).sum ≤ 8) (hf : cells ≤ R.cells ∧ slots ≤ R.slots) (hdg : decode cc pc = .ok (.invokestatic 203, 3)) (kk : ∀ (H1 : Heap) (locs1 : List Loc), fI D cI cS Z K σ' H1 → va_S (aZ Z) H0 H1 locs1 → W p l e R s m args below meth c H1 locs1 cells slots Q (F0 m (pc + 3) ls (.int r :: rest))) : W p l e R s m args below meth c H locs cells slots Q (F0 m pc ls (As.reverse ++ rest)) := mm_bi hS (mm_runS hx hb hml hts hown hG hI hsz hM (mT32 _ (List.mem_of_getElem? (i := 16) rfl)) (mT27 _ (List.mem_of_getElem? (i := 18) rfl)) (mT27 _ (List.mem_of_getElem? (i := 19) rfl)) (mT27 _ (List.mem_of_getElem? (i := 20) rfl)) (by decide +kernel) hR rfl rfl hn rfl hcat hf hdg) kk
theorem kX7_211 (hx : p.tables.exec = Jvm.exec) (hb : c.code = cc) {nL : Nat} (hml : c.maxLocals = nL) (hts : ∀ w ∈ wsL_law, w.before args s = true) (hown : s.vm.findClass RX7 = some m.cls) (hG : gK D cI cS s) (hI : fI D cI cS Z K σ H) (hS : va_S (aZ Z) H0 H locs) (hsz : ls.size = nL) {o : Nat} (hL : ly K o lyCloth) {As : List Value} {r : Int32} {σ' : Nat → Nat → Int32} (hM : Met l yX2_wrongEnds (wsT yX2_wrongEnds cX2_wrongEnds 2 (some .int)) { frames := 1, cells := 0, slots := 0, locals := 21 } (Pm D cI cS Z K (.ref (Z + o) :: As) σ) (Qi D cI cS Z K r σ') 0 0 (aZ Z)) (hR : 2 ≤ R.frames ∧ 42 ≤ R.locals) (hn : As.length = 1) (hcat : (rest.map fun v => v.category).sum ≤ 8) (hf : cells ≤ R.cells ∧ slots ≤ R.slots) (hdg : decode cc pc = .ok (.invokevirtual 211, 3)) (kk : ∀ (H1 : Heap) (locs1 : List Loc), fI D cI cS Z K σ' H1 → va_S (aZ Z) H0 H1 locs1 → W p l e R s m args below meth c H1 locs1 cells slots Q (F0 m (pc + 3) ls (.int r :: rest))) : W p l e R s m args below meth c H locs cells slots Q (F0 m pc ls (As.reverse ++ .ref (Z + o) :: rest)) := mm_bi hS (mm_runV hx hb hml hts hown hG hI hsz hM (ly_at hL 0 rfl) (by decide) rfl rfl (mT32 _ (List.mem_of_getElem? (i := 17) rfl)) (mT27 _ (List.mem_of_getElem? (i := 14) rfl)) (mT27 _ (List.mem_of_getElem? (i := 15) rfl)) (mT2 _ (List.mem_of_getElem? (i := 21) rfl)) (mT27 _ (List.mem_of_getElem? (i := 16) rfl)) (by decide +kernel) hR rfl rfl hn rfl hcat hf hdg) kk
theorem kX7_214 (hx : p.tables.exec = Jvm.exec) (hb : c.code = cc) {nL : Nat} (hml : c.maxLocals = nL) (hts : ∀ w ∈ wsL_law, w.before args s = true) (hown : s.vm.findClass RX7 = some m.cls) (hG : gK D cI cS s) (hI : fI D cI cS Z K σ H) (hS : va_S (aZ Z) H0 H locs) (hsz : ls.size = nL) {o : Nat} (hL : ly K o lyCloth) {As : List Value} {r : Int32} {σ' : Nat → Nat → Int32} (hM : Met l yX2_sideAt (wsT yX2_sideAt cX2_sideAt 3 (some .int)) { frames := 1, cells := 0, slots := 0, locals := 21 } (Pm D cI cS Z K (.ref (Z + o) :: As) σ) (Qi D cI cS Z K r σ') 0 0 (aZ Z)) (hR : 2 ≤ R.frames ∧ 43 ≤ R.locals) (hn : As.length = 2) (hcat : (rest.map fun v => v.category).sum ≤ 8) (hf : cells ≤ R.cells ∧ slots ≤ R.slots) (hdg : decode cc pc = .ok (.invokevirtual 214, 3)) (kk : ∀ (H1 : Heap) (locs1 : List Loc), fI D cI cS Z K σ' H1 → va_S (aZ Z) H0 H1 locs1 → W p l e R s m args below meth c H1 locs1 cells slots Q (F0 m (pc + 3) ls (.int r :: rest))) : W p l e R s m args below meth c H locs cells slots Q (F0 m pc ls (As.reverse ++ .ref (Z + o) :: rest)) := mm_bi hS (mm_runV hx hb hml hts hown hG hI hsz hM (ly_at hL 0 rfl) (by decide) rfl rfl (mT33 _ (List.mem_of_getElem? (i := 7) rfl)) (mT29 _ (List.mem_of_getElem? (i := 13) rfl)) (mT29 _ (List.mem_of_getElem? (i := 14) rfl)) (mT2 _ (List.mem_of_getElem? (i := 21) rfl)) (mT29 _ (List.mem_of_getElem? (i := 15) rfl)) (by decide +kernel) hR rfl rfl hn rfl hcat hf hdg) kk
theorem kX7_218 (hx : p.tables.exec = Jvm.exec) (hb : c.code = cc) {nL : Nat} (hml : c.maxLocals = nL) (hts : ∀ w ∈ wsL_law, w.before args s = true) (hown : s.vm.findClass RX7 = some m.cls) (hG : gK D cI cS s) (hI : fI D cI cS Z K σ H) (hS : va_S (aZ Z) H0 H locs) (hsz : ls.size = nL) {o : Nat} (hL : ly K o lyLoom) {As : List Value} {r : Int32} {σ' : Nat → Nat → Int32} (hM : Met l yX7_seenColor (wsT yX7_seenColor cX7_seenColor 4 (some .int)) { frames := 1, cells := 0, slots := 0, locals := 21 } (Pm D cI cS Z K (.ref (Z + o) :: As) σ) (Qi D cI cS Z K r σ') 0 0 (aZ Z)) (hR : 2 ≤ R.frames ∧ 44 ≤ R.locals) (hn : As.length = 3) (hcat : (rest.map fun v => v.category).sum ≤ 8) (hf : cells ≤ R.cells ∧ slots ≤ R.slots) (hdg : decode cc pc = .ok (.invokevirtual 218, 3)) (kk : ∀ (H1 : Heap) (locs1 : List Loc), fI D cI cS Z K σ' H1 → va_S (aZ Z) H0 H1 locs1 → W p l e R s m args below meth c H1 locs1 cells slots Q (F0 m (pc + 3) ls (.int r :: rest))) : W p l e R s m args below meth c H locs cells slots Q (F0 m pc ls (As.reverse ++ .ref (Z + o) :: rest)) := mm_bi hS (mm_runV hx hb hml hts hown hG hI hsz hM (ly_at hL 0 rfl) (by decide) rfl rfl (mT33 _ (List.mem_of_getElem? (i := 8) rfl)) (mT33 _ (List.mem_of_getElem? (i := 9) rfl)) (mT33 _ (List.mem_of_getElem? (i := 10) rfl)) (mT1 _ (List.mem_of_getElem? (i := 2) rfl)) (mT33 _ (List.mem_of_getElem? (i := 11) rfl)) (by decide +kernel) hR rfl rfl hn rfl hcat hf hdg) kk
theorem kX7_221 (hx : p.tables.exec = Jvm.exec) (hb : c.code = cc) {nL : Nat} (hml : c.maxLocals = nL) (hts : ∀ w ∈ wsL_law, w.before args s = true) (hown : s.vm.findClass RX7 = some m.cls) (hG : gK D cI cS s) (hI : fI D cI cS Z K σ H) (hS : va_S (aZ Z) H0 H locs) (hsz : ls.size = nL) {As : List Value} {r : Int32} {σ' : Nat → Nat → Int32} (hM : Met l yX7_bitOf (wsT yX7_bitOf cX7_bitOf 2 (some .int)) { frames := 0, cells := 0, slots := 0, locals := 0 } (Pm D cI cS Z K As σ) (Qi D cI cS Z K r σ') 0 0 (aZ Z)) (hR : 1 ≤ R.frames ∧ 21 ≤ R.locals) (hn : As.length = 2) (hcat : (rest.map fun v => v.category).sum ≤ 8) (hf : cells ≤ R.cells ∧ slots ≤ R.slots) (hdg : decode cc pc = .ok (.invokestatic 221, 3)) (kk : ∀ (H1 : Heap) (locs1 : List Loc), fI D cI cS Z K σ' H1 → va_S (aZ Z) H0 H1 locs1 → W p l e R s m args below meth c H1 locs1 cells slots Q (F0 m (pc + 3) ls (.int r :: rest))) : W p l e R s m args below meth c H locs cells slots Q (F0 m pc ls (As.reverse ++ rest)) := mm_bi hS (mm_runS hx hb hml hts hown hG hI hsz hM (mT33 _ (List.mem_of_getElem? (i := 12) rfl)) (mT22 _ (List.mem_of_getElem? (i := 7) rfl)) (mT1 _ (List.mem_of_getElem? (i := 2) rfl)) (mT22 _ (List.mem_of_getElem? (i := 8) rfl)) (by decide +kernel) hR rfl rfl hn rfl hcat hf hdg) kk
theorem kX7_227 (hx : p.tables.exec = Jvm.exec) (hb : c.code = cc) {nL : Nat} (hml : c.maxLocals = nL) (hts : ∀ w ∈ wsL_law, w.before args s = true) (hown : s.vm.findClass RX7 = some m.cls) (hG : gK D cI cS s) (hI : fI D cI cS Z K σ H) (hS : va_S (aZ Z) H0 H locs) (hsz : ls.size = nL) {o : Nat} (hL : ly K o lyCloth) {As : List Value} {r : Int32} {σ' : Nat → Nat → Int32} (hM : Met l yX2_floatsIn (wsT yX2_floatsIn cX2_floatsIn 10 (some .int)) { frames := 3, cells := 0, slots := 0, locals := 66 } (Pm D cI cS Z K (.ref (Z + o) :: As) σ) (Qi D cI cS Z K r σ') 0 0 (aZ Z)) (hR : 4 ≤ R.frames ∧ 95 ≤ R.locals) (hn : As.length = 4) (hcat : (rest.map fun v => v.category).sum ≤ 8) (hf : cells ≤ R.cells ∧ slots ≤ R.slots) (hdg : decode cc pc = .ok (.invokevirtual 227, 3)) (kk : ∀ (H1 : Heap) (locs1 : List Loc), fI D cI cS Z K σ' H1 → va_S (aZ Z) H0 H1 locs1 → W p l e R s m args below meth c H1 locs1 cells slots Q (F0 m (pc + 3) ls (.int r :: rest))) : W p l e R s m args below meth c H locs cells slots Q (F0 m pc ls (As.reverse ++ .ref (Z + o) :: rest)) := mm_bi hS (mm_runV hx hb hml hts hown hG hI hsz hM (ly_at hL 0 rfl) (by decide) rfl rfl (mT33 _ (List.mem_of_getElem? (i := 21) rfl)) (mT33 _ (List.mem_of_getElem? (i := 22) rfl)) (mT33 _ (List.mem_of_getElem? (i := 23) rfl)) (mT2 _ (List.mem_of_getElem? (i := 21) rfl)) (mT34 _ (List.mem_of_getElem? (i := 0) rfl)) (by decide +kernel) hR rfl rfl hn rfl hcat hf hdg) kk
theorem kX7_231 (hx : p.tables.exec = Jvm.exec) (hb : c.code = cc) {nL : Nat} (hml : c.maxLocals = nL) (hts : ∀ w ∈ wsL_law, w.before args s = true) (hown : s.vm.findClass RX7 = some m.cls) (hG : gK D cI cS s) (hI : fI D cI cS Z K σ H) (hS : va_S (aZ Z) H0 H locs) (hsz : ls.size = nL) {o : Nat} (hL : ly K o lyCloth) {As : List Value} {r : Int32} {σ' : Nat → Nat → Int32} (hM : Met l yX2_repeatsAfter (wsT yX2_repeatsAfter cX2_repeatsAfter 3 (some .boolean)) { frames := 2, cells := 0, slots := 0, locals := 43 } (Pm D cI cS Z K (.ref (Z + o) :: As) σ) (Qz D cI cS Z K r σ') 0 0 (aZ Z)) (hR : 3 ≤ R.frames ∧ 65 ≤ R.locals) (hn : As.length = 1) (hcat : (rest.map fun v => v.category).sum ≤ 8) (hf : cells ≤ R.cells ∧ slots ≤ R.slots) (hdg : decode cc pc = .ok (.invokevirtual 231, 3)) (kk : (r = 0 ∨ r = 1) → ∀ (H1 : Heap) (locs1 : List Loc), fI D cI cS Z K σ' H1 → va_S (aZ Z) H0 H1 locs1 → W p l e R s m args below meth c H1 locs1 cells slots Q (F0 m (pc + 3) ls (.int r :: rest))) : W p l e R s m args below meth c H locs cells slots Q (F0 m pc ls (As.reverse ++ .ref (Z + o) :: rest)) := mm_bz hS (mm_runV hx hb hml hts hown hG hI hsz hM (ly_at hL 0 rfl) (by decide) rfl rfl (mT34 _ (List.mem_of_getElem? (i := 9) rfl)) (mT34 _ (List.mem_of_getElem? (i := 10) rfl)) (mT34 _ (List.mem_of_getElem? (i := 11) rfl)) (mT2 _ (List.mem_of_getElem? (i := 21) rfl)) (mT34 _ (List.mem_of_getElem? (i := 12) rfl)) (by decide +kernel) hR rfl rfl hn rfl hcat hf hdg) kk
theorem kX7_234 (hx : p.tables.exec = Jvm.exec) (hb : c.code = cc) {nL : Nat} (hml : c.maxLocals = nL) (hts : ∀ w ∈ wsL_law, w.before args s = true) (hown : s.vm.findClass RX7 = some m.cls) (hG : gK D cI cS s) (hI : fI D cI cS Z K σ H) (hS : va_S (aZ Z) H0 H locs) (hsz : ls.size = nL) {o : Nat} (hL : ly K o lyCloth) {As : List Value} {r : Int32} {σ' : Nat → Nat → Int32} (hM : Met l yX2_hasAlikeBefore (wsT yX2_hasAlikeBefore cX2_hasAlikeBefore 3 (some .boolean)) { frames := 2, cells := 0, slots := 0, locals := 43 } (Pm D cI cS Z K (.ref (Z + o) :: As) σ) (Qz D cI cS Z K r σ') 0 0 (aZ Z)) (hR : 3 ≤ R.frames ∧ 65 ≤ R.locals) (hn : As.length = 1) (hcat : (rest.map fun v => v.category).sum ≤ 8) (hf : cells ≤ R.cells ∧ slots ≤ R.slots) (hdg : decode cc pc = .ok (.invokevirtual 234, 3)) (kk : (r = 0 ∨ r = 1) → ∀ (H1 : Heap) (locs1 : List Loc), fI D cI cS Z K σ' H1 → va_S (aZ Z) H0 H1 locs1 → W p l e R s m args below meth c H1 locs1 cells slots Q (F0 m (pc + 3) ls (.int r :: rest))) : W p l e R s m args below meth c H locs cells slots Q (F0 m pc ls (As.reverse ++ .ref (Z + o) :: rest)) := mm_bz hS (mm_runV hx hb hml hts hown hG hI hsz hM (ly_at hL 0 rfl) (by decide) rfl rfl (mT35 _ (List.mem_of_getElem? (i := 9) rfl)) (mT35 _ (List.mem_of_getElem? (i := 10) rfl)) (mT35 _ (List.mem_of_getElem? (i := 11) rfl)) (mT2 _ (List.mem_of_getElem? (i := 21) rfl)) (mT35 _ (List.mem_of_getElem? (i := 12) rfl)) (by decide +kernel) hR rfl rfl hn rfl hcat hf hdg) kk
theorem kX7_237 (hx : p.tables.exec = Jvm.exec) (hb : c.code = cc) {nL : Nat} (hml : c.maxLocals = nL) (hts : ∀ w ∈ wsL_law, w.before args s = true) (hown : s.vm.findClass RX7 = some m.cls) (hG : gK D cI cS s) (hI : fI D cI cS Z K σ H) (hS : va_S (aZ Z) H0 H locs) (hsz : ls.size = nL) {o : Nat} (hL : ly K o lyLoom) {As : List Value} {σ' : Nat → Nat → Int32} (hM : Met l yX7_readNeeds (wsT yX7_readNeeds cX7_readNeeds 2 none) { frames := 3, cells := 0, slots := 0, locals := 68 } (Pm D cI cS Z K (.ref (Z + o) :: As) σ) (Qv D cI cS Z K σ') 0 0 (aZ Z)) (hR : 4 ≤ R.frames ∧ 89 ≤ R.locals) (hn : As.length = 0) (hcat : (rest.map fun v => v.category).sum ≤ 8) (hf : cells ≤ R.cells ∧ slots ≤ R.slots) (hdg : decode cc pc = .ok (.invokevirtual 237, 3)) (kk : ∀ (H1 : Heap) (locs1 : List Loc), fI D cI cS Z K σ' H1 → va_S (aZ Z) H0 H1 locs1 → W p l e R s m args below meth c H1 locs1 cells slots Q (F0 m (pc + 3) ls rest)) : W p l e R s m args below meth c H locs cells slots Q (F0 m pc ls (As.reverse ++ .ref (Z + o) :: rest)) := mm_bv hS (mm_runV hx hb hml hts hown hG hI hsz hM (ly_at hL 0 rfl) (by decide) rfl rfl (mT35 _ (List.mem_of_getElem? (i := 21) rfl)) (mT35 _ (List.mem_of_getElem? (i := 22) rfl)) (mT35 _ (List.mem_of_getElem? (i := 23) rfl)) (mT1 _ (List.mem_of_getElem? (i := 2) rfl)) (mT36 _ (List.mem_of_getElem? (i := 0) rfl)) (by decide +kernel) hR rfl rfl hn rfl hcat hf hdg) kk
theorem kX7_240 (hx : p.tables.exec = Jvm.exec) (hb : c.code = cc) {nL : Nat} (hml : c.maxLocals = nL) (hts : ∀ w ∈ wsL_law, w.before args s = true) (hown : s.vm.findClass RX7 = some m.cls) (hG : gK D cI cS s) (hI : fI D cI cS Z K σ H) (hS : va_S (aZ Z) H0 H locs) (hsz : ls.size = nL) {o : Nat} {n : Nat} (hL : ly K o (lyNum n)) {As : List Value} {σ' : Nat → Nat → Int32} (hM : Met l yX4_copyFrom (wsT yX4_copyFrom cX4_copyFrom 2 none) { frames := 1, cells := 0, slots := 0, locals := 40 } (Pm D cI cS Z K (.ref (Z + o) :: As) σ) (Qv D cI cS Z K σ') 0 0 (aZ Z)) (hR : 2 ≤ R.frames ∧ 61 ≤ R.locals) (hn : As.length = 1) (hcat : (rest.map fun v => v.category).sum ≤ 8) (hf : cells ≤ R.cells ∧ slots ≤ R.slots) (hdg : decode cc pc = .ok (.invokevirtual 240, 3)) (kk : ∀ (H1 : Heap) (locs1 : List Loc), fI D cI cS Z K σ' H1 → va_S (aZ Z) H0 H1 locs1 → W p l e R s m args below meth c H1 locs1 cells slots Q (F0 m (pc + 3) ls rest)) : W p l e R s m args below meth c H locs cells slots Q (F0 m pc ls (As.reverse ++ .ref (Z + o) :: rest)) := mm_bv hS (mm_runV hx hb hml hts hown hG hI hsz hM (ly_at hL 0 rfl) (by decide) rfl rfl (mT36 _ (List.mem_of_getElem? (i := 1) rfl)) (mT8 _ (List.mem_of_getElem? (i := 4) rfl)) (mT8 _ (List.mem_of_getElem? (i := 5) rfl)) (mT2 _ (List.mem_of_getElem? (i := 2) rfl)) (mT8 _ (List.mem_of_getElem? (i := 6) rfl)) (by decide +kernel) hR rfl rfl hn rfl hcat hf hdg) kk
theorem kX7_244 (hx : p.tables.exec = Jvm.exec) (hb : c.code = cc) {nL : Nat} (hml : c.maxLocals = nL) (hts : ∀ w ∈ wsL_law, w.before args s = true) (hown : s.vm.findClass RX7 = some m.cls) (hG : gK D cI cS s) (hI : fI D cI cS Z K σ H) (hS : va_S (aZ Z) H0 H locs) (hsz : ls.size = nL) {o : Nat} (hL : ly K o lyChain) {As : List Value} {r : Int32} {σ' : Nat → Nat → Int32} (hM : Met l yX0_barAfter (wsT yX0_barAfter cX0_barAfter 2 (some .int)) { frames := 1, cells := 0, slots := 0, locals := 21 } (Pm D cI cS Z K (.ref (Z + o) :: As) σ) (Qi D cI cS Z K r σ') 0 0 (aZ Z)) (hR : 2 ≤ R.frames ∧ 42 ≤ R.locals) (hn : As.length = 1) (hcat : (rest.map fun v => v.category).sum ≤ 8) (hf : cells ≤ R.cells ∧ slots ≤ R.slots) (hdg : decode cc pc = .ok (.invokevirtual 244, 3)) (kk : ∀ (H1 : Heap) (locs1 : List Loc), fI D cI cS Z K σ' H1 → va_S (aZ Z) H0 H1 locs1 → W p l e R s m args below meth c H1 locs1 cells slots Q (F0 m (pc + 3) ls (.int r :: rest))) : W p l e R s m args below meth c H locs cells slots Q (F0 m pc ls (As.reverse ++ .ref (Z + o) :: rest)) := mm_bi hS (mm_runV hx hb hml hts hown hG hI hsz hM (ly_at hL 0 rfl) (by decide) rfl rfl (mT36 _ (List.mem_of_getElem? (i := 2) rfl)) (mT23 _ (List.mem_of_getElem? (i := 1) rfl)) (mT23 _ (List.mem_of_getElem? (i := 2) rfl)) (mT2 _ (List.mem_of_getElem? (i := 15) rfl)) (mT23 _ (List.mem_of_getElem? (i := 3) rfl)) (by decide +kernel) hR rfl rfl hn rfl hcat hf hdg) kk
theorem kX8_32 (hx : p.tables.exec = Jvm.exec) (hb : c.code = cc) {nL : Nat} (hml : c.maxLocals = nL) (hts : ∀ w ∈ wsL_law, w.before args s = true) (hown : s.vm.findClass RX8 = some m.cls) (hG : gK D cI cS s) (hI : fI D cI cS Z K σ H) (hS : va_S (aZ Z) H0 H locs) (hsz : ls.size = nL) {o : Nat} (hL : ly K o lyModel) {As : List Value} {σ' : Nat → Nat → Int32} (hM : Met l yX8_begin (wsT yX8_begin cX8_begin 4 none) { frames := 0, cells := 0, slots := 0, locals := 0 } (Pm D cI cS Z K (.ref (Z + o) :: As) σ) (Qv D cI cS Z K σ') 0 0 (aZ Z)) (hR : 1 ≤ R.frames ∧ 23 ≤ R.locals) (hn : As.length = 2) (hcat : (rest.map fun v => v.category).sum ≤ 8) (hf : cells ≤ R.cells ∧ slots ≤ R.slots) (hdg : decode cc pc = .ok (.invokevirtual 32, 3)) (kk : ∀ (H1 : Heap) (locs1 : List Loc), fI D cI cS Z K σ' H1 → va_S (aZ Z) H0 H1 locs1 → W p l e R s m args below meth c H1 locs1 cells slots Q (F0 m (pc + 3) ls rest)) : W p l e R s m args below meth c H locs cells slots Q (F0 m pc ls (As.reverse ++ .ref (Z + o) :: rest)) := mm_bv hS (mm_runV hx hb hml hts hown hG hI hsz hM (ly_at hL 0 rfl) (by decide) rfl rfl (mT6 _ (List.mem_of_getElem? (i := 17) rfl)) (mT6 _ (List.mem_of_getElem? (i := 18) rfl)) (mT6 _ (List.mem_of_getElem? (i := 19) rfl)) (mT1 _ (List.mem_of_getElem? (i := 5) rfl)) (mT6 _ (List.mem_of_getElem? (i := 20) rfl)) (by decide +kernel) hR rfl rfl hn rfl hcat hf hdg) kk
theorem kX8_39 (hx : p.tables.exec = Jvm.exec) (hb : c.code = cc) {nL : Nat} (hml : c.maxLocals = nL) (hts : ∀ w ∈ wsL_law, w.before args s = true) (hown : s.vm.findClass RX8 = some m.cls) (hG : gK D cI cS s) (hI : fI D cI cS Z K σ H) (hS : va_S (aZ Z) H0 H locs) (hsz : ls.size = nL) {As : List Value} {r : Int32} {σ' : Nat → Nat → Int32} (hM : Met l yX8_in (wsT yX8_in cX8_in 3 (some .boolean)) { frames := 0, cells := 0, slots := 0, locals := 0 } (Pm D cI cS Z K As σ) (Qz D cI cS Z K r σ') 0 0 (aZ Z)) (hR : 1 ≤ R.frames ∧ 22 ≤ R.locals) (hn : As.length = 3) (hcat : (rest.map fun v => v.category).sum ≤ 8) (hf : cells ≤ R.cells ∧ slots ≤ R.slots) (hdg : decode cc pc = .ok (.invokestatic 39, 3)) (kk : (r = 0 ∨ r = 1) → ∀ (H1 : Heap) (locs1 : List Loc), fI D cI cS Z K σ' H1 → va_S (aZ Z) H0 H1 locs1 → W p l e R s m args below meth c H1 locs1 cells slots Q (F0 m (pc + 3) ls (.int r :: rest))) : W p l e R s m args below meth c H locs cells slots Q (F0 m pc ls (As.reverse ++ rest)) := mm_bz hS (mm_runS hx hb hml hts hown hG hI hsz hM (mT9 _ (List.mem_of_getElem? (i := 10) rfl)) (mT9 _ (List.mem_of_getElem? (i := 11) rfl)) (mT1 _ (List.mem_of_getElem? (i := 5) rfl)) (mT9 _ (List.mem_of_getElem? (i := 12) rfl)) (by decide +kernel) hR rfl rfl hn rfl hcat hf hdg) kk
theorem kX8_43 (hx : p.tables.exec = Jvm.exec) (hb : c.code = cc) {nL : Nat} (hml : c.maxLocals = nL) (hts : ∀ w ∈ wsL_law, w.before args s = true) (hown : s.vm.findClass RX8 = some m.cls) (hG : gK D cI cS s) (hI : fI D cI cS Z K σ H) (hS : va_S (aZ Z) H0 H locs) (hsz : ls.size = nL) {o : Nat} (hL : ly K o lyModel) {As : List Value} {σ' : Nat → Nat → Int32} (hM : Met l yX8_act (wsT yX8_act cX8_act 2 none) { frames := 0, cells := 0, slots := 0, locals := 0 } (Pm D cI cS Z K (.ref (Z + o) :: As) σ) (Qv D cI cS Z K σ') 0 0 (aZ Z)) (hR : 1 ≤ R.frames ∧ 21 ≤ R.locals) (hn : As.length = 0) (hcat : (rest.map fun v => v.category).sum ≤ 8) (hf : cells ≤ R.cells ∧ slots ≤ R.slots) (hdg : decode cc pc = .ok (.invokevirtual 43, 3)) (kk : ∀ (H1 : Heap) (locs1 : List Loc), fI D cI cS Z K σ' H1 → va_S (aZ Z) H0 H1 locs1 → W p l e R s m args below meth c H1 locs1 cells slots Q (F0 m (pc + 3) ls rest)) : W p l e R s m args below meth c H locs cells slots Q (F0 m pc ls (As.reverse ++ .ref (Z + o) :: rest)) := mm_bv hS (mm_runV hx hb hml hts hown hG hI hsz hM (ly_at hL 0 rfl) (by decide) rfl rfl (mT9 _ (List.mem_of_getElem? (i := 13) rfl)) (mT9 _ (List.mem_of_getElem? (i := 14) rfl)) (mT9 _ (List.mem_of_getElem? (i := 15) rfl)) (mT1 _ (List.mem_of_getElem? (i := 5) rfl)) (mT9 _ (List.mem_of_getElem? (i := 16) rfl)) (by decide +kernel) hR rfl rfl hn rfl hcat hf hdg) kk
theorem kX8_46 (hx : p.tables.exec = Jvm.exec) (hb : c.code = cc) {nL : Nat} (hml : c.maxLocals = nL) (hts : ∀ w ∈ wsL_law, w.before args s = true) (hown : s.vm.findClass RX8 = some m.cls) (hG : gK D cI cS s) (hI : fI D cI cS Z K σ H) (hS : va_S (aZ Z) H0 H locs) (hsz : ls.size = nL) {o : Nat} (hL : ly K o lyModel) {As : List Value} {r : Int32} {σ' : Nat → Nat → Int32} (hM : Met l yX8_isEnd (wsT yX8_isEnd cX8_isEnd 2 (some .boolean)) { frames := 1, cells := 0, slots := 0, locals := 22 } (Pm D cI cS Z K (.ref (Z + o) :: As) σ) (Qz D cI cS Z K r σ') 0 0 (aZ Z)) (hR : 2 ≤ R.frames ∧ 43 ≤ R.locals) (hn : As.length = 1) (hcat : (rest.map fun v => v.category).sum ≤ 8) (hf : cells ≤ R.cells ∧ slots ≤ R.slots) (hdg : decode cc pc = .ok (.invokevirtual 46, 3)) (kk : (r = 0 ∨ r = 1) → ∀ (H1 : Heap) (locs1 : List Loc), fI D cI cS Z K σ' H1 → va_S (aZ Z) H0 H1 locs1 → W p l e R s m args below meth c H1 locs1 cells slots Q (F0 m (pc + 3) ls (.int r :: rest))) : W p l e R s m args below meth c H locs cells slots Q (F0 m pc ls (As.reverse ++ .ref (Z + o) :: rest)) := mm_bz hS (mm_runV hx hb hml hts hown hG hI hsz hM (ly_at hL 0 rfl) (by decide) rfl rfl (mT10 _ (List.mem_of_getElem? (i := 21) rfl)) (mT10 _ (List.mem_of_getElem? (i := 22) rfl)) (mT10 _ (List.mem_of_getElem? (i := 23) rfl)) (mT1 _ (List.mem_of_getElem? (i := 5) rfl)) (mT11 _ (List.mem_of_getElem? (i := 0) rfl)) (by decide +kernel) hR rfl rfl hn rfl hcat hf hdg) kk
theorem kX8_50 (hx : p.tables.exec = Jvm.exec) (hb : c.code = cc) {nL : Nat} (hml : c.maxLocals = nL) (hts : ∀ w ∈ wsL_law, w.before args s = true) (hown : s.vm.findClass RX8 = some m.cls) (hG : gK D cI cS s) (hI : fI D cI cS Z K σ H) (hS : va_S (aZ Z) H0 H locs) (hsz : ls.size = nL) {o : Nat} (hL : ly K o lyModel) {As : List Value} {r : Int32} {σ' : Nat → Nat → Int32} (hM : Met l yX8_isShaft (wsT yX8_isShaft cX8_isShaft 2 (some .boolean)) { frames := 1, cells := 0, slots := 0, locals := 22 } (Pm D cI cS Z K (.ref (Z + o) :: As) σ) (Qz D cI cS Z K r σ') 0 0 (aZ Z)) (hR : 2 ≤ R.frames ∧ 43 ≤ R.locals) (hn : As.length = 1) (hcat : (rest.map fun v => v.category).sum ≤ 8) (hf : cells ≤ R.cells ∧ slots ≤ R.slots) (hdg : decode cc pc = .ok (.invokevirtual 50, 3)) (kk : (r = 0 ∨ r = 1) → ∀ (H1 : Heap) (locs1 : List Loc), fI D cI cS Z K σ' H1 → va_S (aZ Z) H0 H1 locs1 → W p l e R s m args below meth c H1 locs1 cells slots Q (F0 m (pc + 3) ls (.int r :: rest))) : W p l e R s m args below meth c H locs cells slots Q (F0 m pc ls (As.reverse ++ .ref (Z + o) :: rest)) := mm_bz hS (mm_runV hx hb hml hts hown hG hI hsz hM (ly_at hL 0 rfl) (by decide) rfl rfl (mT11 _ (List.mem_of_getElem? (i := 1) rfl)) (mT11 _ (List.mem_of_getElem? (i := 2) rfl)) (mT11 _ (List.mem_of_getElem? (i := 3) rfl)) (mT1 _ (List.mem_of_getElem? (i := 5) rfl)) (mT11 _ (List.mem_of_getElem? (i := 4) rfl)) (by decide +kernel) hR rfl rfl hn rfl hcat hf hdg) kk
theorem kX8_53 (hx : p.tables.exec = Jvm.exec) (hb : c.code = cc) {nL : Nat} (hml : c.maxLocals = nL) (hts : ∀ w ∈ wsL_law, w.before args s = true) (hown : s.vm.findClass RX8 = some m.cls) (hG : gK D cI cS s) (hI : fI D cI cS Z K σ H) (hS : va_S (aZ Z) H0 H locs) (hsz : ls.size = nL) {As : List Value} {r : Int32} {σ' : Nat → Nat → Int32} (hM : Met l yX8_isColor (wsT yX8_isColor cX8_isColor 1 (some .boolean)) { frames := 1, cells := 0, slots := 0, locals := 22 } (Pm D cI cS Z K As σ) (Qz D cI cS Z K r σ') 0 0 (aZ Z)) (hR : 2 ≤ R.frames ∧ 42 ≤ R.locals) (hn : As.length = 1) (hcat : (rest.map fun v => v.category).sum ≤ 8) (hf : cells ≤ R.cells ∧ slots ≤ R.slots) (hdg : decode cc pc = .ok (.invokestatic 53, 3)) (kk : (r = 0 ∨ r = 1) → ∀ (H1 : Heap) (locs1 : List Loc), fI D cI cS Z K σ' H1 → va_S (aZ Z) H0 H1 locs1 → W p l e R s m args below meth c H1 locs1 cells slots Q (F0 m (pc + 3) ls (.int r :: rest))) : W p l e R s m args below meth c H locs cells slots Q (F0 m pc ls (As.reverse ++ rest)) := mm_bz hS (mm_runS hx hb hml hts hown hG hI hsz hM (mT11 _ (List.mem_of_getElem? (i := 5) rfl)) (mT11 _ (List.mem_of_getElem? (i := 6) rfl)) (mT1 _ (List.mem_of_getElem? (i := 5) rfl)) (mT11 _ (List.mem_of_getElem? (i := 7) rfl)) (by decide +kernel) hR rfl rfl hn rfl hcat hf hdg) kk
theorem kX8_56 (hx : p.tables.exec = Jvm.exec) (hb : c.code = cc) {nL : Nat} (hml : c.maxLocals = nL) (hts : ∀ w ∈ wsL_law, w.before args s = true) (hown : s.vm.findClass RX8 = some m.cls) (hG : gK D cI cS s) (hI : fI D cI cS Z K σ H) (hS : va_S (aZ Z) H0 H locs) (hsz : ls.size = nL) {o : Nat} (hL : ly K o lyModel) {As : List Value} {r : Int32} {σ' : Nat → Nat → Int32} (hM : Met l yX8_put (wsT yX8_put cX8_put 4 (some .int)) { frames := 1, cells := 0, slots := 0, locals := 21 } (Pm D cI cS Z K (.ref (Z + o) :: As) σ) (Qi D cI cS Z K r σ') 0 0 (aZ Z)) (hR : 2 ≤ R.frames ∧ 44 ≤ R.locals) (hn : As.length = 2) (hcat : (rest.map fun v => v.category).sum ≤ 8) (hf : cells ≤ R.cells ∧ slots ≤ R.slots) (hdg : decode cc pc = .ok (.invokevirtual 56, 3)) (kk : ∀ (H1 : Heap) (locs1 : List Loc), fI D cI cS Z K σ' H1 → va_S (aZ Z) H0 H1 locs1 → W p l e R s m args below meth c H1 locs1 cells slots Q (F0 m (pc + 3) ls (.int r :: rest))) : W p l e R s m args below meth c H locs cells slots Q (F0 m pc ls (As.reverse ++ .ref (Z + o) :: rest)) := mm_bi hS (mm_runV hx hb hml hts hown hG hI hsz hM (ly_at hL 0 rfl) (by decide) rfl rfl (mT11 _ (List.mem_of_getElem? (i := 17) rfl)) (mT11 _ (List.mem_of_getElem? (i := 18) rfl)) (mT11 _ (List.mem_of_getElem? (i := 19) rfl)) (mT1 _ (List.mem_of_getElem? (i := 5) rfl)) (mT11 _ (List.mem_of_getElem? (i := 20) rfl)) (by decide +kernel) hR rfl rfl hn rfl hcat hf hdg) kk
theorem kX8_60 (hx : p.tables.exec = Jvm.exec) (hb : c.code = cc) {nL : Nat} (hml : c.maxLocals = nL) (hts : ∀ w ∈ wsL_law, w.before args s = true) (hown : s.vm.findClass RX8 = some m.cls) (hG : gK D cI cS s) (hI : fI D cI cS Z K σ H) (hS : va_S (aZ Z) H0 H locs) (hsz : ls.size = nL) {o : Nat} (hL : ly K o lyModel) {As : List Value} {r : Int32} {σ' : Nat → Nat → Int32} (hM : Met l yX8_isLift (wsT yX8_isLift cX8_isLift 2 (some .boolean)) { frames := 1, cells := 0, slots := 0, locals := 22 } (Pm D cI cS Z K (.ref (Z + o) :: As) σ) (Qz D cI cS Z K r σ') 0 0 (aZ Z)) (hR : 2 ≤ R.frames ∧ 43 ≤ R.locals) (hn : As.length = 1) (hcat : (rest.map fun v => v.category).sum ≤ 8) (hf : cells ≤ R.cells ∧ slots ≤ R.slots) (hdg : decode cc pc = .ok (.invokevirtual 60, 3)) (kk : (r = 0 ∨ r = 1) → ∀ (H1 : Heap) (locs1 : List Loc), fI D cI cS Z K σ' H1 → va_S (aZ Z) H0 H1 locs1 → W p l e R s m args below meth c H1 locs1 cells slots Q (F0 m (pc + 3) ls (.int r :: rest))) : W p l e R s m args below meth c H locs cells slots Q (F0 m pc ls (As.reverse ++ .ref (Z + o) :: rest)) := mm_bz hS (mm_runV hx hb hml hts hown hG hI hsz hM (ly_at hL 0 rfl) (by decide) rfl rfl (mT12 _ (List.mem_of_getElem? (i := 21) rfl)) (mT12 _ (List.mem_of_getElem? (i := 22) rfl)) (mT12 _ (List.mem_of_getElem? (i := 23) rfl)) (mT1 _ (List.mem_of_getElem? (i := 5) rfl)) (mT13 _ (List.mem_of_getElem? (i := 0) rfl)) (by decide +kernel) hR rfl rfl hn rfl hcat hf hdg) kk
theorem kX8_63 (hx : p.tables.exec = Jvm.exec) (hb : c.code = cc) {nL : Nat} (hml : c.maxLocals = nL) (hts : ∀ w ∈ wsL_law, w.before args s = true) (hown : s.vm.findClass RX8 = some m.cls) (hG : gK D cI cS s) (hI : fI D cI cS Z K σ H) (hS : va_S (aZ Z) H0 H locs) (hsz : ls.size = nL) {o : Nat} (hL : ly K o lyModel) {As : List Value} {σ' : Nat → Nat → Int32} (hM : Met l yX8_makeBar (wsT yX8_makeBar cX8_makeBar 4 none) { frames := 0, cells := 0, slots := 0, locals := 0 } (Pm D cI cS Z K (.ref (Z + o) :: As) σ) (Qv D cI cS Z K σ') 0 0 (aZ Z)) (hR : 1 ≤ R.frames ∧ 23 ≤ R.locals) (hn : As.length = 3) (hcat : (rest.map fun v => v.category).sum ≤ 8) (hf : cells ≤ R.cells ∧ slots ≤ R.slots) (hdg : decode cc pc = .ok (.invokevirtual 63, 3)) (kk : ∀ (H1 : Heap) (locs1 : List Loc), fI D cI cS Z K σ' H1 → va_S (aZ Z) H0 H1 locs1 → W p l e R s m args below meth c H1 locs1 cells slots Q (F0 m (pc + 3) ls rest)) : W p l e R s m args below meth c H locs cells slots Q (F0 m pc ls (As.reverse ++ .ref (Z + o) :: rest)) := mm_bv hS (mm_runV hx hb hml hts hown hG hI hsz hM (ly_at hL 0 rfl) (by decide) rfl rfl (mT13 _ (List.mem_of_getElem? (i := 1) rfl)) (mT13 _ (List.mem_of_getElem? (i := 2) rfl)) (mT13 _ (List.mem_of_getElem? (i := 3) rfl)) (mT1 _ (List.mem_of_getElem? (i := 5) rfl)) (mT13 _ (List.mem_of_getElem? (i := 4) rfl)) (by decide +kernel) hR rfl rfl hn rfl hcat hf hdg) kk
theorem kX8_67 (hx : p.tables.exec = Jvm.exec) (hb : c.code = cc) {nL : Nat} (hml : c.maxLocals = nL) (hts : ∀ w ∈ wsL_law, w.before args s = true) (hown : s.vm.findClass RX8 = some m.cls) (hG : gK D cI cS s) (hI : fI D cI cS Z K σ H) (hS : va_S (aZ Z) H0 H locs) (hsz : ls.size = nL) {o : Nat} (hL : ly K o lyModel) {As : List Value} {r : Int32} {σ' : Nat → Nat → Int32} (hM : Met l yX8_isBar (wsT yX8_isBar cX8_isBar 2 (some .boolean)) { frames := 1, cells := 0, slots := 0, locals := 22 } (Pm D cI cS Z K (.ref (Z + o) :: As) σ) (Qz D cI cS Z K r σ') 0 0 (aZ Z)) (hR : 2 ≤ R.frames ∧ 43 ≤ R.locals) (hn : As.length = 1) (hcat : (rest.map fun v => v.category).sum ≤ 8) (hf : cells ≤ R.cells ∧ slots ≤ R.slots) (hdg : decode cc pc = .ok (.invokevirtual 67, 3)) (kk : (r = 0 ∨ r = 1) → ∀ (H1 : Heap) (locs1 : List Loc), fI D cI cS Z K σ' H1 → va_S (aZ Z) H0 H1 locs1 → W p l e R s m args below meth c H1 locs1 cells slots Q (F0 m (pc + 3) ls (.int r :: rest))) : W p l e R s m args below meth c H locs cells slots Q (F0 m pc ls (As.reverse ++ .ref (Z + o) :: rest)) := mm_bz hS (mm_runV hx hb hml hts hown hG hI hsz hM (ly_at hL 0 rfl) (by decide) rfl rfl (mT13 _ (List.mem_of_getElem? (i := 19) rfl)) (mT13 _ (List.mem_of_getElem? (i := 20) rfl)) (mT13 _ (List.mem_of_getElem? (i := 21) rfl)) (mT1 _ (List.mem_of_getElem? (i := 5) rfl)) (mT13 _ (List.mem_of_getElem? (i := 22) rfl)) (by decide +kernel) hR rfl rfl hn rfl hcat hf hdg) kk
theorem kX8_76 (hx : p.tables.exec = Jvm.exec) (hb : c.code = cc) {nL : Nat} (hml : c.maxLocals = nL) (hts : ∀ w ∈ wsL_law, w.before args s = true) (hown : s.vm.findClass RX8 = some m.cls) (hG : gK D cI cS s) (hI : fI D cI cS Z K σ H) (hS : va_S (aZ Z) H0 H locs) (hsz : ls.size = nL) {o : Nat} (hL : ly K o lyModel) {As : List Value} {r : Int32} {σ' : Nat → Nat → Int32} (hM : Met l yX8_here (wsT yX8_here cX8_here 1 (some .int)) { frames := 0, cells := 0, slots := 0, locals := 0 } (Pm D cI cS Z K (.ref (Z + o) :: As) σ) (Qi D cI cS Z K r σ') 0 0 (aZ Z)) (hR : 1 ≤ R.frames ∧ 20 ≤ R.locals) (hn : As.length = 0) (hcat : (rest.map fun v => v.category).sum ≤ 8) (hf : cells ≤ R.cells ∧ slots ≤ R.slots) (hdg : decode cc pc = .ok (.invokevirtual 76, 3)) (kk : ∀ (H1 : Heap) (locs1 : List Loc), fI D cI cS Z K σ' H1 → va_S (aZ Z) H0 H1 locs1 → W p l e R s m args below meth c H1 locs1 cells slots Q (F0 m (pc + 3) ls (.int r :: rest))) : W p l e R s m args below meth c H locs cells slots Q (F0 m pc ls (As.reverse ++ .ref (Z + o) :: rest)) := mm_bi hS (mm_runV hx hb hml hts hown hG hI hsz hM (ly_at hL 0 rfl) (by decide) rfl rfl (mT20 _ (List.mem_of_getElem? (i := 0) rfl)) (mT20 _ (List.mem_of_getElem? (i := 1) rfl)) (mT20 _ (List.mem_of_getElem? (i := 2) rfl)) (mT1 _ (List.mem_of_getElem? (i := 5) rfl)) (mT20 _ (List.mem_of_getElem? (i := 3) rfl)) (by decide +kernel) hR rfl rfl hn rfl hcat hf hdg) kk
theorem kX8_80 (hx : p.tables.exec = Jvm.exec) (hb : c.code = cc) {nL : Nat} (hml : c.maxLocals = nL) (hts : ∀ w ∈ wsL_law, w.before args s = true) (hown : s.vm.findClass RX8 = some m.cls) (hG : gK D cI cS s) (hI : fI D cI cS Z K σ H) (hS : va_S (aZ Z) H0 H locs) (hsz : ls.size = nL) {o : Nat} (hL : ly K o lyModel) {As : List Value} {r : Int32} {σ' : Nat → Nat → Int32} (hM : Met l yX8_isDigit (wsT yX8_isDigit cX8_isDigit 1 (some .boolean)) { frames := 1, cells := 0, slots := 0, locals := 22 } (Pm D cI cS Z K (.ref (Z + o) :: As) σ) (Qz D cI cS Z K r σ') 0 0 (aZ Z)) (hR : 2 ≤ R.frames ∧ 42 ≤ R.locals) (hn : As.length = 0) (hcat : (rest.map fun v => v.category).sum ≤ 8) (hf : cells ≤ R.cells ∧ slots ≤ R.slots) (hdg : decode cc pc = .ok (.invokevirtual 80, 3)) (kk : (r = 0 ∨ r = 1) → ∀ (H1 : Heap) (locs1 : List Loc), fI D cI cS Z K σ' H1 → va_S (aZ Z) H0 H1 locs1 → W p l e R s m args below meth c H1 locs1 cells slots Q (F0 m (pc + 3) ls (.int r :: rest))) : W p l e R s m args below meth c H locs cells slots Q (F0 m pc ls (As.reverse ++ .ref (Z + o) :: rest)) := mm_bz hS (mm_runV hx hb hml hts hown hG hI hsz hM (ly_at hL 0 rfl) (by decide) rfl rfl (mT19 _ (List.mem_of_getElem? (i := 20) rfl)) (mT19 _ (List.mem_of_getElem? (i := 21) rfl)) (mT19 _ (List.mem_of_getElem? (i := 22) rfl)) (mT1 _ (List.mem_of_getElem? (i := 5) rfl)) (mT19 _ (List.mem_of_getElem? (i := 23) rfl)) (by decide +kernel) hR rfl rfl hn rfl hcat hf hdg) kk
theorem kX8_84 (hx : p.tables.exec = Jvm.exec) (hb : c.code = cc) {nL : Nat} (hml : c.maxLocals = nL) (hts : ∀ w ∈ wsL_law, w.before args s = true) (hown : s.vm.findClass RX8 = some m.cls) (hG : gK D cI cS s) (hI : fI D cI cS Z K σ H) (hS : va_S (aZ Z) H0 H locs) (hsz : ls.size = nL) {o : Nat} (hL : ly K o lyModel) {As : List Value} {r : Int32} {σ' : Nat → Nat → Int32} (hM : Met l yX8_takes (wsT yX8_takes cX8_takes 3 (some .boolean)) { frames := 1, cells := 0, slots := 0, locals := 20 } (Pm D cI cS Z K (.ref (Z + o) :: As) σ) (Qz D cI cS Z K r σ') 0 0 (aZ Z)) (hR : 2 ≤ R.frames ∧ 42 ≤ R.locals) (hn : As.length = 1) (hcat : (rest.map fun v => v.category).sum ≤ 8) (hf : cells ≤ R.cells ∧ slots ≤ R.slots) (hdg : decode cc pc = .ok (.invokevirtual 84, 3)) (kk : (r = 0 ∨ r = 1) → ∀ (H1 : Heap) (locs1 : List Loc), fI D cI cS Z K σ' H1 → va_S (aZ Z) H0 H1 locs1 → W p l e R s m args below meth c H1 locs1 cells slots Q (F0 m (pc + 3) ls (.int r :: rest))) : W p l e R s m args below meth c H locs cells slots Q (F0 m pc ls (As.reverse ++ .ref (Z + o) :: rest)) := mm_bz hS (mm_runV hx hb hml hts hown hG hI hsz hM (ly_at hL 0 rfl) (by decide) rfl rfl (mT20 _ (List.mem_of_getElem? (i := 8) rfl)) (mT20 _ (List.mem_of_getElem? (i := 9) rfl)) (mT20 _ (List.mem_of_getElem? (i := 10) rfl)) (mT1 _ (List.mem_of_getElem? (i := 5) rfl)) (mT20 _ (List.mem_of_getElem? (i := 11) rfl)) (by decide +kernel) hR rfl rfl hn rfl hcat hf hdg) kk
theorem kX8_90 (hx : p.tables.exec = Jvm.exec) (hb : c.code = cc) {nL : Nat} (hml : c.maxLocals = nL) (hts : ∀ w ∈ wsL_law, w.before args s = true) (hown : s.vm.findClass RX8 = some m.cls) (hG : gK D cI cS s) (hI : fI D cI cS Z K σ H) (hS : va_S (aZ Z) H0 H locs) (hsz : ls.size = nL) {o : Nat} (hL : ly K o lyModel) {As : List Value} {r : Int32} {σ' : Nat → Nat → Int32} (hM : Met l yX8_readsShafts (wsT yX8_readsShafts cX8_readsShafts 3 (some .int)) { frames := 2, cells := 0, slots := 0, locals := 43 } (Pm D cI cS Z K (.ref (Z + o) :: As) σ) (Qi D cI cS Z K r σ') 0 0 (aZ Z)) (hR : 3 ≤ R.frames ∧ 65 ≤ R.locals) (hn : As.length = 0) (hcat : (rest.map fun v => v.category).sum ≤ 8) (hf : cells ≤ R.cells ∧ slots ≤ R.slots) (hdg : decode cc pc = .ok (.invokevirtual 90, 3)) (kk : ∀ (H1 : Heap) (locs1 : List Loc), fI D cI cS Z K σ' H1 → va_S (aZ Z) H0 H1 locs1 → W p l e R s m args below meth c H1 locs1 cells slots Q (F0 m (pc + 3) ls (.int r :: rest))) : W p l e R s m args below meth c H locs cells slots Q (F0 m pc ls (As.reverse ++ .ref (Z + o) :: rest)) := mm_bi hS (mm_runV hx hb hml hts hown hG hI hsz hM (ly_at hL 0 rfl) (by decide) rfl rfl (mT20 _ (List.mem_of_getElem? (i := 20) rfl)) (mT20 _ (List.mem_of_getElem? (i := 21) rfl)) (mT20 _ (List.mem_of_getElem? (i := 22) rfl)) (mT1 _ (List.mem_of_getElem? (i := 5) rfl)) (mT20 _ (List.mem_of_getElem? (i := 23) rfl)) (by decide +kernel) hR rfl rfl hn rfl hcat hf hdg) kk
theorem kX8_93 (hx : p.tables.exec = Jvm.exec) (hb : c.code = cc) {nL : Nat} (hml : c.maxLocals = nL) (hts : ∀ w ∈ wsL_law, w.before args s = true) (hown : s.vm.findClass RX8 = some m.cls) (hG : gK D cI cS s) (hI : fI D cI cS Z K σ H) (hS : va_S (aZ Z) H0 H locs) (hsz : ls.size = nL) {o : Nat} (hL : ly K o lyModel) {As : List Value} {r : Int32} {σ' : Nat → Nat → Int32} (hM : Met l yX8_readsBar (wsT yX8_readsBar cX8_readsBar 3 (some .boolean)) { frames := 3, cells := 0, slots := 0, locals := 65 } (Pm D cI cS Z K (.ref (Z + o) :: As) σ) (Qz D cI cS Z K r σ') 0 0 (aZ Z)) (hR : 4 ≤ R.frames ∧ 87 ≤ R.locals) (hn : As.length = 0) (hcat : (rest.map fun v => v.category).sum ≤ 8) (hf : cells ≤ R.cells ∧ slots ≤ R.slots) (hdg : decode cc pc = .ok (.invokevirtual 93, 3)) (kk : (r = 0 ∨ r = 1) → ∀ (H1 : Heap) (locs1 : List Loc), fI D cI cS Z K σ' H1 → va_S (aZ Z) H0 H1 locs1 → W p l e R s m args below meth c H1 locs1 cells slots Q (F0 m (pc + 3) ls (.int r :: rest))) : W p l e R s m args below meth c H locs cells slots Q (F0 m pc ls (As.reverse ++ .ref (Z + o) :: rest)) := mm_bz hS (mm_runV hx hb hml hts hown hG hI hsz hM (ly_at hL 0 rfl) (by decide) rfl rfl (mT20 _ (List.mem_of_getElem? (i := 16) rfl)) (mT20 _ (List.mem_of_getElem? (i := 17) rfl)) (mT20 _ (List.mem_of_getElem? (i := 18) rfl)) (mT1 _ (List.mem_of_getElem? (i := 5) rfl)) (mT20 _ (List.mem_of_getElem? (i := 19) rfl)) (by decide +kernel) hR rfl rfl hn rfl hcat hf hdg) kk
theorem kX8_96 (hx : p.tables.exec = Jvm.exec) (hb : c.code = cc) {nL : Nat} (hml : c.maxLocals = nL) (hts : ∀ w ∈ wsL_law, w.before args s = true) (hown : s.vm.findClass RX8 = some m.cls) (hG : gK D cI cS s) (hI : fI D cI cS Z K σ H) (hS : va_S (aZ Z) H0 H locs) (hsz : ls.size = nL) {o : Nat} (hL : ly K o lyModel) {As : List Value} {r : Int32} {σ' : Nat → Nat → Int32} (hM : Met l yX8_readsBars (wsT yX8_readsBars cX8_readsBars 2 (some .boolean)) { frames := 4, cells := 0, slots := 0, locals := 87 } (Pm D cI cS Z K (.ref (Z + o) :: As) σ) (Qz D cI cS Z K r σ') 0 0 (aZ Z)) (hR : 5 ≤ R.frames ∧ 108 ≤ R.locals) (hn : As.length = 0) (hcat : (rest.map fun v => v.category).sum ≤ 8) (hf : cells ≤ R.cells ∧ slots ≤ R.slots) (hdg : decode cc pc = .ok (.invokevirtual 96, 3)) (kk : (r = 0 ∨ r = 1) → ∀ (H1 : Heap) (locs1 : List Loc), fI D cI cS Z K σ' H1 → va_S (aZ Z) H0 H1 locs1 → W p l e R s m args below meth c H1 locs1 cells slots Q (F0 m (pc + 3) ls (.int r :: rest))) : W p l e R s m args below meth c H locs cells slots Q (F0 m pc ls (As.reverse ++ .ref (Z + o) :: rest)) := mm_bz hS (mm_runV hx hb hml hts hown hG hI hsz hM (ly_at hL 0 rfl) (by decide) rfl rfl (mT20 _ (List.mem_of_getElem? (i := 12) rfl)) (mT20 _ (List.mem_of_getElem? (i := 13) rfl)) (mT20 _ (List.mem_of_getElem? (i := 14) rfl)) (mT1 _ (List.mem_of_getElem? (i := 5) rfl)) (mT20 _ (List.mem_of_getElem? (i := 15) rfl)) (by decide +kernel) hR rfl rfl hn rfl hcat hf hdg) kk
theorem kX8_99 (hx : p.tables.exec = Jvm.exec) (hb : c.code = cc) {nL : Nat} (hml : c.maxLocals = nL) (hts : ∀ w ∈ wsL_law, w.before args s = true) (hown : s.vm.findClass RX8 = some m.cls) (hG : gK D cI cS s) (hI : fI D cI cS Z K σ H) (hS : va_S (aZ Z) H0 H locs) (hsz : ls.size = nL) {o : Nat} (hL : ly K o lyModel) {As : List Value} {r : Int32} {σ' : Nat → Nat → Int32} (hM : Met l yX8_isNumber (wsT yX8_isNumber cX8_isNumber 2 (some .boolean)) { frames := 2, cells := 0, slots := 0, locals := 42 } (Pm D cI cS Z K (.ref (Z + o) :: As) σ) (Qz D cI cS Z K r σ') 0 0 (aZ Z)) (hR : 3 ≤ R.frames ∧ 63 ≤ R.locals) (hn : As.length = 0) (hcat : (rest.map fun v => v.category).sum ≤ 8) (hf : cells ≤ R.cells ∧ slots ≤ R.slots) (hdg : decode cc pc = .ok (.invokevirtual 99, 3)) (kk : (r = 0 ∨ r = 1) → ∀ (H1 : Heap) (locs1 : List Loc), fI D cI cS Z K σ' H1 → va_S (aZ Z) H0 H1 locs1 → W p l e R s m args below meth c H1 locs1 cells slots Q (F0 m (pc + 3) ls (.int r :: rest))) : W p l e R s m args below meth c H locs cells slots Q (F0 m pc ls (As.reverse ++ .ref (Z + o) :: rest)) := mm_bz hS (mm_runV hx hb hml hts hown hG hI hsz hM (ly_at hL 0 rfl) (by decide) rfl rfl (mT19 _ (List.mem_of_getElem? (i := 16) rfl)) (mT19 _ (List.mem_of_getElem? (i := 17) rfl)) (mT19 _ (List.mem_of_getElem? (i := 18) rfl)) (mT1 _ (List.mem_of_getElem? (i := 5) rfl)) (mT19 _ (List.mem_of_getElem? (i := 19) rfl)) (by decide +kernel) hR rfl rfl hn rfl hcat hf hdg) kk
theorem kX8_102 (hx : p.tables.exec = Jvm.exec) (hb : c.code = cc) {nL : Nat} (hml : c.maxLocals = nL) (hts : ∀ w ∈ wsL_law, w.before args s = true) (hown : s.vm.findClass RX8 = some m.cls) (hG : gK D cI cS s) (hI : fI D cI cS Z K σ H) (hS : va_S (aZ Z) H0 H locs) (hsz : ls.size = nL) {o : Nat} (hL : ly K o lyModel) {As : List Value} {r : Int32} {σ' : Nat → Nat → Int32} (hM : Met l yX8_readsRepeated (wsT yX8_readsRepeated cX8_readsRepeated 6 (some .boolean)) { frames := 5, cells := 0, slots := 0, locals := 108 } (Pm D cI cS Z K (.ref (Z + o) :: As) σ) (Qz D cI cS Z K r σ') 0 0 (aZ Z)) (hR : 6 ≤ R.frames ∧ 133 ≤ R.locals) (hn : As.length = 0) (hcat : (rest.map fun v => v.category).sum ≤ 8) (hf : cells ≤ R.cells ∧ slots ≤ R.slots) (hdg : decode cc pc = .ok (.invokevirtual 102, 3)) (kk : (r = 0 ∨ r = 1) → ∀ (H1 : Heap) (locs1 : List Loc), fI D cI cS Z K σ' H1 → va_S (aZ Z) H0 H1 locs1 → W p l e R s m args below meth c H1 locs1 cells slots Q (F0 m (pc + 3) ls (.int r :: rest))) : W p l e R s m args below meth c H locs cells slots Q (F0 m pc ls (As.reverse ++ .ref (Z + o) :: rest)) := mm_bz hS (mm_runV hx hb hml hts hown hG hI hsz hM (ly_at hL 0 rfl) (by decide) rfl rfl (mT20 _ (List.mem_of_getElem? (i := 4) rfl)) (mT20 _ (List.mem_of_getElem? (i := 5) rfl)) (mT20 _ (List.mem_of_getElem? (i := 6) rfl)) (mT1 _ (List.mem_of_getElem? (i := 5) rfl)) (mT20 _ (List.mem_of_getElem? (i := 7) rfl)) (by decide +kernel) hR rfl rfl hn rfl hcat hf hdg) kk
theorem kX8_105 (hx : p.tables.exec = Jvm.exec) (hb : c.code = cc) {nL : Nat} (hml : c.maxLocals = nL) (hts : ∀ w ∈ wsL_law, w.before args s = true) (hown : s.vm.findClass RX8 = some m.cls) (hG : gK D cI cS s) (hI : fI D cI cS Z K σ H) (hS : va_S (aZ Z) H0 H locs) (hsz : ls.size = nL) {o : Nat} (hL : ly K o lyModel) {As : List Value} {r : Int32} {σ' : Nat → Nat → Int32} (hM : Met l yX8_readsPart (wsT yX8_readsPart cX8_readsPart 1 (some .boolean)) { frames := 6, cells := 0, slots := 0, locals := 133 } (Pm D cI cS Z K (.ref (Z + o) :: As) σ) (Qz D cI cS Z K r σ') 0 0 (aZ Z)) (hR : 7 ≤ R.frames ∧ 153 ≤ R.locals) (hn : As.length = 0) (hcat : (rest.map fun v => v.category).sum ≤ 8) (hf : cells ≤ R.cells ∧ slots ≤ R.slots) (hdg : decode cc pc = .ok (.invokevirtual 105, 3)) (kk : (r = 0 ∨ r = 1) → ∀ (H1 : Heap) (locs1 : List Loc), fI D cI cS Z K σ' H1 → va_S (aZ Z) H0 H1 locs1 → W p l e R s m args below meth c H1 locs1 cells slots Q (F0 m (pc + 3) ls (.int r :: rest))) : W p l e R s m args below meth c H locs cells slots Q (F0 m pc ls (As.reverse ++ .ref (Z + o) :: rest)) := mm_bz hS (mm_runV hx hb hml hts hown hG hI hsz hM (ly_at hL 0 rfl) (by decide) rfl rfl (mT19 _ (List.mem_of_getElem? (i := 12) rfl)) (mT19 _ (List.mem_of_getElem? (i := 13) rfl)) (mT19 _ (List.mem_of_getElem? (i := 14) rfl)) (mT1 _ (List.mem_of_getElem? (i := 5) rfl)) (mT19 _ (List.mem_of_getElem? (i := 15) rfl)) (by decide +kernel) hR rfl rfl hn rfl hcat hf hdg) kk
theorem kX8_108 (hx : p.tables.exec = Jvm.exec) (hb : c.code = cc) {nL : Nat} (hml : c.maxLocals = nL) (hts : ∀ w ∈ wsL_law, w.before args s = true) (hown : s.vm.findClass RX8 = some m.cls) (hG : gK D cI cS s) (hI : fI D cI cS Z K σ H) (hS : va_S (aZ Z) H0 H locs) (hsz : ls.size = nL) {As : List Value} {r : Int32} {σ' : Nat → Nat → Int32} (hM : Met l yX8_has (wsT yX8_has cX8_has 2 (some .boolean)) { frames := 0, cells := 0, slots := 0, locals := 0 } (Pm D cI cS Z K As σ) (Qz D cI cS Z K r σ') 0 0 (aZ Z)) (hR : 1 ≤ R.frames ∧ 21 ≤ R.locals) (hn : As.length = 2) (hcat : (rest.map fun v => v.category).sum ≤ 8) (hf : cells ≤ R.cells ∧ slots ≤ R.slots) (hdg : decode cc pc = .ok (.invokestatic 108, 3)) (kk : (r = 0 ∨ r = 1) → ∀ (H1 : Heap) (locs1 : List Loc), fI D cI cS Z K σ' H1 → va_S (aZ Z) H0 H1 locs1 → W p l e R s m args below meth c H1 locs1 cells slots Q (F0 m (pc + 3) ls (.int r :: rest))) : W p l e R s m args below meth c H locs cells slots Q (F0 m pc ls (As.reverse ++ rest)) := mm_bz hS (mm_runS hx hb hml hts hown hG hI hsz hM (mT24 _ (List.mem_of_getElem? (i := 16) rfl)) (mT24 _ (List.mem_of_getElem? (i := 17) rfl)) (mT1 _ (List.mem_of_getElem? (i := 5) rfl)) (mT24 _ (List.mem_of_getElem? (i := 18) rfl)) (by decide +kernel) hR rfl rfl hn rfl hcat hf hdg) kk
theorem kX8_112 (hx : p.tables.exec = Jvm.exec) (hb : c.code = cc) {nL : Nat} (hml : c.maxLocals = nL) (hts : ∀ w ∈ wsL_law, w.before args s = true) (hown : s.vm.findClass RX8 = some m.cls) (hG : gK D cI cS s) (hI : fI D cI cS Z K σ H) (hS : va_S (aZ Z) H0 H locs) (hsz : ls.size = nL) {o : Nat} (hL : ly K o lyModel) {As : List Value} {r : Int32} {σ' : Nat → Nat → Int32} (hM : Met l yX8_endAt (wsT yX8_endAt cX8_endAt 3 (some .int)) { frames := 0, cells := 0, slots := 0, locals := 0 } (Pm D cI cS Z K (.ref (Z + o) :: As) σ) (Qi D cI cS Z K r σ') 0 0 (aZ Z)) (hR : 1 ≤ R.frames ∧ 22 ≤ R.locals) (hn : As.length = 2) (hcat : (rest.map fun v => v.category).sum ≤ 8) (hf : cells ≤ R.cells ∧ slots ≤ R.slots) (hdg : decode cc pc = .ok (.invokevirtual 112, 3)) (kk : ∀ (H1 : Heap) (locs1 : List Loc), fI D cI cS Z K σ' H1 → va_S (aZ Z) H0 H1 locs1 → W p l e R s m args below meth c H1 locs1 cells slots Q (F0 m (pc + 3) ls (.int r :: rest))) : W p l e R s m args below meth c H locs cells slots Q (F0 m pc ls (As.reverse ++ .ref (Z + o) :: rest)) := mm_bi hS (mm_runV hx hb hml hts hown hG hI hsz hM (ly_at hL 0 rfl) (by decide) rfl rfl (mT24 _ (List.mem_of_getElem? (i := 23) rfl)) (mT25 _ (List.mem_of_getElem? (i := 0) rfl)) (mT25 _ (List.mem_of_getElem? (i := 1) rfl)) (mT1 _ (List.mem_of_getElem? (i := 5) rfl)) (mT25 _ (List.mem_of_getElem? (i := 2) rfl)) (by decide +kernel) hR rfl rfl hn rfl hcat hf hdg) kk
theorem kX8_115 (hx : p.tables.exec = Jvm.exec) (hb : c.code = cc) {nL : Nat} (hml : c.maxLocals = nL) (hts : ∀ w ∈ wsL_law, w.before args s = true) (hown : s.vm.findClass RX8 = some m.cls) (hG : gK D cI cS s) (hI : fI D cI cS Z K σ H) (hS : va_S (aZ Z) H0 H locs) (hsz : ls.size = nL) {o : Nat} (hL : ly K o lyModel) {As : List Value} {r : Int32} {σ' : Nat → Nat → Int32} (hM : Met l yX8_lifted (wsT yX8_lifted cX8_lifted 5 (some .int)) { frames := 0, cells := 0, slots := 0, locals := 0 } (Pm D cI cS Z K (.ref (Z + o) :: As) σ) (Qi D cI cS Z K r σ') 0 0 (aZ Z)) (hR : 1 ≤ R.frames ∧ 24 ≤ R.locals) (hn : As.length = 1) (hcat : (rest.map fun v => v.category).sum ≤ 8) (hf : cells ≤ R.cells ∧ slots ≤ R.slots) (hdg : decode cc pc = .ok (.invokevirtual 115, 3)) (kk : ∀ (H1 : Heap) (locs1 : List Loc), fI D cI cS Z K σ' H1 → va_S (aZ Z) H0 H1 locs1 → W p l e R s m args below meth c H1 locs1 cells slots Q (F0 m (pc + 3) ls (.int r :: rest))) : W p l e R s m args below meth c H locs cells slots Q (F0 m pc ls (As.reverse ++ .ref (Z + o) :: rest)) := mm_bi hS (mm_runV hx hb hml hts hown hG hI hsz hM (ly_at hL 0 rfl) (by decide) rfl rfl (mT24 _ (List.mem_of_getElem? (i := 8) rfl)) (mT24 _ (List.mem_of_getElem? (i := 9) rfl)) (mT24 _ (List.mem_of_getElem? (i := 10) rfl)) (mT1 _ (List.mem_of_getElem? (i := 5) rfl)) (mT24 _ (List.mem_of_getElem? (i := 11) rfl)) (by decide +kernel) hR rfl rfl hn rfl hcat hf hdg) kk
theorem kX8_119 (hx : p.tables.exec = Jvm.exec) (hb : c.code = cc) {nL : Nat} (hml : c.maxLocals = nL) (hts : ∀ w ∈ wsL_law, w.before args s = true) (hown : s.vm.findClass RX8 = some m.cls) (hG : gK D cI cS s) (hI : fI D cI cS Z K σ H) (hS : va_S (aZ Z) H0 H locs) (hsz : ls.size = nL) {o : Nat} (hL : ly K o lyModel) {As : List Value} {r : Int32} {σ' : Nat → Nat → Int32} (hM : Met l yX8_endsOn (wsT yX8_endsOn cX8_endsOn 4 (some .int)) { frames := 1, cells := 0, slots := 0, locals := 21 } (Pm D cI cS Z K (.ref (Z + o) :: As) σ) (Qi D cI cS Z K r σ') 0 0 (aZ Z)) (hR : 2 ≤ R.frames ∧ 44 ≤ R.locals) (hn : As.length = 1) (hcat : (rest.map fun v => v.category).sum ≤ 8) (hf : cells ≤ R.cells ∧ slots ≤ R.slots) (hdg : decode cc pc = .ok (.invokevirtual 119, 3)) (kk : ∀ (H1 : Heap) (locs1 : List Loc), fI D cI cS Z K σ' H1 → va_S (aZ Z) H0 H1 locs1 → W p l e R s m args below meth c H1 locs1 cells slots Q (F0 m (pc + 3) ls (.int r :: rest))) : W p l e R s m args below meth c H locs cells slots Q (F0 m pc ls (As.reverse ++ .ref (Z + o) :: rest)) := mm_bi hS (mm_runV hx hb hml hts hown hG hI hsz hM (ly_at hL 0 rfl) (by decide) rfl rfl (mT24 _ (List.mem_of_getElem? (i := 12) rfl)) (mT24 _ (List.mem_of_getElem? (i := 13) rfl)) (mT24 _ (List.mem_of_getElem? (i := 14) rfl)) (mT1 _ (List.mem_of_getElem? (i := 5) rfl)) (mT24 _ (List.mem_of_getElem? (i := 15) rfl)) (by decide +kernel) hR rfl rfl hn rfl hcat hf hdg) kk
theorem kX8_122 (hx : p.tables.exec = Jvm.exec) (hb : c.code = cc) {nL : Nat} (hml : c.maxLocals = nL) (hts : ∀ w ∈ wsL_law, w.before args s = true) (hown : s.vm.findClass RX8 = some m.cls) (hG : gK D cI cS s) (hI : fI D cI cS Z K σ H) (hS : va_S (aZ Z) H0 H locs) (hsz : ls.size = nL) {o : Nat} (hL : ly K o lyModel) {As : List Value} {r : Int32} {σ' : Nat → Nat → Int32} (hM : Met l yX8_need (wsT yX8_need cX8_need 4 (some .int)) { frames := 1, cells := 0, slots := 0, locals := 22 } (Pm D cI cS Z K (.ref (Z + o) :: As) σ) (Qi D cI cS Z K r σ') 0 0 (aZ Z)) (hR : 2 ≤ R.frames ∧ 45 ≤ R.locals) (hn : As.length = 3) (hcat : (rest.map fun v => v.category).sum ≤ 8) (hf : cells ≤ R.cells ∧ slots ≤ R.slots) (hdg : decode cc pc = .ok (.invokevirtual 122, 3)) (kk : ∀ (H1 : Heap) (locs1 : List Loc), fI D cI cS Z K σ' H1 → va_S (aZ Z) H0 H1 locs1 → W p l e R s m args below meth c H1 locs1 cells slots Q (F0 m (pc + 3) ls (.int r :: rest))) : W p l e R s m args below meth c H locs cells slots Q (F0 m pc ls (As.reverse ++ .ref (Z + o) :: rest)) := mm_bi hS (mm_runV hx hb hml hts hown hG hI hsz hM (ly_at hL 0 rfl) (by decide) rfl rfl (mT24 _ (List.mem_of_getElem? (i := 19) rfl)) (mT24 _ (List.mem_of_getElem? (i := 20) rfl)) (mT24 _ (List.mem_of_getElem? (i := 21) rfl)) (mT1 _ (List.mem_of_getElem? (i := 5) rfl)) (mT24 _ (List.mem_of_getElem? (i := 22) rfl)) (by decide +kernel) hR rfl rfl hn rfl hcat hf hdg) kk
theorem kX8_126 (hx : p.tables.exec = Jvm.exec) (hb : c.code = cc) {nL : Nat} (hml : c.maxLocals = nL) (hts : ∀ w ∈ wsL_law, w.before args s = true) (hown : s.vm.findClass RX8 = some m.cls) (hG : gK D cI cS s) (hI : fI D cI cS Z K σ H) (hS : va_S (aZ Z) H0 H locs) (hsz : ls.size = nL) {o : Nat} (hL : ly K o lyModel) {As : List Value} {r : Int32} {σ' : Nat → Nat → Int32} (hM : Met l yX8_onward (wsT yX8_onward cX8_onward 1 (some .int)) { frames := 0, cells := 0, slots := 0, locals := 0 } (Pm D cI cS Z K (.ref (Z + o) :: As) σ) (Qi D cI cS Z K r σ') 0 0 (aZ Z)) (hR : 1 ≤ R.frames ∧ 20 ≤ R.locals) (hn : As.length = 0) (hcat : (rest.map fun v => v.category).sum ≤ 8) (hf : cells ≤ R.cells ∧ slots ≤ R.slots) (hdg : decode cc pc = .ok (.invokevirtual 126, 3)) (kk : ∀ (H1 : Heap) (locs1 : List Loc), fI D cI cS Z K σ' H1 → va_S (aZ Z) H0 H1 locs1 → W p l e R s m args below meth c H1 locs1 cells slots Q (F0 m (pc + 3) ls (.int r :: rest))) : W p l e R s m args below meth c H locs cells slots Q (F0 m pc ls (As.reverse ++ .ref (Z + o) :: rest)) := mm_bi hS (mm_runV hx hb hml hts hown hG hI hsz hM (ly_at hL 0 rfl) (by decide) rfl rfl (mT25 _ (List.mem_of_getElem? (i := 3) rfl)) (mT25 _ (List.mem_of_getElem? (i := 4) rfl)) (mT25 _ (List.mem_of_getElem? (i := 5) rfl)) (mT1 _ (List.mem_of_getElem? (i := 5) rfl)) (mT25 _ (List.mem_of_getElem? (i := 6) rfl)) (by decide +kernel) hR rfl rfl hn rfl hcat hf hdg) kk
theorem kX8_129 (hx : p.tables.exec = Jvm.exec) (hb : c.code = cc) {nL : Nat} (hml : c.maxLocals = nL) (hts : ∀ w ∈ wsL_law, w.before args s = true) (hown : s.vm.findClass RX8 = some m.cls) (hG : gK D cI cS s) (hI : fI D cI cS Z K σ H) (hS : va_S (aZ Z) H0 H locs) (hsz : ls.size = nL) {o : Nat} (hL : ly K o lyModel) {As : List Value} {σ' : Nat → Nat → Int32} (hM : Met l yX8_step (wsT yX8_step cX8_step 2 none) { frames := 0, cells := 0, slots := 0, locals := 0 } (Pm D cI cS Z K (.ref (Z + o) :: As) σ) (Qv D cI cS Z K σ') 0 0 (aZ Z)) (hR : 1 ≤ R.frames ∧ 21 ≤ R.locals) (hn : As.length = 1) (hcat : (rest.map fun v => v.category).sum ≤ 8) (hf : cells ≤ R.cells ∧ slots ≤ R.slots) (hdg : decode cc pc = .ok (.invokevirtual 129, 3)) (kk : ∀ (H1 : Heap) (locs1 : List Loc), fI D cI cS Z K σ' H1 → va_S (aZ Z) H0 H1 locs1 → W p l e R s m args below meth c H1 locs1 cells slots Q (F0 m (pc + 3) ls rest)) : W p l e R s m args below meth c H locs cells slots Q (F0 m pc ls (As.reverse ++ .ref (Z + o) :: rest)) := mm_bv hS (mm_runV hx hb hml hts hown hG hI hsz hM (ly_at hL 0 rfl) (by decide) rfl rfl (mT25 _ (List.mem_of_getElem? (i := 7) rfl)) (mT25 _ (List.mem_of_getElem? (i := 8) rfl)) (mT25 _ (List.mem_of_getElem? (i := 9) rfl)) (mT1 _ (List.mem_of_getElem? (i := 5) rfl)) (mT25 _ (List.mem_of_getElem? (i := 10) rfl)) (by decide +kernel) hR rfl rfl hn rfl hcat hf hdg) kk
theorem kX8_133 (hx : p.tables.exec = Jvm.exec) (hb : c.code = cc) {nL : Nat} (hml : c.maxLocals = nL) (hts : ∀ w ∈ wsL_law, w.before args s = true) (hown : s.vm.findClass RX8 = some m.cls) (hG : gK D cI cS s) (hI : fI D cI cS Z K σ H) (hS : va_S (aZ Z) H0 H locs) (hsz : ls.size = nL) {o : Nat} (hL : ly K o lyModel) {As : List Value} {r : Int32} {σ' : Nat → Nat → Int32} (hM : Met l yX8_of (wsT yX8_of cX8_of 3 (some .int)) { frames := 0, cells := 0, slots := 0, locals := 0 } (Pm D cI cS Z K (.ref (Z + o) :: As) σ) (Qi D cI cS Z K r σ') 0 0 (aZ Z)) (hR : 1 ≤ R.frames ∧ 22 ≤ R.locals) (hn : As.length = 2) (hcat : (rest.map fun v => v.category).sum ≤ 8) (hf : cells ≤ R.cells ∧ slots ≤ R.slots) (hdg : decode cc pc = .ok (.invokevirtual 133, 3)) (kk : ∀ (H1 : Heap) (locs1 : List Loc), fI D cI cS Z K σ' H1 → va_S (aZ Z) H0 H1 locs1 → W p l e R s m args below meth c H1 locs1 cells slots Q (F0 m (pc + 3) ls (.int r :: rest))) : W p l e R s m args below meth c H locs cells slots Q (F0 m pc ls (As.reverse ++ .ref (Z + o) :: rest)) := mm_bi hS (mm_runV hx hb hml hts hown hG hI hsz hM (ly_at hL 0 rfl) (by decide) rfl rfl (mT23 _ (List.mem_of_getElem? (i := 20) rfl)) (mT23 _ (List.mem_of_getElem? (i := 21) rfl)) (mT23 _ (List.mem_of_getElem? (i := 22) rfl)) (mT1 _ (List.mem_of_getElem? (i := 5) rfl)) (mT23 _ (List.mem_of_getElem? (i := 23) rfl)) (by decide +kernel) hR rfl rfl hn rfl hcat hf hdg) kk
theorem kX8_136 (hx : p.tables.exec = Jvm.exec) (hb : c.code = cc) {nL : Nat} (hml : c.maxLocals = nL) (hts : ∀ w ∈ wsL_law, w.before args s = true) (hown : s.vm.findClass RX8 = some m.cls) (hG : gK D cI cS s) (hI : fI D cI cS Z K σ H) (hS : va_S (aZ Z) H0 H locs) (hsz : ls.size = nL) {o : Nat} (hL : ly K o lyModel) {As : List Value} {r : Int32} {σ' : Nat → Nat → Int32} (hM : Met l yX8_allEnds (wsT yX8_allEnds cX8_allEnds 1 (some .int)) { frames := 0, cells := 0, slots := 0, locals := 0 } (Pm D cI cS Z K (.ref (Z + o) :: As) σ) (Qi D cI cS Z K r σ') 0 0 (aZ Z)) (hR : 1 ≤ R.frames ∧ 20 ≤ R.locals) (hn : As.length = 0) (hcat : (rest.map fun v => v.category).sum ≤ 8) (hf : cells ≤ R.cells ∧ slots ≤ R.slots) (hdg : decode cc pc = .ok (.invokevirtual 136, 3)) (kk : ∀ (H1 : Heap) (locs1 : List Loc), fI D cI cS Z K σ' H1 → va_S (aZ Z) H0 H1 locs1 → W p l e R s m args below meth c H1 locs1 cells slots Q (F0 m (pc + 3) ls (.int r :: rest))) : W p l e R s m args below meth c H locs cells slots Q (F0 m pc ls (As.reverse ++ .ref (Z + o) :: rest)) := mm_bi hS (mm_runV hx hb hml hts hown hG hI hsz hM (ly_at hL 0 rfl) (by decide) rfl rfl (mT24 _ (List.mem_of_getElem? (i := 0) rfl)) (mT24 _ (List.mem_of_getElem? (i := 1) rfl)) (mT24 _ (List.mem_of_getElem? (i := 2) rfl)) (mT1 _ (List.mem_of_getElem? (i := 5) rfl)) (mT24 _ (List.mem_of_getElem? (i := 3) rfl)) (by decide +kernel) hR rfl rfl hn rfl hcat hf hdg) kk
theorem kX8_139 (hx : p.tables.exec = Jvm.exec) (hb : c.code = cc) {nL : Nat} (hml : c.maxLocals = nL) (hts : ∀ w ∈ wsL_law, w.before args s = true) (hown : s.vm.findClass RX8 = some m.cls) (hG : gK D cI cS s) (hI : fI D cI cS Z K σ H) (hS : va_S (aZ Z) H0 H locs) (hsz : ls.size = nL) {o : Nat} (hL : ly K o lyModel) {As : List Value} {r : Int32} {σ' : Nat → Nat → Int32} (hM : Met l yX8_stands (wsT yX8_stands cX8_stands 1 (some .boolean)) { frames := 1, cells := 0, slots := 0, locals := 22 } (Pm D cI cS Z K (.ref (Z + o) :: As) σ) (Qz D cI cS Z K r σ') 0 0 (aZ Z)) (hR : 2 ≤ R.frames ∧ 42 ≤ R.locals) (hn : As.length = 0) (hcat : (rest.map fun v => v.category).sum ≤ 8) (hf : cells ≤ R.cells ∧ slots ≤ R.slots) (hdg : decode cc pc = .ok (.invokevirtual 139, 3)) (kk : (r = 0 ∨ r = 1) → ∀ (H1 : Heap) (locs1 : List Loc), fI D cI cS Z K σ' H1 → va_S (aZ Z) H0 H1 locs1 → W p l e R s m args below meth c H1 locs1 cells slots Q (F0 m (pc + 3) ls (.int r :: rest))) : W p l e R s m args below meth c H locs cells slots Q (F0 m pc ls (As.reverse ++ .ref (Z + o) :: rest)) := mm_bz hS (mm_runV hx hb hml hts hown hG hI hsz hM (ly_at hL 0 rfl) (by decide) rfl rfl (mT23 _ (List.mem_of_getElem? (i := 16) rfl)) (mT23 _ (List.mem_of_getElem? (i := 17) rfl)) (mT23 _ (List.mem_of_getElem? (i := 18) rfl)) (mT1 _ (List.mem_of_getElem? (i := 5) rfl)) (mT23 _ (List.mem_of_getElem? (i := 19) rfl)) (by decide +kernel) hR rfl rfl hn rfl hcat hf hdg) kk
theorem kX8_142 (hx : p.tables.exec = Jvm.exec) (hb : c.code = cc) {nL : Nat} (hml : c.maxLocals = nL) (hts : ∀ w ∈ wsL_law, w.before args s = true) (hown : s.vm.findClass RX8 = some m.cls) (hG : gK D cI cS s) (hI : fI D cI cS Z K σ H) (hS : va_S (aZ Z) H0 H locs) (hsz : ls.size = nL) {o : Nat} (hL : ly K o lyModel) {As : List Value} {σ' : Nat → Nat → Int32} (hM : Met l yX8_pick (wsT yX8_pick cX8_pick 9 none) { frames := 2, cells := 0, slots := 0, locals := 45 } (Pm D cI cS Z K (.ref (Z + o) :: As) σ) (Qv D cI cS Z K σ') 0 0 (aZ Z)) (hR : 3 ≤ R.frames ∧ 73 ≤ R.locals) (hn : As.length = 0) (hcat : (rest.map fun v => v.category).sum ≤ 8) (hf : cells ≤ R.cells ∧ slots ≤ R.slots) (hdg : decode cc pc = .ok (.invokevirtual 142, 3)) (kk : ∀ (H1 : Heap) (locs1 : List Loc), fI D cI cS Z K σ' H1 → va_S (aZ Z) H0 H1 locs1 → W p l e R s m args below meth c H1 locs1 cells slots Q (F0 m (pc + 3) ls rest)) : W p l e R s m args below meth c H locs cells slots Q (F0 m pc ls (As.reverse ++ .ref (Z + o) :: rest)) := mm_bv hS (mm_runV hx hb hml hts hown hG hI hsz hM (ly_at hL 0 rfl) (by decide) rfl rfl (mT24 _ (List.mem_of_getElem? (i := 4) rfl)) (mT24 _ (List.mem_of_getElem? (i := 5) rfl)) (mT24 _ (List.mem_of_getElem? (i := 6) rfl)) (mT1 _ (List.mem_of_getElem? (i := 5) rfl)) (mT24 _ (List.mem_of_getElem? (i := 7) rfl)) (by decide +kernel) hR rfl rfl hn rfl hcat hf hdg) kk
theorem kX8_145 (hx : p.tables.exec = Jvm.exec) (hb : c.code = cc) {nL : Nat} (hml : c.maxLocals = nL) (hts : ∀ w ∈ wsL_law, w.before args s = true) (hown : s.vm.findClass RX8 = some m.cls) (hG : gK D cI cS s) (hI : fI D cI cS Z K σ H) (hS : va_S (aZ Z) H0 H locs) (hsz : ls.size = nL) {o : Nat} (hL : ly K o lyModel) {As : List Value} {r : Int32} {σ' : Nat → Nat → Int32} (hM : Met l yX8_used (wsT yX8_used cX8_used 4 (some .int)) { frames := 2, cells := 0, slots := 0, locals := 45 } (Pm D cI cS Z K (.ref (Z + o) :: As) σ) (Qi D cI cS Z K r σ') 0 0 (aZ Z)) (hR : 3 ≤ R.frames ∧ 68 ≤ R.locals) (hn : As.length = 1) (hcat : (rest.map fun v => v.category).sum ≤ 8) (hf : cells ≤ R.cells ∧ slots ≤ R.slots) (hdg : decode cc pc = .ok (.invokevirtual 145, 3)) (kk : ∀ (H1 : Heap) (locs1 : List Loc), fI D cI cS Z K σ' H1 → va_S (aZ Z) H0 H1 locs1 → W p l e R s m args below meth c H1 locs1 cells slots Q (F0 m (pc + 3) ls (.int r :: rest))) : W p l e R s m args below meth c H locs cells slots Q (F0 m pc ls (As.reverse ++ .ref (Z + o) :: rest)) := mm_bi hS (mm_runV hx hb hml hts hown hG hI hsz hM (ly_at hL 0 rfl) (by decide) rfl rfl (mT26 _ (List.mem_of_getElem? (i := 3) rfl)) (mT26 _ (List.mem_of_getElem? (i := 4) rfl)) (mT26 _ (List.mem_of_getElem? (i := 5) rfl)) (mT1 _ (List.mem_of_getElem? (i := 5) rfl)) (mT26 _ (List.mem_of_getElem? (i := 6) rfl)) (by decide +kernel) hR rfl rfl hn rfl hcat hf hdg) kk
theorem kX8_148 (hx : p.tables.exec = Jvm.exec) (hb : c.code = cc) {nL : Nat} (hml : c.maxLocals = nL) (hts : ∀ w ∈ wsL_law, w.before args s = true) (hown : s.vm.findClass RX8 = some m.cls) (hG : gK D cI cS s) (hI : fI D cI cS Z K σ H) (hS : va_S (aZ Z) H0 H locs) (hsz : ls.size = nL) {o : Nat} (hL : ly K o lyModel) {As : List Value} {r : Int32} {σ' : Nat → Nat → Int32} (hM : Met l yX8_wrong (wsT yX8_wrong cX8_wrong 2 (some .int)) { frames := 1, cells := 0, slots := 0, locals := 22 } (Pm D cI cS Z K (.ref (Z + o) :: As) σ) (Qi D cI cS Z K r σ') 0 0 (aZ Z)) (hR : 2 ≤ R.frames ∧ 43 ≤ R.locals) (hn : As.length = 1) (hcat : (rest.map fun v => v.category).sum ≤ 8) (hf : cells ≤ R.cells ∧ slots ≤ R.slots) (hdg : decode cc pc = .ok (.invokevirtual 148, 3)) (kk : ∀ (H1 : Heap) (locs1 : List Loc), fI D cI cS Z K σ' H1 → va_S (aZ Z) H0 H1 locs1 → W p l e R s m args below meth c H1 locs1 cells slots Q (F0 m (pc + 3) ls (.int r :: rest))) : W p l e R s m args below meth c H locs cells slots Q (F0 m pc ls (As.reverse ++ .ref (Z + o) :: rest)) := mm_bi hS (mm_runV hx hb hml hts hown hG hI hsz hM (ly_at hL 0 rfl) (by decide) rfl rfl (mT28 _ (List.mem_of_getElem? (i := 8) rfl)) (mT28 _ (List.mem_of_getElem? (i := 9) rfl)) (mT28 _ (List.mem_of_getElem? (i := 10) rfl)) (mT1 _ (List.mem_of_getElem? (i := 5) rfl)) (mT28 _ (List.mem_of_getElem? (i := 11) rfl)) (by decide +kernel) hR rfl rfl hn rfl hcat hf hdg) kk
theorem kX8_151 (hx : p.tables.exec = Jvm.exec) (hb : c.code = cc) {nL : Nat} (hml : c.maxLocals = nL) (hts : ∀ w ∈ wsL_law, w.before args s = true) (hown : s.vm.findClass RX8 = some m.cls) (hG : gK D cI cS s) (hI : fI D cI cS Z K σ H) (hS : va_S (aZ Z) H0 H locs) (hsz : ls.size = nL) {As : List Value} {r : Int32} {σ' : Nat → Nat → Int32} (hM : Met l yX8_sizeOf (wsT yX8_sizeOf cX8_sizeOf 3 (some .int)) { frames := 0, cells := 0, slots := 0, locals := 0 } (Pm D cI cS Z K As σ) (Qi D cI cS Z K r σ') 0 0 (aZ Z)) (hR : 1 ≤ R.frames ∧ 22 ≤ R.locals) (hn : As.length = 1) (hcat : (rest.map fun v => v.category).sum ≤ 8) (hf : cells ≤ R.cells ∧ slots ≤ R.slots) (hdg : decode cc pc = .ok (.invokestatic 151, 3)) (kk : ∀ (H1 : Heap) (locs1 : List Loc), fI D cI cS Z K σ' H1 → va_S (aZ Z) H0 H1 locs1 → W p l e R s m args below meth c H1 locs1 cells slots Q (F0 m (pc + 3) ls (.int r :: rest))) : W p l e R s m args below meth c H locs cells slots Q (F0 m pc ls (As.reverse ++ rest)) := mm_bi hS (mm_runS hx hb hml hts hown hG hI hsz hM (mT28 _ (List.mem_of_getElem? (i := 12) rfl)) (mT28 _ (List.mem_of_getElem? (i := 13) rfl)) (mT1 _ (List.mem_of_getElem? (i := 5) rfl)) (mT28 _ (List.mem_of_getElem? (i := 14) rfl)) (by decide +kernel) hR rfl rfl hn rfl hcat hf hdg) kk
theorem kX8_154 (hx : p.tables.exec = Jvm.exec) (hb : c.code = cc) {nL : Nat} (hml : c.maxLocals = nL) (hts : ∀ w ∈ wsL_law, w.before args s = true) (hown : s.vm.findClass RX8 = some m.cls) (hG : gK D cI cS s) (hI : fI D cI cS Z K σ H) (hS : va_S (aZ Z) H0 H locs) (hsz : ls.size = nL) {o : Nat} (hL : ly K o lyModel) {As : List Value} {r : Int32} {σ' : Nat → Nat → Int32} (hM : Met l yX8_allWrong (wsT yX8_allWrong cX8_allWrong 3 (some .int)) { frames := 2, cells := 0, slots := 0, locals := 43 } (Pm D cI cS Z K (.ref (Z + o) :: As) σ) (Qi D cI cS Z K r σ') 0 0 (aZ Z)) (hR : 3 ≤ R.frames ∧ 65 ≤ R.locals) (hn : As.length = 0) (hcat : (rest.map fun v => v.category).sum ≤ 8) (hf : cells ≤ R.cells ∧ slots ≤ R.slots) (hdg : decode cc pc = .ok (.invokevirtual 154, 3)) (kk : ∀ (H1 : Heap) (locs1 : List Loc), fI D cI cS Z K σ' H1 → va_S (aZ Z) H0 H1 locs1 → W p l e R s m args below meth c H1 locs1 cells slots Q (F0 m (pc + 3) ls (.int r :: rest))) : W p l e R s m args below meth c H locs cells slots Q (F0 m pc ls (As.reverse ++ .ref (Z + o) :: rest)) := mm_bi hS (mm_runV hx hb hml hts hown hG hI hsz hM (ly_at hL 0 rfl) (by decide) rfl rfl (mT28 _ (List.mem_of_getElem? (i := 4) rfl)) (mT28 _ (List.mem_of_getElem? (i := 5) rfl)) (mT28 _ (List.mem_of_getElem? (i := 6) rfl)) (mT1 _ (List.mem_of_getElem? (i := 5) rfl)) (mT28 _ (List.mem_of_getElem? (i := 7) rfl)) (by decide +kernel) hR rfl rfl hn rfl hcat hf hdg) kk
theorem kX8_163 (hx : p.tables.exec = Jvm.exec) (hb : c.code = cc) {nL : Nat} (hml : c.maxLocals = nL) (hts : ∀ w ∈ wsL_law, w.before args s = true) (hown : s.vm.findClass RX8 = some m.cls) (hG : gK D cI cS s) (hI : fI D cI cS Z K σ H) (hS : va_S (aZ Z) H0 H locs) (hsz : ls.size = nL) {o : Nat} (hL : ly K o lyModel) {As : List Value} {r : Int32} {σ' : Nat → Nat → Int32} (hM : Met l yX8_side (wsT yX8_side cX8_side 3 (some .int)) { frames := 1, cells := 0, slots := 0, locals := 22 } (Pm D cI cS Z K (.ref (Z + o) :: As) σ) (Qi D cI cS Z K r σ') 0 0 (aZ Z)) (hR : 2 ≤ R.frames ∧ 44 ≤ R.locals) (hn : As.length = 2) (hcat : (rest.map fun v => v.category).sum ≤ 8) (hf : cells ≤ R.cells ∧ slots ≤ R.slots) (hdg : decode cc pc = .ok (.invokevirtual 163, 3)) (kk : ∀ (H1 : Heap) (locs1 : List Loc), fI D cI cS Z K σ' H1 → va_S (aZ Z) H0 H1 locs1 → W p l e R s m args below meth c H1 locs1 cells slots Q (F0 m (pc + 3) ls (.int r :: rest))) : W p l e R s m args below meth c H locs cells slots Q (F0 m pc ls (As.reverse ++ .ref (Z + o) :: rest)) := mm_bi hS (mm_runV hx hb hml hts hown hG hI hsz hM (ly_at hL 0 rfl) (by decide) rfl rfl (mT30 _ (List.mem_of_getElem? (i := 14) rfl)) (mT30 _ (List.mem_of_getElem? (i := 15) rfl)) (mT30 _ (List.mem_of_getElem? (i := 16) rfl)) (mT1 _ (List.mem_of_getElem? (i := 5) rfl)) (mT30 _ (List.mem_of_getElem? (i := 17) rfl)) (by decide +kernel) hR rfl rfl hn rfl hcat hf hdg) kk
theorem kX8_166 (hx : p.tables.exec = Jvm.exec) (hb : c.code = cc) {nL : Nat} (hml : c.maxLocals = nL) (hts : ∀ w ∈ wsL_law, w.before args s = true) (hown : s.vm.findClass RX8 = some m.cls) (hG : gK D cI cS s) (hI : fI D cI cS Z K σ H) (hS : va_S (aZ Z) H0 H locs) (hsz : ls.size = nL) {o : Nat} (hL : ly K o lyModel) {As : List Value} {σ' : Nat → Nat → Int32} (hM : Met l yX8_take (wsT yX8_take cX8_take 3 none) { frames := 0, cells := 0, slots := 0, locals := 0 } (Pm D cI cS Z K (.ref (Z + o) :: As) σ) (Qv D cI cS Z K σ') 0 0 (aZ Z)) (hR : 1 ≤ R.frames ∧ 22 ≤ R.locals) (hn : As.length = 2) (hcat : (rest.map fun v => v.category).sum ≤ 8) (hf : cells ≤ R.cells ∧ slots ≤ R.slots) (hdg : decode cc pc = .ok (.invokevirtual 166, 3)) (kk : ∀ (H1 : Heap) (locs1 : List Loc), fI D cI cS Z K σ' H1 → va_S (aZ Z) H0 H1 locs1 → W p l e R s m args below meth c H1 locs1 cells slots Q (F0 m (pc + 3) ls rest)) : W p l e R s m args below meth c H locs cells slots Q (F0 m pc ls (As.reverse ++ .ref (Z + o) :: rest)) := mm_bv hS (mm_runV hx hb hml hts hown hG hI hsz hM (ly_at hL 0 rfl) (by decide) rfl rfl (mT30 _ (List.mem_of_getElem? (i := 18) rfl)) (mT30 _ (List.mem_of_getElem? (i := 19) rfl)) (mT30 _ (List.mem_of_getElem? (i := 20) rfl)) (mT1 _ (List.mem_of_getElem? (i := 5) rfl)) (mT30 _ (List.mem_of_getElem? (i := 21) rfl)) (by decide +kernel) hR rfl rfl hn rfl hcat hf hdg) kk
theorem kX8_169 (hx : p.tables.exec = Jvm.exec) (hb : c.code = cc) {nL : Nat} (hml : c.maxLocals = nL) (hts : ∀ w ∈ wsL_law, w.before args s = true) (hown : s.vm.findClass RX8 = some m.cls) (hG : gK D cI cS s) (hI : fI D cI cS Z K σ H) (hS : va_S (aZ Z) H0 H locs) (hsz : ls.size = nL) {o : Nat} (hL : ly K o lyModel) {As : List Value} {σ' : Nat → Nat → Int32} (hM : Met l yX8_measure (wsT yX8_measure cX8_measure 9 none) { frames := 2, cells := 0, slots := 0, locals := 44 } (Pm D cI cS Z K (.ref (Z + o) :: As) σ) (Qv D cI cS Z K σ') 0 0 (aZ Z)) (hR : 3 ≤ R.frames ∧ 72 ≤ R.locals) (hn : As.length = 3) (hcat : (rest.map fun v => v.category).sum ≤ 8) (hf : cells ≤ R.cells ∧ slots ≤ R.slots) (hdg : decode cc pc = .ok (.invokevirtual 169, 3)) (kk : ∀ (H1 : Heap) (locs1 : List Loc), fI D cI cS Z K σ' H1 → va_S (aZ Z) H0 H1 locs1 → W p l e R s m args below meth c H1 locs1 cells slots Q (F0 m (pc + 3) ls rest)) : W p l e R s m args below meth c H locs cells slots Q (F0 m pc ls (As.reverse ++ .ref (Z + o) :: rest)) := mm_bv hS (mm_runV hx hb hml hts hown hG hI hsz hM (ly_at hL 0 rfl) (by decide) rfl rfl (mT30 _ (List.mem_of_getElem? (i := 10) rfl)) (mT30 _ (List.mem_of_getElem? (i := 11) rfl)) (mT30 _ (List.mem_of_getElem? (i := 12) rfl)) (mT1 _ (List.mem_of_getElem? (i := 5) rfl)) (mT30 _ (List.mem_of_getElem? (i := 13) rfl)) (by decide +kernel) hR rfl rfl hn rfl hcat hf hdg) kk
theorem kX8_172 (hx : p.tables.exec = Jvm.exec) (hb : c.code = cc) {nL : Nat} (hml : c.maxLocals = nL) (hts : ∀ w ∈ wsL_law, w.before args s = true) (hown : s.vm.findClass RX8 = some m.cls) (hG : gK D cI cS s) (hI : fI D cI cS Z K σ H) (hS : va_S (aZ Z) H0 H locs) (hsz : ls.size = nL) {o : Nat} (hL : ly K o lyModel) {As : List Value} {r : Int32} {σ' : Nat → Nat → Int32} (hM : Met l yX8_rowsWith (wsT yX8_rowsWith cX8_rowsWith 5 (some .int)) { frames := 2, cells := 0, slots := 0, locals := 43 } (Pm D cI cS Z K (.ref (Z + o) :: As) σ) (Qi D cI cS Z K r σ') 0 0 (aZ Z)) (hR : 3 ≤ R.frames ∧ 67 ≤ R.locals) (hn : As.length = 2) (hcat : (rest.map fun v => v.category).sum ≤ 8) (hf : cells ≤ R.cells ∧ slots ≤ R.slots) (hdg : decode cc pc = .ok (.invokevirtual 172, 3)) (kk : ∀ (H1 : Heap) (locs1 : List Loc), fI D cI cS Z K σ' H1 → va_S (aZ Z) H0 H1 locs1 → W p l e R s m args below meth c H1 locs1 cells slots Q (F0 m (pc + 3) ls (.int r :: rest))) : W p l e R s m args below meth c H locs cells slots Q (F0 m pc ls (As.reverse ++ .ref (Z + o) :: rest)) := mm_bi hS (mm_runV hx hb hml hts hown hG hI hsz hM (ly_at hL 0 rfl) (by decide) rfl rfl (mT30 _ (List.mem_of_getElem? (i := 0) rfl)) (mT30 _ (List.mem_of_getElem? (i := 1) rfl)) (mT30 _ (List.mem_of_getElem? (i := 2) rfl)) (mT1 _ (List.mem_of_getElem? (i := 5) rfl)) (mT30 _ (List.mem_of_getElem? (i := 3) rfl)) (by decide +kernel) hR rfl rfl hn rfl hcat hf hdg) kk
theorem kX8_175 (hx : p.tables.exec = Jvm.exec) (hb : c.code = cc) {nL : Nat} (hml : c.maxLocals = nL) (hts : ∀ w ∈ wsL_law, w.before args s = true) (hown : s.vm.findClass RX8 = some m.cls) (hG : gK D cI cS s) (hI : fI D cI cS Z K σ H) (hS : va_S (aZ Z) H0 H locs) (hsz : ls.size = nL) {o : Nat} (hL : ly K o lyModel) {As : List Value} {r : Int32} {σ' : Nat → Nat → Int32} (hM : Met l yX8_longestOf (wsT yX8_longestOf cX8_longestOf 3 (some .int)) { frames := 3, cells := 0, slots := 0, locals := 72 } (Pm D cI cS Z K (.ref (Z + o) :: As) σ) (Qi D cI cS Z K r σ') 0 0 (aZ Z)) (hR : 4 ≤ R.frames ∧ 94 ≤ R.locals) (hn : As.length = 2) (hcat : (rest.map fun v => v.category).sum ≤ 8) (hf : cells ≤ R.cells ∧ slots ≤ R.slots) (hdg : decode cc pc = .ok (.invokevirtual 175, 3)) (kk : ∀ (H1 : Heap) (locs1 : List Loc), fI D cI cS Z K σ' H1 → va_S (aZ Z) H0 H1 locs1 → W p l e R s m args below meth c H1 locs1 cells slots Q (F0 m (pc + 3) ls (.int r :: rest))) : W p l e R s m args below meth c H locs cells slots Q (F0 m pc ls (As.reverse ++ .ref (Z + o) :: rest)) := mm_bi hS (mm_runV hx hb hml hts hown hG hI hsz hM (ly_at hL 0 rfl) (by decide) rfl rfl (mT30 _ (List.mem_of_getElem? (i := 4) rfl)) (mT30 _ (List.mem_of_getElem? (i := 5) rfl)) (mT30 _ (List.mem_of_getElem? (i := 6) rfl)) (mT1 _ (List.mem_of_getElem? (i := 5) rfl)) (mT30 _ (List.mem_of_getElem? (i := 7) rfl)) (by decide +kernel) hR rfl rfl hn rfl hcat hf hdg) kk
theorem kX8_178 (hx : p.tables.exec = Jvm.exec) (hb : c.code = cc) {nL : Nat} (hml : c.maxLocals = nL) (hts : ∀ w ∈ wsL_law, w.before args s = true) (hown : s.vm.findClass RX8 = some m.cls) (hG : gK D cI cS s) (hI : fI D cI cS Z K σ H) (hS : va_S (aZ Z) H0 H locs) (hsz : ls.size = nL) {o : Nat} (hL : ly K o lyModel) {As : List Value} {r : Int32} {σ' : Nat → Nat → Int32} (hM : Met l yX8_needOf (wsT yX8_needOf cX8_needOf 5 (some .int)) { frames := 2, cells := 0, slots := 0, locals := 45 } (Pm D cI cS Z K (.ref (Z + o) :: As) σ) (Qi D cI cS Z K r σ') 0 0 (aZ Z)) (hR : 3 ≤ R.frames ∧ 69 ≤ R.locals) (hn : As.length = 1) (hcat : (rest.map fun v => v.category).sum ≤ 8) (hf : cells ≤ R.cells ∧ slots ≤ R.slots) (hdg : decode cc pc = .ok (.invokevirtual 178, 3)) (kk : ∀ (H1 : Heap) (locs1 : List Loc), fI D cI cS Z K σ' H1 → va_S (aZ Z) H0 H1 locs1 → W p l e R s m args below meth c H1 locs1 cells slots Q (F0 m (pc + 3) ls (.int r :: rest))) : W p l e R s m args below meth c H locs cells slots Q (F0 m pc ls (As.reverse ++ .ref (Z + o) :: rest)) := mm_bi hS (mm_runV hx hb hml hts hown hG hI hsz hM (ly_at hL 0 rfl) (by decide) rfl rfl (mT31 _ (List.mem_of_getElem? (i := 15) rfl)) (mT31 _ (List.mem_of_getElem? (i := 16) rfl)) (mT31 _ (List.mem_of_getElem? (i := 17) rfl)) (mT1 _ (List.mem_of_getElem? (i := 5) rfl)) (mT31 _ (List.mem_of_getElem? (i := 18) rfl)) (by decide +kernel) hR rfl rfl hn rfl hcat hf hdg) kk
theorem kX8_181 (hx : p.tables.exec = Jvm.exec) (hb : c.code = cc) {nL : Nat} (hml : c.maxLocals = nL) (hts : ∀ w ∈ wsL_law, w.before args s = true) (hown : s.vm.findClass RX8 = some m.cls) (hG : gK D cI cS s) (hI : fI D cI cS Z K σ H) (hS : va_S (aZ Z) H0 H locs) (hsz : ls.size = nL) {o : Nat} (hL : ly K o lyModel) {As : List Value} {r : Int32} {σ' : Nat → Nat → Int32} (hM : Met l yX8_isRow (wsT yX8_isRow cX8_isRow 2 (some .boolean)) { frames := 1, cells := 0, slots := 0, locals := 22 } (Pm D cI cS Z K (.ref (Z + o) :: As) σ) (Qz D cI cS Z K r σ') 0 0 (aZ Z)) (hR : 2 ≤ R.frames ∧ 43 ≤ R.locals) (hn : As.length = 1) (hcat : (rest.map fun v => v.category).sum ≤ 8) (hf : cells ≤ R.cells ∧ slots ≤ R.slots) (hdg : decode cc pc = .ok (.invokevirtual 181, 3)) (kk : (r = 0 ∨ r = 1) → ∀ (H1 : Heap) (locs1 : List Loc), fI D cI cS Z K σ' H1 → va_S (aZ Z) H0 H1 locs1 → W p l e R s m args below meth c H1 locs1 cells slots Q (F0 m (pc + 3) ls (.int r :: rest))) : W p l e R s m args below meth c H locs cells slots Q (F0 m pc ls (As.reverse ++ .ref (Z + o) :: rest)) := mm_bz hS (mm_runV hx hb hml hts hown hG hI hsz hM (ly_at hL 0 rfl) (by decide) rfl rfl (mT32 _ (List.mem_of_getElem? (i := 22) rfl)) (mT32 _ (List.mem_of_getElem? (i := 23) rfl)) (mT33 _ (List.mem_of_getElem? (i := 0) rfl)) (mT1 _ (List.mem_of_getElem? (i := 5) rfl)) (mT33 _ (List.mem_of_getElem? (i := 1) rfl)) (by decide +kernel) hR rfl rfl hn rfl hcat hf hdg) kk
theorem kX8_184 (hx : p.tables.exec = Jvm.exec) (hb : c.code = cc) {nL : Nat} (hml : c.maxLocals = nL) (hts : ∀ w ∈ wsL_law, w.before args s = true) (hown : s.vm.findClass RX8 = some m.cls) (hG : gK D cI cS s) (hI : fI D cI cS Z K σ H) (hS : va_S (aZ Z) H0 H locs) (hsz : ls.size = nL) {o : Nat} (hL : ly K o lyModel) {As : List Value} {r : Int32} {σ' : Nat → Nat → Int32} (hM : Met l yX8_areLike (wsT yX8_areLike cX8_areLike 3 (some .boolean)) { frames := 1, cells := 0, slots := 0, locals := 22 } (Pm D cI cS Z K (.ref (Z + o) :: As) σ) (Qz D cI cS Z K r σ') 0 0 (aZ Z)) (hR : 2 ≤ R.frames ∧ 44 ≤ R.locals) (hn : As.length = 2) (hcat : (rest.map fun v => v.category).sum ≤ 8) (hf : cells ≤ R.cells ∧ slots ≤ R.slots) (hdg : decode cc pc = .ok (.invokevirtual 184, 3)) (kk : (r = 0 ∨ r = 1) → ∀ (H1 : Heap) (locs1 : List Loc), fI D cI cS Z K σ' H1 → va_S (aZ Z) H0 H1 locs1 → W p l e R s m args below meth c H1 locs1 cells slots Q (F0 m (pc + 3) ls (.int r :: rest))) : W p l e R s m args below meth c H locs cells slots Q (F0 m pc ls (As.reverse ++ .ref (Z + o) :: rest)) := mm_bz hS (mm_runV hx hb hml hts hown hG hI hsz hM (ly_at hL 0 rfl) (by decide) rfl rfl (mT35 _ (List.mem_of_getElem? (i := 1) rfl)) (mT35 _ (List.mem_of_getElem? (i := 2) rfl)) (mT35 _ (List.mem_of_getElem? (i := 3) rfl)) (mT1 _ (List.mem_of_getElem? (i := 5) rfl)) (mT35 _ (List.mem_of_getElem? (i := 4) rfl)) (by decide +kernel) hR rfl rfl hn rfl hcat hf hdg) kk
theorem kX8_187 (hx : p.tables.exec = Jvm.exec) (hb : c.code = cc) {nL : Nat} (hml : c.maxLocals = nL) (hts : ∀ w ∈ wsL_law, w.before args s = true) (hown : s.vm.findClass RX8 = some m.cls) (hG : gK D cI cS s) (hI : fI D cI cS Z K σ H) (hS : va_S (aZ Z) H0 H locs) (hsz : ls.size = nL) {o : Nat} (hL : ly K o lyModel) {As : List Value} {r : Int32} {σ' : Nat → Nat → Int32} (hM : Met l yX8_repeats (wsT yX8_repeats cX8_repeats 3 (some .boolean)) { frames := 2, cells := 0, slots := 0, locals := 44 } (Pm D cI cS Z K (.ref (Z + o) :: As) σ) (Qz D cI cS Z K r σ') 0 0 (aZ Z)) (hR : 3 ≤ R.frames ∧ 66 ≤ R.locals) (hn : As.length = 1) (hcat : (rest.map fun v => v.category).sum ≤ 8) (hf : cells ≤ R.cells ∧ slots ≤ R.slots) (hdg : decode cc pc = .ok (.invokevirtual 187, 3)) (kk : (r = 0 ∨ r = 1) → ∀ (H1 : Heap) (locs1 : List Loc), fI D cI cS Z K σ' H1 → va_S (aZ Z) H0 H1 locs1 → W p l e R s m args below meth c H1 locs1 cells slots Q (F0 m (pc + 3) ls (.int r :: rest))) : W p l e R s m args below meth c H locs cells slots Q (F0 m pc ls (As.reverse ++ .ref (Z + o) :: rest)) := mm_bz hS (mm_runV hx hb hml hts hown hG hI hsz hM (ly_at hL 0 rfl) (by decide) rfl rfl (mT34 _ (List.mem_of_getElem? (i := 21) rfl)) (mT34 _ (List.mem_of_getElem? (i := 22) rfl)) (mT34 _ (List.mem_of_getElem? (i := 23) rfl)) (mT1 _ (List.mem_of_getElem? (i := 5) rfl)) (mT35 _ (List.mem_of_getElem? (i := 0) rfl)) (by decide +kernel) hR rfl rfl hn rfl hcat hf hdg) kk
theorem pX0_23 {o : Nat} {v : Int32} (hx : p.tables.exec = Jvm.exec) (hb : c.code = cc) (hts : ∀ w ∈ wsL_law, w.before args s = true) (hown : s.vm.findClass RX0 = some m.cls) (hG : gK D cI cS s) (hI : fI D cI cS Z K σ H) (hS : va_S (aZ Z) H0 H locs) (hL : ly K o lyChain) (hdg : decode cc pc = .ok (.putfield 23, 3)) (kk : ∀ (H1 : Heap) (locs1 : List Loc), fI D cI cS Z K (wr σ o 0 v) H1 → va_S (aZ Z) H0 H1 locs1 → W p l e R s m args below meth c H1 locs1 cells slots Q (F0 m (pc + 3) ls rest)) : W p l e R s m args below meth c H locs cells slots Q (F0 m pc ls (.int v :: .ref (Z + o) :: rest)) := mm_put hx hb hts hown hG hI hS (ly_at hL 0 rfl) inlX0 tyX0 tyX0_ok nmX0 (by decide) rfl 0 (by decide) rfl rfl (Nat.le_of_ble_eq_true rfl) (mT5 _ (List.mem_of_getElem? (i := 11) rfl)) rfl (by decide +kernel) hdg kk
theorem pX0_27 {o : Nat} {v : Int32} (hx : p.tables.exec = Jvm.exec) (hb : c.code = cc) (hts : ∀ w ∈ wsL_law, w.before args s = true) (hown : s.vm.findClass RX0 = some m.cls) (hG : gK D cI cS s) (hI : fI D cI cS Z K σ H) (hS : va_S (aZ Z) H0 H locs) (hL : ly K o lyChain) (hdg : decode cc pc = .ok (.putfield 27, 3)) (kk : ∀ (H1 : Heap) (locs1 : List Loc), fI D cI cS Z K (wr σ o 1 v) H1 → va_S (aZ Z) H0 H1 locs1 → W p l e R s m args below meth c H1 locs1 cells slots Q (F0 m (pc + 3) ls rest)) : W p l e R s m args below meth c H locs cells slots Q (F0 m pc ls (.int v :: .ref (Z + o) :: rest)) := mm_put hx hb hts hown hG hI hS (ly_at hL 0 rfl) inlX0 tyX0 tyX0_ok nmX0 (by decide) rfl 1 (by decide) rfl rfl (Nat.le_of_ble_eq_true rfl) (mT5 _ (List.mem_of_getElem? (i := 12) rfl)) rfl (by decide +kernel) hdg kk
theorem pX0_38 {o : Nat} {v : Int32} (hx : p.tables.exec = Jvm.exec) (hb : c.code = cc) (hts : ∀ w ∈ wsL_law, w.before args s = true) (hown : s.vm.findClass RX0 = some m.cls) (hG : gK D cI cS s) (hI : fI D cI cS Z K σ H) (hS : va_S (aZ Z) H0 H locs) (hL : ly K o lyChain) (hdg : decode cc pc = .ok (.putfield 38, 3)) (kk : ∀ (H1 : Heap) (locs1 : List Loc), fI D cI cS Z K (wr σ o 2 v) H1 → va_S (aZ Z) H0 H1 locs1 → W p l e R s m args below meth c H1 locs1 cells slots Q (F0 m (pc + 3) ls rest)) : W p l e R s m args below meth c H locs cells slots Q (F0 m pc ls (.int v :: .ref (Z + o) :: rest)) := mm_put hx hb hts hown hG hI hS (ly_at hL 0 rfl) inlX0 tyX0 tyX0_ok nmX0 (by decide) rfl 2 (by decide) rfl rfl (Nat.le_of_ble_eq_true rfl) (mT8 _ (List.mem_of_getElem? (i := 16) rfl)) rfl (by decide +kernel) hdg kk
theorem pX1_27 {o : Nat} {v : Int32} (hx : p.tables.exec = Jvm.exec) (hb : c.code = cc) (hts : ∀ w ∈ wsL_law, w.before args s = true) (hown : s.vm.findClass RX1 = some m.cls) (hG : gK D cI cS s) (hI : fI D cI cS Z K σ H) (hS : va_S (aZ Z) H0 H locs) (hL : ly K o lyReader) (hdg : decode cc pc = .ok (.putfield 27, 3)) (kk : ∀ (H1 : Heap) (locs1 : List Loc), fI D cI cS Z K (wr σ o 2 v) H1 → va_S (aZ Z) H0 H1 locs1 → W p l e R s m args below meth c H1 locs1 cells slots Q (F0 m (pc + 3) ls rest)) : W p l e R s m args below meth c H locs cells slots Q (F0 m pc ls (.int v :: .ref (Z + o) :: rest)) := mm_put hx hb hts hown hG hI hS (ly_at hL 0 rfl) inlX1 tyX1 tyX1_ok nmX1 (by decide) rfl 2 (by decide) rfl rfl (Nat.le_of_ble_eq_true rfl) (mT15 _ (List.mem_of_getElem? (i := 11) rfl)) rfl (by decide +kernel) hdg kk
theorem pX1_39 {o : Nat} {v : Int32} (hx : p.tables.exec = Jvm.exec) (hb : c.code = cc) (hts : ∀ w ∈ wsL_law, w.before args s = true) (hown : s.vm.findClass RX1 = some m.cls) (hG : gK D cI cS s) (hI : fI D cI cS Z K σ H) (hS : va_S (aZ Z) H0 H locs) (hL : ly K o lyReader) (hdg : decode cc pc = .ok (.putfield 39, 3)) (kk : ∀ (H1 : Heap) (locs1 : List Loc), fI D cI cS Z K (wr σ o 4 v) H1 → va_S (aZ Z) H0 H1 locs1 → W p l e R s m args below meth c H1 locs1 cells slots Q (F0 m (pc + 3) ls rest)) : W p l e R s m args below meth c H locs cells slots Q (F0 m pc ls (.int v :: .ref (Z + o) :: rest)) := mm_put hx hb hts hown hG hI hS (ly_at hL 0 rfl) inlX1 tyX1 tyX1_ok nmX1 (by decide) rfl 4 (by decide) rfl rfl (Nat.le_of_ble_eq_true rfl) (mT16 _ (List.mem_of_getElem? (i := 18) rfl)) rfl (by decide +kernel) hdg kk
theorem pX1_42 {o : Nat} {v : Int32} (hx : p.tables.exec = Jvm.exec) (hb : c.code = cc) (hts : ∀ w ∈ wsL_law, w.before args s = true) (hown : s.vm.findClass RX1 = some m.cls) (hG : gK D cI cS s) (hI : fI D cI cS Z K σ H) (hS : va_S (aZ Z) H0 H locs) (hL : ly K o lyReader) (hdg : decode cc pc = .ok (.putfield 42, 3)) (kk : ∀ (H1 : Heap) (locs1 : List Loc), fI D cI cS Z K (wr σ o 3 v) H1 → va_S (aZ Z) H0 H1 locs1 → W p l e R s m args below meth c H1 locs1 cells slots Q (F0 m (pc + 3) ls rest)) : W p l e R s m args below meth c H locs cells slots Q (F0 m pc ls (.int v :: .ref (Z + o) :: rest)) := mm_put hx hb hts hown hG hI hS (ly_at hL 0 rfl) inlX1 tyX1 tyX1_ok nmX1 (by decide) rfl 3 (by decide) rfl rfl (Nat.le_of_ble_eq_true rfl) (mT16 _ (List.mem_of_getElem? (i := 19) rfl)) rfl (by decide +kernel) hdg kk
theorem pX1_45 {o : Nat} {v : Int32} (hx : p.tables.exec = Jvm.exec) (hb : c.code = cc) (hts : ∀ w ∈ wsL_law, w.before args s = true) (hown : s.vm.findClass RX1 = some m.cls) (hG : gK D cI cS s) (hI : fI D cI cS Z K σ H) (hS : va_S (aZ Z) H0 H locs) (hL : ly K o lyReader) (hdg : decode cc pc = .ok (.putfield 45, 3)) (kk : ∀ (H1 : Heap) (locs1 : List Loc), fI D cI cS Z K (wr σ o 5 v) H1 → va_S (aZ Z) H0 H1 locs1 → W p l e R s m args below meth c H1 locs1 cells slots Q (F0 m (pc + 3) ls rest)) : W p l e R s m args below meth c H locs cells slots Q (F0 m pc ls (.int v :: .ref (Z + o) :: rest)) := mm_put hx hb hts hown hG hI hS (ly_at hL 0 rfl) inlX1 tyX1 tyX1_ok nmX1 (by decide) rfl 5 (by decide) rfl rfl (Nat.le_of_ble_eq_true rfl) (mT16 _ (List.mem_of_getElem? (i := 20) rfl)) rfl (by decide +kernel) hdg kk
theorem pX1_74 {o : Nat} {v : Int32} (hx : p.tables.exec = Jvm.exec) (hb : c.code = cc) (hts : ∀ w ∈ wsL_law, w.before args s = true) (hown : s.vm.findClass RX1 = some m.cls) (hG : gK D cI cS s) (hI : fI D cI cS Z K σ H) (hS : va_S (aZ Z) H0 H locs) (hL : ly K o lyReader) (hdg : decode cc pc = .ok (.putfield 74, 3)) (kk : ∀ (H1 : Heap) (locs1 : List Loc), fI D cI cS Z K (wr σ o 6 v) H1 → va_S (aZ Z) H0 H1 locs1 → W p l e R s m args below meth c H1 locs1 cells slots Q (F0 m (pc + 3) ls rest)) : W p l e R s m args below meth c H locs cells slots Q (F0 m pc ls (.int v :: .ref (Z + o) :: rest)) := mm_put hx hb hts hown hG hI hS (ly_at hL 0 rfl) inlX1 tyX1 tyX1_ok nmX1 (by decide) rfl 6 (by decide) rfl rfl (Nat.le_of_ble_eq_true rfl) (mT17 _ (List.mem_of_getElem? (i := 3) rfl)) rfl (by decide +kernel) hdg kk
theorem pX2_35 {o : Nat} {v : Int32} (hx : p.tables.exec = Jvm.exec) (hb : c.code = cc) (hts : ∀ w ∈ wsL_law, w.before args s = true) (hown : s.vm.findClass RX2 = some m.cls) (hG : gK D cI cS s) (hI : fI D cI cS Z K σ H) (hS : va_S (aZ Z) H0 H locs) (hL : ly K o lyCloth) (hdg : decode cc pc = .ok (.putfield 35, 3)) (kk : ∀ (H1 : Heap) (locs1 : List Loc), fI D cI cS Z K (wr σ o 0 v) H1 → va_S (aZ Z) H0 H1 locs1 → W p l e R s m args below meth c H1 locs1 cells slots Q (F0 m (pc + 3) ls rest)) : W p l e R s m args below meth c H locs cells slots Q (F0 m pc ls (.int v :: .ref (Z + o) :: rest)) := mm_put hx hb hts hown hG hI hS (ly_at hL 0 rfl) inlX2 tyX2 tyX2_ok nmX2 (by decide) rfl 0 (by decide) rfl rfl (Nat.le_of_ble_eq_true rfl) (mT9 _ (List.mem_of_getElem? (i := 3) rfl)) rfl (by decide +kernel) hdg kk
theorem pX5_49 {o : Nat} {v : Int32} (hx : p.tables.exec = Jvm.exec) (hb : c.code = cc) (hts : ∀ w ∈ wsL_law, w.before args s = true) (hown : s.vm.findClass RX5 = some m.cls) (hG : gK D cI cS s) (hI : fI D cI cS Z K σ H) (hS : va_S (aZ Z) H0 H locs) (hL : ly K o lyChain) (hdg : decode cc pc = .ok (.putfield 49, 3)) (kk : ∀ (H1 : Heap) (locs1 : List Loc), fI D cI cS Z K (wr σ o 2 v) H1 → va_S (aZ Z) H0 H1 locs1 → W p l e R s m args below meth c H1 locs1 cells slots Q (F0 m (pc + 3) ls rest)) : W p l e R s m args below meth c H locs cells slots Q (F0 m pc ls (.int v :: .ref (Z + o) :: rest)) := mm_put hx hb hts hown hG hI hS (ly_at hL 0 rfl) inlX0 tyX0 tyX0_ok nmX0 (by decide) rfl 2 (by decide) rfl rfl (Nat.le_of_ble_eq_true rfl) (mT4 _ (List.mem_of_getElem? (i := 15) rfl)) rfl (by decide +kernel) hdg kk
theorem pX5_56 {o : Nat} {v : Int32} (hx : p.tables.exec = Jvm.exec) (hb : c.code = cc) (hts : ∀ w ∈ wsL_law, w.before args s = true) (hown : s.vm.findClass RX5 = some m.cls) (hG : gK D cI cS s) (hI : fI D cI cS Z K σ H) (hS : va_S (aZ Z) H0 H locs) (hL : ly K o lyCloth) (hdg : decode cc pc = .ok (.putfield 56, 3)) (kk : ∀ (H1 : Heap) (locs1 : List Loc), fI D cI cS Z K (wr σ o 0 v) H1 → va_S (aZ Z) H0 H1 locs1 → W p l e R s m args below meth c H1 locs1 cells slots Q (F0 m (pc + 3) ls rest)) : W p l e R s m args below meth c H locs cells slots Q (F0 m pc ls (.int v :: .ref (Z + o) :: rest)) := mm_put hx hb hts hown hG hI hS (ly_at hL 0 rfl) inlX2 tyX2 tyX2_ok nmX2 (by decide) rfl 0 (by decide) rfl rfl (Nat.le_of_ble_eq_true rfl) (mT4 _ (List.mem_of_getElem? (i := 16) rfl)) rfl (by decide +kernel) hdg kk
theorem pX5_75 {o : Nat} {v : Int32} (hx : p.tables.exec = Jvm.exec) (hb : c.code = cc) (hts : ∀ w ∈ wsL_law, w.before args s = true) (hown : s.vm.findClass RX5 = some m.cls) (hG : gK D cI cS s) (hI : fI D cI cS Z K σ H) (hS : va_S (aZ Z) H0 H locs) (hL : ly K o lyChain) (hdg : decode cc pc = .ok (.putfield 75, 3)) (kk : ∀ (H1 : Heap) (locs1 : List Loc), fI D cI cS Z K (wr σ o 1 v) H1 → va_S (aZ Z) H0 H1 locs1 → W p l e R s m args below meth c H1 locs1 cells slots Q (F0 m (pc + 3) ls rest)) : W p l e R s m args below meth c H locs cells slots Q (F0 m pc ls (.int v :: .ref (Z + o) :: rest)) := mm_put hx hb hts hown hG hI hS (ly_at hL 0 rfl) inlX0 tyX0 tyX0_ok nmX0 (by decide) rfl 1 (by decide) rfl rfl (Nat.le_of_ble_eq_true rfl) (mT21 _ (List.mem_of_getElem? (i := 18) rfl)) rfl (by decide +kernel) hdg kk
theorem pX6_26 {o : Nat} {v : Int32} (hx : p.tables.exec = Jvm.exec) (hb : c.code = cc) (hts : ∀ w ∈ wsL_law, w.before args s = true) (hown : s.vm.findClass RX6 = some m.cls) (hG : gK D cI cS s) (hI : fI D cI cS Z K σ H) (hS : va_S (aZ Z) H0 H locs) (hL : ly K o lyWarp) (hdg : decode cc pc = .ok (.putfield 26, 3)) (kk : ∀ (H1 : Heap) (locs1 : List Loc), fI D cI cS Z K (wr σ o 0 v) H1 → va_S (aZ Z) H0 H1 locs1 → W p l e R s m args below meth c H1 locs1 cells slots Q (F0 m (pc + 3) ls rest)) : W p l e R s m args below meth c H locs cells slots Q (F0 m pc ls (.int v :: .ref (Z + o) :: rest)) := mm_put hx hb hts hown hG hI hS (ly_at hL 0 rfl) inlX6 tyX6 tyX6_ok nmX6 (by decide) rfl 0 (by decide) rfl rfl (Nat.le_of_ble_eq_true rfl) (mT4 _ (List.mem_of_getElem? (i := 21) rfl)) rfl (by decide +kernel) hdg kk
theorem pX6_30 {o : Nat} {v : Int32} (hx : p.tables.exec = Jvm.exec) (hb : c.code = cc) (hts : ∀ w ∈ wsL_law, w.before args s = true) (hown : s.vm.findClass RX6 = some m.cls) (hG : gK D cI cS s) (hI : fI D cI cS Z K σ H) (hS : va_S (aZ Z) H0 H locs) (hL : ly K o lyWarp) (hdg : decode cc pc = .ok (.putfield 30, 3)) (kk : ∀ (H1 : Heap) (locs1 : List Loc), fI D cI cS Z K (wr σ o 1 v) H1 → va_S (aZ Z) H0 H1 locs1 → W p l e R s m args below meth c H1 locs1 cells slots Q (F0 m (pc + 3) ls rest)) : W p l e R s m args below meth c H locs cells slots Q (F0 m pc ls (.int v :: .ref (Z + o) :: rest)) := mm_put hx hb hts hown hG hI hS (ly_at hL 0 rfl) inlX6 tyX6 tyX6_ok nmX6 (by decide) rfl 1 (by decide) rfl rfl (Nat.le_of_ble_eq_true rfl) (mT4 _ (List.mem_of_getElem? (i := 22) rfl)) rfl (by decide +kernel) hdg kk
theorem pX7_54 {o : Nat} {v : Int32} (hx : p.tables.exec = Jvm.exec) (hb : c.code = cc) (hts : ∀ w ∈ wsL_law, w.before args s = true) (hown : s.vm.findClass RX7 = some m.cls) (hG : gK D cI cS s) (hI : fI D cI cS Z K σ H) (hS : va_S (aZ Z) H0 H locs) (hL : ly K o lyCloth) (hdg : decode cc pc = .ok (.putfield 54, 3)) (kk : ∀ (H1 : Heap) (locs1 : List Loc), fI D cI cS Z K (wr σ o 0 v) H1 → va_S (aZ Z) H0 H1 locs1 → W p l e R s m args below meth c H1 locs1 cells slots Q (F0 m (pc + 3) ls rest)) : W p l e R s m args below meth c H locs cells slots Q (F0 m pc ls (.int v :: .ref (Z + o) :: rest)) := mm_put hx hb hts hown hG hI hS (ly_at hL 0 rfl) inlX2 tyX2 tyX2_ok nmX2 (by decide) rfl 0 (by decide) rfl rfl (Nat.le_of_ble_eq_true rfl) (mT7 _ (List.mem_of_getElem? (i := 2) rfl)) rfl (by decide +kernel) hdg kk
theorem pX7_122 {o : Nat} {v : Int32} (hx : p.tables.exec = Jvm.exec) (hb : c.code = cc) (hts : ∀ w ∈ wsL_law, w.before args s = true) (hown : s.vm.findClass RX7 = some m.cls) (hG : gK D cI cS s) (hI : fI D cI cS Z K σ H) (hS : va_S (aZ Z) H0 H locs) (hL : ly K o lyChain) (hdg : decode cc pc = .ok (.putfield 122, 3)) (kk : ∀ (H1 : Heap) (locs1 : List Loc), fI D cI cS Z K (wr σ o 2 v) H1 → va_S (aZ Z) H0 H1 locs1 → W p l e R s m args below meth c H1 locs1 cells slots Q (F0 m (pc + 3) ls rest)) : W p l e R s m args below meth c H locs cells slots Q (F0 m pc ls (.int v :: .ref (Z + o) :: rest)) := mm_put hx hb hts hown hG hI hS (ly_at hL 0 rfl) inlX0 tyX0 tyX0_ok nmX0 (by decide) rfl 2 (by decide) rfl rfl (Nat.le_of_ble_eq_true rfl) (mT14 _ (List.mem_of_getElem? (i := 3) rfl)) rfl (by decide +kernel) hdg kk
theorem pX7_125 {o : Nat} {v : Int32} (hx : p.tables.exec = Jvm.exec) (hb : c.code = cc) (hts : ∀ w ∈ wsL_law, w.before args s = true) (hown : s.vm.findClass RX7 = some m.cls) (hG : gK D cI cS s) (hI : fI D cI cS Z K σ H) (hS : va_S (aZ Z) H0 H locs) (hL : ly K o lyChain) (hdg : decode cc pc = .ok (.putfield 125, 3)) (kk : ∀ (H1 : Heap) (locs1 : List Loc), fI D cI cS Z K (wr σ o 1 v) H1 → va_S (aZ Z) H0 H1 locs1 → W p l e R s m args below meth c H1 locs1 cells slots Q (F0 m (pc + 3) ls rest)) : W p l e R s m args below meth c H locs cells slots Q (F0 m pc ls (.int v :: .ref (Z + o) :: rest)) := mm_put hx hb hts hown hG hI hS (ly_at hL 0 rfl) inlX0 tyX0 tyX0_ok nmX0 (by decide) rfl 1 (by decide) rfl rfl (Nat.le_of_ble_eq_true rfl) (mT14 _ (List.mem_of_getElem? (i := 12) rfl)) rfl (by decide +kernel) hdg kk
theorem pX7_134 {o : Nat} {v : Int32} (hx : p.tables.exec = Jvm.exec) (hb : c.code = cc) (hts : ∀ w ∈ wsL_law, w.before args s = true) (hown : s.vm.findClass RX7 = some m.cls) (hG : gK D cI cS s) (hI : fI D cI cS Z K σ H) (hS : va_S (aZ Z) H0 H locs) (hL : ly K o lyReader) (hdg : decode cc pc = .ok (.putfield 134, 3)) (kk : ∀ (H1 : Heap) (locs1 : List Loc), fI D cI cS Z K (wr σ o 2 v) H1 → va_S (aZ Z) H0 H1 locs1 → W p l e R s m args below meth c H1 locs1 cells slots Q (F0 m (pc + 3) ls rest)) : W p l e R s m args below meth c H locs cells slots Q (F0 m pc ls (.int v :: .ref (Z + o) :: rest)) := mm_put hx hb hts hown hG hI hS (ly_at hL 0 rfl) inlX1 tyX1 tyX1_ok nmX1 (by decide) rfl 2 (by decide) rfl rfl (Nat.le_of_ble_eq_true rfl) (mT15 _ (List.mem_of_getElem? (i := 6) rfl)) rfl (by decide +kernel) hdg kk
theorem pX8_28 {o : Nat} {v : Int32} (hx : p.tables.exec = Jvm.exec) (hb : c.code = cc) (hts : ∀ w ∈ wsL_law, w.before args s = true) (hown : s.vm.findClass RX8 = some m.cls) (hG : gK D cI cS s) (hI : fI D cI cS Z K σ H) (hS : va_S (aZ Z) H0 H locs) (hL : ly K o lyModel) (hdg : decode cc pc = .ok (.putfield 28, 3)) (kk : ∀ (H1 : Heap) (locs1 : List Loc), fI D cI cS Z K (wr σ o 0 v) H1 → va_S (aZ Z) H0 H1 locs1 → W p l e R s m args below meth c H1 locs1 cells slots Q (F0 m (pc + 3) ls rest)) : W p l e R s m args below meth c H locs cells slots Q (F0 m pc ls (.int v :: .ref (Z + o) :: rest)) := mm_put hx hb hts hown hG hI hS (ly_at hL 0 rfl) inlX8 tyX8 tyX8_ok nmX8 (by decide) rfl 0 (by decide) rfl rfl (Nat.le_of_ble_eq_true rfl) (mT6 _ (List.mem_of_getElem? (i := 16) rfl)) rfl (by decide +kernel) hdg kk
theorem pX8_36 {o : Nat} {v : Int32} (hx : p.tables.exec = Jvm.exec) (hb : c.code = cc) (hts : ∀ w ∈ wsL_law, w.before args s = true) (hown : s.vm.findClass RX8 = some m.cls) (hG : gK D cI cS s) (hI : fI D cI cS Z K σ H) (hS : va_S (aZ Z) H0 H locs) (hL : ly K o lyModel) (hdg : decode cc pc = .ok (.putfield 36, 3)) (kk : ∀ (H1 : Heap) (locs1 : List Loc), fI D cI cS Z K (wr σ o 4 v) H1 → va_S (aZ Z) H0 H1 locs1 → W p l e R s m args below meth c H1 locs1 cells slots Q (F0 m (pc + 3) ls rest)) : W p l e R s m args below meth c H locs cells slots Q (F0 m pc ls (.int v :: .ref (Z + o) :: rest)) := mm_put hx hb hts hown hG hI hS (ly_at hL 0 rfl) inlX8 tyX8 tyX8_ok nmX8 (by decide) rfl 4 (by decide) rfl rfl (Nat.le_of_ble_eq_true rfl) (mT9 _ (List.mem_of_getElem? (i := 17) rfl)) rfl (by decide +kernel) hdg kk
theorem pX8_70 {o : Nat} {v : Int32} (hx : p.tables.exec = Jvm.exec) (hb : c.code = cc) (hts : ∀ w ∈ wsL_law, w.before args s = true) (hown : s.vm.findClass RX8 = some m.cls) (hG : gK D cI cS s) (hI : fI D cI cS Z K σ H) (hS : va_S (aZ Z) H0 H locs) (hL : ly K o lyModel) (hdg : decode cc pc = .ok (.putfield 70, 3)) (kk : ∀ (H1 : Heap) (locs1 : List Loc), fI D cI cS Z K (wr σ o 6 v) H1 → va_S (aZ Z) H0 H1 locs1 → W p l e R s m args below meth c H1 locs1 cells slots Q (F0 m (pc + 3) ls rest)) : W p l e R s m args below meth c H locs cells slots Q (F0 m pc ls (.int v :: .ref (Z + o) :: rest)) := mm_put hx hb hts hown hG hI hS (ly_at hL 0 rfl) inlX8 tyX8 tyX8_ok nmX8 (by decide) rfl 6 (by decide) rfl rfl (Nat.le_of_ble_eq_true rfl) (mT15 _ (List.mem_of_getElem? (i := 22) rfl)) rfl (by decide +kernel) hdg kk
theorem pX8_73 {o : Nat} {v : Int32} (hx : p.tables.exec = Jvm.exec) (hb : c.code = cc) (hts : ∀ w ∈ wsL_law, w.before args s = true) (hown : s.vm.findClass RX8 = some m.cls) (hG : gK D cI cS s) (hI : fI D cI cS Z K σ H) (hS : va_S (aZ Z) H0 H locs) (hL : ly K o lyModel) (hdg : decode cc pc = .ok (.putfield 73, 3)) (kk : ∀ (H1 : Heap) (locs1 : List Loc), fI D cI cS Z K (wr σ o 10 v) H1 → va_S (aZ Z) H0 H1 locs1 → W p l e R s m args below meth c H1 locs1 cells slots Q (F0 m (pc + 3) ls rest)) : W p l e R s m args below meth c H locs cells slots Q (F0 m pc ls (.int v :: .ref (Z + o) :: rest)) := mm_put hx hb hts hown hG hI hS (ly_at hL 0 rfl) inlX8 tyX8 tyX8_ok nmX8 (by decide) rfl 10 (by decide) rfl rfl (Nat.le_of_ble_eq_true rfl) (mT19 _ (List.mem_of_getElem? (i := 11) rfl)) rfl (by decide +kernel) hdg kk
theorem pX8_87 {o : Nat} {v : Int32} (hx : p.tables.exec = Jvm.exec) (hb : c.code = cc) (hts : ∀ w ∈ wsL_law, w.before args s = true) (hown : s.vm.findClass RX8 = some m.cls) (hG : gK D cI cS s) (hI : fI D cI cS Z K σ H) (hS : va_S (aZ Z) H0 H locs) (hL : ly K o lyModel) (hdg : decode cc pc = .ok (.putfield 87, 3)) (kk : ∀ (H1 : Heap) (locs1 : List Loc), fI D cI cS Z K (wr σ o 9 v) H1 → va_S (aZ Z) H0 H1 locs1 → W p l e R s m args below meth c H1 locs1 cells slots Q (F0 m (pc + 3) ls rest)) : W p l e R s m args below meth c H locs cells slots Q (F0 m pc ls (.int v :: .ref (Z + o) :: rest)) := mm_put hx hb hts hown hG hI hS (ly_at hL 0 rfl) inlX8 tyX8 tyX8_ok nmX8 (by decide) rfl 9 (by decide) rfl rfl (Nat.le_of_ble_eq_true rfl) (mT19 _ (List.mem_of_getElem? (i := 10) rfl)) rfl (by decide +kernel) hdg kk
theorem pX8_157 {o : Nat} {v : Int32} (hx : p.tables.exec = Jvm.exec) (hb : c.code = cc) (hts : ∀ w ∈ wsL_law, w.before args s = true) (hown : s.vm.findClass RX8 = some m.cls) (hG : gK D cI cS s) (hI : fI D cI cS Z K σ H) (hS : va_S (aZ Z) H0 H locs) (hL : ly K o lyModel) (hdg : decode cc pc = .ok (.putfield 157, 3)) (kk : ∀ (H1 : Heap) (locs1 : List Loc), fI D cI cS Z K (wr σ o 11 v) H1 → va_S (aZ Z) H0 H1 locs1 → W p l e R s m args below meth c H1 locs1 cells slots Q (F0 m (pc + 3) ls rest)) : W p l e R s m args below meth c H locs cells slots Q (F0 m pc ls (.int v :: .ref (Z + o) :: rest)) := mm_put hx hb hts hown hG hI hS (ly_at hL 0 rfl) inlX8 tyX8 tyX8_ok nmX8 (by decide) rfl 11 (by decide) rfl rfl (Nat.le_of_ble_eq_true rfl) (mT30 _ (List.mem_of_getElem? (i := 8) rfl)) rfl (by decide +kernel) hdg kk
theorem pX8_160 {o : Nat} {v : Int32} (hx : p.tables.exec = Jvm.exec) (hb : c.code = cc) (hts : ∀ w ∈ wsL_law, w.before args s = true) (hown : s.vm.findClass RX8 = some m.cls) (hG : gK D cI cS s) (hI : fI D cI cS Z K σ H) (hS : va_S (aZ Z) H0 H locs) (hL : ly K o lyModel) (hdg : decode cc pc = .ok (.putfield 160, 3)) (kk : ∀ (H1 : Heap) (locs1 : List Loc), fI D cI cS Z K (wr σ o 12 v) H1 → va_S (aZ Z) H0 H1 locs1 → W p l e R s m args below meth c H1 locs1 cells slots Q (F0 m (pc + 3) ls rest)) : W p l e R s m args below meth c H locs cells slots Q (F0 m pc ls (.int v :: .ref (Z + o) :: rest)) := mm_put hx hb hts hown hG hI hS (ly_at hL 0 rfl) inlX8 tyX8 tyX8_ok nmX8 (by decide) rfl 12 (by decide) rfl rfl (Nat.le_of_ble_eq_true rfl) (mT30 _ (List.mem_of_getElem? (i := 9) rfl)) rfl (by decide +kernel) hdg kk
end RW
end
section
/-! 05.num: mirrored programs and contracts (written by wip/whole/gen.py) -/
def f_J6_bitCount (a1 : Int32) (σ : Nat → Nat → Int32) : Option Int32 := vl (a1 - ((usr a1 1) &&& 1431655765)) fun x_1 => vl ((x_1 &&& 858993459) + ((usr x_1 2) &&& 858993459)) fun x_2 => vl ((x_2 + (usr x_2 4)) &&& 252645135) fun x_3 => vl (x_3 + (usr x_3 8)) fun x_4 => vl (x_4 + (usr x_4 16)) fun x_5 => some (x_5 &&& 63)
set_option maxHeartbeats 4000000 in
set_option maxRecDepth 100000 in
theorem c_J6_bitCount (l : Launch) (D : va_G) (cI cS : ClassId) (Z : Nat) (K : Nat → Nat) (a1 : Int32) (σ : Nat → Nat → Int32) (r : Int32) (hf : f_J6_bitCount a1 σ = some r) : Met l yJ6_bitCount_0f7a4 (wsT yJ6_bitCount_0f7a4 cJ6_bitCount_0f7a4 1 (some .int)) { frames := 0, cells := 0, slots := 0, locals := 0 } (Pm D cI cS Z K [.int a1] σ) (Qi D cI cS Z K r σ) 0 0 (aZ Z) := by
  refine mm_met (lv := [(0, .int a1)]) (by decide) (Nat.le_of_ble_eq_true rfl) rfl ?_
  intro p e s m args below meth c ls hx hb hr hml hts hown hlocks hG hl hI hS
  have hown : s.vm.findClass RJ6 = some m.cls := hown
  rw [f_J6_bitCount] at hf
  refine lv_iload_n hx hb dJ6_bitCount_0f7a4_0 rfl (lv_at hl 0 rfl) ?_
  refine lv_iload_n hx hb dJ6_bitCount_0f7a4_1 rfl (lv_at hl 0 rfl) ?_
  refine lv_iconst (v := 1) hx hb dJ6_bitCount_0f7a4_2 (by decide) ?_
  refine lv_iushr (v := usr a1 1) hx hb dJ6_bitCount_0f7a4_3 rfl ?_
  refine lv_ldcw (v := 1431655765) hx hb hown (hts _ (mT27 _ (List.mem_of_getElem? (i := 21) rfl))) dJ6_bitCount_0f7a4_4 ?_
  refine lv_iand hx hb dJ6_bitCount_0f7a4_7 ?_
  refine lv_isub hx hb dJ6_bitCount_0f7a4_8 ?_
  obtain ⟨x_1, ex_1, hf⟩ := vl_e hf
  refine mm_name ex_1 ?_
  refine lv_istore_n (lv' := [(0, .int x_1)]) hx hb dJ6_bitCount_0f7a4_9 rfl hl (by decide) rfl (fun ls hl => ?_)
  refine lv_iload_n hx hb dJ6_bitCount_0f7a4_10 rfl (lv_at hl 0 rfl) ?_
  refine lv_ldcw (v := 858993459) hx hb hown (hts _ (mT27 _ (List.mem_of_getElem? (i := 22) rfl))) dJ6_bitCount_0f7a4_11 ?_
  refine lv_iand hx hb dJ6_bitCount_0f7a4_14 ?_
  refine lv_iload_n hx hb dJ6_bitCount_0f7a4_15 rfl (lv_at hl 0 rfl) ?_
  refine lv_iconst (v := 2) hx hb dJ6_bitCount_0f7a4_16 (by decide) ?_
  refine lv_iushr (v := usr x_1 2) hx hb dJ6_bitCount_0f7a4_17 rfl ?_
  refine lv_ldcw (v := 858993459) hx hb hown (hts _ (mT27 _ (List.mem_of_getElem? (i := 22) rfl))) dJ6_bitCount_0f7a4_18 ?_
  refine lv_iand hx hb dJ6_bitCount_0f7a4_21 ?_
  refine lv_iadd hx hb dJ6_bitCount_0f7a4_22 ?_
  obtain ⟨x_2, ex_2, hf⟩ := vl_e hf
  refine mm_name ex_2 ?_
  refine lv_istore_n (lv' := [(0, .int x_2)]) hx hb dJ6_bitCount_0f7a4_23 rfl hl (by decide) rfl (fun ls hl => ?_)
  refine lv_iload_n hx hb dJ6_bitCount_0f7a4_24 rfl (lv_at hl 0 rfl) ?_
  refine lv_iload_n hx hb dJ6_bitCount_0f7a4_25 rfl (lv_at hl 0 rfl) ?_
  refine lv_iconst (v := 4) hx hb dJ6_bitCount_0f7a4_26 (by decide) ?_
  refine lv_iushr (v := usr x_2 4) hx hb dJ6_bitCount_0f7a4_27 rfl ?_
  refine lv_iadd hx hb dJ6_bitCount_0f7a4_28 ?_
  refine lv_ldcw (v := 252645135) hx hb hown (hts _ (mT27 _ (List.mem_of_getElem? (i := 23) rfl))) dJ6_bitCount_0f7a4_29 ?_
  refine lv_iand hx hb dJ6_bitCount_0f7a4_32 ?_
  obtain ⟨x_3, ex_3, hf⟩ := vl_e hf
  refine mm_name ex_3 ?_
  refine lv_istore_n (lv' := [(0, .int x_3)]) hx hb dJ6_bitCount_0f7a4_33 rfl hl (by decide) rfl (fun ls hl => ?_)
  refine lv_iload_n hx hb dJ6_bitCount_0f7a4_34 rfl (lv_at hl 0 rfl) ?_
  refine lv_iload_n hx hb dJ6_bitCount_0f7a4_35 rfl (lv_at hl 0 rfl) ?_
  refine lv_bipush (v := 8) hx hb dJ6_bitCount_0f7a4_36 (by decide) ?_
  refine lv_iushr (v := usr x_3 8) hx hb dJ6_bitCount_0f7a4_38 rfl ?_
  refine lv_iadd hx hb dJ6_bitCount_0f7a4_39 ?_
  obtain ⟨x_4, ex_4, hf⟩ := vl_e hf
  refine mm_name ex_4 ?_
  refine lv_istore_n (lv' := [(0, .int x_4)]) hx hb dJ6_bitCount_0f7a4_40 rfl hl (by decide) rfl (fun ls hl => ?_)
  refine lv_iload_n hx hb dJ6_bitCount_0f7a4_41 rfl (lv_at hl 0 rfl) ?_
  refine lv_iload_n hx hb dJ6_bitCount_0f7a4_42 rfl (lv_at hl 0 rfl) ?_
  refine lv_bipush (v := 16) hx hb dJ6_bitCount_0f7a4_43 (by decide) ?_
  refine lv_iushr (v := usr x_4 16) hx hb dJ6_bitCount_0f7a4_45 rfl ?_
  refine lv_iadd hx hb dJ6_bitCount_0f7a4_46 ?_
  obtain ⟨x_5, ex_5, hf⟩ := vl_e hf
  refine mm_name ex_5 ?_
  refine lv_istore_n (lv' := [(0, .int x_5)]) hx hb dJ6_bitCount_0f7a4_47 rfl hl (by decide) rfl (fun ls hl => ?_)
  refine lv_iload_n hx hb dJ6_bitCount_0f7a4_48 rfl (lv_at hl 0 rfl) ?_
  refine lv_bipush (v := 63) hx hb dJ6_bitCount_0f7a4_49 (by decide) ?_
  refine lv_iand hx hb dJ6_bitCount_0f7a4_51 ?_
  cases hf
  exact mm_ret hx hb hr hlocks rfl hI hS dJ6_bitCount_0f7a4_52
def f_X4_put (o : Nat) (n : Nat) (a1 : Int32) (a2 : Int32) (σ : Nat → Nat → Int32) : Option (Nat → Nat → Int32) := if a1 < 0 then (some σ) else (if (nI n) ≤ a1 then (some σ) else (ix a1 n <| vl (wr σ (o + 1) a1.toNatClampNeg a2) fun σ_1 => some σ_1))
set_option maxHeartbeats 4000000 in
set_option maxRecDepth 100000 in
theorem c_X4_put (l : Launch) (D : va_G) (cI cS : ClassId) (Z : Nat) (K : Nat → Nat) (o : Nat) (n : Nat) (hL : ly K o (lyNum n)) (a1 : Int32) (a2 : Int32) (σ : Nat → Nat → Int32) (σ' : Nat → Nat → Int32) (hf : f_X4_put o n a1 a2 σ = some σ') : Met l yX4_put (wsT yX4_put cX4_put 3 none) { frames := 0, cells := 0, slots := 0, locals := 0 } (Pm D cI cS Z K [.ref (Z + o), .int a1, .int a2] σ) (Qv D cI cS Z K σ') 0 0 (aZ Z) := by
  refine mm_met (lv := [(0, .ref (Z + o)), (1, .int a1), (2, .int a2)]) (by decide) (Nat.le_of_ble_eq_true rfl) rfl ?_
  intro p e s m args below meth c ls hx hb hr hml hts hown hlocks hG hl hI hS
  have hown : s.vm.findClass RX4 = some m.cls := hown
  rw [f_X4_put] at hf
  refine lv_iload_n hx hb dX4_put_0 rfl (lv_at hl 1 rfl) ?_
  refine lv_if_lt (tgt := 20) hx hb dX4_put_1 (by decide) (fun c_3 => ?_) (fun c_3 => ?_)
  · have hf := pos_e c_3 hf
    cases hf
    exact mm_vret hx hb hr hlocks hI hS dX4_put_20
  · have hf := neg_e c_3 hf
    refine lv_iload_n hx hb dX4_put_4 rfl (lv_at hl 1 rfl) ?_
    refine lv_aload_n hx hb dX4_put_5 rfl (lv_at hl 0 rfl) ?_
    refine gX4_13 (o' := (o + 1)) hx hb hts hown hG hI hL rfl dX4_put_6 ?_
    refine mm_alen hx hb hG hI (ly_at hL 1 rfl) dX4_put_9 ?_
    refine lv_icmp_ge (tgt := 20) hx hb dX4_put_10 (by decide) (fun c_2 => ?_) (fun c_2 => ?_)
    · have hf := pos_e c_2 hf
      cases hf
      exact mm_vret hx hb hr hlocks hI hS dX4_put_20
    · have hf := neg_e c_2 hf
      refine lv_aload_n hx hb dX4_put_13 rfl (lv_at hl 0 rfl) ?_
      refine gX4_13 (o' := (o + 1)) hx hb hts hown hG hI hL rfl dX4_put_14 ?_
      refine lv_iload_n hx hb dX4_put_17 rfl (lv_at hl 1 rfl) ?_
      refine lv_iload_n hx hb dX4_put_18 rfl (lv_at hl 2 rfl) ?_
      obtain ⟨hix, hf⟩ := ix_e hf
      obtain ⟨σ_1, eσ_1, hf⟩ := vl_e hf
      refine mm_ast hx hb hG hI hS (ly_at hL 1 rfl) hix rfl dX4_put_19 (fun H locs hI hS => ?_)
      rw [← eσ_1] at hI
      cases hf
      exact mm_vret hx hb hr hlocks hI hS dX4_put_20
def f_X4_copyFrom (o : Nat) (n : Nat) (o2 : Nat) (n2 : Nat) (σ : Nat → Nat → Int32) : Option (Nat → Nat → Int32) := cg (imin (nI n) (nI n)) n n <| vl (wc σ (o + 1) (o2 + 1) (imin (nI n) (nI n)).toNatClampNeg) fun σ_1 => some σ_1
set_option maxHeartbeats 4000000 in
set_option maxRecDepth 100000 in
theorem c_X4_copyFrom (l : Launch) (D : va_G) (cI cS : ClassId) (Z : Nat) (K : Nat → Nat) (o : Nat) (n : Nat) (hL : ly K o (lyNum n)) (o2 : Nat) (n2 : Nat) (hL2 : ly K o2 (lyNum n2)) (σ : Nat → Nat → Int32) (σ' : Nat → Nat → Int32) (hne : o ≠ o2) (hf : f_X4_copyFrom o n o2 n2 σ = some σ') : Met l yX4_copyFrom (wsT yX4_copyFrom cX4_copyFrom 2 none) { frames := 1, cells := 0, slots := 0, locals := 40 } (Pm D cI cS Z K [.ref (Z + o), .ref (Z + o2)] σ) (Qv D cI cS Z K σ') 0 0 (aZ Z) := by
  refine mm_met (lv := [(0, .ref (Z + o)), (1, .ref (Z + o2))]) (by decide) (Nat.le_of_ble_eq_true rfl) rfl ?_
  intro p e s m args below meth c ls hx hb hr hml hts hown hlocks hG hl hI hS
  have hown : s.vm.findClass RX4 = some m.cls := hown
  rw [f_X4_copyFrom] at hf
  refine lv_aload_n hx hb dX4_copyFrom_0 rfl (lv_at hl 1 rfl) ?_
  refine gX4_13 (o' := (o2 + 1)) hx hb hts hown hG hI hL2 rfl dX4_copyFrom_1 ?_
  refine lv_iconst (v := 0) hx hb dX4_copyFrom_4 (by decide) ?_
  refine lv_aload_n hx hb dX4_copyFrom_5 rfl (lv_at hl 0 rfl) ?_
  refine gX4_13 (o' := (o + 1)) hx hb hts hown hG hI hL rfl dX4_copyFrom_6 ?_
  refine lv_iconst (v := 0) hx hb dX4_copyFrom_9 (by decide) ?_
  refine lv_aload_n hx hb dX4_copyFrom_10 rfl (lv_at hl 0 rfl) ?_
  refine gX4_13 (o' := (o + 1)) hx hb hts hown hG hI hL rfl dX4_copyFrom_11 ?_
  refine mm_alen hx hb hG hI (ly_at hL 1 rfl) dX4_copyFrom_14 ?_
  refine lv_aload_n hx hb dX4_copyFrom_15 rfl (lv_at hl 1 rfl) ?_
  refine gX4_13 (o' := (o2 + 1)) hx hb hts hown hG hI hL2 rfl dX4_copyFrom_16 ?_
  refine mm_alen hx hb hG hI (ly_at hL2 1 rfl) dX4_copyFrom_19 ?_
  refine va_mmin hx hb (hml.trans hl.1.symm) hown (hts _ (mT8 _ (List.mem_of_getElem? (i := 7) rfl))) (hts _ (mT7 _ (List.mem_of_getElem? (i := 13) rfl))) (hts _ (mT3 _ (List.mem_of_getElem? (i := 12) rfl))) (hts _ (mT7 _ (List.mem_of_getElem? (i := 14) rfl))) (Nat.le_of_ble_eq_true rfl) (Nat.le_of_ble_eq_true rfl) (Nat.le_of_ble_eq_true rfl) (Nat.le_of_ble_eq_true rfl) dX4_copyFrom_20 ?_
  obtain ⟨h3, h4, h5, hf⟩ := cg_e hf
  obtain ⟨σ_1, eσ_1, hf⟩ := vl_e hf
  refine mm_copy hx hb hts (hml.trans hl.1.symm) hown hG hI hS (ly_at hL 1 rfl) (ly_at hL2 1 rfl) (by omega) (mT8 _ (List.mem_of_getElem? (i := 8) rfl)) (mT8 _ (List.mem_of_getElem? (i := 9) rfl)) (mT8 _ (List.mem_of_getElem? (i := 10) rfl)) (mT8 _ (List.mem_of_getElem? (i := 11) rfl)) rfl rfl h3 h4 h5 (Nat.le_of_ble_eq_true rfl) (by decide) dX4_copyFrom_23 (fun H locs hI hS => ?_)
  rw [← eσ_1] at hI
  cases hf
  exact mm_vret hx hb hr hlocks hI hS dX4_copyFrom_26
def f_X7_isBetween (a1 : Int32) (a2 : Int32) (a3 : Int32) (σ : Nat → Nat → Int32) : Option Int32 := if a1 < a2 then (some 0) else (if a3 < a1 then (some 0) else (some 1))
set_option maxHeartbeats 4000000 in
set_option maxRecDepth 100000 in
theorem c_X7_isBetween (l : Launch) (D : va_G) (cI cS : ClassId) (Z : Nat) (K : Nat → Nat) (a1 : Int32) (a2 : Int32) (a3 : Int32) (σ : Nat → Nat → Int32) (r : Int32) (hf : f_X7_isBetween a1 a2 a3 σ = some r) : Met l yX7_isBetween (wsT yX7_isBetween cX7_isBetween 3 (some .boolean)) { frames := 0, cells := 0, slots := 0, locals := 0 } (Pm D cI cS Z K [.int a1, .int a2, .int a3] σ) (Qz D cI cS Z K r σ) 0 0 (aZ Z) := by
  refine mm_met (lv := [(0, .int a1), (1, .int a2), (2, .int a3)]) (by decide) (Nat.le_of_ble_eq_true rfl) rfl ?_
  intro p e s m args below meth c ls hx hb hr hml hts hown hlocks hG hl hI hS
  have hown : s.vm.findClass RX7 = some m.cls := hown
  rw [f_X7_isBetween] at hf
  refine lv_iload_n hx hb dX7_isBetween_0 rfl (lv_at hl 0 rfl) ?_
  refine lv_iload_n hx hb dX7_isBetween_1 rfl (lv_at hl 1 rfl) ?_
  refine lv_icmp_lt (tgt := 14) hx hb dX7_isBetween_2 (by decide) (fun c_2 => ?_) (fun c_2 => ?_)
  · have hf := pos_e c_2 hf
    refine lv_iconst (v := 0) hx hb dX7_isBetween_14 (by decide) ?_
    cases hf
    exact mm_zret hx hb hr hlocks (Or.inl rfl) hI hS dX7_isBetween_15
  · have hf := neg_e c_2 hf
    refine lv_iload_n hx hb dX7_isBetween_5 rfl (lv_at hl 0 rfl) ?_
    refine lv_iload_n hx hb dX7_isBetween_6 rfl (lv_at hl 2 rfl) ?_
    refine lv_icmp_gt (tgt := 14) hx hb dX7_isBetween_7 (by decide) (fun c_1 => ?_) (fun c_1 => ?_)
    · have hf := pos_e c_1 hf
      refine lv_iconst (v := 0) hx hb dX7_isBetween_14 (by decide) ?_
      cases hf
      exact mm_zret hx hb hr hlocks (Or.inl rfl) hI hS dX7_isBetween_15
    · have hf := neg_e c_1 hf
      refine lv_iconst (v := 1) hx hb dX7_isBetween_10 (by decide) ?_
      refine lv_goto (tgt := 15) hx hb dX7_isBetween_11 (by decide) ?_
      cases hf
      exact mm_zret hx hb hr hlocks (Or.inr rfl) hI hS dX7_isBetween_15
def f_X4_at (o : Nat) (n : Nat) (a1 : Int32) (σ : Nat → Nat → Int32) : Option Int32 := if a1 < 0 then (some 0) else (if (nI n) ≤ a1 then (some 0) else (ix a1 n <| some (σ (o + 1) a1.toNatClampNeg)))
set_option maxHeartbeats 4000000 in
set_option maxRecDepth 100000 in
theorem c_X4_at (l : Launch) (D : va_G) (cI cS : ClassId) (Z : Nat) (K : Nat → Nat) (o : Nat) (n : Nat) (hL : ly K o (lyNum n)) (a1 : Int32) (σ : Nat → Nat → Int32) (r : Int32) (hf : f_X4_at o n a1 σ = some r) : Met l yX4_at (wsT yX4_at cX4_at 2 (some .int)) { frames := 0, cells := 0, slots := 0, locals := 0 } (Pm D cI cS Z K [.ref (Z + o), .int a1] σ) (Qi D cI cS Z K r σ) 0 0 (aZ Z) := by
  refine mm_met (lv := [(0, .ref (Z + o)), (1, .int a1)]) (by decide) (Nat.le_of_ble_eq_true rfl) rfl ?_
  intro p e s m args below meth c ls hx hb hr hml hts hown hlocks hG hl hI hS
  have hown : s.vm.findClass RX4 = some m.cls := hown
  rw [f_X4_at] at hf
  refine lv_iload_n hx hb dX4_at_0 rfl (lv_at hl 1 rfl) ?_
  refine lv_if_lt (tgt := 22) hx hb dX4_at_1 (by decide) (fun c_2 => ?_) (fun c_2 => ?_)
  · have hf := pos_e c_2 hf
    refine lv_iconst (v := 0) hx hb dX4_at_22 (by decide) ?_
    cases hf
    exact mm_ret hx hb hr hlocks rfl hI hS dX4_at_23
  · have hf := neg_e c_2 hf
    refine lv_iload_n hx hb dX4_at_4 rfl (lv_at hl 1 rfl) ?_
    refine lv_aload_n hx hb dX4_at_5 rfl (lv_at hl 0 rfl) ?_
    refine gX4_13 (o' := (o + 1)) hx hb hts hown hG hI hL rfl dX4_at_6 ?_
    refine mm_alen hx hb hG hI (ly_at hL 1 rfl) dX4_at_9 ?_
    refine lv_icmp_ge (tgt := 22) hx hb dX4_at_10 (by decide) (fun c_1 => ?_) (fun c_1 => ?_)
    · have hf := pos_e c_1 hf
      refine lv_iconst (v := 0) hx hb dX4_at_22 (by decide) ?_
      cases hf
      exact mm_ret hx hb hr hlocks rfl hI hS dX4_at_23
    · have hf := neg_e c_1 hf
      refine lv_aload_n hx hb dX4_at_13 rfl (lv_at hl 0 rfl) ?_
      refine gX4_13 (o' := (o + 1)) hx hb hts hown hG hI hL rfl dX4_at_14 ?_
      refine lv_iload_n hx hb dX4_at_17 rfl (lv_at hl 1 rfl) ?_
      obtain ⟨hix, hf⟩ := ix_e hf
      refine mm_ald hx hb hG hI (ly_at hL 1 rfl) hix rfl dX4_at_18 ?_
      refine lv_goto (tgt := 23) hx hb dX4_at_19 (by decide) ?_
      cases hf
      exact mm_ret hx hb hr hlocks rfl hI hS dX4_at_23
def f_X7_bitOf (a1 : Int32) (a2 : Int32) (σ : Nat → Nat → Int32) : Option Int32 := some ((usr a1 a2) &&& 1)
set_option maxHeartbeats 4000000 in
set_option maxRecDepth 100000 in
theorem c_X7_bitOf (l : Launch) (D : va_G) (cI cS : ClassId) (Z : Nat) (K : Nat → Nat) (a1 : Int32) (a2 : Int32) (σ : Nat → Nat → Int32) (r : Int32) (hf : f_X7_bitOf a1 a2 σ = some r) : Met l yX7_bitOf (wsT yX7_bitOf cX7_bitOf 2 (some .int)) { frames := 0, cells := 0, slots := 0, locals := 0 } (Pm D cI cS Z K [.int a1, .int a2] σ) (Qi D cI cS Z K r σ) 0 0 (aZ Z) := by
  refine mm_met (lv := [(0, .int a1), (1, .int a2)]) (by decide) (Nat.le_of_ble_eq_true rfl) rfl ?_
  intro p e s m args below meth c ls hx hb hr hml hts hown hlocks hG hl hI hS
  have hown : s.vm.findClass RX7 = some m.cls := hown
  rw [f_X7_bitOf] at hf
  refine lv_iload_n hx hb dX7_bitOf_0 rfl (lv_at hl 0 rfl) ?_
  refine lv_iload_n hx hb dX7_bitOf_1 rfl (lv_at hl 1 rfl) ?_
  refine lv_iushr (v := usr a1 a2) hx hb dX7_bitOf_2 rfl ?_
  refine lv_iconst (v := 1) hx hb dX7_bitOf_3 (by decide) ?_
  refine lv_iand hx hb dX7_bitOf_4 ?_
  cases hf
  exact mm_ret hx hb hr hlocks rfl hI hS dX7_bitOf_5
def b_X4_putAll_2 (o : Nat) (n : Nat) (a1 : Int32) : Int32 × (Nat → Nat → Int32) → Option ((Int32 × (Nat → Nat → Int32)) ⊕ ((Nat → Nat → Int32)))
  | (y_1, σ_2) => if (nI n) ≤ y_1 then (some (.inr σ_2)) else (ix y_1 n <| vl (wr σ_2 (o + 1) y_1.toNatClampNeg a1) fun σ_13 => vl (y_1 + 1) fun x_14 => some (.inl (x_14, σ_13)))
def f_X4_putAll (o : Nat) (n : Nat) (a1 : Int32) (σ : Nat → Nat → Int32) : Option (Nat → Nat → Int32) := bi (lp (b_X4_putAll_2 o n a1) FU (0, σ)) fun σ_3 => some σ_3
set_option maxHeartbeats 4000000 in
set_option maxRecDepth 100000 in
theorem c_X4_putAll (l : Launch) (D : va_G) (cI cS : ClassId) (Z : Nat) (K : Nat → Nat) (o : Nat) (n : Nat) (hL : ly K o (lyNum n)) (a1 : Int32) (σ : Nat → Nat → Int32) (σ' : Nat → Nat → Int32) (hf : f_X4_putAll o n a1 σ = some σ') : Met l yX4_putAll (wsT yX4_putAll cX4_putAll 3 none) { frames := 0, cells := 0, slots := 0, locals := 0 } (Pm D cI cS Z K [.ref (Z + o), .int a1] σ) (Qv D cI cS Z K σ') 0 0 (aZ Z) := by
  refine mm_met (lv := [(0, .ref (Z + o)), (1, .int a1)]) (by decide) (Nat.le_of_ble_eq_true rfl) rfl ?_
  intro p e s m args below meth c ls hx hb hr hml hts hown hlocks hG hl hI hS
  have hown : s.vm.findClass RX4 = some m.cls := hown
  rw [f_X4_putAll] at hf
  refine lv_iconst (v := 0) hx hb dX4_putAll_0 (by decide) ?_
  refine lv_istore_n (lv' := [(2, .int 0), (0, .ref (Z + o)), (1, .int a1)]) hx hb dX4_putAll_1 rfl hl (by decide) rfl (fun ls hl => ?_)
  have L_5 : ∀ (n : Nat) (y_1 : Int32) (σ_2 : Nat → Nat → Int32) (σ_3 : Nat → Nat → Int32), lp (b_X4_putAll_2 o n a1) n (y_1, σ_2) = some σ_3 → (∀ (H : Heap) (locs : List Loc) (ls : Array Slot), fI D cI cS Z K σ_3 H → va_S (aZ Z) s.heap H locs → lv_has ls 3 [] → W p l e { frames := 0, cells := 0, slots := 0, locals := 0 } s m args below meth c H locs 0 0 (MQ below (Qv D cI cS Z K σ') args s 0 0 (aZ Z)) (F0 m 24 ls [])) → ∀ (H : Heap) (locs : List Loc) (ls : Array Slot), fI D cI cS Z K σ_2 H → va_S (aZ Z) s.heap H locs → lv_has ls 3 [(0, .ref (Z + o)), (1, .int a1), (2, .int y_1)] → W p l e { frames := 0, cells := 0, slots := 0, locals := 0 } s m args below meth c H locs 0 0 (MQ below (Qv D cI cS Z K σ') args s 0 0 (aZ Z)) (F0 m 2 ls []) := by
    intro n
    induction n with
    | zero =>
      intro y_1 σ_2 σ_3 hq
      exact (lp_0 hq).elim
    | succ n ih_6 =>
      intro y_1 σ_2 σ_3 hq kn_8 H locs ls hI hS hl
      obtain ⟨w_4, hf, hk_7⟩ := lp_e hq
      rw [b_X4_putAll_2] at hf
      have ih_6 := fun (y_1 : Int32) (σ_2 : Nat → Nat → Int32) q => ih_6 y_1 σ_2 σ_3 q kn_8
      refine lv_iload_n hx hb dX4_putAll_2 rfl (lv_at hl 2 rfl) ?_
      refine lv_aload_n hx hb dX4_putAll_3 rfl (lv_at hl 0 rfl) ?_
      refine gX4_13 (o' := (o + 1)) hx hb hts hown hG hI hL rfl dX4_putAll_4 ?_
      refine mm_alen hx hb hG hI (ly_at hL 1 rfl) dX4_putAll_7 ?_
      refine lv_icmp_ge (tgt := 24) hx hb dX4_putAll_8 (by decide) (fun c_15 => ?_) (fun c_15 => ?_)
      · have hf := pos_e c_15 hf
        cases hf
        have hk_7 := lk_r hk_7
        cases hk_7
        exact kn_8 _ _ _ hI hS (lv_sub hl [] rfl)
      · have hf := neg_e c_15 hf
        refine lv_aload_n hx hb dX4_putAll_11 rfl (lv_at hl 0 rfl) ?_
        refine gX4_13 (o' := (o + 1)) hx hb hts hown hG hI hL rfl dX4_putAll_12 ?_
        refine lv_iload_n hx hb dX4_putAll_15 rfl (lv_at hl 2 rfl) ?_
        refine lv_iload_n hx hb dX4_putAll_16 rfl (lv_at hl 1 rfl) ?_
        obtain ⟨hix, hf⟩ := ix_e hf
        obtain ⟨σ_13, eσ_13, hf⟩ := vl_e hf
        refine mm_ast hx hb hG hI hS (ly_at hL 1 rfl) hix rfl dX4_putAll_17 (fun H locs hI hS => ?_)
        rw [← eσ_13] at hI
        obtain ⟨x_14, ex_14, hf⟩ := vl_e hf
        refine lv_iinc (v := x_14) (lv' := [(2, .int x_14), (0, .ref (Z + o)), (1, .int a1)]) hx hb dX4_putAll_18 hl (k := 2) rfl (by rw [ex_14]; rfl) (by decide) rfl (fun ls hl => ?_)
        refine lv_goto (tgt := 2) hx hb dX4_putAll_21 (by decide) ?_
        cases hf
        exact ih_6 x_14 σ_13 hk_7 _ _ _ hI hS (lv_sub hl [1, 2, 0] rfl)
  obtain ⟨σ_3, hy, hf⟩ := bi_e hf
  refine L_5 FU 0 σ _ hy ?_ _ _ _ hI hS (lv_sub hl [1, 2, 0] rfl)
  clear L_5
  intro H locs ls hI hS hl
  cases hf
  exact mm_vret hx hb hr hlocks hI hS dX4_putAll_24
def f_X7_isColor (a1 : Int32) (σ : Nat → Nat → Int32) : Option Int32 := bi (f_X7_isBetween a1 0 9 σ) fun r_1 => some r_1
set_option maxHeartbeats 4000000 in
set_option maxRecDepth 100000 in
theorem c_X7_isColor (l : Launch) (D : va_G) (cI cS : ClassId) (Z : Nat) (K : Nat → Nat) (a1 : Int32) (σ : Nat → Nat → Int32) (r : Int32) (hf : f_X7_isColor a1 σ = some r) : Met l yX7_isColor (wsT yX7_isColor cX7_isColor 1 (some .boolean)) { frames := 1, cells := 0, slots := 0, locals := 22 } (Pm D cI cS Z K [.int a1] σ) (Qz D cI cS Z K r σ) 0 0 (aZ Z) := by
  refine mm_met (lv := [(0, .int a1)]) (by decide) (Nat.le_of_ble_eq_true rfl) rfl ?_
  intro p e s m args below meth c ls hx hb hr hml hts hown hlocks hG hl hI hS
  have hown : s.vm.findClass RX7 = some m.cls := hown
  rw [f_X7_isColor] at hf
  refine lv_iload_n hx hb dX7_isColor_0 rfl (lv_at hl 0 rfl) ?_
  refine lv_iconst (v := 0) hx hb dX7_isColor_1 (by decide) ?_
  refine lv_bipush (v := 9) hx hb dX7_isColor_2 (by decide) ?_
  obtain ⟨r_1, hr_1, hf⟩ := bi_e hf
  refine kX7_42 hx hb hml hts hown hG hI hS hl.1 (As := [.int a1, .int 0, .int 9]) (c_X7_isBetween l D cI cS Z K a1 0 9 σ _ hr_1) ⟨(Nat.le_of_ble_eq_true rfl), (Nat.le_of_ble_eq_true rfl)⟩ rfl (Nat.le_of_ble_eq_true rfl) ⟨(Nat.le_of_ble_eq_true rfl), (Nat.le_of_ble_eq_true rfl)⟩ dX7_isColor_4 (fun hzr_1 H locs hI hS => ?_)
  cases hf
  exact mm_zret hx hb hr hlocks hzr_1 hI hS dX7_isColor_7
def f_X8_isColor (a1 : Int32) (σ : Nat → Nat → Int32) : Option Int32 := bi (f_X8_in a1 0 9 σ) fun r_1 => some r_1
set_option maxHeartbeats 4000000 in
set_option maxRecDepth 100000 in
theorem c_X8_isColor (l : Launch) (D : va_G) (cI cS : ClassId) (Z : Nat) (K : Nat → Nat) (a1 : Int32) (σ : Nat → Nat → Int32) (r : Int32) (hf : f_X8_isColor a1 σ = some r) : Met l yX8_isColor (wsT yX8_isColor cX8_isColor 1 (some .boolean)) { frames := 1, cells := 0, slots := 0, locals := 22 } (Pm D cI cS Z K [.int a1] σ) (Qz D cI cS Z K r σ) 0 0 (aZ Z) := by
  refine mm_met (lv := [(0, .int a1)]) (by decide) (Nat.le_of_ble_eq_true rfl) rfl ?_
  intro p e s m args below meth c ls hx hb hr hml hts hown hlocks hG hl hI hS
  have hown : s.vm.findClass RX8 = some m.cls := hown
  rw [f_X8_isColor] at hf
  refine lv_iload_n hx hb dX8_isColor_0 rfl (lv_at hl 0 rfl) ?_
  refine lv_iconst (v := 0) hx hb dX8_isColor_1 (by decide) ?_
  refine lv_bipush (v := 9) hx hb dX8_isColor_2 (by decide) ?_
  obtain ⟨r_1, hr_1, hf⟩ := bi_e hf
  refine kX8_39 hx hb hml hts hown hG hI hS hl.1 (As := [.int a1, .int 0, .int 9]) (c_X8_in l D cI cS Z K a1 0 9 σ _ hr_1) ⟨(Nat.le_of_ble_eq_true rfl), (Nat.le_of_ble_eq_true rfl)⟩ rfl (Nat.le_of_ble_eq_true rfl) ⟨(Nat.le_of_ble_eq_true rfl), (Nat.le_of_ble_eq_true rfl)⟩ dX8_isColor_4 (fun hzr_1 H locs hI hS => ?_)
  cases hf
  exact mm_zret hx hb hr hlocks hzr_1 hI hS dX8_isColor_7
end
