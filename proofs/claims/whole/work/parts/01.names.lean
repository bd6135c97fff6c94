/-- a private method of a class that the tables say can be made, by its rows of tables_1 -/
def lw_okq (q : MethodName × Nat) : Prop := (q.1.cls ≠ "java/lang/invoke/MethodHandle" ∧ q.1.cls ≠ "java/lang/invoke/VarHandle") ∧ Cond.instantiable q.1.cls q.2 ∈ tables_1 ∧ Cond.privateMethod q.1 ∈ tables_1 ∧ Cond.instanceMethod q.1 ∈ tables_1
theorem lw_p0 : lw_okq (⟨"DiscLathe$OldDiscs", "forgetTurns", "(I)V"⟩, 10) := ⟨⟨by decide +kernel, by decide +kernel⟩, List.mem_of_getElem? (i := 239) (by decide +kernel), List.mem_of_getElem? (i := 253) (by decide +kernel), List.mem_of_getElem? (i := 254) (by decide +kernel)⟩
theorem lw_p1 : lw_okq (⟨"DiscLathe$Tape", "readWord", "()V"⟩, 6) := ⟨⟨by decide +kernel, by decide +kernel⟩, List.mem_of_getElem? (i := 30) (by decide +kernel), List.mem_of_getElem? (i := 622) (by decide +kernel), List.mem_of_getElem? (i := 623) (by decide +kernel)⟩
theorem lw_p2 : lw_okq (⟨"DiscLathe$Tape", "readNumber", "()V"⟩, 6) := ⟨⟨by decide +kernel, by decide +kernel⟩, List.mem_of_getElem? (i := 30) (by decide +kernel), List.mem_of_getElem? (i := 631) (by decide +kernel), List.mem_of_getElem? (i := 632) (by decide +kernel)⟩
theorem lw_p3 : lw_okq (⟨"DiscLathe$PartReader", "readClause", "()Z"⟩, 5) := ⟨⟨by decide +kernel, by decide +kernel⟩, List.mem_of_getElem? (i := 141) (by decide +kernel), List.mem_of_getElem? (i := 637) (by decide +kernel), List.mem_of_getElem? (i := 638) (by decide +kernel)⟩
theorem lw_p4 : lw_okq (⟨"DiscLathe$PartReader", "refuse", "(I)Z"⟩, 5) := ⟨⟨by decide +kernel, by decide +kernel⟩, List.mem_of_getElem? (i := 141) (by decide +kernel), List.mem_of_getElem? (i := 641) (by decide +kernel), List.mem_of_getElem? (i := 642) (by decide +kernel)⟩
theorem lw_p5 : lw_okq (⟨"DiscLathe$PartReader", "readTool", "()Z"⟩, 5) := ⟨⟨by decide +kernel, by decide +kernel⟩, List.mem_of_getElem? (i := 141) (by decide +kernel), List.mem_of_getElem? (i := 646) (by decide +kernel), List.mem_of_getElem? (i := 647) (by decide +kernel)⟩
theorem lw_p6 : lw_okq (⟨"DiscLathe$PartReader", "advanceTo", "(I)Z"⟩, 5) := ⟨⟨by decide +kernel, by decide +kernel⟩, List.mem_of_getElem? (i := 141) (by decide +kernel), List.mem_of_getElem? (i := 650) (by decide +kernel), List.mem_of_getElem? (i := 651) (by decide +kernel)⟩
theorem lw_p7 : lw_okq (⟨"DiscLathe$PartReader", "stayOn", "(I)Z"⟩, 5) := ⟨⟨by decide +kernel, by decide +kernel⟩, List.mem_of_getElem? (i := 141) (by decide +kernel), List.mem_of_getElem? (i := 654) (by decide +kernel), List.mem_of_getElem? (i := 655) (by decide +kernel)⟩
theorem lw_p8 : lw_okq (⟨"DiscLathe$PartReader", "advanceToNumber", "(II)Z"⟩, 5) := ⟨⟨by decide +kernel, by decide +kernel⟩, List.mem_of_getElem? (i := 141) (by decide +kernel), List.mem_of_getElem? (i := 662) (by decide +kernel), List.mem_of_getElem? (i := 663) (by decide +kernel)⟩
theorem lw_p9 : lw_okq (⟨"DiscLathe$PartReader", "stayWithin", "(II)Z"⟩, 5) := ⟨⟨by decide +kernel, by decide +kernel⟩, List.mem_of_getElem? (i := 141) (by decide +kernel), List.mem_of_getElem? (i := 666) (by decide +kernel), List.mem_of_getElem? (i := 667) (by decide +kernel)⟩
theorem lw_p10 : lw_okq (⟨"DiscLathe$PartReader", "readStep", "()Z"⟩, 5) := ⟨⟨by decide +kernel, by decide +kernel⟩, List.mem_of_getElem? (i := 141) (by decide +kernel), List.mem_of_getElem? (i := 676) (by decide +kernel), List.mem_of_getElem? (i := 677) (by decide +kernel)⟩
theorem lw_p11 : lw_okq (⟨"DiscLathe$PartReader", "advanceToToolName", "()Z"⟩, 5) := ⟨⟨by decide +kernel, by decide +kernel⟩, List.mem_of_getElem? (i := 141) (by decide +kernel), List.mem_of_getElem? (i := 680) (by decide +kernel), List.mem_of_getElem? (i := 681) (by decide +kernel)⟩
theorem lw_p12 : lw_okq (⟨"DiscLathe$PartReader", "readAfter", "()Z"⟩, 5) := ⟨⟨by decide +kernel, by decide +kernel⟩, List.mem_of_getElem? (i := 141) (by decide +kernel), List.mem_of_getElem? (i := 689) (by decide +kernel), List.mem_of_getElem? (i := 690) (by decide +kernel)⟩
theorem lw_p13 : lw_okq (⟨"DiscLathe$PartReader", "readMeet", "()Z"⟩, 5) := ⟨⟨by decide +kernel, by decide +kernel⟩, List.mem_of_getElem? (i := 141) (by decide +kernel), List.mem_of_getElem? (i := 697) (by decide +kernel), List.mem_of_getElem? (i := 698) (by decide +kernel)⟩
theorem lw_p14 : lw_okq (⟨"DiscLathe$PartReader", "readIdle", "()Z"⟩, 5) := ⟨⟨by decide +kernel, by decide +kernel⟩, List.mem_of_getElem? (i := 141) (by decide +kernel), List.mem_of_getElem? (i := 702) (by decide +kernel), List.mem_of_getElem? (i := 703) (by decide +kernel)⟩
theorem lw_p15 : lw_okq (⟨"DiscLathe$Plan", "longestTailBehind", "(I)I"⟩, 11) := ⟨⟨by decide +kernel, by decide +kernel⟩, List.mem_of_getElem? (i := 168) (by decide +kernel), List.mem_of_getElem? (i := 730) (by decide +kernel), List.mem_of_getElem? (i := 731) (by decide +kernel)⟩
def lw_privs_1 : List (MethodName × Nat) := [(⟨"DiscLathe$OldDiscs", "forgetTurns", "(I)V"⟩, 10), (⟨"DiscLathe$Tape", "readWord", "()V"⟩, 6), (⟨"DiscLathe$Tape", "readNumber", "()V"⟩, 6), (⟨"DiscLathe$PartReader", "readClause", "()Z"⟩, 5), (⟨"DiscLathe$PartReader", "refuse", "(I)Z"⟩, 5), (⟨"DiscLathe$PartReader", "readTool", "()Z"⟩, 5), (⟨"DiscLathe$PartReader", "advanceTo", "(I)Z"⟩, 5), (⟨"DiscLathe$PartReader", "stayOn", "(I)Z"⟩, 5), (⟨"DiscLathe$PartReader", "advanceToNumber", "(II)Z"⟩, 5), (⟨"DiscLathe$PartReader", "stayWithin", "(II)Z"⟩, 5), (⟨"DiscLathe$PartReader", "readStep", "()Z"⟩, 5), (⟨"DiscLathe$PartReader", "advanceToToolName", "()Z"⟩, 5), (⟨"DiscLathe$PartReader", "readAfter", "()Z"⟩, 5), (⟨"DiscLathe$PartReader", "readMeet", "()Z"⟩, 5), (⟨"DiscLathe$PartReader", "readIdle", "()Z"⟩, 5), (⟨"DiscLathe$Plan", "longestTailBehind", "(I)I"⟩, 11)]
theorem lw_r1 : ∀ q ∈ lw_privs_1, lw_okq q := List.forall_mem_cons.mpr ⟨lw_p0, List.forall_mem_cons.mpr ⟨lw_p1, List.forall_mem_cons.mpr ⟨lw_p2, List.forall_mem_cons.mpr ⟨lw_p3, List.forall_mem_cons.mpr ⟨lw_p4, List.forall_mem_cons.mpr ⟨lw_p5, List.forall_mem_cons.mpr ⟨lw_p6, List.forall_mem_cons.mpr ⟨lw_p7, List.forall_mem_cons.mpr ⟨lw_p8, List.forall_mem_cons.mpr ⟨lw_p9, List.forall_mem_cons.mpr ⟨lw_p10, List.forall_mem_cons.mpr ⟨lw_p11, List.forall_mem_cons.mpr ⟨lw_p12, List.forall_mem_cons.mpr ⟨lw_p13, List.forall_mem_cons.mpr ⟨lw_p14, List.forall_mem_cons.mpr ⟨lw_p15, fun _ h => absurd h List.not_mem_nil⟩⟩⟩⟩⟩⟩⟩⟩⟩⟩⟩⟩⟩⟩⟩⟩
theorem lw_p16 : lw_okq (⟨"DiscLathe$Plan", "queueWith", "(I)I"⟩, 11) := ⟨⟨by decide +kernel, by decide +kernel⟩, List.mem_of_getElem? (i := 168) (by decide +kernel), List.mem_of_getElem? (i := 738) (by decide +kernel), List.mem_of_getElem? (i := 739) (by decide +kernel)⟩
theorem lw_p17 : lw_okq (⟨"DiscLathe$Plan", "neverWith", "(I)I"⟩, 11) := ⟨⟨by decide +kernel, by decide +kernel⟩, List.mem_of_getElem? (i := 168) (by decide +kernel), List.mem_of_getElem? (i := 742) (by decide +kernel), List.mem_of_getElem? (i := 743) (by decide +kernel)⟩
theorem lw_p18 : lw_okq (⟨"DiscLathe$Plan", "putIn", "(IIII)V"⟩, 11) := ⟨⟨by decide +kernel, by decide +kernel⟩, List.mem_of_getElem? (i := 168) (by decide +kernel), List.mem_of_getElem? (i := 746) (by decide +kernel), List.mem_of_getElem? (i := 747) (by decide +kernel)⟩
theorem lw_p19 : lw_okq (⟨"DiscLathe$Plan", "canBeat", "(IIII)Z"⟩, 11) := ⟨⟨by decide +kernel, by decide +kernel⟩, List.mem_of_getElem? (i := 168) (by decide +kernel), List.mem_of_getElem? (i := 750) (by decide +kernel), List.mem_of_getElem? (i := 751) (by decide +kernel)⟩
theorem lw_p20 : lw_okq (⟨"DiscLathe$Plan", "soonestOf", "(IIII)I"⟩, 11) := ⟨⟨by decide +kernel, by decide +kernel⟩, List.mem_of_getElem? (i := 168) (by decide +kernel), List.mem_of_getElem? (i := 754) (by decide +kernel), List.mem_of_getElem? (i := 755) (by decide +kernel)⟩
theorem lw_p21 : lw_okq (⟨"DiscLathe$Plan", "queueBound", "(I)I"⟩, 11) := ⟨⟨by decide +kernel, by decide +kernel⟩, List.mem_of_getElem? (i := 168) (by decide +kernel), List.mem_of_getElem? (i := 758) (by decide +kernel), List.mem_of_getElem? (i := 759) (by decide +kernel)⟩
theorem lw_p22 : lw_okq (⟨"DiscLathe$Plan", "isAhead", "(III)Z"⟩, 11) := ⟨⟨by decide +kernel, by decide +kernel⟩, List.mem_of_getElem? (i := 168) (by decide +kernel), List.mem_of_getElem? (i := 766) (by decide +kernel), List.mem_of_getElem? (i := 767) (by decide +kernel)⟩
theorem lw_p23 : lw_okq (⟨"DiscLathe$Plan", "holdBack", "(III)V"⟩, 11) := ⟨⟨by decide +kernel, by decide +kernel⟩, List.mem_of_getElem? (i := 168) (by decide +kernel), List.mem_of_getElem? (i := 770) (by decide +kernel), List.mem_of_getElem? (i := 771) (by decide +kernel)⟩
theorem lw_p24 : lw_okq (⟨"DiscLathe$Discs", "markOf", "(I)I"⟩, 5) := ⟨⟨by decide +kernel, by decide +kernel⟩, List.mem_of_getElem? (i := 214) (by decide +kernel), List.mem_of_getElem? (i := 778) (by decide +kernel), List.mem_of_getElem? (i := 779) (by decide +kernel)⟩
theorem lw_p25 : lw_okq (⟨"DiscLathe", "toldOfOne", "(II)I"⟩, 11) := ⟨⟨by decide +kernel, by decide +kernel⟩, List.mem_of_getElem? (i := 22) (by decide +kernel), List.mem_of_getElem? (i := 801) (by decide +kernel), List.mem_of_getElem? (i := 802) (by decide +kernel)⟩
theorem lw_p26 : lw_okq (⟨"DiscLathe", "isStep", "(I)Z"⟩, 11) := ⟨⟨by decide +kernel, by decide +kernel⟩, List.mem_of_getElem? (i := 22) (by decide +kernel), List.mem_of_getElem? (i := 805) (by decide +kernel), List.mem_of_getElem? (i := 806) (by decide +kernel)⟩
theorem lw_p27 : lw_okq (⟨"DiscLathe", "isTool", "(I)Z"⟩, 11) := ⟨⟨by decide +kernel, by decide +kernel⟩, List.mem_of_getElem? (i := 22) (by decide +kernel), List.mem_of_getElem? (i := 809) (by decide +kernel), List.mem_of_getElem? (i := 810) (by decide +kernel)⟩
theorem lw_p28 : lw_okq (⟨"DiscLathe$Plan", "firstGap", "(II)I"⟩, 11) := ⟨⟨by decide +kernel, by decide +kernel⟩, List.mem_of_getElem? (i := 168) (by decide +kernel), List.mem_of_getElem? (i := 836) (by decide +kernel), List.mem_of_getElem? (i := 837) (by decide +kernel)⟩
theorem lw_p29 : lw_okq (⟨"DiscLathe$Plan", "behindOneInTheWay", "(III)I"⟩, 11) := ⟨⟨by decide +kernel, by decide +kernel⟩, List.mem_of_getElem? (i := 168) (by decide +kernel), List.mem_of_getElem? (i := 840) (by decide +kernel), List.mem_of_getElem? (i := 841) (by decide +kernel)⟩
theorem lw_p30 : lw_okq (⟨"DiscLathe$OldDiscs", "findTurn", "(II)V"⟩, 10) := ⟨⟨by decide +kernel, by decide +kernel⟩, List.mem_of_getElem? (i := 239) (by decide +kernel), List.mem_of_getElem? (i := 926) (by decide +kernel), List.mem_of_getElem? (i := 927) (by decide +kernel)⟩
theorem lw_p31 : lw_okq (⟨"DiscLathe$OldDiscs", "baseAt", "([III)I"⟩, 10) := ⟨⟨by decide +kernel, by decide +kernel⟩, List.mem_of_getElem? (i := 239) (by decide +kernel), List.mem_of_getElem? (i := 930) (by decide +kernel), List.mem_of_getElem? (i := 931) (by decide +kernel)⟩
def lw_privs_2 : List (MethodName × Nat) := [(⟨"DiscLathe$Plan", "queueWith", "(I)I"⟩, 11), (⟨"DiscLathe$Plan", "neverWith", "(I)I"⟩, 11), (⟨"DiscLathe$Plan", "putIn", "(IIII)V"⟩, 11), (⟨"DiscLathe$Plan", "canBeat", "(IIII)Z"⟩, 11), (⟨"DiscLathe$Plan", "soonestOf", "(IIII)I"⟩, 11), (⟨"DiscLathe$Plan", "queueBound", "(I)I"⟩, 11), (⟨"DiscLathe$Plan", "isAhead", "(III)Z"⟩, 11), (⟨"DiscLathe$Plan", "holdBack", "(III)V"⟩, 11), (⟨"DiscLathe$Discs", "markOf", "(I)I"⟩, 5), (⟨"DiscLathe", "toldOfOne", "(II)I"⟩, 11), (⟨"DiscLathe", "isStep", "(I)Z"⟩, 11), (⟨"DiscLathe", "isTool", "(I)Z"⟩, 11), (⟨"DiscLathe$Plan", "firstGap", "(II)I"⟩, 11), (⟨"DiscLathe$Plan", "behindOneInTheWay", "(III)I"⟩, 11), (⟨"DiscLathe$OldDiscs", "findTurn", "(II)V"⟩, 10), (⟨"DiscLathe$OldDiscs", "baseAt", "([III)I"⟩, 10)]
theorem lw_r2 : ∀ q ∈ lw_privs_2, lw_okq q := List.forall_mem_cons.mpr ⟨lw_p16, List.forall_mem_cons.mpr ⟨lw_p17, List.forall_mem_cons.mpr ⟨lw_p18, List.forall_mem_cons.mpr ⟨lw_p19, List.forall_mem_cons.mpr ⟨lw_p20, List.forall_mem_cons.mpr ⟨lw_p21, List.forall_mem_cons.mpr ⟨lw_p22, List.forall_mem_cons.mpr ⟨lw_p23, List.forall_mem_cons.mpr ⟨lw_p24, List.forall_mem_cons.mpr ⟨lw_p25, List.forall_mem_cons.mpr ⟨lw_p26, List.forall_mem_cons.mpr ⟨lw_p27, List.forall_mem_cons.mpr ⟨lw_p28, List.forall_mem_cons.mpr ⟨lw_p29, List.forall_mem_cons.mpr ⟨lw_p30, List.forall_mem_cons.mpr ⟨lw_p31, fun _ h => absurd h List.not_mem_nil⟩⟩⟩⟩⟩⟩⟩⟩⟩⟩⟩⟩⟩⟩⟩⟩
theorem lw_p32 : lw_okq (⟨"DiscLathe$OldDiscs", "choose", "(IIII)V"⟩, 10) := ⟨⟨by decide +kernel, by decide +kernel⟩, List.mem_of_getElem? (i := 239) (by decide +kernel), List.mem_of_getElem? (i := 952) (by decide +kernel), List.mem_of_getElem? (i := 953) (by decide +kernel)⟩
theorem lw_p33 : lw_okq (⟨"DiscLathe$OldDiscs", "hasStep", "(I)Z"⟩, 10) := ⟨⟨by decide +kernel, by decide +kernel⟩, List.mem_of_getElem? (i := 239) (by decide +kernel), List.mem_of_getElem? (i := 957) (by decide +kernel), List.mem_of_getElem? (i := 958) (by decide +kernel)⟩
theorem lw_p34 : lw_okq (⟨"DiscLathe$Wheels", "weighAll", "(III)V"⟩, 16) := ⟨⟨by decide +kernel, by decide +kernel⟩, List.mem_of_getElem? (i := 290) (by decide +kernel), List.mem_of_getElem? (i := 997) (by decide +kernel), List.mem_of_getElem? (i := 998) (by decide +kernel)⟩
theorem lw_p35 : lw_okq (⟨"DiscLathe$Wheels", "choose", "(III)V"⟩, 16) := ⟨⟨by decide +kernel, by decide +kernel⟩, List.mem_of_getElem? (i := 290) (by decide +kernel), List.mem_of_getElem? (i := 1001) (by decide +kernel), List.mem_of_getElem? (i := 1002) (by decide +kernel)⟩
theorem lw_p36 : lw_okq (⟨"DiscLathe$Wheels", "weigh", "(I)V"⟩, 16) := ⟨⟨by decide +kernel, by decide +kernel⟩, List.mem_of_getElem? (i := 290) (by decide +kernel), List.mem_of_getElem? (i := 1005) (by decide +kernel), List.mem_of_getElem? (i := 1006) (by decide +kernel)⟩
theorem lw_p37 : lw_okq (⟨"DiscLathe$Wheels", "setOff", "()V"⟩, 16) := ⟨⟨by decide +kernel, by decide +kernel⟩, List.mem_of_getElem? (i := 290) (by decide +kernel), List.mem_of_getElem? (i := 1013) (by decide +kernel), List.mem_of_getElem? (i := 1014) (by decide +kernel)⟩
theorem lw_p38 : lw_okq (⟨"DiscLathe$Gauged", "offAsKnown", "(II)I"⟩, 14) := ⟨⟨by decide +kernel, by decide +kernel⟩, List.mem_of_getElem? (i := 353) (by decide +kernel), List.mem_of_getElem? (i := 1091) (by decide +kernel), List.mem_of_getElem? (i := 1092) (by decide +kernel)⟩
theorem lw_p39 : lw_okq (⟨"DiscLathe$Fits", "addBlocks", "(II)V"⟩, 16) := ⟨⟨by decide +kernel, by decide +kernel⟩, List.mem_of_getElem? (i := 443) (by decide +kernel), List.mem_of_getElem? (i := 1099) (by decide +kernel), List.mem_of_getElem? (i := 1100) (by decide +kernel)⟩
theorem lw_p40 : lw_okq (⟨"DiscLathe$Fits", "splitRests", "(II)I"⟩, 16) := ⟨⟨by decide +kernel, by decide +kernel⟩, List.mem_of_getElem? (i := 443) (by decide +kernel), List.mem_of_getElem? (i := 1103) (by decide +kernel), List.mem_of_getElem? (i := 1104) (by decide +kernel)⟩
theorem lw_p41 : lw_okq (⟨"DiscLathe$Fits", "addBlock", "(IIIIIII)V"⟩, 16) := ⟨⟨by decide +kernel, by decide +kernel⟩, List.mem_of_getElem? (i := 443) (by decide +kernel), List.mem_of_getElem? (i := 1120) (by decide +kernel), List.mem_of_getElem? (i := 1121) (by decide +kernel)⟩
theorem lw_p42 : lw_okq (⟨"DiscLathe$Cause", "loadDull", "(I)V"⟩, 7) := ⟨⟨by decide +kernel, by decide +kernel⟩, List.mem_of_getElem? (i := 409) (by decide +kernel), List.mem_of_getElem? (i := 1149) (by decide +kernel), List.mem_of_getElem? (i := 1150) (by decide +kernel)⟩
theorem lw_p43 : lw_okq (⟨"DiscLathe$Cause", "loadWorn", "(I)V"⟩, 7) := ⟨⟨by decide +kernel, by decide +kernel⟩, List.mem_of_getElem? (i := 409) (by decide +kernel), List.mem_of_getElem? (i := 1153) (by decide +kernel), List.mem_of_getElem? (i := 1154) (by decide +kernel)⟩
theorem lw_p44 : lw_okq (⟨"DiscLathe$NextPick", "sortBlocks", "(I)V"⟩, 9) := ⟨⟨by decide +kernel, by decide +kernel⟩, List.mem_of_getElem? (i := 509) (by decide +kernel), List.mem_of_getElem? (i := 1195) (by decide +kernel), List.mem_of_getElem? (i := 1196) (by decide +kernel)⟩
theorem lw_p45 : lw_okq (⟨"DiscLathe$NextPick", "weigh", "(II)V"⟩, 9) := ⟨⟨by decide +kernel, by decide +kernel⟩, List.mem_of_getElem? (i := 509) (by decide +kernel), List.mem_of_getElem? (i := 1202) (by decide +kernel), List.mem_of_getElem? (i := 1203) (by decide +kernel)⟩
theorem lw_p46 : lw_okq (⟨"DiscLathe$NextPick", "mostAlike", "(I)I"⟩, 9) := ⟨⟨by decide +kernel, by decide +kernel⟩, List.mem_of_getElem? (i := 509) (by decide +kernel), List.mem_of_getElem? (i := 1206) (by decide +kernel), List.mem_of_getElem? (i := 1207) (by decide +kernel)⟩
theorem lw_p47 : lw_okq (⟨"DiscLathe$Fits", "canGoBeyond", "(II)Z"⟩, 16) := ⟨⟨by decide +kernel, by decide +kernel⟩, List.mem_of_getElem? (i := 443) (by decide +kernel), List.mem_of_getElem? (i := 1223) (by decide +kernel), List.mem_of_getElem? (i := 1224) (by decide +kernel)⟩
def lw_privs_3 : List (MethodName × Nat) := [(⟨"DiscLathe$OldDiscs", "choose", "(IIII)V"⟩, 10), (⟨"DiscLathe$OldDiscs", "hasStep", "(I)Z"⟩, 10), (⟨"DiscLathe$Wheels", "weighAll", "(III)V"⟩, 16), (⟨"DiscLathe$Wheels", "choose", "(III)V"⟩, 16), (⟨"DiscLathe$Wheels", "weigh", "(I)V"⟩, 16), (⟨"DiscLathe$Wheels", "setOff", "()V"⟩, 16), (⟨"DiscLathe$Gauged", "offAsKnown", "(II)I"⟩, 14), (⟨"DiscLathe$Fits", "addBlocks", "(II)V"⟩, 16), (⟨"DiscLathe$Fits", "splitRests", "(II)I"⟩, 16), (⟨"DiscLathe$Fits", "addBlock", "(IIIIIII)V"⟩, 16), (⟨"DiscLathe$Cause", "loadDull", "(I)V"⟩, 7), (⟨"DiscLathe$Cause", "loadWorn", "(I)V"⟩, 7), (⟨"DiscLathe$NextPick", "sortBlocks", "(I)V"⟩, 9), (⟨"DiscLathe$NextPick", "weigh", "(II)V"⟩, 9), (⟨"DiscLathe$NextPick", "mostAlike", "(I)I"⟩, 9), (⟨"DiscLathe$Fits", "canGoBeyond", "(II)Z"⟩, 16)]
theorem lw_r3 : ∀ q ∈ lw_privs_3, lw_okq q := List.forall_mem_cons.mpr ⟨lw_p32, List.forall_mem_cons.mpr ⟨lw_p33, List.forall_mem_cons.mpr ⟨lw_p34, List.forall_mem_cons.mpr ⟨lw_p35, List.forall_mem_cons.mpr ⟨lw_p36, List.forall_mem_cons.mpr ⟨lw_p37, List.forall_mem_cons.mpr ⟨lw_p38, List.forall_mem_cons.mpr ⟨lw_p39, List.forall_mem_cons.mpr ⟨lw_p40, List.forall_mem_cons.mpr ⟨lw_p41, List.forall_mem_cons.mpr ⟨lw_p42, List.forall_mem_cons.mpr ⟨lw_p43, List.forall_mem_cons.mpr ⟨lw_p44, List.forall_mem_cons.mpr ⟨lw_p45, List.forall_mem_cons.mpr ⟨lw_p46, List.forall_mem_cons.mpr ⟨lw_p47, fun _ h => absurd h List.not_mem_nil⟩⟩⟩⟩⟩⟩⟩⟩⟩⟩⟩⟩⟩⟩⟩⟩
theorem lw_p48 : lw_okq (⟨"DiscLathe$Fits", "isBeyond", "(III)Z"⟩, 16) := ⟨⟨by decide +kernel, by decide +kernel⟩, List.mem_of_getElem? (i := 443) (by decide +kernel), List.mem_of_getElem? (i := 1227) (by decide +kernel), List.mem_of_getElem? (i := 1228) (by decide +kernel)⟩
theorem lw_p49 : lw_okq (⟨"DiscLatheModel", "findPlan", "()V"⟩, 74) := ⟨⟨by decide +kernel, by decide +kernel⟩, List.mem_of_getElem? (i := 1245) (by decide +kernel), List.mem_of_getElem? (i := 1252) (by decide +kernel), List.mem_of_getElem? (i := 1253) (by decide +kernel)⟩
theorem lw_p50 : lw_okq (⟨"DiscLatheModel", "order", "(I)V"⟩, 74) := ⟨⟨by decide +kernel, by decide +kernel⟩, List.mem_of_getElem? (i := 1245) (by decide +kernel), List.mem_of_getElem? (i := 1256) (by decide +kernel), List.mem_of_getElem? (i := 1257) (by decide +kernel)⟩
theorem lw_p51 : lw_okq (⟨"DiscLatheModel", "findEarly", "(I)I"⟩, 74) := ⟨⟨by decide +kernel, by decide +kernel⟩, List.mem_of_getElem? (i := 1245) (by decide +kernel), List.mem_of_getElem? (i := 1260) (by decide +kernel), List.mem_of_getElem? (i := 1261) (by decide +kernel)⟩
theorem lw_p52 : lw_okq (⟨"DiscLatheModel", "turnsOf", "(I)I"⟩, 74) := ⟨⟨by decide +kernel, by decide +kernel⟩, List.mem_of_getElem? (i := 1245) (by decide +kernel), List.mem_of_getElem? (i := 1264) (by decide +kernel), List.mem_of_getElem? (i := 1265) (by decide +kernel)⟩
theorem lw_p53 : lw_okq (⟨"DiscLatheModel", "isNoBetter", "(I)Z"⟩, 74) := ⟨⟨by decide +kernel, by decide +kernel⟩, List.mem_of_getElem? (i := 1245) (by decide +kernel), List.mem_of_getElem? (i := 1269) (by decide +kernel), List.mem_of_getElem? (i := 1270) (by decide +kernel)⟩
theorem lw_p54 : lw_okq (⟨"DiscLatheModel", "fights", "(II)Z"⟩, 74) := ⟨⟨by decide +kernel, by decide +kernel⟩, List.mem_of_getElem? (i := 1245) (by decide +kernel), List.mem_of_getElem? (i := 1273) (by decide +kernel), List.mem_of_getElem? (i := 1274) (by decide +kernel)⟩
theorem lw_p55 : lw_okq (⟨"DiscLatheModel", "putFour", "(I)V"⟩, 74) := ⟨⟨by decide +kernel, by decide +kernel⟩, List.mem_of_getElem? (i := 1245) (by decide +kernel), List.mem_of_getElem? (i := 1504) (by decide +kernel), List.mem_of_getElem? (i := 1505) (by decide +kernel)⟩
theorem lw_p56 : lw_okq (⟨"DiscLatheModel", "open", "()V"⟩, 74) := ⟨⟨by decide +kernel, by decide +kernel⟩, List.mem_of_getElem? (i := 1245) (by decide +kernel), List.mem_of_getElem? (i := 1519) (by decide +kernel), List.mem_of_getElem? (i := 1520) (by decide +kernel)⟩
theorem lw_p57 : lw_okq (⟨"DiscLatheModel", "scan", "()V"⟩, 74) := ⟨⟨by decide +kernel, by decide +kernel⟩, List.mem_of_getElem? (i := 1245) (by decide +kernel), List.mem_of_getElem? (i := 1523) (by decide +kernel), List.mem_of_getElem? (i := 1524) (by decide +kernel)⟩
theorem lw_p58 : lw_okq (⟨"DiscLatheModel", "byteAt", "(I)I"⟩, 74) := ⟨⟨by decide +kernel, by decide +kernel⟩, List.mem_of_getElem? (i := 1245) (by decide +kernel), List.mem_of_getElem? (i := 1527) (by decide +kernel), List.mem_of_getElem? (i := 1528) (by decide +kernel)⟩
theorem lw_p59 : lw_okq (⟨"DiscLatheModel", "readPart", "()Z"⟩, 74) := ⟨⟨by decide +kernel, by decide +kernel⟩, List.mem_of_getElem? (i := 1245) (by decide +kernel), List.mem_of_getElem? (i := 1537) (by decide +kernel), List.mem_of_getElem? (i := 1538) (by decide +kernel)⟩
theorem lw_p60 : lw_okq (⟨"DiscLatheModel", "is", "(Ljava/lang/String;)Z"⟩, 74) := ⟨⟨by decide +kernel, by decide +kernel⟩, List.mem_of_getElem? (i := 1245) (by decide +kernel), List.mem_of_getElem? (i := 1542) (by decide +kernel), List.mem_of_getElem? (i := 1543) (by decide +kernel)⟩
theorem lw_p61 : lw_okq (⟨"DiscLatheModel", "readTool", "()Z"⟩, 74) := ⟨⟨by decide +kernel, by decide +kernel⟩, List.mem_of_getElem? (i := 1245) (by decide +kernel), List.mem_of_getElem? (i := 1594) (by decide +kernel), List.mem_of_getElem? (i := 1595) (by decide +kernel)⟩
theorem lw_p62 : lw_okq (⟨"DiscLatheModel", "bad", "(I)Z"⟩, 74) := ⟨⟨by decide +kernel, by decide +kernel⟩, List.mem_of_getElem? (i := 1245) (by decide +kernel), List.mem_of_getElem? (i := 1598) (by decide +kernel), List.mem_of_getElem? (i := 1599) (by decide +kernel)⟩
theorem lw_p63 : lw_okq (⟨"DiscLatheModel", "toolAt", "()I"⟩, 74) := ⟨⟨by decide +kernel, by decide +kernel⟩, List.mem_of_getElem? (i := 1245) (by decide +kernel), List.mem_of_getElem? (i := 1602) (by decide +kernel), List.mem_of_getElem? (i := 1603) (by decide +kernel)⟩
def lw_privs_4 : List (MethodName × Nat) := [(⟨"DiscLathe$Fits", "isBeyond", "(III)Z"⟩, 16), (⟨"DiscLatheModel", "findPlan", "()V"⟩, 74), (⟨"DiscLatheModel", "order", "(I)V"⟩, 74), (⟨"DiscLatheModel", "findEarly", "(I)I"⟩, 74), (⟨"DiscLatheModel", "turnsOf", "(I)I"⟩, 74), (⟨"DiscLatheModel", "isNoBetter", "(I)Z"⟩, 74), (⟨"DiscLatheModel", "fights", "(II)Z"⟩, 74), (⟨"DiscLatheModel", "putFour", "(I)V"⟩, 74), (⟨"DiscLatheModel", "open", "()V"⟩, 74), (⟨"DiscLatheModel", "scan", "()V"⟩, 74), (⟨"DiscLatheModel", "byteAt", "(I)I"⟩, 74), (⟨"DiscLatheModel", "readPart", "()Z"⟩, 74), (⟨"DiscLatheModel", "is", "(Ljava/lang/String;)Z"⟩, 74), (⟨"DiscLatheModel", "readTool", "()Z"⟩, 74), (⟨"DiscLatheModel", "bad", "(I)Z"⟩, 74), (⟨"DiscLatheModel", "toolAt", "()I"⟩, 74)]
theorem lw_r4 : ∀ q ∈ lw_privs_4, lw_okq q := List.forall_mem_cons.mpr ⟨lw_p48, List.forall_mem_cons.mpr ⟨lw_p49, List.forall_mem_cons.mpr ⟨lw_p50, List.forall_mem_cons.mpr ⟨lw_p51, List.forall_mem_cons.mpr ⟨lw_p52, List.forall_mem_cons.mpr ⟨lw_p53, List.forall_mem_cons.mpr ⟨lw_p54, List.forall_mem_cons.mpr ⟨lw_p55, List.forall_mem_cons.mpr ⟨lw_p56, List.forall_mem_cons.mpr ⟨lw_p57, List.forall_mem_cons.mpr ⟨lw_p58, List.forall_mem_cons.mpr ⟨lw_p59, List.forall_mem_cons.mpr ⟨lw_p60, List.forall_mem_cons.mpr ⟨lw_p61, List.forall_mem_cons.mpr ⟨lw_p62, List.forall_mem_cons.mpr ⟨lw_p63, fun _ h => absurd h List.not_mem_nil⟩⟩⟩⟩⟩⟩⟩⟩⟩⟩⟩⟩⟩⟩⟩⟩
theorem lw_p64 : lw_okq (⟨"DiscLatheModel", "name", "()J"⟩, 74) := ⟨⟨by decide +kernel, by decide +kernel⟩, List.mem_of_getElem? (i := 1245) (by decide +kernel), List.mem_of_getElem? (i := 1606) (by decide +kernel), List.mem_of_getElem? (i := 1607) (by decide +kernel)⟩
theorem lw_p65 : lw_okq (⟨"DiscLatheModel", "number", "(II)Z"⟩, 74) := ⟨⟨by decide +kernel, by decide +kernel⟩, List.mem_of_getElem? (i := 1245) (by decide +kernel), List.mem_of_getElem? (i := 1610) (by decide +kernel), List.mem_of_getElem? (i := 1611) (by decide +kernel)⟩
theorem lw_p66 : lw_okq (⟨"DiscLatheModel", "look", "(II)Z"⟩, 74) := ⟨⟨by decide +kernel, by decide +kernel⟩, List.mem_of_getElem? (i := 1245) (by decide +kernel), List.mem_of_getElem? (i := 1614) (by decide +kernel), List.mem_of_getElem? (i := 1615) (by decide +kernel)⟩
theorem lw_p67 : lw_okq (⟨"DiscLatheModel", "readStep", "()Z"⟩, 74) := ⟨⟨by decide +kernel, by decide +kernel⟩, List.mem_of_getElem? (i := 1245) (by decide +kernel), List.mem_of_getElem? (i := 1619) (by decide +kernel), List.mem_of_getElem? (i := 1620) (by decide +kernel)⟩
theorem lw_p68 : lw_okq (⟨"DiscLatheModel", "known", "()Z"⟩, 74) := ⟨⟨by decide +kernel, by decide +kernel⟩, List.mem_of_getElem? (i := 1245) (by decide +kernel), List.mem_of_getElem? (i := 1623) (by decide +kernel), List.mem_of_getElem? (i := 1624) (by decide +kernel)⟩
theorem lw_p69 : lw_okq (⟨"DiscLatheModel", "readAfter", "()Z"⟩, 74) := ⟨⟨by decide +kernel, by decide +kernel⟩, List.mem_of_getElem? (i := 1245) (by decide +kernel), List.mem_of_getElem? (i := 1628) (by decide +kernel), List.mem_of_getElem? (i := 1629) (by decide +kernel)⟩
theorem lw_p70 : lw_okq (⟨"DiscLatheModel", "readMeet", "()Z"⟩, 74) := ⟨⟨by decide +kernel, by decide +kernel⟩, List.mem_of_getElem? (i := 1245) (by decide +kernel), List.mem_of_getElem? (i := 1633) (by decide +kernel), List.mem_of_getElem? (i := 1634) (by decide +kernel)⟩
theorem lw_p71 : lw_okq (⟨"DiscLatheModel", "readIdle", "()Z"⟩, 74) := ⟨⟨by decide +kernel, by decide +kernel⟩, List.mem_of_getElem? (i := 1245) (by decide +kernel), List.mem_of_getElem? (i := 1637) (by decide +kernel), List.mem_of_getElem? (i := 1638) (by decide +kernel)⟩
theorem lw_p72 : lw_okq (⟨"DiscLatheModel", "isStep", "(I)Z"⟩, 74) := ⟨⟨by decide +kernel, by decide +kernel⟩, List.mem_of_getElem? (i := 1245) (by decide +kernel), List.mem_of_getElem? (i := 1666) (by decide +kernel), List.mem_of_getElem? (i := 1667) (by decide +kernel)⟩
theorem lw_p73 : lw_okq (⟨"DiscLatheModel", "isFree", "(III)Z"⟩, 74) := ⟨⟨by decide +kernel, by decide +kernel⟩, List.mem_of_getElem? (i := 1245) (by decide +kernel), List.mem_of_getElem? (i := 1678) (by decide +kernel), List.mem_of_getElem? (i := 1679) (by decide +kernel)⟩
theorem lw_p74 : lw_okq (⟨"DiscLatheModel", "isTool", "(I)Z"⟩, 74) := ⟨⟨by decide +kernel, by decide +kernel⟩, List.mem_of_getElem? (i := 1245) (by decide +kernel), List.mem_of_getElem? (i := 1686) (by decide +kernel), List.mem_of_getElem? (i := 1687) (by decide +kernel)⟩
theorem lw_p75 : lw_okq (⟨"DiscLatheModel", "discAt", "(II)I"⟩, 74) := ⟨⟨by decide +kernel, by decide +kernel⟩, List.mem_of_getElem? (i := 1245) (by decide +kernel), List.mem_of_getElem? (i := 1694) (by decide +kernel), List.mem_of_getElem? (i := 1695) (by decide +kernel)⟩
theorem lw_p76 : lw_okq (⟨"DiscLatheModel", "heightOf", "(II)I"⟩, 74) := ⟨⟨by decide +kernel, by decide +kernel⟩, List.mem_of_getElem? (i := 1245) (by decide +kernel), List.mem_of_getElem? (i := 1698) (by decide +kernel), List.mem_of_getElem? (i := 1699) (by decide +kernel)⟩
theorem lw_p77 : lw_okq (⟨"DiscLatheModel", "up", "(I)I"⟩, 74) := ⟨⟨by decide +kernel, by decide +kernel⟩, List.mem_of_getElem? (i := 1245) (by decide +kernel), List.mem_of_getElem? (i := 1702) (by decide +kernel), List.mem_of_getElem? (i := 1703) (by decide +kernel)⟩
theorem lw_p78 : lw_okq (⟨"DiscLatheModel", "markOf", "(I)I"⟩, 74) := ⟨⟨by decide +kernel, by decide +kernel⟩, List.mem_of_getElem? (i := 1245) (by decide +kernel), List.mem_of_getElem? (i := 1706) (by decide +kernel), List.mem_of_getElem? (i := 1707) (by decide +kernel)⟩
theorem lw_p79 : lw_okq (⟨"DiscLatheModel", "top", "(I)I"⟩, 74) := ⟨⟨by decide +kernel, by decide +kernel⟩, List.mem_of_getElem? (i := 1245) (by decide +kernel), List.mem_of_getElem? (i := 1710) (by decide +kernel), List.mem_of_getElem? (i := 1711) (by decide +kernel)⟩
def lw_privs_5 : List (MethodName × Nat) := [(⟨"DiscLatheModel", "name", "()J"⟩, 74), (⟨"DiscLatheModel", "number", "(II)Z"⟩, 74), (⟨"DiscLatheModel", "look", "(II)Z"⟩, 74), (⟨"DiscLatheModel", "readStep", "()Z"⟩, 74), (⟨"DiscLatheModel", "known", "()Z"⟩, 74), (⟨"DiscLatheModel", "readAfter", "()Z"⟩, 74), (⟨"DiscLatheModel", "readMeet", "()Z"⟩, 74), (⟨"DiscLatheModel", "readIdle", "()Z"⟩, 74), (⟨"DiscLatheModel", "isStep", "(I)Z"⟩, 74), (⟨"DiscLatheModel", "isFree", "(III)Z"⟩, 74), (⟨"DiscLatheModel", "isTool", "(I)Z"⟩, 74), (⟨"DiscLatheModel", "discAt", "(II)I"⟩, 74), (⟨"DiscLatheModel", "heightOf", "(II)I"⟩, 74), (⟨"DiscLatheModel", "up", "(I)I"⟩, 74), (⟨"DiscLatheModel", "markOf", "(I)I"⟩, 74), (⟨"DiscLatheModel", "top", "(I)I"⟩, 74)]
theorem lw_r5 : ∀ q ∈ lw_privs_5, lw_okq q := List.forall_mem_cons.mpr ⟨lw_p64, List.forall_mem_cons.mpr ⟨lw_p65, List.forall_mem_cons.mpr ⟨lw_p66, List.forall_mem_cons.mpr ⟨lw_p67, List.forall_mem_cons.mpr ⟨lw_p68, List.forall_mem_cons.mpr ⟨lw_p69, List.forall_mem_cons.mpr ⟨lw_p70, List.forall_mem_cons.mpr ⟨lw_p71, List.forall_mem_cons.mpr ⟨lw_p72, List.forall_mem_cons.mpr ⟨lw_p73, List.forall_mem_cons.mpr ⟨lw_p74, List.forall_mem_cons.mpr ⟨lw_p75, List.forall_mem_cons.mpr ⟨lw_p76, List.forall_mem_cons.mpr ⟨lw_p77, List.forall_mem_cons.mpr ⟨lw_p78, List.forall_mem_cons.mpr ⟨lw_p79, fun _ h => absurd h List.not_mem_nil⟩⟩⟩⟩⟩⟩⟩⟩⟩⟩⟩⟩⟩⟩⟩⟩
theorem lw_p80 : lw_okq (⟨"DiscLatheModel", "down", "(I)I"⟩, 74) := ⟨⟨by decide +kernel, by decide +kernel⟩, List.mem_of_getElem? (i := 1245) (by decide +kernel), List.mem_of_getElem? (i := 1714) (by decide +kernel), List.mem_of_getElem? (i := 1715) (by decide +kernel)⟩
theorem lw_p81 : lw_okq (⟨"DiscLatheModel", "isSteep", "(I)Z"⟩, 74) := ⟨⟨by decide +kernel, by decide +kernel⟩, List.mem_of_getElem? (i := 1245) (by decide +kernel), List.mem_of_getElem? (i := 1723) (by decide +kernel), List.mem_of_getElem? (i := 1724) (by decide +kernel)⟩
theorem lw_p82 : lw_okq (⟨"DiscLatheModel", "isLate", "(I)Z"⟩, 74) := ⟨⟨by decide +kernel, by decide +kernel⟩, List.mem_of_getElem? (i := 1245) (by decide +kernel), List.mem_of_getElem? (i := 1727) (by decide +kernel), List.mem_of_getElem? (i := 1728) (by decide +kernel)⟩
theorem lw_p83 : lw_okq (⟨"DiscLatheModel", "canFile", "(II)Z"⟩, 74) := ⟨⟨by decide +kernel, by decide +kernel⟩, List.mem_of_getElem? (i := 1245) (by decide +kernel), List.mem_of_getElem? (i := 1762) (by decide +kernel), List.mem_of_getElem? (i := 1763) (by decide +kernel)⟩
theorem lw_p84 : lw_okq (⟨"DiscLatheModel", "hasStep", "(I)Z"⟩, 74) := ⟨⟨by decide +kernel, by decide +kernel⟩, List.mem_of_getElem? (i := 1245) (by decide +kernel), List.mem_of_getElem? (i := 1772) (by decide +kernel), List.mem_of_getElem? (i := 1773) (by decide +kernel)⟩
theorem lw_p85 : lw_okq (⟨"DiscLatheModel", "give", "(IIII)V"⟩, 74) := ⟨⟨by decide +kernel, by decide +kernel⟩, List.mem_of_getElem? (i := 1245) (by decide +kernel), List.mem_of_getElem? (i := 1776) (by decide +kernel), List.mem_of_getElem? (i := 1777) (by decide +kernel)⟩
theorem lw_p86 : lw_okq (⟨"DiscLatheModel", "isWheel", "(I)Z"⟩, 74) := ⟨⟨by decide +kernel, by decide +kernel⟩, List.mem_of_getElem? (i := 1245) (by decide +kernel), List.mem_of_getElem? (i := 1793) (by decide +kernel), List.mem_of_getElem? (i := 1794) (by decide +kernel)⟩
theorem lw_p87 : lw_okq (⟨"DiscLatheModel", "rows", "(IIIII)V"⟩, 74) := ⟨⟨by decide +kernel, by decide +kernel⟩, List.mem_of_getElem? (i := 1245) (by decide +kernel), List.mem_of_getElem? (i := 1805) (by decide +kernel), List.mem_of_getElem? (i := 1806) (by decide +kernel)⟩
theorem lw_p88 : lw_okq (⟨"DiscLatheModel", "tryRow", "(III)V"⟩, 74) := ⟨⟨by decide +kernel, by decide +kernel⟩, List.mem_of_getElem? (i := 1245) (by decide +kernel), List.mem_of_getElem? (i := 1809) (by decide +kernel), List.mem_of_getElem? (i := 1810) (by decide +kernel)⟩
theorem lw_p89 : lw_okq (⟨"DiscLatheModel", "isCause", "(I)Z"⟩, 74) := ⟨⟨by decide +kernel, by decide +kernel⟩, List.mem_of_getElem? (i := 1245) (by decide +kernel), List.mem_of_getElem? (i := 1855) (by decide +kernel), List.mem_of_getElem? (i := 1856) (by decide +kernel)⟩
theorem lw_p90 : lw_okq (⟨"DiscLatheModel", "causes", "()I"⟩, 74) := ⟨⟨by decide +kernel, by decide +kernel⟩, List.mem_of_getElem? (i := 1245) (by decide +kernel), List.mem_of_getElem? (i := 1859) (by decide +kernel), List.mem_of_getElem? (i := 1860) (by decide +kernel)⟩
theorem lw_p91 : lw_okq (⟨"DiscLatheModel", "worns", "()I"⟩, 74) := ⟨⟨by decide +kernel, by decide +kernel⟩, List.mem_of_getElem? (i := 1245) (by decide +kernel), List.mem_of_getElem? (i := 1863) (by decide +kernel), List.mem_of_getElem? (i := 1864) (by decide +kernel)⟩
theorem lw_p92 : lw_okq (⟨"DiscLatheModel", "dulls", "()I"⟩, 74) := ⟨⟨by decide +kernel, by decide +kernel⟩, List.mem_of_getElem? (i := 1245) (by decide +kernel), List.mem_of_getElem? (i := 1867) (by decide +kernel), List.mem_of_getElem? (i := 1868) (by decide +kernel)⟩
theorem lw_p93 : lw_okq (⟨"DiscLatheModel", "wornOf", "(I)I"⟩, 74) := ⟨⟨by decide +kernel, by decide +kernel⟩, List.mem_of_getElem? (i := 1245) (by decide +kernel), List.mem_of_getElem? (i := 1872) (by decide +kernel), List.mem_of_getElem? (i := 1873) (by decide +kernel)⟩
theorem lw_p94 : lw_okq (⟨"DiscLatheModel", "dullOf", "(I)I"⟩, 74) := ⟨⟨by decide +kernel, by decide +kernel⟩, List.mem_of_getElem? (i := 1245) (by decide +kernel), List.mem_of_getElem? (i := 1876) (by decide +kernel), List.mem_of_getElem? (i := 1877) (by decide +kernel)⟩
theorem lw_p95 : lw_okq (⟨"DiscLatheModel", "heatOf", "(I)I"⟩, 74) := ⟨⟨by decide +kernel, by decide +kernel⟩, List.mem_of_getElem? (i := 1245) (by decide +kernel), List.mem_of_getElem? (i := 1880) (by decide +kernel), List.mem_of_getElem? (i := 1881) (by decide +kernel)⟩
def lw_privs_6 : List (MethodName × Nat) := [(⟨"DiscLatheModel", "down", "(I)I"⟩, 74), (⟨"DiscLatheModel", "isSteep", "(I)Z"⟩, 74), (⟨"DiscLatheModel", "isLate", "(I)Z"⟩, 74), (⟨"DiscLatheModel", "canFile", "(II)Z"⟩, 74), (⟨"DiscLatheModel", "hasStep", "(I)Z"⟩, 74), (⟨"DiscLatheModel", "give", "(IIII)V"⟩, 74), (⟨"DiscLatheModel", "isWheel", "(I)Z"⟩, 74), (⟨"DiscLatheModel", "rows", "(IIIII)V"⟩, 74), (⟨"DiscLatheModel", "tryRow", "(III)V"⟩, 74), (⟨"DiscLatheModel", "isCause", "(I)Z"⟩, 74), (⟨"DiscLatheModel", "causes", "()I"⟩, 74), (⟨"DiscLatheModel", "worns", "()I"⟩, 74), (⟨"DiscLatheModel", "dulls", "()I"⟩, 74), (⟨"DiscLatheModel", "wornOf", "(I)I"⟩, 74), (⟨"DiscLatheModel", "dullOf", "(I)I"⟩, 74), (⟨"DiscLatheModel", "heatOf", "(I)I"⟩, 74)]
theorem lw_r6 : ∀ q ∈ lw_privs_6, lw_okq q := List.forall_mem_cons.mpr ⟨lw_p80, List.forall_mem_cons.mpr ⟨lw_p81, List.forall_mem_cons.mpr ⟨lw_p82, List.forall_mem_cons.mpr ⟨lw_p83, List.forall_mem_cons.mpr ⟨lw_p84, List.forall_mem_cons.mpr ⟨lw_p85, List.forall_mem_cons.mpr ⟨lw_p86, List.forall_mem_cons.mpr ⟨lw_p87, List.forall_mem_cons.mpr ⟨lw_p88, List.forall_mem_cons.mpr ⟨lw_p89, List.forall_mem_cons.mpr ⟨lw_p90, List.forall_mem_cons.mpr ⟨lw_p91, List.forall_mem_cons.mpr ⟨lw_p92, List.forall_mem_cons.mpr ⟨lw_p93, List.forall_mem_cons.mpr ⟨lw_p94, List.forall_mem_cons.mpr ⟨lw_p95, fun _ h => absurd h List.not_mem_nil⟩⟩⟩⟩⟩⟩⟩⟩⟩⟩⟩⟩⟩⟩⟩⟩
theorem lw_p96 : lw_okq (⟨"DiscLatheModel", "tellsOf", "(III)I"⟩, 74) := ⟨⟨by decide +kernel, by decide +kernel⟩, List.mem_of_getElem? (i := 1245) (by decide +kernel), List.mem_of_getElem? (i := 1888) (by decide +kernel), List.mem_of_getElem? (i := 1889) (by decide +kernel)⟩
theorem lw_p97 : lw_okq (⟨"DiscLatheModel", "findFit", "(I)V"⟩, 74) := ⟨⟨by decide +kernel, by decide +kernel⟩, List.mem_of_getElem? (i := 1245) (by decide +kernel), List.mem_of_getElem? (i := 1899) (by decide +kernel), List.mem_of_getElem? (i := 1900) (by decide +kernel)⟩
theorem lw_p98 : lw_okq (⟨"DiscLatheModel", "offAsKnown", "(II)I"⟩, 74) := ⟨⟨by decide +kernel, by decide +kernel⟩, List.mem_of_getElem? (i := 1245) (by decide +kernel), List.mem_of_getElem? (i := 1903) (by decide +kernel), List.mem_of_getElem? (i := 1904) (by decide +kernel)⟩
theorem lw_p99 : lw_okq (⟨"DiscLatheModel", "isFit", "(I)Z"⟩, 74) := ⟨⟨by decide +kernel, by decide +kernel⟩, List.mem_of_getElem? (i := 1245) (by decide +kernel), List.mem_of_getElem? (i := 1911) (by decide +kernel), List.mem_of_getElem? (i := 1912) (by decide +kernel)⟩
theorem lw_p100 : lw_okq (⟨"DiscLatheModel", "surely", "(I)I"⟩, 74) := ⟨⟨by decide +kernel, by decide +kernel⟩, List.mem_of_getElem? (i := 1245) (by decide +kernel), List.mem_of_getElem? (i := 1915) (by decide +kernel), List.mem_of_getElem? (i := 1916) (by decide +kernel)⟩
theorem lw_p101 : lw_okq (⟨"DiscLatheModel", "mostAlike", "(II)I"⟩, 74) := ⟨⟨by decide +kernel, by decide +kernel⟩, List.mem_of_getElem? (i := 1245) (by decide +kernel), List.mem_of_getElem? (i := 1927) (by decide +kernel), List.mem_of_getElem? (i := 1928) (by decide +kernel)⟩
def lw_privs_7 : List (MethodName × Nat) := [(⟨"DiscLatheModel", "tellsOf", "(III)I"⟩, 74), (⟨"DiscLatheModel", "findFit", "(I)V"⟩, 74), (⟨"DiscLatheModel", "offAsKnown", "(II)I"⟩, 74), (⟨"DiscLatheModel", "isFit", "(I)Z"⟩, 74), (⟨"DiscLatheModel", "surely", "(I)I"⟩, 74), (⟨"DiscLatheModel", "mostAlike", "(II)I"⟩, 74)]
theorem lw_r7 : ∀ q ∈ lw_privs_7, lw_okq q := List.forall_mem_cons.mpr ⟨lw_p96, List.forall_mem_cons.mpr ⟨lw_p97, List.forall_mem_cons.mpr ⟨lw_p98, List.forall_mem_cons.mpr ⟨lw_p99, List.forall_mem_cons.mpr ⟨lw_p100, List.forall_mem_cons.mpr ⟨lw_p101, fun _ h => absurd h List.not_mem_nil⟩⟩⟩⟩⟩⟩
def lw_privs : List (MethodName × Nat) := lw_privs_1 ++ (lw_privs_2 ++ (lw_privs_3 ++ (lw_privs_4 ++ (lw_privs_5 ++ (lw_privs_6 ++ (lw_privs_7))))))
def lw_tbl : List Cond := k2_sels lw_privs ++ tables_1
theorem lw_privs_ok : ∀ q ∈ lw_privs, lw_okq q := by
  show ∀ q ∈ lw_privs_1 ++ (lw_privs_2 ++ (lw_privs_3 ++ (lw_privs_4 ++ (lw_privs_5 ++ (lw_privs_6 ++ (lw_privs_7)))))), lw_okq q
  exact List.forall_mem_append.mpr ⟨lw_r1, List.forall_mem_append.mpr ⟨lw_r2, List.forall_mem_append.mpr ⟨lw_r3, List.forall_mem_append.mpr ⟨lw_r4, List.forall_mem_append.mpr ⟨lw_r5, List.forall_mem_append.mpr ⟨lw_r6, lw_r7⟩⟩⟩⟩⟩⟩
def RX0 : String := "DiscLathe$Cause"
def TX0 : u_T := fun k => match k with
  | 0 => ("DiscLathe$Cause", "part", "LDiscLathe$Part;", true)
  | 1 => ("DiscLathe$Cause", "heat", "I", false)
  | 2 => ("DiscLathe$Cause", "wornTool", "I", false)
  | 3 => ("DiscLathe$Cause", "from", "I", false)
  | 4 => ("DiscLathe$Cause", "wornBy", "I", false)
  | 5 => ("DiscLathe$Cause", "dullStep", "I", false)
  | _ => ("DiscLathe$Cause", "dullBy", "I", false)
def tyX0 : Nat → FieldType := fun k => match k with
  | 0 => .object "DiscLathe$Part"
  | 1 => .int
  | 2 => .int
  | 3 => .int
  | 4 => .int
  | 5 => .int
  | _ => .int
theorem nmX0 : ∀ a, a < 7 → ∀ b, b < 7 → a ≠ b → (TX0 a).2.1 ≠ (TX0 b).2.1 := by decide +kernel
theorem tyX0_ok : ∀ k, k < 7 → parseFieldDescriptor (TX0 k).2.2.1 = some (tyX0 k) := by decide +kernel
abbrev cX0_init : ByteArray := prog_2_method_1_code
def yX0_init : MethodName := ⟨RX0, "<init>", "(LDiscLathe$Part;)V"⟩
abbrev cX0_heatOff : ByteArray := prog_2_method_2_code
def yX0_heatOff : MethodName := ⟨RX0, "heatOff", "(II)I"⟩
abbrev cX0_dullOff : ByteArray := prog_2_method_3_code
def yX0_dullOff : MethodName := ⟨RX0, "dullOff", "(III)I"⟩
abbrev cX0_dullBy : ByteArray := prog_2_method_4_code
def yX0_dullBy : MethodName := ⟨RX0, "dullBy", "(II)I"⟩
abbrev cX0_load : ByteArray := prog_2_method_5_code
def yX0_load : MethodName := ⟨RX0, "load", "(I)Z"⟩
abbrev cX0_loadDull : ByteArray := prog_2_method_6_code
def yX0_loadDull : MethodName := ⟨RX0, "loadDull", "(I)V"⟩
abbrev cX0_loadWorn : ByteArray := prog_2_method_7_code
def yX0_loadWorn : MethodName := ⟨RX0, "loadWorn", "(I)V"⟩
abbrev cX0_offBy : ByteArray := prog_2_method_8_code
def yX0_offBy : MethodName := ⟨RX0, "offBy", "(II)I"⟩
abbrev cX0_binOf : ByteArray := prog_2_method_9_code
def yX0_binOf : MethodName := ⟨RX0, "binOf", "(II)I"⟩
def RX1 : String := "DiscLathe$Discs"
def TX1 : u_T := fun k => match k with
  | 0 => ("DiscLathe$Discs", "part", "LDiscLathe$Part;", true)
  | 1 => ("DiscLathe$Discs", "plan", "LDiscLathe$Plan;", true)
  | 2 => ("DiscLathe$Discs", "markA", "[I", true)
  | 3 => ("DiscLathe$Discs", "markC", "[I", true)
  | _ => ("DiscLathe$Discs", "markB", "[I", true)
def tyX1 : Nat → FieldType := fun k => match k with
  | 0 => .object "DiscLathe$Part"
  | 1 => .object "DiscLathe$Plan"
  | 2 => .array .int
  | 3 => .array .int
  | _ => .array .int
theorem nmX1 : ∀ a, a < 5 → ∀ b, b < 5 → a ≠ b → (TX1 a).2.1 ≠ (TX1 b).2.1 := by decide +kernel
theorem tyX1_ok : ∀ k, k < 5 → parseFieldDescriptor (TX1 k).2.2.1 = some (tyX1 k) := by decide +kernel
abbrev cX1_init : ByteArray := prog_3_method_1_code
def yX1_init : MethodName := ⟨RX1, "<init>", "(LDiscLathe$Part;LDiscLathe$Plan;)V"⟩
abbrev cX1_layOut : ByteArray := prog_3_method_2_code
def yX1_layOut : MethodName := ⟨RX1, "layOut", "()V"⟩
abbrev cX1_markOf : ByteArray := prog_3_method_3_code
def yX1_markOf : MethodName := ⟨RX1, "markOf", "(I)I"⟩
abbrev cX1_stepHeight : ByteArray := prog_3_method_4_code
def yX1_stepHeight : MethodName := ⟨RX1, "stepHeight", "(II)I"⟩
abbrev cX1_discHeight : ByteArray := prog_3_method_5_code
def yX1_discHeight : MethodName := ⟨RX1, "discHeight", "(II)I"⟩
abbrev cX1_isSteep : ByteArray := prog_3_method_6_code
def yX1_isSteep : MethodName := ⟨RX1, "isSteep", "(I)Z"⟩
abbrev cX1_isLate : ByteArray := prog_3_method_7_code
def yX1_isLate : MethodName := ⟨RX1, "isLate", "(I)Z"⟩
abbrev cX1_leastSlope : ByteArray := prog_3_method_8_code
def yX1_leastSlope : MethodName := ⟨RX1, "leastSlope", "(I)I"⟩
def RX2 : String := "DiscLathe$Fits"
def TX2 : u_T := fun k => match k with
  | 0 => ("DiscLathe$Fits", "part", "LDiscLathe$Part;", true)
  | 1 => ("DiscLathe$Fits", "gauged", "LDiscLathe$Gauged;", true)
  | 2 => ("DiscLathe$Fits", "viewed", "I", false)
  | 3 => ("DiscLathe$Fits", "total", "I", false)
  | 4 => ("DiscLathe$Fits", "least", "I", false)
  | 5 => ("DiscLathe$Fits", "blocks", "I", false)
  | 6 => ("DiscLathe$Fits", "heatOf", "[I", true)
  | 7 => ("DiscLathe$Fits", "dullOf", "[I", true)
  | 8 => ("DiscLathe$Fits", "toolOf", "[I", true)
  | 9 => ("DiscLathe$Fits", "firstFrom", "[I", true)
  | 10 => ("DiscLathe$Fits", "lastFrom", "[I", true)
  | 11 => ("DiscLathe$Fits", "leastBy", "[I", true)
  | 12 => ("DiscLathe$Fits", "mostBy", "[I", true)
  | 13 => ("DiscLathe$Fits", "lastEven", "[I", true)
  | 14 => ("DiscLathe$Fits", "firstOdd", "[I", true)
  | _ => ("DiscLathe$Fits", "oddBy", "[I", true)
def tyX2 : Nat → FieldType := fun k => match k with
  | 0 => .object "DiscLathe$Part"
  | 1 => .object "DiscLathe$Gauged"
  | 2 => .int
  | 3 => .int
  | 4 => .int
  | 5 => .int
  | 6 => .array .int
  | 7 => .array .int
  | 8 => .array .int
  | 9 => .array .int
  | 10 => .array .int
  | 11 => .array .int
  | 12 => .array .int
  | 13 => .array .int
  | 14 => .array .int
  | _ => .array .int
theorem nmX2 : ∀ a, a < 16 → ∀ b, b < 16 → a ≠ b → (TX2 a).2.1 ≠ (TX2 b).2.1 := by decide +kernel
theorem tyX2_ok : ∀ k, k < 16 → parseFieldDescriptor (TX2 k).2.2.1 = some (tyX2 k) := by decide +kernel
abbrev cX2_init : ByteArray := prog_4_method_1_code
def yX2_init : MethodName := ⟨RX2, "<init>", "(LDiscLathe$Part;LDiscLathe$Gauged;)V"⟩
abbrev cX2_forget : ByteArray := prog_4_method_2_code
def yX2_forget : MethodName := ⟨RX2, "forget", "()V"⟩
abbrev cX2_view : ByteArray := prog_4_method_3_code
def yX2_view : MethodName := ⟨RX2, "view", "(I)V"⟩
abbrev cX2_addBlocks : ByteArray := prog_4_method_4_code
def yX2_addBlocks : MethodName := ⟨RX2, "addBlocks", "(II)V"⟩
abbrev cX2_splitRests : ByteArray := prog_4_method_5_code
def yX2_splitRests : MethodName := ⟨RX2, "splitRests", "(II)I"⟩
abbrev cX2_addBlock : ByteArray := prog_4_method_6_code
def yX2_addBlock : MethodName := ⟨RX2, "addBlock", "(IIIIIII)V"⟩
abbrev cX2_sizeOf : ByteArray := prog_4_method_7_code
def yX2_sizeOf : MethodName := ⟨RX2, "sizeOf", "(I)I"⟩
abbrev cX2_countWorn : ByteArray := prog_4_method_8_code
def yX2_countWorn : MethodName := ⟨RX2, "countWorn", "(I)I"⟩
abbrev cX2_countDull : ByteArray := prog_4_method_9_code
def yX2_countDull : MethodName := ⟨RX2, "countDull", "(I)I"⟩
abbrev cX2_surely : ByteArray := prog_4_method_10_code
def yX2_surely : MethodName := ⟨RX2, "surely", "(I)I"⟩
abbrev cX2_firstBeyond : ByteArray := prog_4_method_11_code
def yX2_firstBeyond : MethodName := ⟨RX2, "firstBeyond", "(I)I"⟩
abbrev cX2_canGoBeyond : ByteArray := prog_4_method_12_code
def yX2_canGoBeyond : MethodName := ⟨RX2, "canGoBeyond", "(II)Z"⟩
abbrev cX2_isBeyond : ByteArray := prog_4_method_13_code
def yX2_isBeyond : MethodName := ⟨RX2, "isBeyond", "(III)Z"⟩
def RX3 : String := "DiscLathe$Gauged"
def TX3 : u_T := fun k => match k with
  | 0 => ("DiscLathe$Gauged", "size", "I", false)
  | 1 => ("DiscLathe$Gauged", "rights", "I", false)
  | 2 => ("DiscLathe$Gauged", "latestStage", "I", false)
  | 3 => ("DiscLathe$Gauged", "stage", "[I", true)
  | 4 => ("DiscLathe$Gauged", "partOf", "[I", true)
  | 5 => ("DiscLathe$Gauged", "stepOf", "[I", true)
  | 6 => ("DiscLathe$Gauged", "offOf", "[I", true)
  | 7 => ("DiscLathe$Gauged", "rightStage", "[I", true)
  | 8 => ("DiscLathe$Gauged", "rightOf", "[I", true)
  | 9 => ("DiscLathe$Gauged", "rightOff", "[I", true)
  | 10 => ("DiscLathe$Gauged", "seen", "I", false)
  | 11 => ("DiscLathe$Gauged", "seenPart", "[I", true)
  | 12 => ("DiscLathe$Gauged", "seenStep", "[I", true)
  | _ => ("DiscLathe$Gauged", "seenOff", "[I", true)
def tyX3 : Nat → FieldType := fun k => match k with
  | 0 => .int
  | 1 => .int
  | 2 => .int
  | 3 => .array .int
  | 4 => .array .int
  | 5 => .array .int
  | 6 => .array .int
  | 7 => .array .int
  | 8 => .array .int
  | 9 => .array .int
  | 10 => .int
  | 11 => .array .int
  | 12 => .array .int
  | _ => .array .int
theorem nmX3 : ∀ a, a < 14 → ∀ b, b < 14 → a ≠ b → (TX3 a).2.1 ≠ (TX3 b).2.1 := by decide +kernel
theorem tyX3_ok : ∀ k, k < 14 → parseFieldDescriptor (TX3 k).2.2.1 = some (tyX3 k) := by decide +kernel
abbrev cX3_init : ByteArray := prog_5_method_1_code
def yX3_init : MethodName := ⟨RX3, "<init>", "()V"⟩
abbrev cX3_clear : ByteArray := prog_5_method_2_code
def yX3_clear : MethodName := ⟨RX3, "clear", "()V"⟩
abbrev cX3_add : ByteArray := prog_5_method_3_code
def yX3_add : MethodName := ⟨RX3, "add", "(IIII)I"⟩
abbrev cX3_putRight : ByteArray := prog_5_method_4_code
def yX3_putRight : MethodName := ⟨RX3, "putRight", "(III)I"⟩
abbrev cX3_look : ByteArray := prog_5_method_5_code
def yX3_look : MethodName := ⟨RX3, "look", "(I)V"⟩
abbrev cX3_offAsKnown : ByteArray := prog_5_method_6_code
def yX3_offAsKnown : MethodName := ⟨RX3, "offAsKnown", "(II)I"⟩
def RX4 : String := "DiscLathe$NextPick"
def TX4 : u_T := fun k => match k with
  | 0 => ("DiscLathe$NextPick", "part", "LDiscLathe$Part;", true)
  | 1 => ("DiscLathe$NextPick", "fits", "LDiscLathe$Fits;", true)
  | 2 => ("DiscLathe$NextPick", "others", "[I", true)
  | 3 => ("DiscLathe$NextPick", "telling", "[I", true)
  | 4 => ("DiscLathe$NextPick", "joining", "[I", true)
  | 5 => ("DiscLathe$NextPick", "edges", "[I", true)
  | 6 => ("DiscLathe$NextPick", "alike", "[I", true)
  | 7 => ("DiscLathe$NextPick", "fewest", "I", false)
  | _ => ("DiscLathe$NextPick", "picked", "I", false)
def tyX4 : Nat → FieldType := fun k => match k with
  | 0 => .object "DiscLathe$Part"
  | 1 => .object "DiscLathe$Fits"
  | 2 => .array .int
  | 3 => .array .int
  | 4 => .array .int
  | 5 => .array .int
  | 6 => .array .int
  | 7 => .int
  | _ => .int
theorem nmX4 : ∀ a, a < 9 → ∀ b, b < 9 → a ≠ b → (TX4 a).2.1 ≠ (TX4 b).2.1 := by decide +kernel
theorem tyX4_ok : ∀ k, k < 9 → parseFieldDescriptor (TX4 k).2.2.1 = some (tyX4 k) := by decide +kernel
abbrev cX4_init : ByteArray := prog_6_method_1_code
def yX4_init : MethodName := ⟨RX4, "<init>", "(LDiscLathe$Part;LDiscLathe$Fits;)V"⟩
abbrev cX4_pick : ByteArray := prog_6_method_2_code
def yX4_pick : MethodName := ⟨RX4, "pick", "()I"⟩
abbrev cX4_weigh : ByteArray := prog_6_method_3_code
def yX4_weigh : MethodName := ⟨RX4, "weigh", "(II)V"⟩
abbrev cX4_sortBlocks : ByteArray := prog_6_method_4_code
def yX4_sortBlocks : MethodName := ⟨RX4, "sortBlocks", "(I)V"⟩
abbrev cX4_mostAlike : ByteArray := prog_6_method_5_code
def yX4_mostAlike : MethodName := ⟨RX4, "mostAlike", "(I)I"⟩
def RX5 : String := "DiscLathe$OldDiscs"
def TX5 : u_T := fun k => match k with
  | 0 => ("DiscLathe$OldDiscs", "part", "LDiscLathe$Part;", true)
  | 1 => ("DiscLathe$OldDiscs", "discs", "LDiscLathe$Discs;", true)
  | 2 => ("DiscLathe$OldDiscs", "heights", "[[I", true)
  | 3 => ("DiscLathe$OldDiscs", "gets", "[I", true)
  | 4 => ("DiscLathe$OldDiscs", "wanted", "[I", true)
  | 5 => ("DiscLathe$OldDiscs", "turns", "[[I", true)
  | 6 => ("DiscLathe$OldDiscs", "bases", "[[I", true)
  | 7 => ("DiscLathe$OldDiscs", "sums", "[[I", true)
  | 8 => ("DiscLathe$OldDiscs", "choice", "[I", true)
  | _ => ("DiscLathe$OldDiscs", "bestSum", "I", false)
def tyX5 : Nat → FieldType := fun k => match k with
  | 0 => .object "DiscLathe$Part"
  | 1 => .object "DiscLathe$Discs"
  | 2 => .array (.array .int)
  | 3 => .array .int
  | 4 => .array .int
  | 5 => .array (.array .int)
  | 6 => .array (.array .int)
  | 7 => .array (.array .int)
  | 8 => .array .int
  | _ => .int
theorem nmX5 : ∀ a, a < 10 → ∀ b, b < 10 → a ≠ b → (TX5 a).2.1 ≠ (TX5 b).2.1 := by decide +kernel
theorem tyX5_ok : ∀ k, k < 10 → parseFieldDescriptor (TX5 k).2.2.1 = some (tyX5 k) := by decide +kernel
abbrev cX5_init : ByteArray := prog_7_method_1_code
def yX5_init : MethodName := ⟨RX5, "<init>", "(LDiscLathe$Part;LDiscLathe$Discs;)V"⟩
abbrev cX5_forgetPart : ByteArray := prog_7_method_2_code
def yX5_forgetPart : MethodName := ⟨RX5, "forgetPart", "()V"⟩
abbrev cX5_forgetTurns : ByteArray := prog_7_method_3_code
def yX5_forgetTurns : MethodName := ⟨RX5, "forgetTurns", "(I)V"⟩
abbrev cX5_readRow : ByteArray := prog_7_method_4_code
def yX5_readRow : MethodName := ⟨RX5, "readRow", "(ILDiscLathe$Tape;)I"⟩
abbrev cX5_heightOn : ByteArray := prog_7_method_5_code
def yX5_heightOn : MethodName := ⟨RX5, "heightOn", "(LDiscLathe$Tape;I)I"⟩
abbrev cX5_putAway : ByteArray := prog_7_method_6_code
def yX5_putAway : MethodName := ⟨RX5, "putAway", "(III)I"⟩
abbrev cX5_bestTurn : ByteArray := prog_7_method_7_code
def yX5_bestTurn : MethodName := ⟨RX5, "bestTurn", "(II)I"⟩
abbrev cX5_bestBase : ByteArray := prog_7_method_8_code
def yX5_bestBase : MethodName := ⟨RX5, "bestBase", "(II)I"⟩
abbrev cX5_filedOff : ByteArray := prog_7_method_9_code
def yX5_filedOff : MethodName := ⟨RX5, "filedOff", "(II)I"⟩
abbrev cX5_findTurn : ByteArray := prog_7_method_10_code
def yX5_findTurn : MethodName := ⟨RX5, "findTurn", "(II)V"⟩
abbrev cX5_baseAt : ByteArray := prog_7_method_11_code
def yX5_baseAt : MethodName := ⟨RX5, "baseAt", "([III)I"⟩
abbrev cX5_shareOut : ByteArray := prog_7_method_12_code
def yX5_shareOut : MethodName := ⟨RX5, "shareOut", "(I)I"⟩
abbrev cX5_choose : ByteArray := prog_7_method_13_code
def yX5_choose : MethodName := ⟨RX5, "choose", "(IIII)V"⟩
abbrev cX5_hasStep : ByteArray := prog_7_method_14_code
def yX5_hasStep : MethodName := ⟨RX5, "hasStep", "(I)Z"⟩
def RX6 : String := "DiscLathe$Part"
def TX6 : u_T := fun k => match k with
  | 0 => ("DiscLathe$Part", "clauses", "I", false)
  | 1 => ("DiscLathe$Part", "tools", "I", false)
  | 2 => ("DiscLathe$Part", "steps", "I", false)
  | 3 => ("DiscLathe$Part", "idle", "I", false)
  | 4 => ("DiscLathe$Part", "names", "[J", true)
  | 5 => ("DiscLathe$Part", "feed", "[I", true)
  | 6 => ("DiscLathe$Part", "slope", "[I", true)
  | 7 => ("DiscLathe$Part", "meets", "[I", true)
  | 8 => ("DiscLathe$Part", "toolOf", "[I", true)
  | 9 => ("DiscLathe$Part", "rise", "[I", true)
  | 10 => ("DiscLathe$Part", "dwell", "[I", true)
  | _ => ("DiscLathe$Part", "waits", "[I", true)
def tyX6 : Nat → FieldType := fun k => match k with
  | 0 => .int
  | 1 => .int
  | 2 => .int
  | 3 => .int
  | 4 => .array .long
  | 5 => .array .int
  | 6 => .array .int
  | 7 => .array .int
  | 8 => .array .int
  | 9 => .array .int
  | 10 => .array .int
  | _ => .array .int
theorem nmX6 : ∀ a, a < 12 → ∀ b, b < 12 → a ≠ b → (TX6 a).2.1 ≠ (TX6 b).2.1 := by decide +kernel
theorem tyX6_ok : ∀ k, k < 12 → parseFieldDescriptor (TX6 k).2.2.1 = some (tyX6 k) := by decide +kernel
abbrev cX6_init : ByteArray := prog_8_method_1_code
def yX6_init : MethodName := ⟨RX6, "<init>", "()V"⟩
abbrev cX6_clear : ByteArray := prog_8_method_2_code
def yX6_clear : MethodName := ⟨RX6, "clear", "()V"⟩
abbrev cX6_become : ByteArray := prog_8_method_3_code
def yX6_become : MethodName := ⟨RX6, "become", "(LDiscLathe$Part;)V"⟩
abbrev cX6_toolNamed : ByteArray := prog_8_method_4_code
def yX6_toolNamed : MethodName := ⟨RX6, "toolNamed", "(J)I"⟩
abbrev cX6_addTool : ByteArray := prog_8_method_5_code
def yX6_addTool : MethodName := ⟨RX6, "addTool", "(JII)V"⟩
abbrev cX6_addStep : ByteArray := prog_8_method_6_code
def yX6_addStep : MethodName := ⟨RX6, "addStep", "(III)V"⟩
abbrev cX6_risingTurns : ByteArray := prog_8_method_7_code
def yX6_risingTurns : MethodName := ⟨RX6, "risingTurns", "(I)I"⟩
abbrev cX6_turnsOf : ByteArray := prog_8_method_8_code
def yX6_turnsOf : MethodName := ⟨RX6, "turnsOf", "(I)I"⟩
abbrev cX6_apartFrom : ByteArray := prog_8_method_9_code
def yX6_apartFrom : MethodName := ⟨RX6, "apartFrom", "(I)I"⟩
abbrev cX6_wornWays : ByteArray := prog_8_method_10_code
def yX6_wornWays : MethodName := ⟨RX6, "wornWays", "()I"⟩
abbrev cX6_dullWays : ByteArray := prog_8_method_11_code
def yX6_dullWays : MethodName := ⟨RX6, "dullWays", "()I"⟩
abbrev cX6_causes : ByteArray := prog_8_method_12_code
def yX6_causes : MethodName := ⟨RX6, "causes", "()I"⟩
def RX7 : String := "DiscLathe$PartReader"
def TX7 : u_T := fun k => match k with
  | 0 => ("DiscLathe$PartReader", "tape", "LDiscLathe$Tape;", true)
  | 1 => ("DiscLathe$PartReader", "draft", "LDiscLathe$Part;", true)
  | 2 => ("DiscLathe$PartReader", "isIdleTold", "Z", false)
  | 3 => ("DiscLathe$PartReader", "faultKind", "I", false)
  | _ => ("DiscLathe$PartReader", "faultPlace", "I", false)
def tyX7 : Nat → FieldType := fun k => match k with
  | 0 => .object "DiscLathe$Tape"
  | 1 => .object "DiscLathe$Part"
  | 2 => .boolean
  | 3 => .int
  | _ => .int
theorem nmX7 : ∀ a, a < 5 → ∀ b, b < 5 → a ≠ b → (TX7 a).2.1 ≠ (TX7 b).2.1 := by decide +kernel
theorem tyX7_ok : ∀ k, k < 5 → parseFieldDescriptor (TX7 k).2.2.1 = some (tyX7 k) := by decide +kernel
abbrev cX7_init : ByteArray := prog_9_method_1_code
def yX7_init : MethodName := ⟨RX7, "<init>", "(LDiscLathe$Tape;)V"⟩
abbrev cX7_readText : ByteArray := prog_9_method_2_code
def yX7_readText : MethodName := ⟨RX7, "readText", "()Z"⟩
abbrev cX7_refuse : ByteArray := prog_9_method_3_code
def yX7_refuse : MethodName := ⟨RX7, "refuse", "(I)Z"⟩
abbrev cX7_readClause : ByteArray := prog_9_method_4_code
def yX7_readClause : MethodName := ⟨RX7, "readClause", "()Z"⟩
abbrev cX7_readTool : ByteArray := prog_9_method_5_code
def yX7_readTool : MethodName := ⟨RX7, "readTool", "()Z"⟩
abbrev cX7_readStep : ByteArray := prog_9_method_6_code
def yX7_readStep : MethodName := ⟨RX7, "readStep", "()Z"⟩
abbrev cX7_readAfter : ByteArray := prog_9_method_7_code
def yX7_readAfter : MethodName := ⟨RX7, "readAfter", "()Z"⟩
abbrev cX7_readMeet : ByteArray := prog_9_method_8_code
def yX7_readMeet : MethodName := ⟨RX7, "readMeet", "()Z"⟩
abbrev cX7_readIdle : ByteArray := prog_9_method_9_code
def yX7_readIdle : MethodName := ⟨RX7, "readIdle", "()Z"⟩
abbrev cX7_advanceTo : ByteArray := prog_9_method_10_code
def yX7_advanceTo : MethodName := ⟨RX7, "advanceTo", "(I)Z"⟩
abbrev cX7_stayOn : ByteArray := prog_9_method_11_code
def yX7_stayOn : MethodName := ⟨RX7, "stayOn", "(I)Z"⟩
abbrev cX7_advanceToNumber : ByteArray := prog_9_method_12_code
def yX7_advanceToNumber : MethodName := ⟨RX7, "advanceToNumber", "(II)Z"⟩
abbrev cX7_stayWithin : ByteArray := prog_9_method_13_code
def yX7_stayWithin : MethodName := ⟨RX7, "stayWithin", "(II)Z"⟩
abbrev cX7_advanceToToolName : ByteArray := prog_9_method_14_code
def yX7_advanceToToolName : MethodName := ⟨RX7, "advanceToToolName", "()Z"⟩
def RX8 : String := "DiscLathe$Plan"
def TX8 : u_T := fun k => match k with
  | 0 => ("DiscLathe$Plan", "part", "LDiscLathe$Part;", true)
  | 1 => ("DiscLathe$Plan", "begin", "[I", true)
  | 2 => ("DiscLathe$Plan", "length", "I", false)
  | 3 => ("DiscLathe$Plan", "isFound", "Z", false)
  | 4 => ("DiscLathe$Plan", "turns", "[I", true)
  | 5 => ("DiscLathe$Plan", "tail", "[I", true)
  | 6 => ("DiscLathe$Plan", "apart", "[I", true)
  | 7 => ("DiscLathe$Plan", "queue", "[I", true)
  | 8 => ("DiscLathe$Plan", "trial", "[I", true)
  | 9 => ("DiscLathe$Plan", "soonest", "[I", true)
  | _ => ("DiscLathe$Plan", "ready", "[[I", true)
def tyX8 : Nat → FieldType := fun k => match k with
  | 0 => .object "DiscLathe$Part"
  | 1 => .array .int
  | 2 => .int
  | 3 => .boolean
  | 4 => .array .int
  | 5 => .array .int
  | 6 => .array .int
  | 7 => .array .int
  | 8 => .array .int
  | 9 => .array .int
  | _ => .array (.array .int)
theorem nmX8 : ∀ a, a < 11 → ∀ b, b < 11 → a ≠ b → (TX8 a).2.1 ≠ (TX8 b).2.1 := by decide +kernel
theorem tyX8_ok : ∀ k, k < 11 → parseFieldDescriptor (TX8 k).2.2.1 = some (tyX8 k) := by decide +kernel
abbrev cX8_init : ByteArray := prog_10_method_1_code
def yX8_init : MethodName := ⟨RX8, "<init>", "(LDiscLathe$Part;)V"⟩
abbrev cX8_layOut : ByteArray := prog_10_method_2_code
def yX8_layOut : MethodName := ⟨RX8, "layOut", "()V"⟩
abbrev cX8_longestTailBehind : ByteArray := prog_10_method_3_code
def yX8_longestTailBehind : MethodName := ⟨RX8, "longestTailBehind", "(I)I"⟩
abbrev cX8_queueWith : ByteArray := prog_10_method_4_code
def yX8_queueWith : MethodName := ⟨RX8, "queueWith", "(I)I"⟩
abbrev cX8_neverWith : ByteArray := prog_10_method_5_code
def yX8_neverWith : MethodName := ⟨RX8, "neverWith", "(I)I"⟩
abbrev cX8_putIn : ByteArray := prog_10_method_6_code
def yX8_putIn : MethodName := ⟨RX8, "putIn", "(IIII)V"⟩
abbrev cX8_isAhead : ByteArray := prog_10_method_7_code
def yX8_isAhead : MethodName := ⟨RX8, "isAhead", "(III)Z"⟩
abbrev cX8_holdBack : ByteArray := prog_10_method_8_code
def yX8_holdBack : MethodName := ⟨RX8, "holdBack", "(III)V"⟩
abbrev cX8_canBeat : ByteArray := prog_10_method_9_code
def yX8_canBeat : MethodName := ⟨RX8, "canBeat", "(IIII)Z"⟩
abbrev cX8_soonestOf : ByteArray := prog_10_method_10_code
def yX8_soonestOf : MethodName := ⟨RX8, "soonestOf", "(IIII)I"⟩
abbrev cX8_queueBound : ByteArray := prog_10_method_11_code
def yX8_queueBound : MethodName := ⟨RX8, "queueBound", "(I)I"⟩
abbrev cX8_isHeld : ByteArray := prog_10_method_12_code
def yX8_isHeld : MethodName := ⟨RX8, "isHeld", "(I)Z"⟩
abbrev cX8_lengthByRow : ByteArray := prog_10_method_13_code
def yX8_lengthByRow : MethodName := ⟨RX8, "lengthByRow", "(LDiscLathe$Tape;)I"⟩
abbrev cX8_firstGap : ByteArray := prog_10_method_14_code
def yX8_firstGap : MethodName := ⟨RX8, "firstGap", "(II)I"⟩
abbrev cX8_behindOneInTheWay : ByteArray := prog_10_method_15_code
def yX8_behindOneInTheWay : MethodName := ⟨RX8, "behindOneInTheWay", "(III)I"⟩
def RX9 : String := "DiscLathe$Tape"
def TX9 : u_T := fun k => match k with
  | 0 => ("DiscLathe$Tape", "bytes", "[B", true)
  | 1 => ("DiscLathe$Tape", "cursor", "I", false)
  | 2 => ("DiscLathe$Tape", "length", "I", false)
  | 3 => ("DiscLathe$Tape", "kind", "I", false)
  | 4 => ("DiscLathe$Tape", "place", "I", false)
  | _ => ("DiscLathe$Tape", "value", "J", false)
def tyX9 : Nat → FieldType := fun k => match k with
  | 0 => .array .byte
  | 1 => .int
  | 2 => .int
  | 3 => .int
  | 4 => .int
  | _ => .long
theorem nmX9 : ∀ a, a < 6 → ∀ b, b < 6 → a ≠ b → (TX9 a).2.1 ≠ (TX9 b).2.1 := by decide +kernel
theorem tyX9_ok : ∀ k, k < 6 → parseFieldDescriptor (TX9 k).2.2.1 = some (tyX9 k) := by decide +kernel
abbrev cX9_init : ByteArray := prog_11_method_1_code
def yX9_init : MethodName := ⟨RX9, "<init>", "()V"⟩
abbrev cX9_append : ByteArray := prog_11_method_2_code
def yX9_append : MethodName := ⟨RX9, "append", "(I)V"⟩
abbrev cX9_byteAt : ByteArray := prog_11_method_3_code
def yX9_byteAt : MethodName := ⟨RX9, "byteAt", "(I)I"⟩
abbrev cX9_rewind : ByteArray := prog_11_method_4_code
def yX9_rewind : MethodName := ⟨RX9, "rewind", "()V"⟩
abbrev cX9_advance : ByteArray := prog_11_method_5_code
def yX9_advance : MethodName := ⟨RX9, "advance", "()V"⟩
abbrev cX9_readWord : ByteArray := prog_11_method_6_code
def yX9_readWord : MethodName := ⟨RX9, "readWord", "()V"⟩
abbrev cX9_readNumber : ByteArray := prog_11_method_7_code
def yX9_readNumber : MethodName := ⟨RX9, "readNumber", "()V"⟩
abbrev cX9_isBlank : ByteArray := prog_11_method_8_code
def yX9_isBlank : MethodName := ⟨RX9, "isBlank", "(I)Z"⟩
abbrev cX9_isLetter : ByteArray := prog_11_method_9_code
def yX9_isLetter : MethodName := ⟨RX9, "isLetter", "(I)Z"⟩
abbrev cX9_isDigit : ByteArray := prog_11_method_10_code
def yX9_isDigit : MethodName := ⟨RX9, "isDigit", "(I)Z"⟩
def RX10 : String := "DiscLathe$Wheels"
def TX10 : u_T := fun k => match k with
  | 0 => ("DiscLathe$Wheels", "teethOf", "[I", true)
  | 1 => ("DiscLathe$Wheels", "size", "I", false)
  | 2 => ("DiscLathe$Wheels", "draft", "[I", true)
  | 3 => ("DiscLathe$Wheels", "trainRow", "[I", true)
  | 4 => ("DiscLathe$Wheels", "trainTeeth", "[I", true)
  | 5 => ("DiscLathe$Wheels", "trainSize", "I", false)
  | 6 => ("DiscLathe$Wheels", "offUpper", "J", false)
  | 7 => ("DiscLathe$Wheels", "offLower", "J", false)
  | 8 => ("DiscLathe$Wheels", "row", "[I", true)
  | 9 => ("DiscLathe$Wheels", "nearRow", "[I", true)
  | 10 => ("DiscLathe$Wheels", "nearSize", "I", false)
  | 11 => ("DiscLathe$Wheels", "nearAway", "J", false)
  | 12 => ("DiscLathe$Wheels", "nearLower", "J", false)
  | 13 => ("DiscLathe$Wheels", "exact", "I", false)
  | 14 => ("DiscLathe$Wheels", "p", "J", false)
  | _ => ("DiscLathe$Wheels", "q", "J", false)
def tyX10 : Nat → FieldType := fun k => match k with
  | 0 => .array .int
  | 1 => .int
  | 2 => .array .int
  | 3 => .array .int
  | 4 => .array .int
  | 5 => .int
  | 6 => .long
  | 7 => .long
  | 8 => .array .int
  | 9 => .array .int
  | 10 => .int
  | 11 => .long
  | 12 => .long
  | 13 => .int
  | 14 => .long
  | _ => .long
theorem nmX10 : ∀ a, a < 16 → ∀ b, b < 16 → a ≠ b → (TX10 a).2.1 ≠ (TX10 b).2.1 := by decide +kernel
theorem tyX10_ok : ∀ k, k < 16 → parseFieldDescriptor (TX10 k).2.2.1 = some (tyX10 k) := by decide +kernel
abbrev cX10_init : ByteArray := prog_12_method_1_code
def yX10_init : MethodName := ⟨RX10, "<init>", "()V"⟩
abbrev cX10_readBox : ByteArray := prog_12_method_2_code
def yX10_readBox : MethodName := ⟨RX10, "readBox", "(LDiscLathe$Tape;)I"⟩
abbrev cX10_setTrain : ByteArray := prog_12_method_3_code
def yX10_setTrain : MethodName := ⟨RX10, "setTrain", "(III)I"⟩
abbrev cX10_setOff : ByteArray := prog_12_method_4_code
def yX10_setOff : MethodName := ⟨RX10, "setOff", "()V"⟩
abbrev cX10_greatestCommon : ByteArray := prog_12_method_5_code
def yX10_greatestCommon : MethodName := ⟨RX10, "greatestCommon", "(JJ)J"⟩
abbrev cX10_countExact : ByteArray := prog_12_method_6_code
def yX10_countExact : MethodName := ⟨RX10, "countExact", "(II)I"⟩
abbrev cX10_weighAll : ByteArray := prog_12_method_7_code
def yX10_weighAll : MethodName := ⟨RX10, "weighAll", "(III)V"⟩
abbrev cX10_choose : ByteArray := prog_12_method_8_code
def yX10_choose : MethodName := ⟨RX10, "choose", "(III)V"⟩
abbrev cX10_weigh : ByteArray := prog_12_method_9_code
def yX10_weigh : MethodName := ⟨RX10, "weigh", "(I)V"⟩
abbrev cX10_changeByWear : ByteArray := prog_12_method_10_code
def yX10_changeByWear : MethodName := ⟨RX10, "changeByWear", "(II)J"⟩
def RX11 : String := "DiscLathe"
def TX11 : u_T := fun k => match k with
  | 0 => ("DiscLathe", "tape", "LDiscLathe$Tape;", true)
  | 1 => ("DiscLathe", "part", "LDiscLathe$Part;", true)
  | 2 => ("DiscLathe", "reader", "LDiscLathe$PartReader;", true)
  | 3 => ("DiscLathe", "plan", "LDiscLathe$Plan;", true)
  | 4 => ("DiscLathe", "discs", "LDiscLathe$Discs;", true)
  | 5 => ("DiscLathe", "oldDiscs", "LDiscLathe$OldDiscs;", true)
  | 6 => ("DiscLathe", "wheels", "LDiscLathe$Wheels;", true)
  | 7 => ("DiscLathe", "gauged", "LDiscLathe$Gauged;", true)
  | 8 => ("DiscLathe", "cause", "LDiscLathe$Cause;", true)
  | 9 => ("DiscLathe", "fits", "LDiscLathe$Fits;", true)
  | _ => ("DiscLathe", "nextPick", "LDiscLathe$NextPick;", true)
def tyX11 : Nat → FieldType := fun k => match k with
  | 0 => .object "DiscLathe$Tape"
  | 1 => .object "DiscLathe$Part"
  | 2 => .object "DiscLathe$PartReader"
  | 3 => .object "DiscLathe$Plan"
  | 4 => .object "DiscLathe$Discs"
  | 5 => .object "DiscLathe$OldDiscs"
  | 6 => .object "DiscLathe$Wheels"
  | 7 => .object "DiscLathe$Gauged"
  | 8 => .object "DiscLathe$Cause"
  | 9 => .object "DiscLathe$Fits"
  | _ => .object "DiscLathe$NextPick"
theorem nmX11 : ∀ a, a < 11 → ∀ b, b < 11 → a ≠ b → (TX11 a).2.1 ≠ (TX11 b).2.1 := by decide +kernel
theorem tyX11_ok : ∀ k, k < 11 → parseFieldDescriptor (TX11 k).2.2.1 = some (tyX11 k) := by decide +kernel
abbrev cX11_init : ByteArray := prog_1_method_1_code
def yX11_init : MethodName := ⟨RX11, "<init>", "()V"⟩
abbrev cX11_isWithin : ByteArray := prog_1_method_2_code
def yX11_isWithin : MethodName := ⟨RX11, "isWithin", "(JJJ)Z"⟩
abbrev cX11_hasBit : ByteArray := prog_1_method_3_code
def yX11_hasBit : MethodName := ⟨RX11, "hasBit", "(II)Z"⟩
abbrev cX11_isTool : ByteArray := prog_1_method_4_code
def yX11_isTool : MethodName := ⟨RX11, "isTool", "(I)Z"⟩
abbrev cX11_isStep : ByteArray := prog_1_method_5_code
def yX11_isStep : MethodName := ⟨RX11, "isStep", "(I)Z"⟩
abbrev cX11_isMark : ByteArray := prog_1_method_6_code
def yX11_isMark : MethodName := ⟨RX11, "isMark", "(I)Z"⟩
abbrev cX11_isOldDisc : ByteArray := prog_1_method_7_code
def yX11_isOldDisc : MethodName := ⟨RX11, "isOldDisc", "(I)Z"⟩
abbrev cX11_isStage : ByteArray := prog_1_method_8_code
def yX11_isStage : MethodName := ⟨RX11, "isStage", "(I)Z"⟩
abbrev cX11_isPartNumber : ByteArray := prog_1_method_9_code
def yX11_isPartNumber : MethodName := ⟨RX11, "isPartNumber", "(I)Z"⟩
abbrev cX11_isOff : ByteArray := prog_1_method_10_code
def yX11_isOff : MethodName := ⟨RX11, "isOff", "(I)Z"⟩
abbrev cX11_isLimit : ByteArray := prog_1_method_11_code
def yX11_isLimit : MethodName := ⟨RX11, "isLimit", "(I)Z"⟩
abbrev cX11_feed : ByteArray := prog_1_method_12_code
def yX11_feed : MethodName := ⟨RX11, "feed", "(IIIII)I"⟩
abbrev cX11_end : ByteArray := prog_1_method_13_code
def yX11_end : MethodName := ⟨RX11, "end", "(I)I"⟩
abbrev cX11_part : ByteArray := prog_1_method_14_code
def yX11_part : MethodName := ⟨RX11, "part", "()I"⟩
abbrev cX11_fault : ByteArray := prog_1_method_15_code
def yX11_fault : MethodName := ⟨RX11, "fault", "(I)I"⟩
abbrev cX11_told : ByteArray := prog_1_method_16_code
def yX11_told : MethodName := ⟨RX11, "told", "(I)I"⟩
abbrev cX11_toldOfOne : ByteArray := prog_1_method_17_code
def yX11_toldOfOne : MethodName := ⟨RX11, "toldOfOne", "(II)I"⟩
abbrev cX11_begin : ByteArray := prog_1_method_18_code
def yX11_begin : MethodName := ⟨RX11, "begin", "(I)I"⟩
abbrev cX11_held : ByteArray := prog_1_method_19_code
def yX11_held : MethodName := ⟨RX11, "held", "(I)I"⟩
abbrev cX11_byRow : ByteArray := prog_1_method_20_code
def yX11_byRow : MethodName := ⟨RX11, "byRow", "()I"⟩
abbrev cX11_height : ByteArray := prog_1_method_21_code
def yX11_height : MethodName := ⟨RX11, "height", "(II)I"⟩
abbrev cX11_lobe : ByteArray := prog_1_method_22_code
def yX11_lobe : MethodName := ⟨RX11, "lobe", "(II)I"⟩
abbrev cX11_wrong : ByteArray := prog_1_method_23_code
def yX11_wrong : MethodName := ⟨RX11, "wrong", "(I)I"⟩
abbrev cX11_slope : ByteArray := prog_1_method_24_code
def yX11_slope : MethodName := ⟨RX11, "slope", "(I)I"⟩
abbrev cX11_old : ByteArray := prog_1_method_25_code
def yX11_old : MethodName := ⟨RX11, "old", "(I)I"⟩
abbrev cX11_was : ByteArray := prog_1_method_26_code
def yX11_was : MethodName := ⟨RX11, "was", "(II)I"⟩
abbrev cX11_keep : ByteArray := prog_1_method_27_code
def yX11_keep : MethodName := ⟨RX11, "keep", "(III)I"⟩
abbrev cX11_file : ByteArray := prog_1_method_28_code
def yX11_file : MethodName := ⟨RX11, "file", "(III)I"⟩
abbrev cX11_share : ByteArray := prog_1_method_29_code
def yX11_share : MethodName := ⟨RX11, "share", "(I)I"⟩
abbrev cX11_shared : ByteArray := prog_1_method_30_code
def yX11_shared : MethodName := ⟨RX11, "shared", "(I)I"⟩
abbrev cX11_box : ByteArray := prog_1_method_31_code
def yX11_box : MethodName := ⟨RX11, "box", "()I"⟩
abbrev cX11_teeth : ByteArray := prog_1_method_32_code
def yX11_teeth : MethodName := ⟨RX11, "teeth", "(I)I"⟩
abbrev cX11_train : ByteArray := prog_1_method_33_code
def yX11_train : MethodName := ⟨RX11, "train", "(III)I"⟩
abbrev cX11_isRatio : ByteArray := prog_1_method_34_code
def yX11_isRatio : MethodName := ⟨RX11, "isRatio", "(II)Z"⟩
abbrev cX11_wheel : ByteArray := prog_1_method_35_code
def yX11_wheel : MethodName := ⟨RX11, "wheel", "(I)I"⟩
abbrev cX11_off : ByteArray := prog_1_method_36_code
def yX11_off : MethodName := ⟨RX11, "off", "(Z)J"⟩
abbrev cX11_spare : ByteArray := prog_1_method_37_code
def yX11_spare : MethodName := ⟨RX11, "spare", "(II)I"⟩
abbrev cX11_worn : ByteArray := prog_1_method_38_code
def yX11_worn : MethodName := ⟨RX11, "worn", "(II)J"⟩
abbrev cX11_gauge : ByteArray := prog_1_method_39_code
def yX11_gauge : MethodName := ⟨RX11, "gauge", "(IIII)I"⟩
abbrev cX11_right : ByteArray := prog_1_method_40_code
def yX11_right : MethodName := ⟨RX11, "right", "(III)I"⟩
abbrev cX11_fit : ByteArray := prog_1_method_41_code
def yX11_fit : MethodName := ⟨RX11, "fit", "(II)I"⟩
abbrev cX11_cause : ByteArray := prog_1_method_42_code
def yX11_cause : MethodName := ⟨RX11, "cause", "(II)I"⟩
abbrev cX11_tells : ByteArray := prog_1_method_43_code
def yX11_tells : MethodName := ⟨RX11, "tells", "(III)I"⟩
abbrev cX11_surelyWorn : ByteArray := prog_1_method_44_code
def yX11_surelyWorn : MethodName := ⟨RX11, "surelyWorn", "(II)I"⟩
abbrev cX11_surelyDull : ByteArray := prog_1_method_45_code
def yX11_surelyDull : MethodName := ⟨RX11, "surelyDull", "(II)I"⟩
abbrev cX11_next : ByteArray := prog_1_method_46_code
def yX11_next : MethodName := ⟨RX11, "next", "()I"⟩
abbrev cX11_halt : ByteArray := prog_1_method_47_code
def yX11_halt : MethodName := ⟨RX11, "halt", "(II)I"⟩
abbrev cX11_bin : ByteArray := prog_1_method_48_code
def yX11_bin : MethodName := ⟨RX11, "bin", "(III)I"⟩
abbrev cX11_count : ByteArray := prog_1_method_49_code
def yX11_count : MethodName := ⟨RX11, "count", "(I)I"⟩
def RX12 : String := "DiscLatheModel"
def TX12 : u_T := fun k => match k with
  | 0 => ("DiscLatheModel", "tape", "[B", true)
  | 1 => ("DiscLatheModel", "taped", "I", false)
  | 2 => ("DiscLatheModel", "length", "I", false)
  | 3 => ("DiscLatheModel", "from", "I", false)
  | 4 => ("DiscLatheModel", "behind", "I", false)
  | 5 => ("DiscLatheModel", "hand", "I", false)
  | 6 => ("DiscLatheModel", "value", "I", false)
  | 7 => ("DiscLatheModel", "got", "I", false)
  | 8 => ("DiscLatheModel", "fault", "I", false)
  | 9 => ("DiscLatheModel", "faultAt", "I", false)
  | 10 => ("DiscLatheModel", "tools", "I", false)
  | 11 => ("DiscLatheModel", "steps", "I", false)
  | 12 => ("DiscLatheModel", "idle", "I", false)
  | 13 => ("DiscLatheModel", "clauses", "I", false)
  | 14 => ("DiscLatheModel", "readTools", "I", false)
  | 15 => ("DiscLatheModel", "readSteps", "I", false)
  | 16 => ("DiscLatheModel", "readIdle", "I", false)
  | 17 => ("DiscLatheModel", "read", "I", false)
  | 18 => ("DiscLatheModel", "idleTold", "Z", false)
  | 19 => ("DiscLatheModel", "names", "[J", true)
  | 20 => ("DiscLatheModel", "feed", "[I", true)
  | 21 => ("DiscLatheModel", "slope", "[I", true)
  | 22 => ("DiscLatheModel", "meets", "[I", true)
  | 23 => ("DiscLatheModel", "tool", "[I", true)
  | 24 => ("DiscLatheModel", "rise", "[I", true)
  | 25 => ("DiscLatheModel", "dwell", "[I", true)
  | 26 => ("DiscLatheModel", "waits", "[I", true)
  | 27 => ("DiscLatheModel", "readFeed", "[I", true)
  | 28 => ("DiscLatheModel", "readSlope", "[I", true)
  | 29 => ("DiscLatheModel", "readMeets", "[I", true)
  | 30 => ("DiscLatheModel", "readTool", "[I", true)
  | 31 => ("DiscLatheModel", "readRise", "[I", true)
  | 32 => ("DiscLatheModel", "readDwell", "[I", true)
  | 33 => ("DiscLatheModel", "readWaits", "[I", true)
  | 34 => ("DiscLatheModel", "planLength", "I", false)
  | 35 => ("DiscLatheModel", "ahead", "[[I", true)
  | 36 => ("DiscLatheModel", "early", "[I", true)
  | 37 => ("DiscLatheModel", "plan", "[I", true)
  | 38 => ("DiscLatheModel", "put", "[I", true)
  | 39 => ("DiscLatheModel", "putBegin", "[I", true)
  | 40 => ("DiscLatheModel", "old", "[I", true)
  | 41 => ("DiscLatheModel", "disc", "[I", true)
  | 42 => ("DiscLatheModel", "shared", "[I", true)
  | 43 => ("DiscLatheModel", "fileTurn", "I", false)
  | 44 => ("DiscLatheModel", "fileBase", "I", false)
  | 45 => ("DiscLatheModel", "fileOff", "I", false)
  | 46 => ("DiscLatheModel", "costs", "[I", true)
  | 47 => ("DiscLatheModel", "given", "[I", true)
  | 48 => ("DiscLatheModel", "leastSum", "I", false)
  | 49 => ("DiscLatheModel", "wheels", "I", false)
  | 50 => ("DiscLatheModel", "trainSize", "I", false)
  | 51 => ("DiscLatheModel", "teeth", "[I", true)
  | 52 => ("DiscLatheModel", "readTeeth", "[I", true)
  | 53 => ("DiscLatheModel", "train", "[I", true)
  | 54 => ("DiscLatheModel", "trainTeeth", "[I", true)
  | 55 => ("DiscLatheModel", "row", "[I", true)
  | 56 => ("DiscLatheModel", "offUp", "J", false)
  | 57 => ("DiscLatheModel", "offLow", "J", false)
  | 58 => ("DiscLatheModel", "nearUp", "J", false)
  | 59 => ("DiscLatheModel", "nearLow", "J", false)
  | 60 => ("DiscLatheModel", "gauged", "I", false)
  | 61 => ("DiscLatheModel", "rights", "I", false)
  | 62 => ("DiscLatheModel", "telling", "I", false)
  | 63 => ("DiscLatheModel", "gaugePart", "[I", true)
  | 64 => ("DiscLatheModel", "gaugeStep", "[I", true)
  | 65 => ("DiscLatheModel", "gaugeOff", "[I", true)
  | 66 => ("DiscLatheModel", "gaugeAt", "[I", true)
  | 67 => ("DiscLatheModel", "rightOf", "[I", true)
  | 68 => ("DiscLatheModel", "rightOff", "[I", true)
  | 69 => ("DiscLatheModel", "rightAt", "[I", true)
  | 70 => ("DiscLatheModel", "fit", "[J", true)
  | 71 => ("DiscLatheModel", "fits", "I", false)
  | 72 => ("DiscLatheModel", "leastFit", "I", false)
  | _ => ("DiscLatheModel", "alike", "[I", true)
def tyX12 : Nat → FieldType := fun k => match k with
  | 0 => .array .byte
  | 1 => .int
  | 2 => .int
  | 3 => .int
  | 4 => .int
  | 5 => .int
  | 6 => .int
  | 7 => .int
  | 8 => .int
  | 9 => .int
  | 10 => .int
  | 11 => .int
  | 12 => .int
  | 13 => .int
  | 14 => .int
  | 15 => .int
  | 16 => .int
  | 17 => .int
  | 18 => .boolean
  | 19 => .array .long
  | 20 => .array .int
  | 21 => .array .int
  | 22 => .array .int
  | 23 => .array .int
  | 24 => .array .int
  | 25 => .array .int
  | 26 => .array .int
  | 27 => .array .int
  | 28 => .array .int
  | 29 => .array .int
  | 30 => .array .int
  | 31 => .array .int
  | 32 => .array .int
  | 33 => .array .int
  | 34 => .int
  | 35 => .array (.array .int)
  | 36 => .array .int
  | 37 => .array .int
  | 38 => .array .int
  | 39 => .array .int
  | 40 => .array .int
  | 41 => .array .int
  | 42 => .array .int
  | 43 => .int
  | 44 => .int
  | 45 => .int
  | 46 => .array .int
  | 47 => .array .int
  | 48 => .int
  | 49 => .int
  | 50 => .int
  | 51 => .array .int
  | 52 => .array .int
  | 53 => .array .int
  | 54 => .array .int
  | 55 => .array .int
  | 56 => .long
  | 57 => .long
  | 58 => .long
  | 59 => .long
  | 60 => .int
  | 61 => .int
  | 62 => .int
  | 63 => .array .int
  | 64 => .array .int
  | 65 => .array .int
  | 66 => .array .int
  | 67 => .array .int
  | 68 => .array .int
  | 69 => .array .int
  | 70 => .array .long
  | 71 => .int
  | 72 => .int
  | _ => .array .int
theorem nmX12 : ∀ a, a < 74 → ∀ b, b < 74 → a ≠ b → (TX12 a).2.1 ≠ (TX12 b).2.1 := by decide +kernel
theorem tyX12_ok : ∀ k, k < 74 → parseFieldDescriptor (TX12 k).2.2.1 = some (tyX12 k) := by decide +kernel
abbrev cX12_in : ByteArray := prog_14_method_1_code
def yX12_in : MethodName := ⟨RX12, "in", "(JJJ)Z"⟩
abbrev cX12_bad : ByteArray := prog_14_method_2_code
def yX12_bad : MethodName := ⟨RX12, "bad", "(I)Z"⟩
abbrev cX12_byteAt : ByteArray := prog_14_method_3_code
def yX12_byteAt : MethodName := ⟨RX12, "byteAt", "(I)I"⟩
abbrev cX12_isSmall : ByteArray := prog_14_method_4_code
def yX12_isSmall : MethodName := ⟨RX12, "isSmall", "(I)Z"⟩
abbrev cX12_isDigit : ByteArray := prog_14_method_5_code
def yX12_isDigit : MethodName := ⟨RX12, "isDigit", "(I)Z"⟩
abbrev cX12_scan : ByteArray := prog_14_method_6_code
def yX12_scan : MethodName := ⟨RX12, "scan", "()V"⟩
abbrev cX12_is : ByteArray := prog_14_method_7_code
def yX12_is : MethodName := ⟨RX12, "is", "(Ljava/lang/String;)Z"⟩
abbrev cX12_look : ByteArray := prog_14_method_8_code
def yX12_look : MethodName := ⟨RX12, "look", "(II)Z"⟩
abbrev cX12_number : ByteArray := prog_14_method_9_code
def yX12_number : MethodName := ⟨RX12, "number", "(II)Z"⟩
abbrev cX12_open : ByteArray := prog_14_method_10_code
def yX12_open : MethodName := ⟨RX12, "open", "()V"⟩
abbrev cX12_name : ByteArray := prog_14_method_11_code
def yX12_name : MethodName := ⟨RX12, "name", "()J"⟩
abbrev cX12_toolAt : ByteArray := prog_14_method_12_code
def yX12_toolAt : MethodName := ⟨RX12, "toolAt", "()I"⟩
abbrev cX12_readTool : ByteArray := prog_14_method_13_code
def yX12_readTool : MethodName := ⟨RX12, "readTool", "()Z"⟩
abbrev cX12_known : ByteArray := prog_14_method_14_code
def yX12_known : MethodName := ⟨RX12, "known", "()Z"⟩
abbrev cX12_readStep : ByteArray := prog_14_method_15_code
def yX12_readStep : MethodName := ⟨RX12, "readStep", "()Z"⟩
abbrev cX12_readAfter : ByteArray := prog_14_method_16_code
def yX12_readAfter : MethodName := ⟨RX12, "readAfter", "()Z"⟩
abbrev cX12_readMeet : ByteArray := prog_14_method_17_code
def yX12_readMeet : MethodName := ⟨RX12, "readMeet", "()Z"⟩
abbrev cX12_readIdle : ByteArray := prog_14_method_18_code
def yX12_readIdle : MethodName := ⟨RX12, "readIdle", "()Z"⟩
abbrev cX12_readPart : ByteArray := prog_14_method_19_code
def yX12_readPart : MethodName := ⟨RX12, "readPart", "()Z"⟩
abbrev cX12_init : ByteArray := prog_14_method_20_code
def yX12_init : MethodName := ⟨RX12, "<init>", "()V"⟩
abbrev cX12_feed : ByteArray := prog_14_method_21_code
def yX12_feed : MethodName := ⟨RX12, "feed", "(IIIII)I"⟩
abbrev cX12_putFour : ByteArray := prog_14_method_22_code
def yX12_putFour : MethodName := ⟨RX12, "putFour", "(I)V"⟩
abbrev cX12_end : ByteArray := prog_14_method_23_code
def yX12_end : MethodName := ⟨RX12, "end", "(I)I"⟩
abbrev cX12_part : ByteArray := prog_14_method_24_code
def yX12_part : MethodName := ⟨RX12, "part", "()I"⟩
abbrev cX12_fault : ByteArray := prog_14_method_25_code
def yX12_fault : MethodName := ⟨RX12, "fault", "(I)I"⟩
abbrev cX12_told : ByteArray := prog_14_method_26_code
def yX12_told : MethodName := ⟨RX12, "told", "(I)I"⟩
abbrev cX12_turnsOf : ByteArray := prog_14_method_27_code
def yX12_turnsOf : MethodName := ⟨RX12, "turnsOf", "(I)I"⟩
abbrev cX12_fights : ByteArray := prog_14_method_28_code
def yX12_fights : MethodName := ⟨RX12, "fights", "(II)Z"⟩
abbrev cX12_findEarly : ByteArray := prog_14_method_29_code
def yX12_findEarly : MethodName := ⟨RX12, "findEarly", "(I)I"⟩
abbrev cX12_isNoBetter : ByteArray := prog_14_method_30_code
def yX12_isNoBetter : MethodName := ⟨RX12, "isNoBetter", "(I)Z"⟩
abbrev cX12_order : ByteArray := prog_14_method_31_code
def yX12_order : MethodName := ⟨RX12, "order", "(I)V"⟩
abbrev cX12_findPlan : ByteArray := prog_14_method_32_code
def yX12_findPlan : MethodName := ⟨RX12, "findPlan", "()V"⟩
abbrev cX12_isStep : ByteArray := prog_14_method_33_code
def yX12_isStep : MethodName := ⟨RX12, "isStep", "(I)Z"⟩
abbrev cX12_isTool : ByteArray := prog_14_method_34_code
def yX12_isTool : MethodName := ⟨RX12, "isTool", "(I)Z"⟩
abbrev cX12_begin : ByteArray := prog_14_method_35_code
def yX12_begin : MethodName := ⟨RX12, "begin", "(I)I"⟩
abbrev cX12_held : ByteArray := prog_14_method_36_code
def yX12_held : MethodName := ⟨RX12, "held", "(I)I"⟩
abbrev cX12_isFree : ByteArray := prog_14_method_37_code
def yX12_isFree : MethodName := ⟨RX12, "isFree", "(III)Z"⟩
abbrev cX12_byRow : ByteArray := prog_14_method_38_code
def yX12_byRow : MethodName := ⟨RX12, "byRow", "()I"⟩
abbrev cX12_markOf : ByteArray := prog_14_method_39_code
def yX12_markOf : MethodName := ⟨RX12, "markOf", "(I)I"⟩
abbrev cX12_up : ByteArray := prog_14_method_40_code
def yX12_up : MethodName := ⟨RX12, "up", "(I)I"⟩
abbrev cX12_top : ByteArray := prog_14_method_41_code
def yX12_top : MethodName := ⟨RX12, "top", "(I)I"⟩
abbrev cX12_down : ByteArray := prog_14_method_42_code
def yX12_down : MethodName := ⟨RX12, "down", "(I)I"⟩
abbrev cX12_heightOf : ByteArray := prog_14_method_43_code
def yX12_heightOf : MethodName := ⟨RX12, "heightOf", "(II)I"⟩
abbrev cX12_discAt : ByteArray := prog_14_method_44_code
def yX12_discAt : MethodName := ⟨RX12, "discAt", "(II)I"⟩
abbrev cX12_isMark : ByteArray := prog_14_method_45_code
def yX12_isMark : MethodName := ⟨RX12, "isMark", "(I)Z"⟩
abbrev cX12_height : ByteArray := prog_14_method_46_code
def yX12_height : MethodName := ⟨RX12, "height", "(II)I"⟩
abbrev cX12_isSteep : ByteArray := prog_14_method_47_code
def yX12_isSteep : MethodName := ⟨RX12, "isSteep", "(I)Z"⟩
abbrev cX12_isLate : ByteArray := prog_14_method_48_code
def yX12_isLate : MethodName := ⟨RX12, "isLate", "(I)Z"⟩
abbrev cX12_lobe : ByteArray := prog_14_method_49_code
def yX12_lobe : MethodName := ⟨RX12, "lobe", "(II)I"⟩
abbrev cX12_wrong : ByteArray := prog_14_method_50_code
def yX12_wrong : MethodName := ⟨RX12, "wrong", "(I)I"⟩
abbrev cX12_slope : ByteArray := prog_14_method_51_code
def yX12_slope : MethodName := ⟨RX12, "slope", "(I)I"⟩
abbrev cX12_isDisc : ByteArray := prog_14_method_52_code
def yX12_isDisc : MethodName := ⟨RX12, "isDisc", "(I)Z"⟩
abbrev cX12_old : ByteArray := prog_14_method_53_code
def yX12_old : MethodName := ⟨RX12, "old", "(I)I"⟩
abbrev cX12_was : ByteArray := prog_14_method_54_code
def yX12_was : MethodName := ⟨RX12, "was", "(II)I"⟩
abbrev cX12_keep : ByteArray := prog_14_method_55_code
def yX12_keep : MethodName := ⟨RX12, "keep", "(III)I"⟩
abbrev cX12_canFile : ByteArray := prog_14_method_56_code
def yX12_canFile : MethodName := ⟨RX12, "canFile", "(II)Z"⟩
abbrev cX12_file : ByteArray := prog_14_method_57_code
def yX12_file : MethodName := ⟨RX12, "file", "(III)I"⟩
abbrev cX12_hasStep : ByteArray := prog_14_method_58_code
def yX12_hasStep : MethodName := ⟨RX12, "hasStep", "(I)Z"⟩
abbrev cX12_give : ByteArray := prog_14_method_59_code
def yX12_give : MethodName := ⟨RX12, "give", "(IIII)V"⟩
abbrev cX12_share : ByteArray := prog_14_method_60_code
def yX12_share : MethodName := ⟨RX12, "share", "(I)I"⟩
abbrev cX12_shared : ByteArray := prog_14_method_61_code
def yX12_shared : MethodName := ⟨RX12, "shared", "(I)I"⟩
abbrev cX12_box : ByteArray := prog_14_method_62_code
def yX12_box : MethodName := ⟨RX12, "box", "()I"⟩
abbrev cX12_isWheel : ByteArray := prog_14_method_63_code
def yX12_isWheel : MethodName := ⟨RX12, "isWheel", "(I)Z"⟩
abbrev cX12_teeth : ByteArray := prog_14_method_64_code
def yX12_teeth : MethodName := ⟨RX12, "teeth", "(I)I"⟩
abbrev cX12_common : ByteArray := prog_14_method_65_code
def yX12_common : MethodName := ⟨RX12, "common", "(JJ)J"⟩
abbrev cX12_tryRow : ByteArray := prog_14_method_66_code
def yX12_tryRow : MethodName := ⟨RX12, "tryRow", "(III)V"⟩
abbrev cX12_rows : ByteArray := prog_14_method_67_code
def yX12_rows : MethodName := ⟨RX12, "rows", "(IIIII)V"⟩
abbrev cX12_isRatio : ByteArray := prog_14_method_68_code
def yX12_isRatio : MethodName := ⟨RX12, "isRatio", "(I)Z"⟩
abbrev cX12_train : ByteArray := prog_14_method_69_code
def yX12_train : MethodName := ⟨RX12, "train", "(III)I"⟩
abbrev cX12_wheel : ByteArray := prog_14_method_70_code
def yX12_wheel : MethodName := ⟨RX12, "wheel", "(I)I"⟩
abbrev cX12_off : ByteArray := prog_14_method_71_code
def yX12_off : MethodName := ⟨RX12, "off", "(Z)J"⟩
abbrev cX12_spare : ByteArray := prog_14_method_72_code
def yX12_spare : MethodName := ⟨RX12, "spare", "(II)I"⟩
abbrev cX12_worn : ByteArray := prog_14_method_73_code
def yX12_worn : MethodName := ⟨RX12, "worn", "(II)J"⟩
abbrev cX12_isPart : ByteArray := prog_14_method_74_code
def yX12_isPart : MethodName := ⟨RX12, "isPart", "(I)Z"⟩
abbrev cX12_isOff : ByteArray := prog_14_method_75_code
def yX12_isOff : MethodName := ⟨RX12, "isOff", "(I)Z"⟩
abbrev cX12_gauge : ByteArray := prog_14_method_76_code
def yX12_gauge : MethodName := ⟨RX12, "gauge", "(IIII)I"⟩
abbrev cX12_right : ByteArray := prog_14_method_77_code
def yX12_right : MethodName := ⟨RX12, "right", "(III)I"⟩
abbrev cX12_offAsKnown : ByteArray := prog_14_method_78_code
def yX12_offAsKnown : MethodName := ⟨RX12, "offAsKnown", "(II)I"⟩
abbrev cX12_worns : ByteArray := prog_14_method_79_code
def yX12_worns : MethodName := ⟨RX12, "worns", "()I"⟩
abbrev cX12_dulls : ByteArray := prog_14_method_80_code
def yX12_dulls : MethodName := ⟨RX12, "dulls", "()I"⟩
abbrev cX12_causes : ByteArray := prog_14_method_81_code
def yX12_causes : MethodName := ⟨RX12, "causes", "()I"⟩
abbrev cX12_heatOf : ByteArray := prog_14_method_82_code
def yX12_heatOf : MethodName := ⟨RX12, "heatOf", "(I)I"⟩
abbrev cX12_wornOf : ByteArray := prog_14_method_83_code
def yX12_wornOf : MethodName := ⟨RX12, "wornOf", "(I)I"⟩
abbrev cX12_dullOf : ByteArray := prog_14_method_84_code
def yX12_dullOf : MethodName := ⟨RX12, "dullOf", "(I)I"⟩
abbrev cX12_tellsOf : ByteArray := prog_14_method_85_code
def yX12_tellsOf : MethodName := ⟨RX12, "tellsOf", "(III)I"⟩
abbrev cX12_isCause : ByteArray := prog_14_method_86_code
def yX12_isCause : MethodName := ⟨RX12, "isCause", "(I)Z"⟩
abbrev cX12_cause : ByteArray := prog_14_method_87_code
def yX12_cause : MethodName := ⟨RX12, "cause", "(II)I"⟩
abbrev cX12_tells : ByteArray := prog_14_method_88_code
def yX12_tells : MethodName := ⟨RX12, "tells", "(III)I"⟩
abbrev cX12_isFit : ByteArray := prog_14_method_89_code
def yX12_isFit : MethodName := ⟨RX12, "isFit", "(I)Z"⟩
abbrev cX12_findFit : ByteArray := prog_14_method_90_code
def yX12_findFit : MethodName := ⟨RX12, "findFit", "(I)V"⟩
abbrev cX12_isStage : ByteArray := prog_14_method_91_code
def yX12_isStage : MethodName := ⟨RX12, "isStage", "(I)Z"⟩
abbrev cX12_fit : ByteArray := prog_14_method_92_code
def yX12_fit : MethodName := ⟨RX12, "fit", "(II)I"⟩
abbrev cX12_surely : ByteArray := prog_14_method_93_code
def yX12_surely : MethodName := ⟨RX12, "surely", "(I)I"⟩
abbrev cX12_surelyWorn : ByteArray := prog_14_method_94_code
def yX12_surelyWorn : MethodName := ⟨RX12, "surelyWorn", "(II)I"⟩
abbrev cX12_surelyDull : ByteArray := prog_14_method_95_code
def yX12_surelyDull : MethodName := ⟨RX12, "surelyDull", "(II)I"⟩
abbrev cX12_mostAlike : ByteArray := prog_14_method_96_code
def yX12_mostAlike : MethodName := ⟨RX12, "mostAlike", "(II)I"⟩
abbrev cX12_next : ByteArray := prog_14_method_97_code
def yX12_next : MethodName := ⟨RX12, "next", "()I"⟩
abbrev cX12_isLimit : ByteArray := prog_14_method_98_code
def yX12_isLimit : MethodName := ⟨RX12, "isLimit", "(I)Z"⟩
abbrev cX12_halt : ByteArray := prog_14_method_99_code
def yX12_halt : MethodName := ⟨RX12, "halt", "(II)I"⟩
abbrev cX12_bin : ByteArray := prog_14_method_100_code
def yX12_bin : MethodName := ⟨RX12, "bin", "(III)I"⟩
abbrev cX12_count : ByteArray := prog_14_method_101_code
def yX12_count : MethodName := ⟨RX12, "count", "(I)I"⟩
def RJ0 : String := "java/lang/String"
abbrev cJ0_length_8abf5 : ByteArray := prog_16_method_54_code
def yJ0_length_8abf5 : MethodName := ⟨RJ0, "length", "()I"⟩
abbrev cJ0_charAt_5068e : ByteArray := prog_16_method_56_code
def yJ0_charAt_5068e : MethodName := ⟨RJ0, "charAt", "(I)C"⟩
abbrev cJ0_coder_7d493 : ByteArray := prog_16_method_152_code
def yJ0_coder_7d493 : MethodName := ⟨RJ0, "coder", "()B"⟩
abbrev cJ0_isLatin1_aae02 : ByteArray := prog_16_method_154_code
def yJ0_isLatin1_aae02 : MethodName := ⟨RJ0, "isLatin1", "()Z"⟩
abbrev cJ0_checkIndex_df160 : ByteArray := prog_16_method_155_code
def yJ0_checkIndex_df160 : MethodName := ⟨RJ0, "checkIndex", "(II)V"⟩
def RJ1 : String := "java/lang/StringLatin1"
abbrev cJ1_charAt_3b067 : ByteArray := prog_17_method_2_code
def yJ1_charAt_3b067 : MethodName := ⟨RJ1, "charAt", "([BI)C"⟩
def RJ2 : String := "java/lang/StringUTF16"
def RJ7 : String := "java/util/Arrays"
abbrev cJ7_fill_53178 : ByteArray := prog_20_method_103_code
def yJ7_fill_53178 : MethodName := ⟨RJ7, "fill", "([II)V"⟩
def RJ3 : String := "jdk/internal/util/Preconditions"
abbrev cJ3_checkIndex_8e157 : ByteArray := prog_21_method_11_code
def yJ3_checkIndex_8e157 : MethodName := ⟨RJ3, "checkIndex", "(IILjava/util/function/BiFunction;)I"⟩
def RL : String := "DiscLatheLaw"
abbrev cL_law : ByteArray := code
def yL_law : MethodName := ⟨RL, "law", "([I)Z"⟩
