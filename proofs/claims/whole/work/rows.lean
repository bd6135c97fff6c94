section
/-- a private method of a class that the tables say can be made, by its rows of tables_1 -/
def lw_okq (q : MethodName × Nat) : Prop := (q.1.cls ≠ "java/lang/invoke/MethodHandle" ∧ q.1.cls ≠ "java/lang/invoke/VarHandle") ∧ Cond.instantiable q.1.cls q.2 ∈ tables_1 ∧ Cond.privateMethod q.1 ∈ tables_1 ∧ Cond.instanceMethod q.1 ∈ tables_1
theorem lw_p0 : lw_okq (⟨"DiscLathe$OldDiscs", "forgetTurns", "(I)V"⟩, 10) := ⟨⟨by decide +kernel, by decide +kernel⟩, List.mem_of_getElem? (i := 239) (by decide +kernel), List.mem_of_getElem? (i := 253) (by decide +kernel), List.mem_of_getElem? (i := 254) (by decide +kernel)⟩
theorem lw_p1 : lw_okq (⟨"DiscLathe$Tape", "readWord", "()V"⟩, 6) := ⟨⟨by decide +kernel, by decide +kernel⟩, List.mem_of_getElem? (i := 30) (by decide +kernel), List.mem_of_getElem? (i := 622) (by decide +kernel), List.mem_of_getElem? (i := 623) (by decide +kernel)⟩
theorem lw_p2 : lw_okq (⟨"DiscLathe$Tape", "readNumber", "()V"⟩, 6) := ⟨⟨by decide +kernel, by decide +kernel⟩, List.mem_of_getElem? (i := 30) (by decide +kernel), List.mem_of_getElem? (i := 631) (by decide +kernel), List.mem_of_getElem? (i := 632) (by decide +kernel)⟩
theorem lw_p3 : lw_okq (⟨"DiscLathe$PartReader", "readClause", "()Z"⟩, 5) := ⟨⟨by decide +kernel, by decide +kernel⟩, List.mem_of_getElem? (i := 141) (by decide +kernel), List.mem_of_getElem? (i := 637) (by decide +kernel), List.mem_of_getElem? (i := 638) (by decide +kernel)⟩
theorem lw_p4 : lw_okq (⟨"DiscLathe$PartReader", "refuse", "(I)Z"⟩, 5) := ⟨⟨by decide +kernel, by decide +kernel⟩, List.mem_of_getElem? (i := 141) (by decide +kernel), List.mem_of_getElem? (i := 641) (by decide +kernel), List.mem_of_getElem? (i := 642) (by decide +kernel)⟩
theorem lw_p5 : lw_okq (⟨"DiscLathe$PartReader", "readTool", "()Z"⟩, 5) := ⟨⟨by decide +kernel, by decide +kernel⟩, List.mem_of_getElem? (i := 141) (by decide +kernel), List.mem_of_getElem? (i := 646) (by decide +kernel), List.mem_of_getElem? (i := 647) (by decide +kernel)⟩
theorem lw_p6 : lw_okq (⟨"DiscLathe$PartReader", "advanceTo", "(I)Z"⟩, 5) := ⟨⟨by decide +kernel, by decide +kernel⟩, List.mem_of_getElem? (i := 141) (by decide +kernel), List.mem_of_getElem? (i := 650) (by decide +kernel), List.mem_of_getElem? (i := 651) (by decide +kernel)⟩
theorem lw_p7 : lw_okq (⟨"DiscLathe$PartReader", "stayOn", "(I)Z"⟩, 5) := ⟨⟨by decide +kernel, by decide +kernel⟩, List.mem_of_getElem? (i := 141) (by decide +kernel), List.mem_of_getElem? (i := 654) (by decide +kernel), List.mem_of_getElem? (i := 655) (by decide +kernel)⟩
theorem lw_p8 : lw_okq (⟨"DiscLathe$PartReader", "advanceToNumber", "(II)Z"⟩, 5) := ⟨⟨by decide +kernel, by decide +kernel⟩, List.mem_of_getElem? (i := 141) (by decide +kernel), List.mem_of_getElem? (i := 662) (by decide +kernel), List.mem_of_getElem? (i := 663) (by decide +kernel)⟩
theorem lw_p9 : lw_okq (⟨"DiscLathe$PartReader", "stayWithin", "(II)Z"⟩, 5) := ⟨⟨by decide +kernel, by decide +kernel⟩, List.mem_of_getElem? (i := 141) (by decide +kernel), List.mem_of_getElem? (i := 666) (by decide +kernel), List.mem_of_getElem? (i := 667) (by decide +kernel)⟩
theorem lw_p10 : lw_okq (⟨"DiscLathe$PartReader", "readStep", "()Z"⟩, 5) := ⟨⟨by decide +kernel, by decide +kernel⟩, List.mem_of_getElem? (i := 141) (by decide +kernel), List.mem_of_getElem? (i := 676) (by decide +kernel), List.mem_of_getElem? (i := 677) (by decide +kernel)⟩
theorem lw_p11 : lw_okq (⟨"DiscLathe$PartReader", "advanceToToolName", "()Z"⟩, 5) := ⟨⟨by decide +kernel, by decide +kernel⟩, List.mem_of_getElem? (i := 141) (by decide +kernel), List.mem_of_getElem? (i := 680) (by decide +kernel), List.mem_of_getElem? (i := 681) (by decide +kernel)⟩
theorem lw_p12 : lw_okq (⟨"DiscLathe$PartReader", "readAfter", "()Z"⟩, 5) := ⟨⟨by decide +kernel, by decide +kernel⟩, List.mem_of_getElem? (i := 141) (by decide +kernel), List.mem_of_getElem? (i := 689) (by decide +kernel), List.mem_of_getElem? (i := 690) (by decide +kernel)⟩
theorem lw_p13 : lw_okq (⟨"DiscLathe$PartReader", "readMeet", "()Z"⟩, 5) := ⟨⟨by decide +kernel, by decide +kernel⟩, List.mem_of_getElem? (i := 141) (by decide +kernel), List.mem_of_getElem? (i := 697) (by decide +kernel), List.mem_of_getElem? (i := 698) (by decide +kernel)⟩
theorem lw_p14 : lw_okq (⟨"DiscLathe$PartReader", "readIdle", "()Z"⟩, 5) := ⟨⟨by decide +kernel, by decide +kernel⟩, List.mem_of_getElem? (i := 141) (by decide +kernel), List.mem_of_getElem? (i := 702) (by decide +kernel), List.mem_of_getElem? (i := 703) (by decide +kernel)⟩
theorem lw_p15 : lw_okq (⟨"DiscLathe$Plan", "longestTailBehind", "(I)I"⟩, 11) := ⟨⟨by decide +kernel, by decide +kernel⟩, List.mem_of_getElem? (i := 168) (by decide +kernel), List.mem_of_getElem? (i := 730) (by decide +kernel), List.mem_of_getElem? (i := 731) (by decide +kernel)⟩
def lw_privs_1 : List (MethodName × Nat) := [(⟨"DiscLathe$OldDiscs", "forgetTurns", "(I)V"⟩, 10), (⟨"DiscLathe$Tape", "readWord", "()V"⟩, 6), (⟨"DiscLathe$Tape", "readNumber", "()V"⟩, 6), (⟨"DiscLathe$PartReader", "readClause", "()Z"⟩, 5), (⟨"DiscLathe$PartReader", "refuse", "(I)Z"⟩, 5), (⟨"DiscLathe$PartReader", "readTool", "()Z"⟩, 5), (⟨"DiscLathe$PartReader", "advanceTo", "(I)Z"⟩, 5), (⟨"DiscLathe$PartReader", "stayOn", "(I)Z"⟩, 5), (⟨"DiscLathe$PartReader", "advanceToNumber", "(II)Z"⟩, 5), (⟨"DiscLathe$PartReader", "stayWithin", "(II)Z"⟩, 5), (⟨"DiscLathe$PartReader", "readStep", "()Z"⟩, 5), (⟨"DiscLathe$PartReader", "advanceToToolName", "()Z"⟩, 5), (⟨"DiscLathe$PartReader", "readAfter", "()Z"⟩, 5), (⟨"DiscLathe$PartReader", "readMeet", "()Z"⟩, 5), (⟨"DiscLathe$PartReader", "readIdle", "()Z"⟩, 5), (⟨"DiscLathe$Plan", "longestTailBehind", "(I)I"⟩, 11)]
theorem lw_r1 : ∀ q ∈ lw_privs_1, lw_okq q := List.forall_mem_cons.mpr ⟨lw_p0, List.forall_mem_cons.mpr ⟨lw_p1, List.forall_mem_cons.mpr ⟨lw_p2, List.forall_mem_cons.mpr ⟨lw_p3, List.forall_mem_cons.mpr ⟨lw_p4, List.forall_mem_cons.mpr ⟨lw_p5, List.forall_mem_cons.mpr ⟨lw_p6, List.forall_mem_cons.mpr ⟨lw_p7, List.forall_mem_cons.mpr ⟨lw_p8, List.forall_mem_cons.mpr ⟨lw_p9, List.forall_mem_cons.mpr ⟨lw_p10, List.forall_mem_cons.mpr ⟨lw_p11, List.forall_mem_cons.mpr ⟨lw_p12, List.forall_mem_cons.mpr ⟨lw_p13, List.forall_mem_cons.mpr ⟨lw_p14, List.forall_mem_cons.mpr ⟨lw_p15, fun _ h => absurd h List.not_mem_nil⟩⟩⟩⟩⟩⟩⟩⟩⟩⟩⟩⟩⟩⟩⟩⟩
theorem lw_p16 : lw_okq (⟨"DiscLathe$Plan", "queueWith", "(I)I"⟩, 11) := ⟨⟨by decide +kernel, by decide +kernel⟩, List.mem_of_getElem? (i := 168) (by decide +kernel), List.mem_of_getElem? (i := 738) (by decide +kernel), List.mem_of_getElem? (i := 739) (by decide +kernel)⟩
theorem lw_p17 : lw_okq (⟨"DiscLathe$Plan", "neverWith", "(I)I"⟩, 11) := ⟨⟨by decide +kernel, by decide +kernel⟩, List.mem_of_getElem? (i := 168) (by decide +kernel), List.mem_of_getElem? (i := 742) (by decide +kernel), List.mem_of_getElem? (i := 743) (by decide +kernel)⟩
theorem lw_p18 : lw_okq (⟨"DiscLathe$Plan", "putIn", "(IIII)V"⟩, 11) := ⟨⟨by decide +kernel, by decide +kernel⟩, List.mem_of_getElem? (i := 168) (by decide +kernel), List.mem_of_getElem? (i := 746) (by decide +kernel), List.mem_of_getElem? (i := 747) (by decide +kernel)⟩
theorem lw_p19 : lw_okq (⟨"DiscLathe$Plan", "canBeat", "(IIII)Z"⟩, 11) := ⟨⟨by decide +kernel, by decide +kernel⟩, List.mem_of_getElem? (i := 168) (by decide +kernel), List.mem_of_getElem? (i := 750) (by decide +kernel), List.mem_of_getElem? (i := 751) (by decide +kernel)⟩
theorem lw_p20 : lw_okq (⟨"DiscLathe$Plan", "soonestOf", "(IIII)I"⟩, 11) := ⟨⟨by decide +kernel, by decide +kernel⟩, List.mem_of_getElem? (i := 168) (by decide +kernel), List.mem_of_getElem? (i := 754) (by decide +kernel), List.mem_of_getElem? (i := 755) (by decide +kernel)⟩
theorem lw_p21 : lw_okq (⟨"DiscLathe$Plan", "queueBound", "(I)I"⟩, 11) := ⟨⟨by decide +kernel, by decide +kernel⟩, List.mem_of_getElem? (i := 168) (by decide +kernel), List.mem_of_getElem? (i := 758) (by decide +kernel), List.mem_of_getElem? (i := 759) (by decide +kernel)⟩
theorem lw_p22 : lw_okq (⟨"DiscLathe$Plan", "isAhead", "(III)Z"⟩, 11) := ⟨⟨by decide +kernel, by decide +kernel⟩, List.mem_of_getElem? (i := 168) (by decide +kernel), List.mem_of_getElem? (i := 766) (by decide +kernel), List.mem_of_getElem? (i := 767) (by decide +kernel)⟩
theorem lw_p23 : lw_okq (⟨"DiscLathe$Plan", "holdBack", "(III)V"⟩, 11) := ⟨⟨by decide +kernel, by decide +kernel⟩, List.mem_of_getElem? (i := 168) (by decide +kernel), List.mem_of_getElem? (i := 770) (by decide +kernel), List.mem_of_getElem? (i := 771) (by decide +kernel)⟩
theorem lw_p24 : lw_okq (⟨"DiscLathe$Discs", "markOf", "(I)I"⟩, 5) := ⟨⟨by decide +kernel, by decide +kernel⟩, List.mem_of_getElem? (i := 214) (by decide +kernel), List.mem_of_getElem? (i := 778) (by decide +kernel), List.mem_of_getElem? (i := 779) (by decide +kernel)⟩
theorem lw_p25 : lw_okq (⟨"DiscLathe", "toldOfOne", "(II)I"⟩, 11) := ⟨⟨by decide +kernel, by decide +kernel⟩, List.mem_of_getElem? (i := 22) (by decide +kernel), List.mem_of_getElem? (i := 801) (by decide +kernel), List.mem_of_getElem? (i := 802) (by decide +kernel)⟩
theorem lw_p26 : lw_okq (⟨"DiscLathe", "isStep", "(I)Z"⟩, 11) := ⟨⟨by decide +kernel, by decide +kernel⟩, List.mem_of_getElem? (i := 22) (by decide +kernel), List.mem_of_getElem? (i := 805) (by decide +kernel), List.mem_of_getElem? (i := 806) (by decide +kernel)⟩
theorem lw_p27 : lw_okq (⟨"DiscLathe", "isTool", "(I)Z"⟩, 11) := ⟨⟨by decide +kernel, by decide +kernel⟩, List.mem_of_getElem? (i := 22) (by decide +kernel), List.mem_of_getElem? (i := 809) (by decide +kernel), List.mem_of_getElem? (i := 810) (by decide +kernel)⟩
theorem lw_p28 : lw_okq (⟨"DiscLathe$Plan", "firstGap", "(II)I"⟩, 11) := ⟨⟨by decide +kernel, by decide +kernel⟩, List.mem_of_getElem? (i := 168) (by decide +kernel), List.mem_of_getElem? (i := 836) (by decide +kernel), List.mem_of_getElem? (i := 837) (by decide +kernel)⟩
theorem lw_p29 : lw_okq (⟨"DiscLathe$Plan", "behindOneInTheWay", "(III)I"⟩, 11) := ⟨⟨by decide +kernel, by decide +kernel⟩, List.mem_of_getElem? (i := 168) (by decide +kernel), List.mem_of_getElem? (i := 840) (by decide +kernel), List.mem_of_getElem? (i := 841) (by decide +kernel)⟩
theorem lw_p30 : lw_okq (⟨"DiscLathe$OldDiscs", "findTurn", "(II)V"⟩, 10) := ⟨⟨by decide +kernel, by decide +kernel⟩, List.mem_of_getElem? (i := 239) (by decide +kernel), List.mem_of_getElem? (i := 926) (by decide +kernel), List.mem_of_getElem? (i := 927) (by decide +kernel)⟩
theorem lw_p31 : lw_okq (⟨"DiscLathe$OldDiscs", "baseAt", "([III)I"⟩, 10) := ⟨⟨by decide +kernel, by decide +kernel⟩, List.mem_of_getElem? (i := 239) (by decide +kernel), List.mem_of_getElem? (i := 930) (by decide +kernel), List.mem_of_getElem? (i := 931) (by decide +kernel)⟩
def lw_privs_2 : List (MethodName × Nat) := [(⟨"DiscLathe$Plan", "queueWith", "(I)I"⟩, 11), (⟨"DiscLathe$Plan", "neverWith", "(I)I"⟩, 11), (⟨"DiscLathe$Plan", "putIn", "(IIII)V"⟩, 11), (⟨"DiscLathe$Plan", "canBeat", "(IIII)Z"⟩, 11), (⟨"DiscLathe$Plan", "soonestOf", "(IIII)I"⟩, 11), (⟨"DiscLathe$Plan", "queueBound", "(I)I"⟩, 11), (⟨"DiscLathe$Plan", "isAhead", "(III)Z"⟩, 11), (⟨"DiscLathe$Plan", "holdBack", "(III)V"⟩, 11), (⟨"DiscLathe$Discs", "markOf", "(I)I"⟩, 5), (⟨"DiscLathe", "toldOfOne", "(II)I"⟩, 11), (⟨"DiscLathe", "isStep", "(I)Z"⟩, 11), (⟨"DiscLathe", "isTool", "(I)Z"⟩, 11), (⟨"DiscLathe$Plan", "firstGap", "(II)I"⟩, 11), (⟨"DiscLathe$Plan", "behindOneInTheWay", "(III)I"⟩, 11), (⟨"DiscLathe$OldDiscs", "findTurn", "(II)V"⟩, 10), (⟨"DiscLathe$OldDiscs", "baseAt", "([III)I"⟩, 10)]
theorem lw_r2 : ∀ q ∈ lw_privs_2, lw_okq q := List.forall_mem_cons.mpr ⟨lw_p16, List.forall_mem_cons.mpr ⟨lw_p17, List.forall_mem_cons.mpr ⟨lw_p18, List.forall_mem_cons.mpr ⟨lw_p19, List.forall_mem_cons.mpr ⟨lw_p20, List.forall_mem_cons.mpr ⟨lw_p21, List.forall_mem_cons.mpr ⟨lw_p22, List.forall_mem_cons.mpr ⟨lw_p23, List.forall_mem_cons.mpr ⟨lw_p24, List.forall_mem_cons.mpr ⟨lw_p25, List.forall_mem_cons.mpr ⟨lw_p26, List.forall_mem_cons.mpr ⟨lw_p27, List.forall_mem_cons.mpr ⟨lw_p28, List.forall_mem_cons.mpr ⟨lw_p29, List.forall_mem_cons.mpr ⟨lw_p30, List.forall_mem_cons.mpr ⟨lw_p31, fun _ h => absurd h List.not_mem_nil⟩⟩⟩⟩⟩⟩⟩⟩⟩⟩⟩⟩⟩⟩⟩⟩
theorem lw_p32 : lw_okq (⟨"DiscLathe$OldDiscs", "choose", "(IIII)V"⟩, 10) := ⟨⟨by decide +kernel, by decide +kernel⟩, List.mem_of_getElem? (i := 239) (by decide +kernel), List.mem_of_getElem? (i := 952) (by decide +kernel), List.mem_of_getElem? (i := 953) (by decide +kernel)⟩
theorem lw_p33 : lw_okq (⟨"DiscLathe$OldDiscs", "hasStep", "(I)Z"⟩, 10) := ⟨⟨by decide +kernel, by decide +kernel⟩, List.mem_of_getElem? (i := 239) (by decide +kernel), List.mem_of_getElem? (i := 957) (by decide +kernel), List.mem_of_getElem? (i := 958) (by decide +kernel)⟩
theorem lw_p34 : lw_okq (⟨"DiscLathe$Wheels", "weighAll", "(III)V"⟩, 16) := ⟨⟨by decide +kernel, by decide +kernel⟩, List.mem_of_getElem? (i := 290) (by decide +kernel), List.mem_of_getElem? (i := 997) (by decide +kernel), List.mem_of_getElem? (i := 998) (by decide +kernel)⟩
theorem lw_p35 : lw_okq (⟨"DiscLathe$Wheels", "choose", "(III)V"⟩, 16) := ⟨⟨by decide +kernel, by decide +kernel⟩, List.mem_of_getElem? (i := 290) (by decide +kernel), List.mem_of_getElem? (i := 1001) (by decide +kernel), List.mem_of_getElem? (i := 1002) (by decide +kernel)⟩
theorem lw_p36 : lw_okq (⟨"DiscLathe$Wheels", "weigh", "(I)V"⟩, 16) := ⟨⟨by decide +kernel, by decide +kernel⟩, List.mem_of_getElem? (i := 290) (by decide +kernel), List.mem_of_getElem? (i := 1005) (by decide +kernel), List.mem_of_getElem? (i := 1006) (by decide +kernel)⟩
theorem lw_p37 : lw_okq (⟨"DiscLathe$Wheels", "setOff", "()V"⟩, 16) := ⟨⟨by decide +kernel, by decide +kernel⟩, List.mem_of_getElem? (i := 290) (by decide +kernel), List.mem_of_getElem? (i := 1013) (by decide +kernel), List.mem_of_getElem? (i := 1014) (by decide +kernel)⟩
theorem lw_p38 : lw_okq (⟨"DiscLathe$Gauged", "offAsKnown", "(II)I"⟩, 14) := ⟨⟨by decide +kernel, by decide +kernel⟩, List.mem_of_getElem? (i := 353) (by decide +kernel), List.mem_of_getElem? (i := 1091) (by decide +kernel), List.mem_of_getElem? (i := 1092) (by decide +kernel)⟩
theorem lw_p39 : lw_okq (⟨"DiscLathe$Fits", "addBlocks", "(II)V"⟩, 16) := ⟨⟨by decide +kernel, by decide +kernel⟩, List.mem_of_getElem? (i := 443) (by decide +kernel), List.mem_of_getElem? (i := 1099) (by decide +kernel), List.mem_of_getElem? (i := 1100) (by decide +kernel)⟩
theorem lw_p40 : lw_okq (⟨"DiscLathe$Fits", "splitRests", "(II)I"⟩, 16) := ⟨⟨by decide +kernel, by decide +kernel⟩, List.mem_of_getElem? (i := 443) (by decide +kernel), List.mem_of_getElem? (i := 1103) (by decide +kernel), List.mem_of_getElem? (i := 1104) (by decide +kernel)⟩
theorem lw_p41 : lw_okq (⟨"DiscLathe$Fits", "addBlock", "(IIIIIII)V"⟩, 16) := ⟨⟨by decide +kernel, by decide +kernel⟩, List.mem_of_getElem? (i := 443) (by decide +kernel), List.mem_of_getElem? (i := 1120) (by decide +kernel), List.mem_of_getElem? (i := 1121) (by decide +kernel)⟩
theorem lw_p42 : lw_okq (⟨"DiscLathe$Cause", "loadDull", "(I)V"⟩, 7) := ⟨⟨by decide +kernel, by decide +kernel⟩, List.mem_of_getElem? (i := 409) (by decide +kernel), List.mem_of_getElem? (i := 1149) (by decide +kernel), List.mem_of_getElem? (i := 1150) (by decide +kernel)⟩
theorem lw_p43 : lw_okq (⟨"DiscLathe$Cause", "loadWorn", "(I)V"⟩, 7) := ⟨⟨by decide +kernel, by decide +kernel⟩, List.mem_of_getElem? (i := 409) (by decide +kernel), List.mem_of_getElem? (i := 1153) (by decide +kernel), List.mem_of_getElem? (i := 1154) (by decide +kernel)⟩
theorem lw_p44 : lw_okq (⟨"DiscLathe$NextPick", "sortBlocks", "(I)V"⟩, 9) := ⟨⟨by decide +kernel, by decide +kernel⟩, List.mem_of_getElem? (i := 509) (by decide +kernel), List.mem_of_getElem? (i := 1195) (by decide +kernel), List.mem_of_getElem? (i := 1196) (by decide +kernel)⟩
theorem lw_p45 : lw_okq (⟨"DiscLathe$NextPick", "weigh", "(II)V"⟩, 9) := ⟨⟨by decide +kernel, by decide +kernel⟩, List.mem_of_getElem? (i := 509) (by decide +kernel), List.mem_of_getElem? (i := 1202) (by decide +kernel), List.mem_of_getElem? (i := 1203) (by decide +kernel)⟩
theorem lw_p46 : lw_okq (⟨"DiscLathe$NextPick", "mostAlike", "(I)I"⟩, 9) := ⟨⟨by decide +kernel, by decide +kernel⟩, List.mem_of_getElem? (i := 509) (by decide +kernel), List.mem_of_getElem? (i := 1206) (by decide +kernel), List.mem_of_getElem? (i := 1207) (by decide +kernel)⟩
theorem lw_p47 : lw_okq (⟨"DiscLathe$Fits", "canGoBeyond", "(II)Z"⟩, 16) := ⟨⟨by decide +kernel, by decide +kernel⟩, List.mem_of_getElem? (i := 443) (by decide +kernel), List.mem_of_getElem? (i := 1223) (by decide +kernel), List.mem_of_getElem? (i := 1224) (by decide +kernel)⟩
def lw_privs_3 : List (MethodName × Nat) := [(⟨"DiscLathe$OldDiscs", "choose", "(IIII)V"⟩, 10), (⟨"DiscLathe$OldDiscs", "hasStep", "(I)Z"⟩, 10), (⟨"DiscLathe$Wheels", "weighAll", "(III)V"⟩, 16), (⟨"DiscLathe$Wheels", "choose", "(III)V"⟩, 16), (⟨"DiscLathe$Wheels", "weigh", "(I)V"⟩, 16), (⟨"DiscLathe$Wheels", "setOff", "()V"⟩, 16), (⟨"DiscLathe$Gauged", "offAsKnown", "(II)I"⟩, 14), (⟨"DiscLathe$Fits", "addBlocks", "(II)V"⟩, 16), (⟨"DiscLathe$Fits", "splitRests", "(II)I"⟩, 16), (⟨"DiscLathe$Fits", "addBlock", "(IIIIIII)V"⟩, 16), (⟨"DiscLathe$Cause", "loadDull", "(I)V"⟩, 7), (⟨"DiscLathe$Cause", "loadWorn", "(I)V"⟩, 7), (⟨"DiscLathe$NextPick", "sortBlocks", "(I)V"⟩, 9), (⟨"DiscLathe$NextPick", "weigh", "(II)V"⟩, 9), (⟨"DiscLathe$NextPick", "mostAlike", "(I)I"⟩, 9), (⟨"DiscLathe$Fits", "canGoBeyond", "(II)Z"⟩, 16)]
theorem lw_r3 : ∀ q ∈ lw_privs_3, lw_okq q := List.forall_mem_cons.mpr ⟨lw_p32, List.forall_mem_cons.mpr ⟨lw_p33, List.forall_mem_cons.mpr ⟨lw_p34, List.forall_mem_cons.mpr ⟨lw_p35, List.forall_mem_cons.mpr ⟨lw_p36, List.forall_mem_cons.mpr ⟨lw_p37, List.forall_mem_cons.mpr ⟨lw_p38, List.forall_mem_cons.mpr ⟨lw_p39, List.forall_mem_cons.mpr ⟨lw_p40, List.forall_mem_cons.mpr ⟨lw_p41, List.forall_mem_cons.mpr ⟨lw_p42, List.forall_mem_cons.mpr ⟨lw_p43, List.forall_mem_cons.mpr ⟨lw_p44, List.forall_mem_cons.mpr ⟨lw_p45, List.forall_mem_cons.mpr ⟨lw_p46, List.forall_mem_cons.mpr ⟨lw_p47, fun _ h => absurd h List.not_mem_nil⟩⟩⟩⟩⟩⟩⟩⟩⟩⟩⟩⟩⟩⟩⟩⟩
theorem lw_p48 : lw_okq (⟨"DiscLathe$Fits", "isBeyond", "(III)Z"⟩, 16) := ⟨⟨by decide +kernel, by decide +kernel⟩, List.mem_of_getElem? (i := 443) (by decide +kernel), List.mem_of_getElem? (i := 1227) (by decide +kernel), List.mem_of_getElem? (i := 1228) (by decide +kernel)⟩
theorem lw_p49 : lw_okq (⟨"DiscLatheModel", "findPlan", "()V"⟩, 74) := ⟨⟨by decide +kernel, by decide +kernel⟩, List.mem_of_getElem? (i := 1245) (by decide +kernel), List.mem_of_getElem? (i := 1252) (by decide +kernel), List.mem_of_getElem? (i := 1253) (by decide +kernel)⟩
theorem lw_p50 : lw_okq (⟨"DiscLatheModel", "order", "(I)V"⟩, 74) := ⟨⟨by decide +kernel, by decide +kernel⟩, List.mem_of_getElem? (i := 1245) (by decide +kernel), List.mem_of_getElem? (i := 1256) (by decide +kernel), List.mem_of_getElem? (i := 1257) (by decide +kernel)⟩
theorem lw_p51 : lw_okq (⟨"DiscLatheModel", "findEarly", "(I)I"⟩, 74) := ⟨⟨by decide +kernel, by decide +kernel⟩, List.mem_of_getElem? (i := 1245) (by decide +kernel), List.mem_of_getElem? (i := 1260) (by decide +kernel), List.mem_of_getElem? (i := 1261) (by decide +kernel)⟩
theorem lw_p52 : lw_okq (⟨"DiscLatheModel", "turnsOf", "(I)I"⟩, 74) := ⟨⟨by decide +kernel, by decide +kernel⟩, List.mem_of_getElem? (i := 1245) (by decide +kernel), List.mem_of_getElem? (i := 1264) (by decide +kernel), List.mem_of_getElem? (i := 1265) (by decide +kernel)⟩
theorem lw_p53 : lw_okq (⟨"DiscLatheModel", "isNoBetter", "(I)Z"⟩, 74) := ⟨⟨by decide +kernel, by decide +kernel⟩, List.mem_of_getElem? (i := 1245) (by decide +kernel), List.mem_of_getElem? (i := 1269) (by decide +kernel), List.mem_of_getElem? (i := 1270) (by decide +kernel)⟩
theorem lw_p54 : lw_okq (⟨"DiscLatheModel", "fights", "(II)Z"⟩, 74) := ⟨⟨by decide +kernel, by decide +kernel⟩, List.mem_of_getElem? (i := 1245) (by decide +kernel), List.mem_of_getElem? (i := 1273) (by decide +kernel), List.mem_of_getElem? (i := 1274) (by decide +kernel)⟩
theorem lw_p55 : lw_okq (⟨"DiscLatheModel", "putFour", "(I)V"⟩, 74) := ⟨⟨by decide +kernel, by decide +kernel⟩, List.mem_of_getElem? (i := 1245) (by decide +kernel), List.mem_of_getElem? (i := 1504) (by decide +kernel), List.mem_of_getElem? (i := 1505) (by decide +kernel)⟩
theorem lw_p56 : lw_okq (⟨"DiscLatheModel", "open", "()V"⟩, 74) := ⟨⟨by decide +kernel, by decide +kernel⟩, List.mem_of_getElem? (i := 1245) (by decide +kernel), List.mem_of_getElem? (i := 1519) (by decide +kernel), List.mem_of_getElem? (i := 1520) (by decide +kernel)⟩
theorem lw_p57 : lw_okq (⟨"DiscLatheModel", "scan", "()V"⟩, 74) := ⟨⟨by decide +kernel, by decide +kernel⟩, List.mem_of_getElem? (i := 1245) (by decide +kernel), List.mem_of_getElem? (i := 1523) (by decide +kernel), List.mem_of_getElem? (i := 1524) (by decide +kernel)⟩
theorem lw_p58 : lw_okq (⟨"DiscLatheModel", "byteAt", "(I)I"⟩, 74) := ⟨⟨by decide +kernel, by decide +kernel⟩, List.mem_of_getElem? (i := 1245) (by decide +kernel), List.mem_of_getElem? (i := 1527) (by decide +kernel), List.mem_of_getElem? (i := 1528) (by decide +kernel)⟩
theorem lw_p59 : lw_okq (⟨"DiscLatheModel", "readPart", "()Z"⟩, 74) := ⟨⟨by decide +kernel, by decide +kernel⟩, List.mem_of_getElem? (i := 1245) (by decide +kernel), List.mem_of_getElem? (i := 1537) (by decide +kernel), List.mem_of_getElem? (i := 1538) (by decide +kernel)⟩
theorem lw_p60 : lw_okq (⟨"DiscLatheModel", "is", "(Ljava/lang/String;)Z"⟩, 74) := ⟨⟨by decide +kernel, by decide +kernel⟩, List.mem_of_getElem? (i := 1245) (by decide +kernel), List.mem_of_getElem? (i := 1542) (by decide +kernel), List.mem_of_getElem? (i := 1543) (by decide +kernel)⟩
theorem lw_p61 : lw_okq (⟨"DiscLatheModel", "readTool", "()Z"⟩, 74) := ⟨⟨by decide +kernel, by decide +kernel⟩, List.mem_of_getElem? (i := 1245) (by decide +kernel), List.mem_of_getElem? (i := 1594) (by decide +kernel), List.mem_of_getElem? (i := 1595) (by decide +kernel)⟩
theorem lw_p62 : lw_okq (⟨"DiscLatheModel", "bad", "(I)Z"⟩, 74) := ⟨⟨by decide +kernel, by decide +kernel⟩, List.mem_of_getElem? (i := 1245) (by decide +kernel), List.mem_of_getElem? (i := 1598) (by decide +kernel), List.mem_of_getElem? (i := 1599) (by decide +kernel)⟩
theorem lw_p63 : lw_okq (⟨"DiscLatheModel", "toolAt", "()I"⟩, 74) := ⟨⟨by decide +kernel, by decide +kernel⟩, List.mem_of_getElem? (i := 1245) (by decide +kernel), List.mem_of_getElem? (i := 1602) (by decide +kernel), List.mem_of_getElem? (i := 1603) (by decide +kernel)⟩
def lw_privs_4 : List (MethodName × Nat) := [(⟨"DiscLathe$Fits", "isBeyond", "(III)Z"⟩, 16), (⟨"DiscLatheModel", "findPlan", "()V"⟩, 74), (⟨"DiscLatheModel", "order", "(I)V"⟩, 74), (⟨"DiscLatheModel", "findEarly", "(I)I"⟩, 74), (⟨"DiscLatheModel", "turnsOf", "(I)I"⟩, 74), (⟨"DiscLatheModel", "isNoBetter", "(I)Z"⟩, 74), (⟨"DiscLatheModel", "fights", "(II)Z"⟩, 74), (⟨"DiscLatheModel", "putFour", "(I)V"⟩, 74), (⟨"DiscLatheModel", "open", "()V"⟩, 74), (⟨"DiscLatheModel", "scan", "()V"⟩, 74), (⟨"DiscLatheModel", "byteAt", "(I)I"⟩, 74), (⟨"DiscLatheModel", "readPart", "()Z"⟩, 74), (⟨"DiscLatheModel", "is", "(Ljava/lang/String;)Z"⟩, 74), (⟨"DiscLatheModel", "readTool", "()Z"⟩, 74), (⟨"DiscLatheModel", "bad", "(I)Z"⟩, 74), (⟨"DiscLatheModel", "toolAt", "()I"⟩, 74)]
theorem lw_r4 : ∀ q ∈ lw_privs_4, lw_okq q := List.forall_mem_cons.mpr ⟨lw_p48, List.forall_mem_cons.mpr ⟨lw_p49, List.forall_mem_cons.mpr ⟨lw_p50, List.forall_mem_cons.mpr ⟨lw_p51, List.forall_mem_cons.mpr ⟨lw_p52, List.forall_mem_cons.mpr ⟨lw_p53, List.forall_mem_cons.mpr ⟨lw_p54, List.forall_mem_cons.mpr ⟨lw_p55, List.forall_mem_cons.mpr ⟨lw_p56, List.forall_mem_cons.mpr ⟨lw_p57, List.forall_mem_cons.mpr ⟨lw_p58, List.forall_mem_cons.mpr ⟨lw_p59, List.forall_mem_cons.mpr ⟨lw_p60, List.forall_mem_cons.mpr ⟨lw_p61, List.forall_mem_cons.mpr ⟨lw_p62, List.forall_mem_cons.mpr ⟨lw_p63, fun _ h => absurd h List.not_mem_nil⟩⟩⟩⟩⟩⟩⟩⟩⟩⟩⟩⟩⟩⟩⟩⟩
theorem lw_p64 : lw_okq (⟨"DiscLatheModel", "name", "()J"⟩, 74) := ⟨⟨by decide +kernel, by decide +kernel⟩, List.mem_of_getElem? (i := 1245) (by decide +kernel), List.mem_of_getElem? (i := 1606) (by decide +kernel), List.mem_of_getElem? (i := 1607) (by decide +kernel)⟩
theorem lw_p65 : lw_okq (⟨"DiscLatheModel", "number", "(II)Z"⟩, 74) := ⟨⟨by decide +kernel, by decide +kernel⟩, List.mem_of_getElem? (i := 1245) (by decide +kernel), List.mem_of_getElem? (i := 1610) (by decide +kernel), List.mem_of_getElem? (i := 1611) (by decide +kernel)⟩
theorem lw_p66 : lw_okq (⟨"DiscLatheModel", "look", "(II)Z"⟩, 74) := ⟨⟨by decide +kernel, by decide +kernel⟩, List.mem_of_getElem? (i := 1245) (by decide +kernel), List.mem_of_getElem? (i := 1614) (by decide +kernel), List.mem_of_getElem? (i := 1615) (by decide +kernel)⟩
theorem lw_p67 : lw_okq (⟨"DiscLatheModel", "readStep", "()Z"⟩, 74) := ⟨⟨by decide +kernel, by decide +kernel⟩, List.mem_of_getElem? (i := 1245) (by decide +kernel), List.mem_of_getElem? (i := 1619) (by decide +kernel), List.mem_of_getElem? (i := 1620) (by decide +kernel)⟩
theorem lw_p68 : lw_okq (⟨"DiscLatheModel", "known", "()Z"⟩, 74) := ⟨⟨by decide +kernel, by decide +kernel⟩, List.mem_of_getElem? (i := 1245) (by decide +kernel), List.mem_of_getElem? (i := 1623) (by decide +kernel), List.mem_of_getElem? (i := 1624) (by decide +kernel)⟩
theorem lw_p69 : lw_okq (⟨"DiscLatheModel", "readAfter", "()Z"⟩, 74) := ⟨⟨by decide +kernel, by decide +kernel⟩, List.mem_of_getElem? (i := 1245) (by decide +kernel), List.mem_of_getElem? (i := 1628) (by decide +kernel), List.mem_of_getElem? (i := 1629) (by decide +kernel)⟩
theorem lw_p70 : lw_okq (⟨"DiscLatheModel", "readMeet", "()Z"⟩, 74) := ⟨⟨by decide +kernel, by decide +kernel⟩, List.mem_of_getElem? (i := 1245) (by decide +kernel), List.mem_of_getElem? (i := 1633) (by decide +kernel), List.mem_of_getElem? (i := 1634) (by decide +kernel)⟩
theorem lw_p71 : lw_okq (⟨"DiscLatheModel", "readIdle", "()Z"⟩, 74) := ⟨⟨by decide +kernel, by decide +kernel⟩, List.mem_of_getElem? (i := 1245) (by decide +kernel), List.mem_of_getElem? (i := 1637) (by decide +kernel), List.mem_of_getElem? (i := 1638) (by decide +kernel)⟩
theorem lw_p72 : lw_okq (⟨"DiscLatheModel", "isStep", "(I)Z"⟩, 74) := ⟨⟨by decide +kernel, by decide +kernel⟩, List.mem_of_getElem? (i := 1245) (by decide +kernel), List.mem_of_getElem? (i := 1666) (by decide +kernel), List.mem_of_getElem? (i := 1667) (by decide +kernel)⟩
theorem lw_p73 : lw_okq (⟨"DiscLatheModel", "isFree", "(III)Z"⟩, 74) := ⟨⟨by decide +kernel, by decide +kernel⟩, List.mem_of_getElem? (i := 1245) (by decide +kernel), List.mem_of_getElem? (i := 1678) (by decide +kernel), List.mem_of_getElem? (i := 1679) (by decide +kernel)⟩
theorem lw_p74 : lw_okq (⟨"DiscLatheModel", "isTool", "(I)Z"⟩, 74) := ⟨⟨by decide +kernel, by decide +kernel⟩, List.mem_of_getElem? (i := 1245) (by decide +kernel), List.mem_of_getElem? (i := 1686) (by decide +kernel), List.mem_of_getElem? (i := 1687) (by decide +kernel)⟩
theorem lw_p75 : lw_okq (⟨"DiscLatheModel", "discAt", "(II)I"⟩, 74) := ⟨⟨by decide +kernel, by decide +kernel⟩, List.mem_of_getElem? (i := 1245) (by decide +kernel), List.mem_of_getElem? (i := 1694) (by decide +kernel), List.mem_of_getElem? (i := 1695) (by decide +kernel)⟩
theorem lw_p76 : lw_okq (⟨"DiscLatheModel", "heightOf", "(II)I"⟩, 74) := ⟨⟨by decide +kernel, by decide +kernel⟩, List.mem_of_getElem? (i := 1245) (by decide +kernel), List.mem_of_getElem? (i := 1698) (by decide +kernel), List.mem_of_getElem? (i := 1699) (by decide +kernel)⟩
theorem lw_p77 : lw_okq (⟨"DiscLatheModel", "up", "(I)I"⟩, 74) := ⟨⟨by decide +kernel, by decide +kernel⟩, List.mem_of_getElem? (i := 1245) (by decide +kernel), List.mem_of_getElem? (i := 1702) (by decide +kernel), List.mem_of_getElem? (i := 1703) (by decide +kernel)⟩
theorem lw_p78 : lw_okq (⟨"DiscLatheModel", "markOf", "(I)I"⟩, 74) := ⟨⟨by decide +kernel, by decide +kernel⟩, List.mem_of_getElem? (i := 1245) (by decide +kernel), List.mem_of_getElem? (i := 1706) (by decide +kernel), List.mem_of_getElem? (i := 1707) (by decide +kernel)⟩
theorem lw_p79 : lw_okq (⟨"DiscLatheModel", "top", "(I)I"⟩, 74) := ⟨⟨by decide +kernel, by decide +kernel⟩, List.mem_of_getElem? (i := 1245) (by decide +kernel), List.mem_of_getElem? (i := 1710) (by decide +kernel), List.mem_of_getElem? (i := 1711) (by decide +kernel)⟩
def lw_privs_5 : List (MethodName × Nat) := [(⟨"DiscLatheModel", "name", "()J"⟩, 74), (⟨"DiscLatheModel", "number", "(II)Z"⟩, 74), (⟨"DiscLatheModel", "look", "(II)Z"⟩, 74), (⟨"DiscLatheModel", "readStep", "()Z"⟩, 74), (⟨"DiscLatheModel", "known", "()Z"⟩, 74), (⟨"DiscLatheModel", "readAfter", "()Z"⟩, 74), (⟨"DiscLatheModel", "readMeet", "()Z"⟩, 74), (⟨"DiscLatheModel", "readIdle", "()Z"⟩, 74), (⟨"DiscLatheModel", "isStep", "(I)Z"⟩, 74), (⟨"DiscLatheModel", "isFree", "(III)Z"⟩, 74), (⟨"DiscLatheModel", "isTool", "(I)Z"⟩, 74), (⟨"DiscLatheModel", "discAt", "(II)I"⟩, 74), (⟨"DiscLatheModel", "heightOf", "(II)I"⟩, 74), (⟨"DiscLatheModel", "up", "(I)I"⟩, 74), (⟨"DiscLatheModel", "markOf", "(I)I"⟩, 74), (⟨"DiscLatheModel", "top", "(I)I"⟩, 74)]
theorem lw_r5 : ∀ q ∈ lw_privs_5, lw_okq q := List.forall_mem_cons.mpr ⟨lw_p64, List.forall_mem_cons.mpr ⟨lw_p65, List.forall_mem_cons.mpr ⟨lw_p66, List.forall_mem_cons.mpr ⟨lw_p67, List.forall_mem_cons.mpr ⟨lw_p68, List.forall_mem_cons.mpr ⟨lw_p69, List.forall_mem_cons.mpr ⟨lw_p70, List.forall_mem_cons.mpr ⟨lw_p71, List.forall_mem_cons.mpr ⟨lw_p72, List.forall_mem_cons.mpr ⟨lw_p73, List.forall_mem_cons.mpr ⟨lw_p74, List.forall_mem_cons.mpr ⟨lw_p75, List.forall_mem_cons.mpr ⟨lw_p76, List.forall_mem_cons.mpr ⟨lw_p77, List.forall_mem_cons.mpr ⟨lw_p78, List.forall_mem_cons.mpr ⟨lw_p79, fun _ h => absurd h List.not_mem_nil⟩⟩⟩⟩⟩⟩⟩⟩⟩⟩⟩⟩⟩⟩⟩⟩
theorem lw_p80 : lw_okq (⟨"DiscLatheModel", "down", "(I)I"⟩, 74) := ⟨⟨by decide +kernel, by decide +kernel⟩, List.mem_of_getElem? (i := 1245) (by decide +kernel), List.mem_of_getElem? (i := 1714) (by decide +kernel), List.mem_of_getElem? (i := 1715) (by decide +kernel)⟩
theorem lw_p81 : lw_okq (⟨"DiscLatheModel", "isSteep", "(I)Z"⟩, 74) := ⟨⟨by decide +kernel, by decide +kernel⟩, List.mem_of_getElem? (i := 1245) (by decide +kernel), List.mem_of_getElem? (i := 1723) (by decide +kernel), List.mem_of_getElem? (i := 1724) (by decide +kernel)⟩
theorem lw_p82 : lw_okq (⟨"DiscLatheModel", "isLate", "(I)Z"⟩, 74) := ⟨⟨by decide +kernel, by decide +kernel⟩, List.mem_of_getElem? (i := 1245) (by decide +kernel), List.mem_of_getElem? (i := 1727) (by decide +kernel), List.mem_of_getElem? (i := 1728) (by decide +kernel)⟩
theorem lw_p83 : lw_okq (⟨"DiscLatheModel", "canFile", "(II)Z"⟩, 74) := ⟨⟨by decide +kernel, by decide +kernel⟩, List.mem_of_getElem? (i := 1245) (by decide +kernel), List.mem_of_getElem? (i := 1762) (by decide +kernel), List.mem_of_getElem? (i := 1763) (by decide +kernel)⟩
theorem lw_p84 : lw_okq (⟨"DiscLatheModel", "hasStep", "(I)Z"⟩, 74) := ⟨⟨by decide +kernel, by decide +kernel⟩, List.mem_of_getElem? (i := 1245) (by decide +kernel), List.mem_of_getElem? (i := 1772) (by decide +kernel), List.mem_of_getElem? (i := 1773) (by decide +kernel)⟩
theorem lw_p85 : lw_okq (⟨"DiscLatheModel", "give", "(IIII)V"⟩, 74) := ⟨⟨by decide +kernel, by decide +kernel⟩, List.mem_of_getElem? (i := 1245) (by decide +kernel), List.mem_of_getElem? (i := 1776) (by decide +kernel), List.mem_of_getElem? (i := 1777) (by decide +kernel)⟩
theorem lw_p86 : lw_okq (⟨"DiscLatheModel", "isWheel", "(I)Z"⟩, 74) := ⟨⟨by decide +kernel, by decide +kernel⟩, List.mem_of_getElem? (i := 1245) (by decide +kernel), List.mem_of_getElem? (i := 1793) (by decide +kernel), List.mem_of_getElem? (i := 1794) (by decide +kernel)⟩
theorem lw_p87 : lw_okq (⟨"DiscLatheModel", "rows", "(IIIII)V"⟩, 74) := ⟨⟨by decide +kernel, by decide +kernel⟩, List.mem_of_getElem? (i := 1245) (by decide +kernel), List.mem_of_getElem? (i := 1805) (by decide +kernel), List.mem_of_getElem? (i := 1806) (by decide +kernel)⟩
theorem lw_p88 : lw_okq (⟨"DiscLatheModel", "tryRow", "(III)V"⟩, 74) := ⟨⟨by decide +kernel, by decide +kernel⟩, List.mem_of_getElem? (i := 1245) (by decide +kernel), List.mem_of_getElem? (i := 1809) (by decide +kernel), List.mem_of_getElem? (i := 1810) (by decide +kernel)⟩
theorem lw_p89 : lw_okq (⟨"DiscLatheModel", "isCause", "(I)Z"⟩, 74) := ⟨⟨by decide +kernel, by decide +kernel⟩, List.mem_of_getElem? (i := 1245) (by decide +kernel), List.mem_of_getElem? (i := 1855) (by decide +kernel), List.mem_of_getElem? (i := 1856) (by decide +kernel)⟩
theorem lw_p90 : lw_okq (⟨"DiscLatheModel", "causes", "()I"⟩, 74) := ⟨⟨by decide +kernel, by decide +kernel⟩, List.mem_of_getElem? (i := 1245) (by decide +kernel), List.mem_of_getElem? (i := 1859) (by decide +kernel), List.mem_of_getElem? (i := 1860) (by decide +kernel)⟩
theorem lw_p91 : lw_okq (⟨"DiscLatheModel", "worns", "()I"⟩, 74) := ⟨⟨by decide +kernel, by decide +kernel⟩, List.mem_of_getElem? (i := 1245) (by decide +kernel), List.mem_of_getElem? (i := 1863) (by decide +kernel), List.mem_of_getElem? (i := 1864) (by decide +kernel)⟩
theorem lw_p92 : lw_okq (⟨"DiscLatheModel", "dulls", "()I"⟩, 74) := ⟨⟨by decide +kernel, by decide +kernel⟩, List.mem_of_getElem? (i := 1245) (by decide +kernel), List.mem_of_getElem? (i := 1867) (by decide +kernel), List.mem_of_getElem? (i := 1868) (by decide +kernel)⟩
theorem lw_p93 : lw_okq (⟨"DiscLatheModel", "wornOf", "(I)I"⟩, 74) := ⟨⟨by decide +kernel, by decide +kernel⟩, List.mem_of_getElem? (i := 1245) (by decide +kernel), List.mem_of_getElem? (i := 1872) (by decide +kernel), List.mem_of_getElem? (i := 1873) (by decide +kernel)⟩
theorem lw_p94 : lw_okq (⟨"DiscLatheModel", "dullOf", "(I)I"⟩, 74) := ⟨⟨by decide +kernel, by decide +kernel⟩, List.mem_of_getElem? (i := 1245) (by decide +kernel), List.mem_of_getElem? (i := 1876) (by decide +kernel), List.mem_of_getElem? (i := 1877) (by decide +kernel)⟩
theorem lw_p95 : lw_okq (⟨"DiscLatheModel", "heatOf", "(I)I"⟩, 74) := ⟨⟨by decide +kernel, by decide +kernel⟩, List.mem_of_getElem? (i := 1245) (by decide +kernel), List.mem_of_getElem? (i := 1880) (by decide +kernel), List.mem_of_getElem? (i := 1881) (by decide +kernel)⟩
def lw_privs_6 : List (MethodName × Nat) := [(⟨"DiscLatheModel", "down", "(I)I"⟩, 74), (⟨"DiscLatheModel", "isSteep", "(I)Z"⟩, 74), (⟨"DiscLatheModel", "isLate", "(I)Z"⟩, 74), (⟨"DiscLatheModel", "canFile", "(II)Z"⟩, 74), (⟨"DiscLatheModel", "hasStep", "(I)Z"⟩, 74), (⟨"DiscLatheModel", "give", "(IIII)V"⟩, 74), (⟨"DiscLatheModel", "isWheel", "(I)Z"⟩, 74), (⟨"DiscLatheModel", "rows", "(IIIII)V"⟩, 74), (⟨"DiscLatheModel", "tryRow", "(III)V"⟩, 74), (⟨"DiscLatheModel", "isCause", "(I)Z"⟩, 74), (⟨"DiscLatheModel", "causes", "()I"⟩, 74), (⟨"DiscLatheModel", "worns", "()I"⟩, 74), (⟨"DiscLatheModel", "dulls", "()I"⟩, 74), (⟨"DiscLatheModel", "wornOf", "(I)I"⟩, 74), (⟨"DiscLatheModel", "dullOf", "(I)I"⟩, 74), (⟨"DiscLatheModel", "heatOf", "(I)I"⟩, 74)]
theorem lw_r6 : ∀ q ∈ lw_privs_6, lw_okq q := List.forall_mem_cons.mpr ⟨lw_p80, List.forall_mem_cons.mpr ⟨lw_p81, List.forall_mem_cons.mpr ⟨lw_p82, List.forall_mem_cons.mpr ⟨lw_p83, List.forall_mem_cons.mpr ⟨lw_p84, List.forall_mem_cons.mpr ⟨lw_p85, List.forall_mem_cons.mpr ⟨lw_p86, List.forall_mem_cons.mpr ⟨lw_p87, List.forall_mem_cons.mpr ⟨lw_p88, List.forall_mem_cons.mpr ⟨lw_p89, List.forall_mem_cons.mpr ⟨lw_p90, List.forall_mem_cons.mpr ⟨lw_p91, List.forall_mem_cons.mpr ⟨lw_p92, List.forall_mem_cons.mpr ⟨lw_p93, List.forall_mem_cons.mpr ⟨lw_p94, List.forall_mem_cons.mpr ⟨lw_p95, fun _ h => absurd h List.not_mem_nil⟩⟩⟩⟩⟩⟩⟩⟩⟩⟩⟩⟩⟩⟩⟩⟩
theorem lw_p96 : lw_okq (⟨"DiscLatheModel", "tellsOf", "(III)I"⟩, 74) := ⟨⟨by decide +kernel, by decide +kernel⟩, List.mem_of_getElem? (i := 1245) (by decide +kernel), List.mem_of_getElem? (i := 1888) (by decide +kernel), List.mem_of_getElem? (i := 1889) (by decide +kernel)⟩
theorem lw_p97 : lw_okq (⟨"DiscLatheModel", "findFit", "(I)V"⟩, 74) := ⟨⟨by decide +kernel, by decide +kernel⟩, List.mem_of_getElem? (i := 1245) (by decide +kernel), List.mem_of_getElem? (i := 1899) (by decide +kernel), List.mem_of_getElem? (i := 1900) (by decide +kernel)⟩
theorem lw_p98 : lw_okq (⟨"DiscLatheModel", "offAsKnown", "(II)I"⟩, 74) := ⟨⟨by decide +kernel, by decide +kernel⟩, List.mem_of_getElem? (i := 1245) (by decide +kernel), List.mem_of_getElem? (i := 1903) (by decide +kernel), List.mem_of_getElem? (i := 1904) (by decide +kernel)⟩
theorem lw_p99 : lw_okq (⟨"DiscLatheModel", "isFit", "(I)Z"⟩, 74) := ⟨⟨by decide +kernel, by decide +kernel⟩, List.mem_of_getElem? (i := 1245) (by decide +kernel), List.mem_of_getElem? (i := 1911) (by decide +kernel), List.mem_of_getElem? (i := 1912) (by decide +kernel)⟩
theorem lw_p100 : lw_okq (⟨"DiscLatheModel", "surely", "(I)I"⟩, 74) := ⟨⟨by decide +kernel, by decide +kernel⟩, List.mem_of_getElem? (i := 1245) (by decide +kernel), List.mem_of_getElem? (i := 1915) (by decide +kernel), List.mem_of_getElem? (i := 1916) (by decide +kernel)⟩
theorem lw_p101 : lw_okq (⟨"DiscLatheModel", "mostAlike", "(II)I"⟩, 74) := ⟨⟨by decide +kernel, by decide +kernel⟩, List.mem_of_getElem? (i := 1245) (by decide +kernel), List.mem_of_getElem? (i := 1927) (by decide +kernel), List.mem_of_getElem? (i := 1928) (by decide +kernel)⟩
def lw_privs_7 : List (MethodName × Nat) := [(⟨"DiscLatheModel", "tellsOf", "(III)I"⟩, 74), (⟨"DiscLatheModel", "findFit", "(I)V"⟩, 74), (⟨"DiscLatheModel", "offAsKnown", "(II)I"⟩, 74), (⟨"DiscLatheModel", "isFit", "(I)Z"⟩, 74), (⟨"DiscLatheModel", "surely", "(I)I"⟩, 74), (⟨"DiscLatheModel", "mostAlike", "(II)I"⟩, 74)]
theorem lw_r7 : ∀ q ∈ lw_privs_7, lw_okq q := List.forall_mem_cons.mpr ⟨lw_p96, List.forall_mem_cons.mpr ⟨lw_p97, List.forall_mem_cons.mpr ⟨lw_p98, List.forall_mem_cons.mpr ⟨lw_p99, List.forall_mem_cons.mpr ⟨lw_p100, List.forall_mem_cons.mpr ⟨lw_p101, fun _ h => absurd h List.not_mem_nil⟩⟩⟩⟩⟩⟩
def lw_privs : List (MethodName × Nat) := lw_privs_1 ++ (lw_privs_2 ++ (lw_privs_3 ++ (lw_privs_4 ++ (lw_privs_5 ++ (lw_privs_6 ++ (lw_privs_7))))))
def lw_tbl : List Cond := k2_sels lw_privs ++ tables_1
theorem lw_privs_ok : ∀ q ∈ lw_privs, lw_okq q := by
  show ∀ q ∈ lw_privs_1 ++ (lw_privs_2 ++ (lw_privs_3 ++ (lw_privs_4 ++ (lw_privs_5 ++ (lw_privs_6 ++ (lw_privs_7)))))), lw_okq q
  exact List.forall_mem_append.mpr ⟨lw_r1, List.forall_mem_append.mpr ⟨lw_r2, List.forall_mem_append.mpr ⟨lw_r3, List.forall_mem_append.mpr ⟨lw_r4, List.forall_mem_append.mpr ⟨lw_r5, List.forall_mem_append.mpr ⟨lw_r6, lw_r7⟩⟩⟩⟩⟩⟩
def RX0 : String := "DiscLathe$Cause"
def TX0 : u_T := fun k => match k with
  | 0 => ("DiscLathe$Cause", "part", "LDiscLathe$Part;", true)
  | 1 => ("DiscLathe$Cause", "heat", "I", false)
  | 2 => ("DiscLathe$Cause", "wornTool", "I", false)
  | 3 => ("DiscLathe$Cause", "from", "I", false)
  | 4 => ("DiscLathe$Cause", "wornBy", "I", false)
  | 5 => ("DiscLathe$Cause", "dullStep", "I", false)
  | _ => ("DiscLathe$Cause", "dullBy", "I", false)
def tyX0 : Nat → FieldType := fun k => match k with
  | 0 => .object "DiscLathe$Part"
  | 1 => .int
  | 2 => .int
  | 3 => .int
  | 4 => .int
  | 5 => .int
  | _ => .int
theorem nmX0 : ∀ a, a < 7 → ∀ b, b < 7 → a ≠ b → (TX0 a).2.1 ≠ (TX0 b).2.1 := by decide +kernel
theorem tyX0_ok : ∀ k, k < 7 → parseFieldDescriptor (TX0 k).2.2.1 = some (tyX0 k) := by decide +kernel
abbrev cX0_init : ByteArray := prog_2_method_1_code
def yX0_init : MethodName := ⟨RX0, "<init>", "(LDiscLathe$Part;)V"⟩
abbrev cX0_heatOff : ByteArray := prog_2_method_2_code
def yX0_heatOff : MethodName := ⟨RX0, "heatOff", "(II)I"⟩
abbrev cX0_dullOff : ByteArray := prog_2_method_3_code
def yX0_dullOff : MethodName := ⟨RX0, "dullOff", "(III)I"⟩
abbrev cX0_dullBy : ByteArray := prog_2_method_4_code
def yX0_dullBy : MethodName := ⟨RX0, "dullBy", "(II)I"⟩
abbrev cX0_load : ByteArray := prog_2_method_5_code
def yX0_load : MethodName := ⟨RX0, "load", "(I)Z"⟩
abbrev cX0_loadDull : ByteArray := prog_2_method_6_code
def yX0_loadDull : MethodName := ⟨RX0, "loadDull", "(I)V"⟩
abbrev cX0_loadWorn : ByteArray := prog_2_method_7_code
def yX0_loadWorn : MethodName := ⟨RX0, "loadWorn", "(I)V"⟩
abbrev cX0_offBy : ByteArray := prog_2_method_8_code
def yX0_offBy : MethodName := ⟨RX0, "offBy", "(II)I"⟩
abbrev cX0_binOf : ByteArray := prog_2_method_9_code
def yX0_binOf : MethodName := ⟨RX0, "binOf", "(II)I"⟩
def RX1 : String := "DiscLathe$Discs"
def TX1 : u_T := fun k => match k with
  | 0 => ("DiscLathe$Discs", "part", "LDiscLathe$Part;", true)
  | 1 => ("DiscLathe$Discs", "plan", "LDiscLathe$Plan;", true)
  | 2 => ("DiscLathe$Discs", "markA", "[I", true)
  | 3 => ("DiscLathe$Discs", "markC", "[I", true)
  | _ => ("DiscLathe$Discs", "markB", "[I", true)
def tyX1 : Nat → FieldType := fun k => match k with
  | 0 => .object "DiscLathe$Part"
  | 1 => .object "DiscLathe$Plan"
  | 2 => .array .int
  | 3 => .array .int
  | _ => .array .int
theorem nmX1 : ∀ a, a < 5 → ∀ b, b < 5 → a ≠ b → (TX1 a).2.1 ≠ (TX1 b).2.1 := by decide +kernel
theorem tyX1_ok : ∀ k, k < 5 → parseFieldDescriptor (TX1 k).2.2.1 = some (tyX1 k) := by decide +kernel
abbrev cX1_init : ByteArray := prog_3_method_1_code
def yX1_init : MethodName := ⟨RX1, "<init>", "(LDiscLathe$Part;LDiscLathe$Plan;)V"⟩
abbrev cX1_layOut : ByteArray := prog_3_method_2_code
def yX1_layOut : MethodName := ⟨RX1, "layOut", "()V"⟩
abbrev cX1_markOf : ByteArray := prog_3_method_3_code
def yX1_markOf : MethodName := ⟨RX1, "markOf", "(I)I"⟩
abbrev cX1_stepHeight : ByteArray := prog_3_method_4_code
def yX1_stepHeight : MethodName := ⟨RX1, "stepHeight", "(II)I"⟩
abbrev cX1_discHeight : ByteArray := prog_3_method_5_code
def yX1_discHeight : MethodName := ⟨RX1, "discHeight", "(II)I"⟩
abbrev cX1_isSteep : ByteArray := prog_3_method_6_code
def yX1_isSteep : MethodName := ⟨RX1, "isSteep", "(I)Z"⟩
abbrev cX1_isLate : ByteArray := prog_3_method_7_code
def yX1_isLate : MethodName := ⟨RX1, "isLate", "(I)Z"⟩
abbrev cX1_leastSlope : ByteArray := prog_3_method_8_code
def yX1_leastSlope : MethodName := ⟨RX1, "leastSlope", "(I)I"⟩
def RX2 : String := "DiscLathe$Fits"
def TX2 : u_T := fun k => match k with
  | 0 => ("DiscLathe$Fits", "part", "LDiscLathe$Part;", true)
  | 1 => ("DiscLathe$Fits", "gauged", "LDiscLathe$Gauged;", true)
  | 2 => ("DiscLathe$Fits", "viewed", "I", false)
  | 3 => ("DiscLathe$Fits", "total", "I", false)
  | 4 => ("DiscLathe$Fits", "least", "I", false)
  | 5 => ("DiscLathe$Fits", "blocks", "I", false)
  | 6 => ("DiscLathe$Fits", "heatOf", "[I", true)
  | 7 => ("DiscLathe$Fits", "dullOf", "[I", true)
  | 8 => ("DiscLathe$Fits", "toolOf", "[I", true)
  | 9 => ("DiscLathe$Fits", "firstFrom", "[I", true)
  | 10 => ("DiscLathe$Fits", "lastFrom", "[I", true)
  | 11 => ("DiscLathe$Fits", "leastBy", "[I", true)
  | 12 => ("DiscLathe$Fits", "mostBy", "[I", true)
  | 13 => ("DiscLathe$Fits", "lastEven", "[I", true)
  | 14 => ("DiscLathe$Fits", "firstOdd", "[I", true)
  | _ => ("DiscLathe$Fits", "oddBy", "[I", true)
def tyX2 : Nat → FieldType := fun k => match k with
  | 0 => .object "DiscLathe$Part"
  | 1 => .object "DiscLathe$Gauged"
  | 2 => .int
  | 3 => .int
  | 4 => .int
  | 5 => .int
  | 6 => .array .int
  | 7 => .array .int
  | 8 => .array .int
  | 9 => .array .int
  | 10 => .array .int
  | 11 => .array .int
  | 12 => .array .int
  | 13 => .array .int
  | 14 => .array .int
  | _ => .array .int
theorem nmX2 : ∀ a, a < 16 → ∀ b, b < 16 → a ≠ b → (TX2 a).2.1 ≠ (TX2 b).2.1 := by decide +kernel
theorem tyX2_ok : ∀ k, k < 16 → parseFieldDescriptor (TX2 k).2.2.1 = some (tyX2 k) := by decide +kernel
abbrev cX2_init : ByteArray := prog_4_method_1_code
def yX2_init : MethodName := ⟨RX2, "<init>", "(LDiscLathe$Part;LDiscLathe$Gauged;)V"⟩
abbrev cX2_forget : ByteArray := prog_4_method_2_code
def yX2_forget : MethodName := ⟨RX2, "forget", "()V"⟩
abbrev cX2_view : ByteArray := prog_4_method_3_code
def yX2_view : MethodName := ⟨RX2, "view", "(I)V"⟩
abbrev cX2_addBlocks : ByteArray := prog_4_method_4_code
def yX2_addBlocks : MethodName := ⟨RX2, "addBlocks", "(II)V"⟩
abbrev cX2_splitRests : ByteArray := prog_4_method_5_code
def yX2_splitRests : MethodName := ⟨RX2, "splitRests", "(II)I"⟩
abbrev cX2_addBlock : ByteArray := prog_4_method_6_code
def yX2_addBlock : MethodName := ⟨RX2, "addBlock", "(IIIIIII)V"⟩
abbrev cX2_sizeOf : ByteArray := prog_4_method_7_code
def yX2_sizeOf : MethodName := ⟨RX2, "sizeOf", "(I)I"⟩
abbrev cX2_countWorn : ByteArray := prog_4_method_8_code
def yX2_countWorn : MethodName := ⟨RX2, "countWorn", "(I)I"⟩
abbrev cX2_countDull : ByteArray := prog_4_method_9_code
def yX2_countDull : MethodName := ⟨RX2, "countDull", "(I)I"⟩
abbrev cX2_surely : ByteArray := prog_4_method_10_code
def yX2_surely : MethodName := ⟨RX2, "surely", "(I)I"⟩
abbrev cX2_firstBeyond : ByteArray := prog_4_method_11_code
def yX2_firstBeyond : MethodName := ⟨RX2, "firstBeyond", "(I)I"⟩
abbrev cX2_canGoBeyond : ByteArray := prog_4_method_12_code
def yX2_canGoBeyond : MethodName := ⟨RX2, "canGoBeyond", "(II)Z"⟩
abbrev cX2_isBeyond : ByteArray := prog_4_method_13_code
def yX2_isBeyond : MethodName := ⟨RX2, "isBeyond", "(III)Z"⟩
def RX3 : String := "DiscLathe$Gauged"
def TX3 : u_T := fun k => match k with
  | 0 => ("DiscLathe$Gauged", "size", "I", false)
  | 1 => ("DiscLathe$Gauged", "rights", "I", false)
  | 2 => ("DiscLathe$Gauged", "latestStage", "I", false)
  | 3 => ("DiscLathe$Gauged", "stage", "[I", true)
  | 4 => ("DiscLathe$Gauged", "partOf", "[I", true)
  | 5 => ("DiscLathe$Gauged", "stepOf", "[I", true)
  | 6 => ("DiscLathe$Gauged", "offOf", "[I", true)
  | 7 => ("DiscLathe$Gauged", "rightStage", "[I", true)
  | 8 => ("DiscLathe$Gauged", "rightOf", "[I", true)
  | 9 => ("DiscLathe$Gauged", "rightOff", "[I", true)
  | 10 => ("DiscLathe$Gauged", "seen", "I", false)
  | 11 => ("DiscLathe$Gauged", "seenPart", "[I", true)
  | 12 => ("DiscLathe$Gauged", "seenStep", "[I", true)
  | _ => ("DiscLathe$Gauged", "seenOff", "[I", true)
def tyX3 : Nat → FieldType := fun k => match k with
  | 0 => .int
  | 1 => .int
  | 2 => .int
  | 3 => .array .int
  | 4 => .array .int
  | 5 => .array .int
  | 6 => .array .int
  | 7 => .array .int
  | 8 => .array .int
  | 9 => .array .int
  | 10 => .int
  | 11 => .array .int
  | 12 => .array .int
  | _ => .array .int
theorem nmX3 : ∀ a, a < 14 → ∀ b, b < 14 → a ≠ b → (TX3 a).2.1 ≠ (TX3 b).2.1 := by decide +kernel
theorem tyX3_ok : ∀ k, k < 14 → parseFieldDescriptor (TX3 k).2.2.1 = some (tyX3 k) := by decide +kernel
abbrev cX3_init : ByteArray := prog_5_method_1_code
def yX3_init : MethodName := ⟨RX3, "<init>", "()V"⟩
abbrev cX3_clear : ByteArray := prog_5_method_2_code
def yX3_clear : MethodName := ⟨RX3, "clear", "()V"⟩
abbrev cX3_add : ByteArray := prog_5_method_3_code
def yX3_add : MethodName := ⟨RX3, "add", "(IIII)I"⟩
abbrev cX3_putRight : ByteArray := prog_5_method_4_code
def yX3_putRight : MethodName := ⟨RX3, "putRight", "(III)I"⟩
abbrev cX3_look : ByteArray := prog_5_method_5_code
def yX3_look : MethodName := ⟨RX3, "look", "(I)V"⟩
abbrev cX3_offAsKnown : ByteArray := prog_5_method_6_code
def yX3_offAsKnown : MethodName := ⟨RX3, "offAsKnown", "(II)I"⟩
def RX4 : String := "DiscLathe$NextPick"
def TX4 : u_T := fun k => match k with
  | 0 => ("DiscLathe$NextPick", "part", "LDiscLathe$Part;", true)
  | 1 => ("DiscLathe$NextPick", "fits", "LDiscLathe$Fits;", true)
  | 2 => ("DiscLathe$NextPick", "others", "[I", true)
  | 3 => ("DiscLathe$NextPick", "telling", "[I", true)
  | 4 => ("DiscLathe$NextPick", "joining", "[I", true)
  | 5 => ("DiscLathe$NextPick", "edges", "[I", true)
  | 6 => ("DiscLathe$NextPick", "alike", "[I", true)
  | 7 => ("DiscLathe$NextPick", "fewest", "I", false)
  | _ => ("DiscLathe$NextPick", "picked", "I", false)
def tyX4 : Nat → FieldType := fun k => match k with
  | 0 => .object "DiscLathe$Part"
  | 1 => .object "DiscLathe$Fits"
  | 2 => .array .int
  | 3 => .array .int
  | 4 => .array .int
  | 5 => .array .int
  | 6 => .array .int
  | 7 => .int
  | _ => .int
theorem nmX4 : ∀ a, a < 9 → ∀ b, b < 9 → a ≠ b → (TX4 a).2.1 ≠ (TX4 b).2.1 := by decide +kernel
theorem tyX4_ok : ∀ k, k < 9 → parseFieldDescriptor (TX4 k).2.2.1 = some (tyX4 k) := by decide +kernel
abbrev cX4_init : ByteArray := prog_6_method_1_code
def yX4_init : MethodName := ⟨RX4, "<init>", "(LDiscLathe$Part;LDiscLathe$Fits;)V"⟩
abbrev cX4_pick : ByteArray := prog_6_method_2_code
def yX4_pick : MethodName := ⟨RX4, "pick", "()I"⟩
abbrev cX4_weigh : ByteArray := prog_6_method_3_code
def yX4_weigh : MethodName := ⟨RX4, "weigh", "(II)V"⟩
abbrev cX4_sortBlocks : ByteArray := prog_6_method_4_code
def yX4_sortBlocks : MethodName := ⟨RX4, "sortBlocks", "(I)V"⟩
abbrev cX4_mostAlike : ByteArray := prog_6_method_5_code
def yX4_mostAlike : MethodName := ⟨RX4, "mostAlike", "(I)I"⟩
def RX5 : String := "DiscLathe$OldDiscs"
def TX5 : u_T := fun k => match k with
  | 0 => ("DiscLathe$OldDiscs", "part", "LDiscLathe$Part;", true)
  | 1 => ("DiscLathe$OldDiscs", "discs", "LDiscLathe$Discs;", true)
  | 2 => ("DiscLathe$OldDiscs", "heights", "[[I", true)
  | 3 => ("DiscLathe$OldDiscs", "gets", "[I", true)
  | 4 => ("DiscLathe$OldDiscs", "wanted", "[I", true)
  | 5 => ("DiscLathe$OldDiscs", "turns", "[[I", true)
  | 6 => ("DiscLathe$OldDiscs", "bases", "[[I", true)
  | 7 => ("DiscLathe$OldDiscs", "sums", "[[I", true)
  | 8 => ("DiscLathe$OldDiscs", "choice", "[I", true)
  | _ => ("DiscLathe$OldDiscs", "bestSum", "I", false)
def tyX5 : Nat → FieldType := fun k => match k with
  | 0 => .object "DiscLathe$Part"
  | 1 => .object "DiscLathe$Discs"
  | 2 => .array (.array .int)
  | 3 => .array .int
  | 4 => .array .int
  | 5 => .array (.array .int)
  | 6 => .array (.array .int)
  | 7 => .array (.array .int)
  | 8 => .array .int
  | _ => .int
theorem nmX5 : ∀ a, a < 10 → ∀ b, b < 10 → a ≠ b → (TX5 a).2.1 ≠ (TX5 b).2.1 := by decide +kernel
theorem tyX5_ok : ∀ k, k < 10 → parseFieldDescriptor (TX5 k).2.2.1 = some (tyX5 k) := by decide +kernel
abbrev cX5_init : ByteArray := prog_7_method_1_code
def yX5_init : MethodName := ⟨RX5, "<init>", "(LDiscLathe$Part;LDiscLathe$Discs;)V"⟩
abbrev cX5_forgetPart : ByteArray := prog_7_method_2_code
def yX5_forgetPart : MethodName := ⟨RX5, "forgetPart", "()V"⟩
abbrev cX5_forgetTurns : ByteArray := prog_7_method_3_code
def yX5_forgetTurns : MethodName := ⟨RX5, "forgetTurns", "(I)V"⟩
abbrev cX5_readRow : ByteArray := prog_7_method_4_code
def yX5_readRow : MethodName := ⟨RX5, "readRow", "(ILDiscLathe$Tape;)I"⟩
abbrev cX5_heightOn : ByteArray := prog_7_method_5_code
def yX5_heightOn : MethodName := ⟨RX5, "heightOn", "(LDiscLathe$Tape;I)I"⟩
abbrev cX5_putAway : ByteArray := prog_7_method_6_code
def yX5_putAway : MethodName := ⟨RX5, "putAway", "(III)I"⟩
abbrev cX5_bestTurn : ByteArray := prog_7_method_7_code
def yX5_bestTurn : MethodName := ⟨RX5, "bestTurn", "(II)I"⟩
abbrev cX5_bestBase : ByteArray := prog_7_method_8_code
def yX5_bestBase : MethodName := ⟨RX5, "bestBase", "(II)I"⟩
abbrev cX5_filedOff : ByteArray := prog_7_method_9_code
def yX5_filedOff : MethodName := ⟨RX5, "filedOff", "(II)I"⟩
abbrev cX5_findTurn : ByteArray := prog_7_method_10_code
def yX5_findTurn : MethodName := ⟨RX5, "findTurn", "(II)V"⟩
abbrev cX5_baseAt : ByteArray := prog_7_method_11_code
def yX5_baseAt : MethodName := ⟨RX5, "baseAt", "([III)I"⟩
abbrev cX5_shareOut : ByteArray := prog_7_method_12_code
def yX5_shareOut : MethodName := ⟨RX5, "shareOut", "(I)I"⟩
abbrev cX5_choose : ByteArray := prog_7_method_13_code
def yX5_choose : MethodName := ⟨RX5, "choose", "(IIII)V"⟩
abbrev cX5_hasStep : ByteArray := prog_7_method_14_code
def yX5_hasStep : MethodName := ⟨RX5, "hasStep", "(I)Z"⟩
def RX6 : String := "DiscLathe$Part"
def TX6 : u_T := fun k => match k with
  | 0 => ("DiscLathe$Part", "clauses", "I", false)
  | 1 => ("DiscLathe$Part", "tools", "I", false)
  | 2 => ("DiscLathe$Part", "steps", "I", false)
  | 3 => ("DiscLathe$Part", "idle", "I", false)
  | 4 => ("DiscLathe$Part", "names", "[J", true)
  | 5 => ("DiscLathe$Part", "feed", "[I", true)
  | 6 => ("DiscLathe$Part", "slope", "[I", true)
  | 7 => ("DiscLathe$Part", "meets", "[I", true)
  | 8 => ("DiscLathe$Part", "toolOf", "[I", true)
  | 9 => ("DiscLathe$Part", "rise", "[I", true)
  | 10 => ("DiscLathe$Part", "dwell", "[I", true)
  | _ => ("DiscLathe$Part", "waits", "[I", true)
def tyX6 : Nat → FieldType := fun k => match k with
  | 0 => .int
  | 1 => .int
  | 2 => .int
  | 3 => .int
  | 4 => .array .long
  | 5 => .array .int
  | 6 => .array .int
  | 7 => .array .int
  | 8 => .array .int
  | 9 => .array .int
  | 10 => .array .int
  | _ => .array .int
theorem nmX6 : ∀ a, a < 12 → ∀ b, b < 12 → a ≠ b → (TX6 a).2.1 ≠ (TX6 b).2.1 := by decide +kernel
theorem tyX6_ok : ∀ k, k < 12 → parseFieldDescriptor (TX6 k).2.2.1 = some (tyX6 k) := by decide +kernel
abbrev cX6_init : ByteArray := prog_8_method_1_code
def yX6_init : MethodName := ⟨RX6, "<init>", "()V"⟩
abbrev cX6_clear : ByteArray := prog_8_method_2_code
def yX6_clear : MethodName := ⟨RX6, "clear", "()V"⟩
abbrev cX6_become : ByteArray := prog_8_method_3_code
def yX6_become : MethodName := ⟨RX6, "become", "(LDiscLathe$Part;)V"⟩
abbrev cX6_toolNamed : ByteArray := prog_8_method_4_code
def yX6_toolNamed : MethodName := ⟨RX6, "toolNamed", "(J)I"⟩
abbrev cX6_addTool : ByteArray := prog_8_method_5_code
def yX6_addTool : MethodName := ⟨RX6, "addTool", "(JII)V"⟩
abbrev cX6_addStep : ByteArray := prog_8_method_6_code
def yX6_addStep : MethodName := ⟨RX6, "addStep", "(III)V"⟩
abbrev cX6_risingTurns : ByteArray := prog_8_method_7_code
def yX6_risingTurns : MethodName := ⟨RX6, "risingTurns", "(I)I"⟩
abbrev cX6_turnsOf : ByteArray := prog_8_method_8_code
def yX6_turnsOf : MethodName := ⟨RX6, "turnsOf", "(I)I"⟩
abbrev cX6_apartFrom : ByteArray := prog_8_method_9_code
def yX6_apartFrom : MethodName := ⟨RX6, "apartFrom", "(I)I"⟩
abbrev cX6_wornWays : ByteArray := prog_8_method_10_code
def yX6_wornWays : MethodName := ⟨RX6, "wornWays", "()I"⟩
abbrev cX6_dullWays : ByteArray := prog_8_method_11_code
def yX6_dullWays : MethodName := ⟨RX6, "dullWays", "()I"⟩
abbrev cX6_causes : ByteArray := prog_8_method_12_code
def yX6_causes : MethodName := ⟨RX6, "causes", "()I"⟩
def RX7 : String := "DiscLathe$PartReader"
def TX7 : u_T := fun k => match k with
  | 0 => ("DiscLathe$PartReader", "tape", "LDiscLathe$Tape;", true)
  | 1 => ("DiscLathe$PartReader", "draft", "LDiscLathe$Part;", true)
  | 2 => ("DiscLathe$PartReader", "isIdleTold", "Z", false)
  | 3 => ("DiscLathe$PartReader", "faultKind", "I", false)
  | _ => ("DiscLathe$PartReader", "faultPlace", "I", false)
def tyX7 : Nat → FieldType := fun k => match k with
  | 0 => .object "DiscLathe$Tape"
  | 1 => .object "DiscLathe$Part"
  | 2 => .boolean
  | 3 => .int
  | _ => .int
theorem nmX7 : ∀ a, a < 5 → ∀ b, b < 5 → a ≠ b → (TX7 a).2.1 ≠ (TX7 b).2.1 := by decide +kernel
theorem tyX7_ok : ∀ k, k < 5 → parseFieldDescriptor (TX7 k).2.2.1 = some (tyX7 k) := by decide +kernel
abbrev cX7_init : ByteArray := prog_9_method_1_code
def yX7_init : MethodName := ⟨RX7, "<init>", "(LDiscLathe$Tape;)V"⟩
abbrev cX7_readText : ByteArray := prog_9_method_2_code
def yX7_readText : MethodName := ⟨RX7, "readText", "()Z"⟩
abbrev cX7_refuse : ByteArray := prog_9_method_3_code
def yX7_refuse : MethodName := ⟨RX7, "refuse", "(I)Z"⟩
abbrev cX7_readClause : ByteArray := prog_9_method_4_code
def yX7_readClause : MethodName := ⟨RX7, "readClause", "()Z"⟩
abbrev cX7_readTool : ByteArray := prog_9_method_5_code
def yX7_readTool : MethodName := ⟨RX7, "readTool", "()Z"⟩
abbrev cX7_readStep : ByteArray := prog_9_method_6_code
def yX7_readStep : MethodName := ⟨RX7, "readStep", "()Z"⟩
abbrev cX7_readAfter : ByteArray := prog_9_method_7_code
def yX7_readAfter : MethodName := ⟨RX7, "readAfter", "()Z"⟩
abbrev cX7_readMeet : ByteArray := prog_9_method_8_code
def yX7_readMeet : MethodName := ⟨RX7, "readMeet", "()Z"⟩
abbrev cX7_readIdle : ByteArray := prog_9_method_9_code
def yX7_readIdle : MethodName := ⟨RX7, "readIdle", "()Z"⟩
abbrev cX7_advanceTo : ByteArray := prog_9_method_10_code
def yX7_advanceTo : MethodName := ⟨RX7, "advanceTo", "(I)Z"⟩
abbrev cX7_stayOn : ByteArray := prog_9_method_11_code
def yX7_stayOn : MethodName := ⟨RX7, "stayOn", "(I)Z"⟩
abbrev cX7_advanceToNumber : ByteArray := prog_9_method_12_code
def yX7_advanceToNumber : MethodName := ⟨RX7, "advanceToNumber", "(II)Z"⟩
abbrev cX7_stayWithin : ByteArray := prog_9_method_13_code
def yX7_stayWithin : MethodName := ⟨RX7, "stayWithin", "(II)Z"⟩
abbrev cX7_advanceToToolName : ByteArray := prog_9_method_14_code
def yX7_advanceToToolName : MethodName := ⟨RX7, "advanceToToolName", "()Z"⟩
def RX8 : String := "DiscLathe$Plan"
def TX8 : u_T := fun k => match k with
  | 0 => ("DiscLathe$Plan", "part", "LDiscLathe$Part;", true)
  | 1 => ("DiscLathe$Plan", "begin", "[I", true)
  | 2 => ("DiscLathe$Plan", "length", "I", false)
  | 3 => ("DiscLathe$Plan", "isFound", "Z", false)
  | 4 => ("DiscLathe$Plan", "turns", "[I", true)
  | 5 => ("DiscLathe$Plan", "tail", "[I", true)
  | 6 => ("DiscLathe$Plan", "apart", "[I", true)
  | 7 => ("DiscLathe$Plan", "queue", "[I", true)
  | 8 => ("DiscLathe$Plan", "trial", "[I", true)
  | 9 => ("DiscLathe$Plan", "soonest", "[I", true)
  | _ => ("DiscLathe$Plan", "ready", "[[I", true)
def tyX8 : Nat → FieldType := fun k => match k with
  | 0 => .object "DiscLathe$Part"
  | 1 => .array .int
  | 2 => .int
  | 3 => .boolean
  | 4 => .array .int
  | 5 => .array .int
  | 6 => .array .int
  | 7 => .array .int
  | 8 => .array .int
  | 9 => .array .int
  | _ => .array (.array .int)
theorem nmX8 : ∀ a, a < 11 → ∀ b, b < 11 → a ≠ b → (TX8 a).2.1 ≠ (TX8 b).2.1 := by decide +kernel
theorem tyX8_ok : ∀ k, k < 11 → parseFieldDescriptor (TX8 k).2.2.1 = some (tyX8 k) := by decide +kernel
abbrev cX8_init : ByteArray := prog_10_method_1_code
def yX8_init : MethodName := ⟨RX8, "<init>", "(LDiscLathe$Part;)V"⟩
abbrev cX8_layOut : ByteArray := prog_10_method_2_code
def yX8_layOut : MethodName := ⟨RX8, "layOut", "()V"⟩
abbrev cX8_longestTailBehind : ByteArray := prog_10_method_3_code
def yX8_longestTailBehind : MethodName := ⟨RX8, "longestTailBehind", "(I)I"⟩
abbrev cX8_queueWith : ByteArray := prog_10_method_4_code
def yX8_queueWith : MethodName := ⟨RX8, "queueWith", "(I)I"⟩
abbrev cX8_neverWith : ByteArray := prog_10_method_5_code
def yX8_neverWith : MethodName := ⟨RX8, "neverWith", "(I)I"⟩
abbrev cX8_putIn : ByteArray := prog_10_method_6_code
def yX8_putIn : MethodName := ⟨RX8, "putIn", "(IIII)V"⟩
abbrev cX8_isAhead : ByteArray := prog_10_method_7_code
def yX8_isAhead : MethodName := ⟨RX8, "isAhead", "(III)Z"⟩
abbrev cX8_holdBack : ByteArray := prog_10_method_8_code
def yX8_holdBack : MethodName := ⟨RX8, "holdBack", "(III)V"⟩
abbrev cX8_canBeat : ByteArray := prog_10_method_9_code
def yX8_canBeat : MethodName := ⟨RX8, "canBeat", "(IIII)Z"⟩
abbrev cX8_soonestOf : ByteArray := prog_10_method_10_code
def yX8_soonestOf : MethodName := ⟨RX8, "soonestOf", "(IIII)I"⟩
abbrev cX8_queueBound : ByteArray := prog_10_method_11_code
def yX8_queueBound : MethodName := ⟨RX8, "queueBound", "(I)I"⟩
abbrev cX8_isHeld : ByteArray := prog_10_method_12_code
def yX8_isHeld : MethodName := ⟨RX8, "isHeld", "(I)Z"⟩
abbrev cX8_lengthByRow : ByteArray := prog_10_method_13_code
def yX8_lengthByRow : MethodName := ⟨RX8, "lengthByRow", "(LDiscLathe$Tape;)I"⟩
abbrev cX8_firstGap : ByteArray := prog_10_method_14_code
def yX8_firstGap : MethodName := ⟨RX8, "firstGap", "(II)I"⟩
abbrev cX8_behindOneInTheWay : ByteArray := prog_10_method_15_code
def yX8_behindOneInTheWay : MethodName := ⟨RX8, "behindOneInTheWay", "(III)I"⟩
def RX9 : String := "DiscLathe$Tape"
def TX9 : u_T := fun k => match k with
  | 0 => ("DiscLathe$Tape", "bytes", "[B", true)
  | 1 => ("DiscLathe$Tape", "cursor", "I", false)
  | 2 => ("DiscLathe$Tape", "length", "I", false)
  | 3 => ("DiscLathe$Tape", "kind", "I", false)
  | 4 => ("DiscLathe$Tape", "place", "I", false)
  | _ => ("DiscLathe$Tape", "value", "J", false)
def tyX9 : Nat → FieldType := fun k => match k with
  | 0 => .array .byte
  | 1 => .int
  | 2 => .int
  | 3 => .int
  | 4 => .int
  | _ => .long
theorem nmX9 : ∀ a, a < 6 → ∀ b, b < 6 → a ≠ b → (TX9 a).2.1 ≠ (TX9 b).2.1 := by decide +kernel
theorem tyX9_ok : ∀ k, k < 6 → parseFieldDescriptor (TX9 k).2.2.1 = some (tyX9 k) := by decide +kernel
abbrev cX9_init : ByteArray := prog_11_method_1_code
def yX9_init : MethodName := ⟨RX9, "<init>", "()V"⟩
abbrev cX9_append : ByteArray := prog_11_method_2_code
def yX9_append : MethodName := ⟨RX9, "append", "(I)V"⟩
abbrev cX9_byteAt : ByteArray := prog_11_method_3_code
def yX9_byteAt : MethodName := ⟨RX9, "byteAt", "(I)I"⟩
abbrev cX9_rewind : ByteArray := prog_11_method_4_code
def yX9_rewind : MethodName := ⟨RX9, "rewind", "()V"⟩
abbrev cX9_advance : ByteArray := prog_11_method_5_code
def yX9_advance : MethodName := ⟨RX9, "advance", "()V"⟩
abbrev cX9_readWord : ByteArray := prog_11_method_6_code
def yX9_readWord : MethodName := ⟨RX9, "readWord", "()V"⟩
abbrev cX9_readNumber : ByteArray := prog_11_method_7_code
def yX9_readNumber : MethodName := ⟨RX9, "readNumber", "()V"⟩
abbrev cX9_isBlank : ByteArray := prog_11_method_8_code
def yX9_isBlank : MethodName := ⟨RX9, "isBlank", "(I)Z"⟩
abbrev cX9_isLetter : ByteArray := prog_11_method_9_code
def yX9_isLetter : MethodName := ⟨RX9, "isLetter", "(I)Z"⟩
abbrev cX9_isDigit : ByteArray := prog_11_method_10_code
def yX9_isDigit : MethodName := ⟨RX9, "isDigit", "(I)Z"⟩
def RX10 : String := "DiscLathe$Wheels"
def TX10 : u_T := fun k => match k with
  | 0 => ("DiscLathe$Wheels", "teethOf", "[I", true)
  | 1 => ("DiscLathe$Wheels", "size", "I", false)
  | 2 => ("DiscLathe$Wheels", "draft", "[I", true)
  | 3 => ("DiscLathe$Wheels", "trainRow", "[I", true)
  | 4 => ("DiscLathe$Wheels", "trainTeeth", "[I", true)
  | 5 => ("DiscLathe$Wheels", "trainSize", "I", false)
  | 6 => ("DiscLathe$Wheels", "offUpper", "J", false)
  | 7 => ("DiscLathe$Wheels", "offLower", "J", false)
  | 8 => ("DiscLathe$Wheels", "row", "[I", true)
  | 9 => ("DiscLathe$Wheels", "nearRow", "[I", true)
  | 10 => ("DiscLathe$Wheels", "nearSize", "I", false)
  | 11 => ("DiscLathe$Wheels", "nearAway", "J", false)
  | 12 => ("DiscLathe$Wheels", "nearLower", "J", false)
  | 13 => ("DiscLathe$Wheels", "exact", "I", false)
  | 14 => ("DiscLathe$Wheels", "p", "J", false)
  | _ => ("DiscLathe$Wheels", "q", "J", false)
def tyX10 : Nat → FieldType := fun k => match k with
  | 0 => .array .int
  | 1 => .int
  | 2 => .array .int
  | 3 => .array .int
  | 4 => .array .int
  | 5 => .int
  | 6 => .long
  | 7 => .long
  | 8 => .array .int
  | 9 => .array .int
  | 10 => .int
  | 11 => .long
  | 12 => .long
  | 13 => .int
  | 14 => .long
  | _ => .long
theorem nmX10 : ∀ a, a < 16 → ∀ b, b < 16 → a ≠ b → (TX10 a).2.1 ≠ (TX10 b).2.1 := by decide +kernel
theorem tyX10_ok : ∀ k, k < 16 → parseFieldDescriptor (TX10 k).2.2.1 = some (tyX10 k) := by decide +kernel
abbrev cX10_init : ByteArray := prog_12_method_1_code
def yX10_init : MethodName := ⟨RX10, "<init>", "()V"⟩
abbrev cX10_readBox : ByteArray := prog_12_method_2_code
def yX10_readBox : MethodName := ⟨RX10, "readBox", "(LDiscLathe$Tape;)I"⟩
abbrev cX10_setTrain : ByteArray := prog_12_method_3_code
def yX10_setTrain : MethodName := ⟨RX10, "setTrain", "(III)I"⟩
abbrev cX10_setOff : ByteArray := prog_12_method_4_code
def yX10_setOff : MethodName := ⟨RX10, "setOff", "()V"⟩
abbrev cX10_greatestCommon : ByteArray := prog_12_method_5_code
def yX10_greatestCommon : MethodName := ⟨RX10, "greatestCommon", "(JJ)J"⟩
abbrev cX10_countExact : ByteArray := prog_12_method_6_code
def yX10_countExact : MethodName := ⟨RX10, "countExact", "(II)I"⟩
abbrev cX10_weighAll : ByteArray := prog_12_method_7_code
def yX10_weighAll : MethodName := ⟨RX10, "weighAll", "(III)V"⟩
abbrev cX10_choose : ByteArray := prog_12_method_8_code
def yX10_choose : MethodName := ⟨RX10, "choose", "(III)V"⟩
abbrev cX10_weigh : ByteArray := prog_12_method_9_code
def yX10_weigh : MethodName := ⟨RX10, "weigh", "(I)V"⟩
abbrev cX10_changeByWear : ByteArray := prog_12_method_10_code
def yX10_changeByWear : MethodName := ⟨RX10, "changeByWear", "(II)J"⟩
def RX11 : String := "DiscLathe"
def TX11 : u_T := fun k => match k with
  | 0 => ("DiscLathe", "tape", "LDiscLathe$Tape;", true)
  | 1 => ("DiscLathe", "part", "LDiscLathe$Part;", true)
  | 2 => ("DiscLathe", "reader", "LDiscLathe$PartReader;", true)
  | 3 => ("DiscLathe", "plan", "LDiscLathe$Plan;", true)
  | 4 => ("DiscLathe", "discs", "LDiscLathe$Discs;", true)
  | 5 => ("DiscLathe", "oldDiscs", "LDiscLathe$OldDiscs;", true)
  | 6 => ("DiscLathe", "wheels", "LDiscLathe$Wheels;", true)
  | 7 => ("DiscLathe", "gauged", "LDiscLathe$Gauged;", true)
  | 8 => ("DiscLathe", "cause", "LDiscLathe$Cause;", true)
  | 9 => ("DiscLathe", "fits", "LDiscLathe$Fits;", true)
  | _ => ("DiscLathe", "nextPick", "LDiscLathe$NextPick;", true)
def tyX11 : Nat → FieldType := fun k => match k with
  | 0 => .object "DiscLathe$Tape"
  | 1 => .object "DiscLathe$Part"
  | 2 => .object "DiscLathe$PartReader"
  | 3 => .object "DiscLathe$Plan"
  | 4 => .object "DiscLathe$Discs"
  | 5 => .object "DiscLathe$OldDiscs"
  | 6 => .object "DiscLathe$Wheels"
  | 7 => .object "DiscLathe$Gauged"
  | 8 => .object "DiscLathe$Cause"
  | 9 => .object "DiscLathe$Fits"
  | _ => .object "DiscLathe$NextPick"
theorem nmX11 : ∀ a, a < 11 → ∀ b, b < 11 → a ≠ b → (TX11 a).2.1 ≠ (TX11 b).2.1 := by decide +kernel
theorem tyX11_ok : ∀ k, k < 11 → parseFieldDescriptor (TX11 k).2.2.1 = some (tyX11 k) := by decide +kernel
abbrev cX11_init : ByteArray := prog_1_method_1_code
def yX11_init : MethodName := ⟨RX11, "<init>", "()V"⟩
abbrev cX11_isWithin : ByteArray := prog_1_method_2_code
def yX11_isWithin : MethodName := ⟨RX11, "isWithin", "(JJJ)Z"⟩
abbrev cX11_hasBit : ByteArray := prog_1_method_3_code
def yX11_hasBit : MethodName := ⟨RX11, "hasBit", "(II)Z"⟩
abbrev cX11_isTool : ByteArray := prog_1_method_4_code
def yX11_isTool : MethodName := ⟨RX11, "isTool", "(I)Z"⟩
abbrev cX11_isStep : ByteArray := prog_1_method_5_code
def yX11_isStep : MethodName := ⟨RX11, "isStep", "(I)Z"⟩
abbrev cX11_isMark : ByteArray := prog_1_method_6_code
def yX11_isMark : MethodName := ⟨RX11, "isMark", "(I)Z"⟩
abbrev cX11_isOldDisc : ByteArray := prog_1_method_7_code
def yX11_isOldDisc : MethodName := ⟨RX11, "isOldDisc", "(I)Z"⟩
abbrev cX11_isStage : ByteArray := prog_1_method_8_code
def yX11_isStage : MethodName := ⟨RX11, "isStage", "(I)Z"⟩
abbrev cX11_isPartNumber : ByteArray := prog_1_method_9_code
def yX11_isPartNumber : MethodName := ⟨RX11, "isPartNumber", "(I)Z"⟩
abbrev cX11_isOff : ByteArray := prog_1_method_10_code
def yX11_isOff : MethodName := ⟨RX11, "isOff", "(I)Z"⟩
abbrev cX11_isLimit : ByteArray := prog_1_method_11_code
def yX11_isLimit : MethodName := ⟨RX11, "isLimit", "(I)Z"⟩
abbrev cX11_feed : ByteArray := prog_1_method_12_code
def yX11_feed : MethodName := ⟨RX11, "feed", "(IIIII)I"⟩
abbrev cX11_end : ByteArray := prog_1_method_13_code
def yX11_end : MethodName := ⟨RX11, "end", "(I)I"⟩
abbrev cX11_part : ByteArray := prog_1_method_14_code
def yX11_part : MethodName := ⟨RX11, "part", "()I"⟩
abbrev cX11_fault : ByteArray := prog_1_method_15_code
def yX11_fault : MethodName := ⟨RX11, "fault", "(I)I"⟩
abbrev cX11_told : ByteArray := prog_1_method_16_code
def yX11_told : MethodName := ⟨RX11, "told", "(I)I"⟩
abbrev cX11_toldOfOne : ByteArray := prog_1_method_17_code
def yX11_toldOfOne : MethodName := ⟨RX11, "toldOfOne", "(II)I"⟩
abbrev cX11_begin : ByteArray := prog_1_method_18_code
def yX11_begin : MethodName := ⟨RX11, "begin", "(I)I"⟩
abbrev cX11_held : ByteArray := prog_1_method_19_code
def yX11_held : MethodName := ⟨RX11, "held", "(I)I"⟩
abbrev cX11_byRow : ByteArray := prog_1_method_20_code
def yX11_byRow : MethodName := ⟨RX11, "byRow", "()I"⟩
abbrev cX11_height : ByteArray := prog_1_method_21_code
def yX11_height : MethodName := ⟨RX11, "height", "(II)I"⟩
abbrev cX11_lobe : ByteArray := prog_1_method_22_code
def yX11_lobe : MethodName := ⟨RX11, "lobe", "(II)I"⟩
abbrev cX11_wrong : ByteArray := prog_1_method_23_code
def yX11_wrong : MethodName := ⟨RX11, "wrong", "(I)I"⟩
abbrev cX11_slope : ByteArray := prog_1_method_24_code
def yX11_slope : MethodName := ⟨RX11, "slope", "(I)I"⟩
abbrev cX11_old : ByteArray := prog_1_method_25_code
def yX11_old : MethodName := ⟨RX11, "old", "(I)I"⟩
abbrev cX11_was : ByteArray := prog_1_method_26_code
def yX11_was : MethodName := ⟨RX11, "was", "(II)I"⟩
abbrev cX11_keep : ByteArray := prog_1_method_27_code
def yX11_keep : MethodName := ⟨RX11, "keep", "(III)I"⟩
abbrev cX11_file : ByteArray := prog_1_method_28_code
def yX11_file : MethodName := ⟨RX11, "file", "(III)I"⟩
abbrev cX11_share : ByteArray := prog_1_method_29_code
def yX11_share : MethodName := ⟨RX11, "share", "(I)I"⟩
abbrev cX11_shared : ByteArray := prog_1_method_30_code
def yX11_shared : MethodName := ⟨RX11, "shared", "(I)I"⟩
abbrev cX11_box : ByteArray := prog_1_method_31_code
def yX11_box : MethodName := ⟨RX11, "box", "()I"⟩
abbrev cX11_teeth : ByteArray := prog_1_method_32_code
def yX11_teeth : MethodName := ⟨RX11, "teeth", "(I)I"⟩
abbrev cX11_train : ByteArray := prog_1_method_33_code
def yX11_train : MethodName := ⟨RX11, "train", "(III)I"⟩
abbrev cX11_isRatio : ByteArray := prog_1_method_34_code
def yX11_isRatio : MethodName := ⟨RX11, "isRatio", "(II)Z"⟩
abbrev cX11_wheel : ByteArray := prog_1_method_35_code
def yX11_wheel : MethodName := ⟨RX11, "wheel", "(I)I"⟩
abbrev cX11_off : ByteArray := prog_1_method_36_code
def yX11_off : MethodName := ⟨RX11, "off", "(Z)J"⟩
abbrev cX11_spare : ByteArray := prog_1_method_37_code
def yX11_spare : MethodName := ⟨RX11, "spare", "(II)I"⟩
abbrev cX11_worn : ByteArray := prog_1_method_38_code
def yX11_worn : MethodName := ⟨RX11, "worn", "(II)J"⟩
abbrev cX11_gauge : ByteArray := prog_1_method_39_code
def yX11_gauge : MethodName := ⟨RX11, "gauge", "(IIII)I"⟩
abbrev cX11_right : ByteArray := prog_1_method_40_code
def yX11_right : MethodName := ⟨RX11, "right", "(III)I"⟩
abbrev cX11_fit : ByteArray := prog_1_method_41_code
def yX11_fit : MethodName := ⟨RX11, "fit", "(II)I"⟩
abbrev cX11_cause : ByteArray := prog_1_method_42_code
def yX11_cause : MethodName := ⟨RX11, "cause", "(II)I"⟩
abbrev cX11_tells : ByteArray := prog_1_method_43_code
def yX11_tells : MethodName := ⟨RX11, "tells", "(III)I"⟩
abbrev cX11_surelyWorn : ByteArray := prog_1_method_44_code
def yX11_surelyWorn : MethodName := ⟨RX11, "surelyWorn", "(II)I"⟩
abbrev cX11_surelyDull : ByteArray := prog_1_method_45_code
def yX11_surelyDull : MethodName := ⟨RX11, "surelyDull", "(II)I"⟩
abbrev cX11_next : ByteArray := prog_1_method_46_code
def yX11_next : MethodName := ⟨RX11, "next", "()I"⟩
abbrev cX11_halt : ByteArray := prog_1_method_47_code
def yX11_halt : MethodName := ⟨RX11, "halt", "(II)I"⟩
abbrev cX11_bin : ByteArray := prog_1_method_48_code
def yX11_bin : MethodName := ⟨RX11, "bin", "(III)I"⟩
abbrev cX11_count : ByteArray := prog_1_method_49_code
def yX11_count : MethodName := ⟨RX11, "count", "(I)I"⟩
def RX12 : String := "DiscLatheModel"
def TX12 : u_T := fun k => match k with
  | 0 => ("DiscLatheModel", "tape", "[B", true)
  | 1 => ("DiscLatheModel", "taped", "I", false)
  | 2 => ("DiscLatheModel", "length", "I", false)
  | 3 => ("DiscLatheModel", "from", "I", false)
  | 4 => ("DiscLatheModel", "behind", "I", false)
  | 5 => ("DiscLatheModel", "hand", "I", false)
  | 6 => ("DiscLatheModel", "value", "I", false)
  | 7 => ("DiscLatheModel", "got", "I", false)
  | 8 => ("DiscLatheModel", "fault", "I", false)
  | 9 => ("DiscLatheModel", "faultAt", "I", false)
  | 10 => ("DiscLatheModel", "tools", "I", false)
  | 11 => ("DiscLatheModel", "steps", "I", false)
  | 12 => ("DiscLatheModel", "idle", "I", false)
  | 13 => ("DiscLatheModel", "clauses", "I", false)
  | 14 => ("DiscLatheModel", "readTools", "I", false)
  | 15 => ("DiscLatheModel", "readSteps", "I", false)
  | 16 => ("DiscLatheModel", "readIdle", "I", false)
  | 17 => ("DiscLatheModel", "read", "I", false)
  | 18 => ("DiscLatheModel", "idleTold", "Z", false)
  | 19 => ("DiscLatheModel", "names", "[J", true)
  | 20 => ("DiscLatheModel", "feed", "[I", true)
  | 21 => ("DiscLatheModel", "slope", "[I", true)
  | 22 => ("DiscLatheModel", "meets", "[I", true)
  | 23 => ("DiscLatheModel", "tool", "[I", true)
  | 24 => ("DiscLatheModel", "rise", "[I", true)
  | 25 => ("DiscLatheModel", "dwell", "[I", true)
  | 26 => ("DiscLatheModel", "waits", "[I", true)
  | 27 => ("DiscLatheModel", "readFeed", "[I", true)
  | 28 => ("DiscLatheModel", "readSlope", "[I", true)
  | 29 => ("DiscLatheModel", "readMeets", "[I", true)
  | 30 => ("DiscLatheModel", "readTool", "[I", true)
  | 31 => ("DiscLatheModel", "readRise", "[I", true)
  | 32 => ("DiscLatheModel", "readDwell", "[I", true)
  | 33 => ("DiscLatheModel", "readWaits", "[I", true)
  | 34 => ("DiscLatheModel", "planLength", "I", false)
  | 35 => ("DiscLatheModel", "ahead", "[[I", true)
  | 36 => ("DiscLatheModel", "early", "[I", true)
  | 37 => ("DiscLatheModel", "plan", "[I", true)
  | 38 => ("DiscLatheModel", "put", "[I", true)
  | 39 => ("DiscLatheModel", "putBegin", "[I", true)
  | 40 => ("DiscLatheModel", "old", "[I", true)
  | 41 => ("DiscLatheModel", "disc", "[I", true)
  | 42 => ("DiscLatheModel", "shared", "[I", true)
  | 43 => ("DiscLatheModel", "fileTurn", "I", false)
  | 44 => ("DiscLatheModel", "fileBase", "I", false)
  | 45 => ("DiscLatheModel", "fileOff", "I", false)
  | 46 => ("DiscLatheModel", "costs", "[I", true)
  | 47 => ("DiscLatheModel", "given", "[I", true)
  | 48 => ("DiscLatheModel", "leastSum", "I", false)
  | 49 => ("DiscLatheModel", "wheels", "I", false)
  | 50 => ("DiscLatheModel", "trainSize", "I", false)
  | 51 => ("DiscLatheModel", "teeth", "[I", true)
  | 52 => ("DiscLatheModel", "readTeeth", "[I", true)
  | 53 => ("DiscLatheModel", "train", "[I", true)
  | 54 => ("DiscLatheModel", "trainTeeth", "[I", true)
  | 55 => ("DiscLatheModel", "row", "[I", true)
  | 56 => ("DiscLatheModel", "offUp", "J", false)
  | 57 => ("DiscLatheModel", "offLow", "J", false)
  | 58 => ("DiscLatheModel", "nearUp", "J", false)
  | 59 => ("DiscLatheModel", "nearLow", "J", false)
  | 60 => ("DiscLatheModel", "gauged", "I", false)
  | 61 => ("DiscLatheModel", "rights", "I", false)
  | 62 => ("DiscLatheModel", "telling", "I", false)
  | 63 => ("DiscLatheModel", "gaugePart", "[I", true)
  | 64 => ("DiscLatheModel", "gaugeStep", "[I", true)
  | 65 => ("DiscLatheModel", "gaugeOff", "[I", true)
  | 66 => ("DiscLatheModel", "gaugeAt", "[I", true)
  | 67 => ("DiscLatheModel", "rightOf", "[I", true)
  | 68 => ("DiscLatheModel", "rightOff", "[I", true)
  | 69 => ("DiscLatheModel", "rightAt", "[I", true)
  | 70 => ("DiscLatheModel", "fit", "[J", true)
  | 71 => ("DiscLatheModel", "fits", "I", false)
  | 72 => ("DiscLatheModel", "leastFit", "I", false)
  | _ => ("DiscLatheModel", "alike", "[I", true)
def tyX12 : Nat → FieldType := fun k => match k with
  | 0 => .array .byte
  | 1 => .int
  | 2 => .int
  | 3 => .int
  | 4 => .int
  | 5 => .int
  | 6 => .int
  | 7 => .int
  | 8 => .int
  | 9 => .int
  | 10 => .int
  | 11 => .int
  | 12 => .int
  | 13 => .int
  | 14 => .int
  | 15 => .int
  | 16 => .int
  | 17 => .int
  | 18 => .boolean
  | 19 => .array .long
  | 20 => .array .int
  | 21 => .array .int
  | 22 => .array .int
  | 23 => .array .int
  | 24 => .array .int
  | 25 => .array .int
  | 26 => .array .int
  | 27 => .array .int
  | 28 => .array .int
  | 29 => .array .int
  | 30 => .array .int
  | 31 => .array .int
  | 32 => .array .int
  | 33 => .array .int
  | 34 => .int
  | 35 => .array (.array .int)
  | 36 => .array .int
  | 37 => .array .int
  | 38 => .array .int
  | 39 => .array .int
  | 40 => .array .int
  | 41 => .array .int
  | 42 => .array .int
  | 43 => .int
  | 44 => .int
  | 45 => .int
  | 46 => .array .int
  | 47 => .array .int
  | 48 => .int
  | 49 => .int
  | 50 => .int
  | 51 => .array .int
  | 52 => .array .int
  | 53 => .array .int
  | 54 => .array .int
  | 55 => .array .int
  | 56 => .long
  | 57 => .long
  | 58 => .long
  | 59 => .long
  | 60 => .int
  | 61 => .int
  | 62 => .int
  | 63 => .array .int
  | 64 => .array .int
  | 65 => .array .int
  | 66 => .array .int
  | 67 => .array .int
  | 68 => .array .int
  | 69 => .array .int
  | 70 => .array .long
  | 71 => .int
  | 72 => .int
  | _ => .array .int
theorem nmX12 : ∀ a, a < 74 → ∀ b, b < 74 → a ≠ b → (TX12 a).2.1 ≠ (TX12 b).2.1 := by decide +kernel
theorem tyX12_ok : ∀ k, k < 74 → parseFieldDescriptor (TX12 k).2.2.1 = some (tyX12 k) := by decide +kernel
abbrev cX12_in : ByteArray := prog_14_method_1_code
def yX12_in : MethodName := ⟨RX12, "in", "(JJJ)Z"⟩
abbrev cX12_bad : ByteArray := prog_14_method_2_code
def yX12_bad : MethodName := ⟨RX12, "bad", "(I)Z"⟩
abbrev cX12_byteAt : ByteArray := prog_14_method_3_code
def yX12_byteAt : MethodName := ⟨RX12, "byteAt", "(I)I"⟩
abbrev cX12_isSmall : ByteArray := prog_14_method_4_code
def yX12_isSmall : MethodName := ⟨RX12, "isSmall", "(I)Z"⟩
abbrev cX12_isDigit : ByteArray := prog_14_method_5_code
def yX12_isDigit : MethodName := ⟨RX12, "isDigit", "(I)Z"⟩
abbrev cX12_scan : ByteArray := prog_14_method_6_code
def yX12_scan : MethodName := ⟨RX12, "scan", "()V"⟩
abbrev cX12_is : ByteArray := prog_14_method_7_code
def yX12_is : MethodName := ⟨RX12, "is", "(Ljava/lang/String;)Z"⟩
abbrev cX12_look : ByteArray := prog_14_method_8_code
def yX12_look : MethodName := ⟨RX12, "look", "(II)Z"⟩
abbrev cX12_number : ByteArray := prog_14_method_9_code
def yX12_number : MethodName := ⟨RX12, "number", "(II)Z"⟩
abbrev cX12_open : ByteArray := prog_14_method_10_code
def yX12_open : MethodName := ⟨RX12, "open", "()V"⟩
abbrev cX12_name : ByteArray := prog_14_method_11_code
def yX12_name : MethodName := ⟨RX12, "name", "()J"⟩
abbrev cX12_toolAt : ByteArray := prog_14_method_12_code
def yX12_toolAt : MethodName := ⟨RX12, "toolAt", "()I"⟩
abbrev cX12_readTool : ByteArray := prog_14_method_13_code
def yX12_readTool : MethodName := ⟨RX12, "readTool", "()Z"⟩
abbrev cX12_known : ByteArray := prog_14_method_14_code
def yX12_known : MethodName := ⟨RX12, "known", "()Z"⟩
abbrev cX12_readStep : ByteArray := prog_14_method_15_code
def yX12_readStep : MethodName := ⟨RX12, "readStep", "()Z"⟩
abbrev cX12_readAfter : ByteArray := prog_14_method_16_code
def yX12_readAfter : MethodName := ⟨RX12, "readAfter", "()Z"⟩
abbrev cX12_readMeet : ByteArray := prog_14_method_17_code
def yX12_readMeet : MethodName := ⟨RX12, "readMeet", "()Z"⟩
abbrev cX12_readIdle : ByteArray := prog_14_method_18_code
def yX12_readIdle : MethodName := ⟨RX12, "readIdle", "()Z"⟩
abbrev cX12_readPart : ByteArray := prog_14_method_19_code
def yX12_readPart : MethodName := ⟨RX12, "readPart", "()Z"⟩
abbrev cX12_init : ByteArray := prog_14_method_20_code
def yX12_init : MethodName := ⟨RX12, "<init>", "()V"⟩
abbrev cX12_feed : ByteArray := prog_14_method_21_code
def yX12_feed : MethodName := ⟨RX12, "feed", "(IIIII)I"⟩
abbrev cX12_putFour : ByteArray := prog_14_method_22_code
def yX12_putFour : MethodName := ⟨RX12, "putFour", "(I)V"⟩
abbrev cX12_end : ByteArray := prog_14_method_23_code
def yX12_end : MethodName := ⟨RX12, "end", "(I)I"⟩
abbrev cX12_part : ByteArray := prog_14_method_24_code
def yX12_part : MethodName := ⟨RX12, "part", "()I"⟩
abbrev cX12_fault : ByteArray := prog_14_method_25_code
def yX12_fault : MethodName := ⟨RX12, "fault", "(I)I"⟩
abbrev cX12_told : ByteArray := prog_14_method_26_code
def yX12_told : MethodName := ⟨RX12, "told", "(I)I"⟩
abbrev cX12_turnsOf : ByteArray := prog_14_method_27_code
def yX12_turnsOf : MethodName := ⟨RX12, "turnsOf", "(I)I"⟩
abbrev cX12_fights : ByteArray := prog_14_method_28_code
def yX12_fights : MethodName := ⟨RX12, "fights", "(II)Z"⟩
abbrev cX12_findEarly : ByteArray := prog_14_method_29_code
def yX12_findEarly : MethodName := ⟨RX12, "findEarly", "(I)I"⟩
abbrev cX12_isNoBetter : ByteArray := prog_14_method_30_code
def yX12_isNoBetter : MethodName := ⟨RX12, "isNoBetter", "(I)Z"⟩
abbrev cX12_order : ByteArray := prog_14_method_31_code
def yX12_order : MethodName := ⟨RX12, "order", "(I)V"⟩
abbrev cX12_findPlan : ByteArray := prog_14_method_32_code
def yX12_findPlan : MethodName := ⟨RX12, "findPlan", "()V"⟩
abbrev cX12_isStep : ByteArray := prog_14_method_33_code
def yX12_isStep : MethodName := ⟨RX12, "isStep", "(I)Z"⟩
abbrev cX12_isTool : ByteArray := prog_14_method_34_code
def yX12_isTool : MethodName := ⟨RX12, "isTool", "(I)Z"⟩
abbrev cX12_begin : ByteArray := prog_14_method_35_code
def yX12_begin : MethodName := ⟨RX12, "begin", "(I)I"⟩
abbrev cX12_held : ByteArray := prog_14_method_36_code
def yX12_held : MethodName := ⟨RX12, "held", "(I)I"⟩
abbrev cX12_isFree : ByteArray := prog_14_method_37_code
def yX12_isFree : MethodName := ⟨RX12, "isFree", "(III)Z"⟩
abbrev cX12_byRow : ByteArray := prog_14_method_38_code
def yX12_byRow : MethodName := ⟨RX12, "byRow", "()I"⟩
abbrev cX12_markOf : ByteArray := prog_14_method_39_code
def yX12_markOf : MethodName := ⟨RX12, "markOf", "(I)I"⟩
abbrev cX12_up : ByteArray := prog_14_method_40_code
def yX12_up : MethodName := ⟨RX12, "up", "(I)I"⟩
abbrev cX12_top : ByteArray := prog_14_method_41_code
def yX12_top : MethodName := ⟨RX12, "top", "(I)I"⟩
abbrev cX12_down : ByteArray := prog_14_method_42_code
def yX12_down : MethodName := ⟨RX12, "down", "(I)I"⟩
abbrev cX12_heightOf : ByteArray := prog_14_method_43_code
def yX12_heightOf : MethodName := ⟨RX12, "heightOf", "(II)I"⟩
abbrev cX12_discAt : ByteArray := prog_14_method_44_code
def yX12_discAt : MethodName := ⟨RX12, "discAt", "(II)I"⟩
abbrev cX12_isMark : ByteArray := prog_14_method_45_code
def yX12_isMark : MethodName := ⟨RX12, "isMark", "(I)Z"⟩
abbrev cX12_height : ByteArray := prog_14_method_46_code
def yX12_height : MethodName := ⟨RX12, "height", "(II)I"⟩
abbrev cX12_isSteep : ByteArray := prog_14_method_47_code
def yX12_isSteep : MethodName := ⟨RX12, "isSteep", "(I)Z"⟩
abbrev cX12_isLate : ByteArray := prog_14_method_48_code
def yX12_isLate : MethodName := ⟨RX12, "isLate", "(I)Z"⟩
abbrev cX12_lobe : ByteArray := prog_14_method_49_code
def yX12_lobe : MethodName := ⟨RX12, "lobe", "(II)I"⟩
abbrev cX12_wrong : ByteArray := prog_14_method_50_code
def yX12_wrong : MethodName := ⟨RX12, "wrong", "(I)I"⟩
abbrev cX12_slope : ByteArray := prog_14_method_51_code
def yX12_slope : MethodName := ⟨RX12, "slope", "(I)I"⟩
abbrev cX12_isDisc : ByteArray := prog_14_method_52_code
def yX12_isDisc : MethodName := ⟨RX12, "isDisc", "(I)Z"⟩
abbrev cX12_old : ByteArray := prog_14_method_53_code
def yX12_old : MethodName := ⟨RX12, "old", "(I)I"⟩
abbrev cX12_was : ByteArray := prog_14_method_54_code
def yX12_was : MethodName := ⟨RX12, "was", "(II)I"⟩
abbrev cX12_keep : ByteArray := prog_14_method_55_code
def yX12_keep : MethodName := ⟨RX12, "keep", "(III)I"⟩
abbrev cX12_canFile : ByteArray := prog_14_method_56_code
def yX12_canFile : MethodName := ⟨RX12, "canFile", "(II)Z"⟩
abbrev cX12_file : ByteArray := prog_14_method_57_code
def yX12_file : MethodName := ⟨RX12, "file", "(III)I"⟩
abbrev cX12_hasStep : ByteArray := prog_14_method_58_code
def yX12_hasStep : MethodName := ⟨RX12, "hasStep", "(I)Z"⟩
abbrev cX12_give : ByteArray := prog_14_method_59_code
def yX12_give : MethodName := ⟨RX12, "give", "(IIII)V"⟩
abbrev cX12_share : ByteArray := prog_14_method_60_code
def yX12_share : MethodName := ⟨RX12, "share", "(I)I"⟩
abbrev cX12_shared : ByteArray := prog_14_method_61_code
def yX12_shared : MethodName := ⟨RX12, "shared", "(I)I"⟩
abbrev cX12_box : ByteArray := prog_14_method_62_code
def yX12_box : MethodName := ⟨RX12, "box", "()I"⟩
abbrev cX12_isWheel : ByteArray := prog_14_method_63_code
def yX12_isWheel : MethodName := ⟨RX12, "isWheel", "(I)Z"⟩
abbrev cX12_teeth : ByteArray := prog_14_method_64_code
def yX12_teeth : MethodName := ⟨RX12, "teeth", "(I)I"⟩
abbrev cX12_common : ByteArray := prog_14_method_65_code
def yX12_common : MethodName := ⟨RX12, "common", "(JJ)J"⟩
abbrev cX12_tryRow : ByteArray := prog_14_method_66_code
def yX12_tryRow : MethodName := ⟨RX12, "tryRow", "(III)V"⟩
abbrev cX12_rows : ByteArray := prog_14_method_67_code
def yX12_rows : MethodName := ⟨RX12, "rows", "(IIIII)V"⟩
abbrev cX12_isRatio : ByteArray := prog_14_method_68_code
def yX12_isRatio : MethodName := ⟨RX12, "isRatio", "(I)Z"⟩
abbrev cX12_train : ByteArray := prog_14_method_69_code
def yX12_train : MethodName := ⟨RX12, "train", "(III)I"⟩
abbrev cX12_wheel : ByteArray := prog_14_method_70_code
def yX12_wheel : MethodName := ⟨RX12, "wheel", "(I)I"⟩
abbrev cX12_off : ByteArray := prog_14_method_71_code
def yX12_off : MethodName := ⟨RX12, "off", "(Z)J"⟩
abbrev cX12_spare : ByteArray := prog_14_method_72_code
def yX12_spare : MethodName := ⟨RX12, "spare", "(II)I"⟩
abbrev cX12_worn : ByteArray := prog_14_method_73_code
def yX12_worn : MethodName := ⟨RX12, "worn", "(II)J"⟩
abbrev cX12_isPart : ByteArray := prog_14_method_74_code
def yX12_isPart : MethodName := ⟨RX12, "isPart", "(I)Z"⟩
abbrev cX12_isOff : ByteArray := prog_14_method_75_code
def yX12_isOff : MethodName := ⟨RX12, "isOff", "(I)Z"⟩
abbrev cX12_gauge : ByteArray := prog_14_method_76_code
def yX12_gauge : MethodName := ⟨RX12, "gauge", "(IIII)I"⟩
abbrev cX12_right : ByteArray := prog_14_method_77_code
def yX12_right : MethodName := ⟨RX12, "right", "(III)I"⟩
abbrev cX12_offAsKnown : ByteArray := prog_14_method_78_code
def yX12_offAsKnown : MethodName := ⟨RX12, "offAsKnown", "(II)I"⟩
abbrev cX12_worns : ByteArray := prog_14_method_79_code
def yX12_worns : MethodName := ⟨RX12, "worns", "()I"⟩
abbrev cX12_dulls : ByteArray := prog_14_method_80_code
def yX12_dulls : MethodName := ⟨RX12, "dulls", "()I"⟩
abbrev cX12_causes : ByteArray := prog_14_method_81_code
def yX12_causes : MethodName := ⟨RX12, "causes", "()I"⟩
abbrev cX12_heatOf : ByteArray := prog_14_method_82_code
def yX12_heatOf : MethodName := ⟨RX12, "heatOf", "(I)I"⟩
abbrev cX12_wornOf : ByteArray := prog_14_method_83_code
def yX12_wornOf : MethodName := ⟨RX12, "wornOf", "(I)I"⟩
abbrev cX12_dullOf : ByteArray := prog_14_method_84_code
def yX12_dullOf : MethodName := ⟨RX12, "dullOf", "(I)I"⟩
abbrev cX12_tellsOf : ByteArray := prog_14_method_85_code
def yX12_tellsOf : MethodName := ⟨RX12, "tellsOf", "(III)I"⟩
abbrev cX12_isCause : ByteArray := prog_14_method_86_code
def yX12_isCause : MethodName := ⟨RX12, "isCause", "(I)Z"⟩
abbrev cX12_cause : ByteArray := prog_14_method_87_code
def yX12_cause : MethodName := ⟨RX12, "cause", "(II)I"⟩
abbrev cX12_tells : ByteArray := prog_14_method_88_code
def yX12_tells : MethodName := ⟨RX12, "tells", "(III)I"⟩
abbrev cX12_isFit : ByteArray := prog_14_method_89_code
def yX12_isFit : MethodName := ⟨RX12, "isFit", "(I)Z"⟩
abbrev cX12_findFit : ByteArray := prog_14_method_90_code
def yX12_findFit : MethodName := ⟨RX12, "findFit", "(I)V"⟩
abbrev cX12_isStage : ByteArray := prog_14_method_91_code
def yX12_isStage : MethodName := ⟨RX12, "isStage", "(I)Z"⟩
abbrev cX12_fit : ByteArray := prog_14_method_92_code
def yX12_fit : MethodName := ⟨RX12, "fit", "(II)I"⟩
abbrev cX12_surely : ByteArray := prog_14_method_93_code
def yX12_surely : MethodName := ⟨RX12, "surely", "(I)I"⟩
abbrev cX12_surelyWorn : ByteArray := prog_14_method_94_code
def yX12_surelyWorn : MethodName := ⟨RX12, "surelyWorn", "(II)I"⟩
abbrev cX12_surelyDull : ByteArray := prog_14_method_95_code
def yX12_surelyDull : MethodName := ⟨RX12, "surelyDull", "(II)I"⟩
abbrev cX12_mostAlike : ByteArray := prog_14_method_96_code
def yX12_mostAlike : MethodName := ⟨RX12, "mostAlike", "(II)I"⟩
abbrev cX12_next : ByteArray := prog_14_method_97_code
def yX12_next : MethodName := ⟨RX12, "next", "()I"⟩
abbrev cX12_isLimit : ByteArray := prog_14_method_98_code
def yX12_isLimit : MethodName := ⟨RX12, "isLimit", "(I)Z"⟩
abbrev cX12_halt : ByteArray := prog_14_method_99_code
def yX12_halt : MethodName := ⟨RX12, "halt", "(II)I"⟩
abbrev cX12_bin : ByteArray := prog_14_method_100_code
def yX12_bin : MethodName := ⟨RX12, "bin", "(III)I"⟩
abbrev cX12_count : ByteArray := prog_14_method_101_code
def yX12_count : MethodName := ⟨RX12, "count", "(I)I"⟩
def RJ0 : String := "java/lang/String"
abbrev cJ0_length_8abf5 : ByteArray := prog_16_method_54_code
def yJ0_length_8abf5 : MethodName := ⟨RJ0, "length", "()I"⟩
abbrev cJ0_charAt_5068e : ByteArray := prog_16_method_56_code
def yJ0_charAt_5068e : MethodName := ⟨RJ0, "charAt", "(I)C"⟩
abbrev cJ0_coder_7d493 : ByteArray := prog_16_method_152_code
def yJ0_coder_7d493 : MethodName := ⟨RJ0, "coder", "()B"⟩
abbrev cJ0_isLatin1_aae02 : ByteArray := prog_16_method_154_code
def yJ0_isLatin1_aae02 : MethodName := ⟨RJ0, "isLatin1", "()Z"⟩
abbrev cJ0_checkIndex_df160 : ByteArray := prog_16_method_155_code
def yJ0_checkIndex_df160 : MethodName := ⟨RJ0, "checkIndex", "(II)V"⟩
def RJ1 : String := "java/lang/StringLatin1"
abbrev cJ1_charAt_3b067 : ByteArray := prog_17_method_2_code
def yJ1_charAt_3b067 : MethodName := ⟨RJ1, "charAt", "([BI)C"⟩
def RJ2 : String := "java/lang/StringUTF16"
def RJ7 : String := "java/util/Arrays"
abbrev cJ7_fill_53178 : ByteArray := prog_20_method_103_code
def yJ7_fill_53178 : MethodName := ⟨RJ7, "fill", "([II)V"⟩
def RJ3 : String := "jdk/internal/util/Preconditions"
abbrev cJ3_checkIndex_8e157 : ByteArray := prog_21_method_11_code
def yJ3_checkIndex_8e157 : MethodName := ⟨RJ3, "checkIndex", "(IILjava/util/function/BiFunction;)I"⟩
def RL : String := "DiscLatheLaw"
abbrev cL_law : ByteArray := code
def yL_law : MethodName := ⟨RL, "law", "([I)Z"⟩
end
section
/-! PM: a pure machine over Int memory. A value: an int, a long, a reference (a cell's number) or nothing (null, an unset local). -/
abbrev pV : Type := Int ⊕ (Int ⊕ Option Nat)
abbrev pI (x : Int) : pV := Sum.inl x
abbrev pL (x : Int) : pV := Sum.inr (Sum.inl x)
abbrev pR (n : Nat) : pV := Sum.inr (Sum.inr (some n))
abbrev pU : pV := Sum.inr (Sum.inr none)
/-- memory: cell, slot -/
abbrev pG : Type := Nat → Nat → Int
/-- layout: (cells, slots) made; of a cell its kind (a class' number, or 100 int, 101 long, 102 byte, 103 rows) and size; references in cells -/
abbrev pY : Type := (Nat × Nat) × (Nat → Nat × Int) × (Nat → Nat → Option Nat)
/-- an instruction, made plain: what it is, its length, three numbers -/
abbrev pE : Type := Instr × Nat × Nat × Nat × Int
abbrev pT : Type := List (List (Option pE))
def pn {α : Type} : List α → Nat → Option α
  | [], _ => none
  | a :: _, 0 => some a
  | _ :: l, n + 1 => pn l n
def pn2 {α : Type} (t : List (List α)) (i : Nat) : Option α := match pn t (i / 16) with
  | some l => pn l (i % 16)
  | none => none
def plook (t : pT) (pc : Nat) : Option pE := match pn2 t pc with
  | some (some e) => some e
  | _ => none
def pset (G : pG) (i k : Nat) (v : Int) : pG := fun a => if a = i then (fun b => if b = k then v else G a b) else G a
/-- a copy of n slots of one cell into another -/
def pcpy (G : pG) (a0 sp a dp n : Nat) : pG := fun i => if i = a then (fun k => if dp ≤ k ∧ k < dp + n then G a0 (sp + (k - dp)) else G i k) else G i
def w32 (x : Int) : Int := (Int32.ofInt x).toInt
def w64 (x : Int) : Int := (Int64.ofInt x).toInt
def w8 (x : Int) : Int := (Int32.ofInt x).toInt8.toInt32.toInt
def pand (x y : Int) : Int := (Int32.ofInt x &&& Int32.ofInt y).toInt
def por (x y : Int) : Int := (Int32.ofInt x ||| Int32.ofInt y).toInt
def pxor (x y : Int) : Int := (Int32.ofInt x ^^^ Int32.ofInt y).toInt
def pshl (x y : Int) : Int := (Int32.ofInt x <<< (Int32.ofInt y &&& 31)).toInt
def pshr (x y : Int) : Int := (Int32.ofInt x >>> (Int32.ofInt y &&& 31)).toInt
def push' (x y : Int) : Int := ((Int32.ofInt x).toUInt32 >>> ((Int32.ofInt y).toUInt32 &&& Int32.toUInt32 31)).toInt32.toInt
def pdiv (x y : Int) : Int := (Int32.ofInt x / Int32.ofInt y).toInt
def prem (x y : Int) : Int := (Int32.ofInt x - Int32.ofInt x / Int32.ofInt y * Int32.ofInt y).toInt
def pland (x y : Int) : Int := (Int64.ofInt x &&& Int64.ofInt y).toInt
def plor (x y : Int) : Int := (Int64.ofInt x ||| Int64.ofInt y).toInt
def plshl (x y : Int) : Int := (Int64.ofInt x <<< ((Int32.ofInt y).toInt64 &&& 63)).toInt
def plshr (x y : Int) : Int := (Int64.ofInt x >>> ((Int32.ofInt y).toInt64 &&& 63)).toInt
def pldiv (x y : Int) : Int := (Int64.ofInt x / Int64.ofInt y).toInt
def plrem (x y : Int) : Int := (Int64.ofInt x - Int64.ofInt x / Int64.ofInt y * Int64.ofInt y).toInt
def plcmp (x y : Int) : Int := if x > y then 1 else if x = y then 0 else -1
def pmx (x y : Int) : Int := if x < y then y else x
def pmn (x y : Int) : Int := if y < x then y else x
/-- a store into the locals: a long ahead of it is no more -/
def plst : List pV → Nat → pV → List pV
  | [], _, _ => []
  | _ :: t, 0, v => v :: t
  | .inr (.inl _) :: t, 1, v => pU :: plst t 0 v
  | h :: t, i + 1, v => h :: plst t i v
def plst2 (l : List pV) (i : Nat) (v : pV) : List pV := plst (plst l (i + 1) pU) i v
/-- a method's locals at its start -/
def pent : List pV → Nat → List pV
  | [], n => List.replicate n pU
  | .inr (.inl x) :: t, n => pL x :: pU :: pent t (n - 2)
  | v :: t, n => v :: pent t (n - 1)
def ppop : Nat → List pV → List pV → Option (List pV × List pV)
  | 0, st, acc => some (acc, st)
  | n + 1, v :: st, acc => ppop n st (v :: acc)
  | _ + 1, [], _ => none
def pcat : List pV → Nat
  | [] => 0
  | .inr (.inl _) :: t => 2 + pcat t
  | _ :: t => 1 + pcat t
/-- shapes of the stack -/
def k_i {α : Type} (stk : List pV) (z : α) (k : Int → List pV → α) : α := match stk with
  | .inl x :: st => k x st
  | _ => z
def k_l {α : Type} (stk : List pV) (z : α) (k : Int → List pV → α) : α := match stk with
  | .inr (.inl x) :: st => k x st
  | _ => z
def k_r {α : Type} (stk : List pV) (z : α) (k : Nat → List pV → α) : α := match stk with
  | .inr (.inr (some x)) :: st => k x st
  | _ => z
def k_ii {α : Type} (stk : List pV) (z : α) (k : Int → Int → List pV → α) : α := match stk with
  | .inl y :: .inl x :: st => k x y st
  | _ => z
def k_ll {α : Type} (stk : List pV) (z : α) (k : Int → Int → List pV → α) : α := match stk with
  | .inr (.inl y) :: .inr (.inl x) :: st => k x y st
  | _ => z
def k_li {α : Type} (stk : List pV) (z : α) (k : Int → Int → List pV → α) : α := match stk with
  | .inl y :: .inr (.inl x) :: st => k x y st
  | _ => z
def k_ri {α : Type} (stk : List pV) (z : α) (k : Nat → Int → List pV → α) : α := match stk with
  | .inl y :: .inr (.inr (some x)) :: st => k x y st
  | _ => z
def k_rl {α : Type} (stk : List pV) (z : α) (k : Nat → Int → List pV → α) : α := match stk with
  | .inr (.inl y) :: .inr (.inr (some x)) :: st => k x y st
  | _ => z
def k_rr {α : Type} (stk : List pV) (z : α) (k : Nat → Nat → List pV → α) : α := match stk with
  | .inr (.inr (some y)) :: .inr (.inr (some x)) :: st => k x y st
  | _ => z
def k_rii {α : Type} (stk : List pV) (z : α) (k : Nat → Int → Int → List pV → α) : α := match stk with
  | .inl v :: .inl y :: .inr (.inr (some x)) :: st => k x y v st
  | _ => z
def k_ril {α : Type} (stk : List pV) (z : α) (k : Nat → Int → Int → List pV → α) : α := match stk with
  | .inr (.inl v) :: .inl y :: .inr (.inr (some x)) :: st => k x y v st
  | _ => z
def k_cp {α : Type} (stk : List pV) (z : α) (k : Nat → Int → Nat → Int → Int → List pV → α) : α := match stk with
  | .inl n :: .inl dp :: .inr (.inr (some a)) :: .inl sp :: .inr (.inr (some a0)) :: st => k a0 sp a dp n st
  | _ => z
def k_c1 {α : Type} (v : pV) (z : α) (k : pV → α) : α := match v with
  | .inr (.inl _) => z
  | w => k w
def k_d {α : Type} (stk : List pV) (z : α) (k : pV → List pV → α) : α := match stk with
  | v :: st => k_c1 v z (fun w => k w st)
  | _ => z
def k_d2 {α : Type} (stk : List pV) (z : α) (k : pV → pV → List pV → α) : α := match stk with
  | v :: w :: st => k_c1 v z (fun v => k_c1 w z (fun w => k v w st))
  | _ => z
def k_op {α β : Type} (o : Option β) (z : α) (k : β → α) : α := match o with
  | some b => k b
  | none => z
def k_oi {α : Type} (o : Option pV) (z : α) (k : Int → α) : α := match o with
  | some (.inl x) => k x
  | _ => z
def k_ol {α : Type} (o : Option pV) (z : α) (k : Int → α) : α := match o with
  | some (.inr (.inl x)) => k x
  | _ => z
def k_or {α : Type} (o : Option pV) (z : α) (k : Nat → α) : α := match o with
  | some (.inr (.inr (some x))) => k x
  | _ => z
/-- strings: a constant's number is 500 and its place -/
def pstr : List (List Int) := [[116, 111, 111, 108], [115, 116, 101, 112], [97, 102, 116, 101, 114], [109, 101, 101, 116], [105, 100, 108, 101]]
/-- what a step comes to: on (pc, locals, stack, layout, memory), a call (method, arguments, rest), an end -/
abbrev pO : Type := (Nat × List pV × List pV × pY × pG) ⊕ ((Nat × List pV × List pV) ⊕ Option pV)
def pnw (Y : pY) (kind : Nat) (len : Int) : pY := ((Y.1.1 + 1, Y.1.2 + len.toNat), (fun i => if i = Y.1.1 then (kind, len) else Y.2.1 i), (fun i => if i = Y.1.1 then (fun _ => none) else Y.2.2 i))
def pz (G : pG) (n : Nat) : pG := fun i => if i = n then (fun _ => 0) else G i
/-- new int[N][K] -/
def pmn2 (Y : pY) (N K : Nat) : pY := ((Y.1.1 + 1 + N, Y.1.2 + N + N * K), (fun i => if i < Y.1.1 then Y.2.1 i else if i = Y.1.1 then (103, (N : Int)) else if i < Y.1.1 + 1 + N then (100, (K : Int)) else Y.2.1 i), (fun i => if i = Y.1.1 then (fun j => if j < N then some (Y.1.1 + 1 + j) else none) else if Y.1.1 < i ∧ i < Y.1.1 + 1 + N then (fun _ => none) else Y.2.2 i))
def pz2 (G : pG) (n N : Nat) : pG := fun i => if n ≤ i ∧ i < n + 1 + N then (fun _ => 0) else G i
def prf (Y : pY) (r k q : Nat) : pY := (Y.1, Y.2.1, fun i => if i = r then (fun j => if j = k then some q else Y.2.2 i j) else Y.2.2 i)
def pcc (cc : ClassFile.Cond) (x y : Int) : Bool := match cc with
  | .eq => decide (x = y)
  | .ne => decide (x ≠ y)
  | .lt => decide (x < y)
  | .ge => decide (y ≤ x)
  | .gt => decide (y < x)
  | .le => decide (x ≤ y)
def plks : List (Int × Int) → Int → Int → Int
  | [], d, _ => d
  | (k, o) :: r, d, x => if x = k then o else plks r d x
def precv (Y : pY) (c : Int) (as : List pV) : Bool := match as with
  | .inr (.inr (some r)) :: _ => Nat.beq (Y.2.1 r).1 c.toNat
  | _ => false
def pmem : List Nat → Nat → Bool
  | [], _ => false
  | a :: l, n => Nat.beq a n || pmem l n
end
section
/-- the classes' names by their numbers -/
def pown (K : Nat) : String := (pn [RX0, RX1, RX2, RX3, RX4, RX5, RX6, RX7, RX8, RX9, RX10, RX11, RX12, RL, RJ7] K).getD ""
abbrev pcl : List vw_C := [(RX0, TX0, 7), (RX1, TX1, 5), (RX2, TX2, 16), (RX3, TX3, 14), (RX4, TX4, 9), (RX5, TX5, 10), (RX6, TX6, 12), (RX7, TX7, 5), (RX8, TX8, 11), (RX9, TX9, 6), (RX10, TX10, 16), (RX11, TX11, 11), (RX12, TX12, 74)]
def pfT (ci : Nat) : u_T := (pn [TX0, TX1, TX2, TX3, TX4, TX5, TX6, TX7, TX8, TX9, TX10, TX11, TX12] ci).getD TX0
def pfN (ci : Nat) : Nat := (pn [7, 5, 16, 14, 9, 10, 12, 5, 11, 6, 16, 11, 74] ci).getD 0
def pfY (ci : Nat) : Nat → FieldType := (pn [tyX0, tyX1, tyX2, tyX3, tyX4, tyX5, tyX6, tyX7, tyX8, tyX9, tyX10, tyX11, tyX12] ci).getD tyX0
/-- a method: class, locals, answer, arguments, whether static -/
abbrev pMW : Type := Nat × Nat × Option FieldType × Nat × Bool
def pynT : List (List MethodName) := [[yX0_init, yX0_heatOff, yX0_dullOff, yX0_dullBy, yX0_load, yX0_loadDull, yX0_loadWorn, yX0_offBy, yX0_binOf, yX1_init, yX1_layOut, yX1_markOf, yX1_stepHeight, yX1_discHeight, yX1_isSteep, yX1_isLate], [yX1_leastSlope, yX2_init, yX2_forget, yX2_view, yX2_addBlocks, yX2_splitRests, yX2_addBlock, yX2_sizeOf, yX2_countWorn, yX2_countDull, yX2_surely, yX2_firstBeyond, yX2_canGoBeyond, yX2_isBeyond, yX3_init, yX3_clear], [yX3_add, yX3_putRight, yX3_look, yX3_offAsKnown, yX4_init, yX4_pick, yX4_weigh, yX4_sortBlocks, yX4_mostAlike, yX5_init, yX5_forgetPart, yX5_forgetTurns, yX5_readRow, yX5_heightOn, yX5_putAway, yX5_bestTurn], [yX5_bestBase, yX5_filedOff, yX5_findTurn, yX5_baseAt, yX5_shareOut, yX5_choose, yX5_hasStep, yX6_init, yX6_clear, yX6_become, yX6_toolNamed, yX6_addTool, yX6_addStep, yX6_risingTurns, yX6_turnsOf, yX6_apartFrom], [yX6_wornWays, yX6_dullWays, yX6_causes, yX7_init, yX7_readText, yX7_refuse, yX7_readClause, yX7_readTool, yX7_readStep, yX7_readAfter, yX7_readMeet, yX7_readIdle, yX7_advanceTo, yX7_stayOn, yX7_advanceToNumber, yX7_stayWithin], [yX7_advanceToToolName, yX8_init, yX8_layOut, yX8_longestTailBehind, yX8_queueWith, yX8_neverWith, yX8_putIn, yX8_isAhead, yX8_holdBack, yX8_canBeat, yX8_soonestOf, yX8_queueBound, yX8_isHeld, yX8_lengthByRow, yX8_firstGap, yX8_behindOneInTheWay], [yX9_init, yX9_append, yX9_byteAt, yX9_rewind, yX9_advance, yX9_readWord, yX9_readNumber, yX9_isBlank, yX9_isLetter, yX9_isDigit, yX10_init, yX10_readBox, yX10_setTrain, yX10_setOff, yX10_greatestCommon, yX10_countExact], [yX10_weighAll, yX10_choose, yX10_weigh, yX10_changeByWear, yX11_init, yX11_isWithin, yX11_hasBit, yX11_isTool, yX11_isStep, yX11_isMark, yX11_isOldDisc, yX11_isStage, yX11_isPartNumber, yX11_isOff, yX11_isLimit, yX11_feed], [yX11_end, yX11_part, yX11_fault, yX11_told, yX11_toldOfOne, yX11_begin, yX11_held, yX11_byRow, yX11_height, yX11_lobe, yX11_wrong, yX11_slope, yX11_old, yX11_was, yX11_keep, yX11_file], [yX11_share, yX11_shared, yX11_box, yX11_teeth, yX11_train, yX11_isRatio, yX11_wheel, yX11_off, yX11_spare, yX11_worn, yX11_gauge, yX11_right, yX11_fit, yX11_cause, yX11_tells, yX11_surelyWorn], [yX11_surelyDull, yX11_next, yX11_halt, yX11_bin, yX11_count, yX12_in, yX12_bad, yX12_byteAt, yX12_isSmall, yX12_isDigit, yX12_scan, yX12_is, yX12_look, yX12_number, yX12_open, yX12_name], [yX12_toolAt, yX12_readTool, yX12_known, yX12_readStep, yX12_readAfter, yX12_readMeet, yX12_readIdle, yX12_readPart, yX12_init, yX12_feed, yX12_putFour, yX12_end, yX12_part, yX12_fault, yX12_told, yX12_turnsOf], [yX12_fights, yX12_findEarly, yX12_isNoBetter, yX12_order, yX12_findPlan, yX12_isStep, yX12_isTool, yX12_begin, yX12_held, yX12_isFree, yX12_byRow, yX12_markOf, yX12_up, yX12_top, yX12_down, yX12_heightOf], [yX12_discAt, yX12_isMark, yX12_height, yX12_isSteep, yX12_isLate, yX12_lobe, yX12_wrong, yX12_slope, yX12_isDisc, yX12_old, yX12_was, yX12_keep, yX12_canFile, yX12_file, yX12_hasStep, yX12_give], [yX12_share, yX12_shared, yX12_box, yX12_isWheel, yX12_teeth, yX12_common, yX12_tryRow, yX12_rows, yX12_isRatio, yX12_train, yX12_wheel, yX12_off, yX12_spare, yX12_worn, yX12_isPart, yX12_isOff], [yX12_gauge, yX12_right, yX12_offAsKnown, yX12_worns, yX12_dulls, yX12_causes, yX12_heatOf, yX12_wornOf, yX12_dullOf, yX12_tellsOf, yX12_isCause, yX12_cause, yX12_tells, yX12_isFit, yX12_findFit, yX12_isStage], [yX12_fit, yX12_surely, yX12_surelyWorn, yX12_surelyDull, yX12_mostAlike, yX12_next, yX12_isLimit, yX12_halt, yX12_bin, yX12_count, yJ7_fill_53178, yL_law]]
def pcdT : List (List ByteArray) := [[cX0_init, cX0_heatOff, cX0_dullOff, cX0_dullBy, cX0_load, cX0_loadDull, cX0_loadWorn, cX0_offBy, cX0_binOf, cX1_init, cX1_layOut, cX1_markOf, cX1_stepHeight, cX1_discHeight, cX1_isSteep, cX1_isLate], [cX1_leastSlope, cX2_init, cX2_forget, cX2_view, cX2_addBlocks, cX2_splitRests, cX2_addBlock, cX2_sizeOf, cX2_countWorn, cX2_countDull, cX2_surely, cX2_firstBeyond, cX2_canGoBeyond, cX2_isBeyond, cX3_init, cX3_clear], [cX3_add, cX3_putRight, cX3_look, cX3_offAsKnown, cX4_init, cX4_pick, cX4_weigh, cX4_sortBlocks, cX4_mostAlike, cX5_init, cX5_forgetPart, cX5_forgetTurns, cX5_readRow, cX5_heightOn, cX5_putAway, cX5_bestTurn], [cX5_bestBase, cX5_filedOff, cX5_findTurn, cX5_baseAt, cX5_shareOut, cX5_choose, cX5_hasStep, cX6_init, cX6_clear, cX6_become, cX6_toolNamed, cX6_addTool, cX6_addStep, cX6_risingTurns, cX6_turnsOf, cX6_apartFrom], [cX6_wornWays, cX6_dullWays, cX6_causes, cX7_init, cX7_readText, cX7_refuse, cX7_readClause, cX7_readTool, cX7_readStep, cX7_readAfter, cX7_readMeet, cX7_readIdle, cX7_advanceTo, cX7_stayOn, cX7_advanceToNumber, cX7_stayWithin], [cX7_advanceToToolName, cX8_init, cX8_layOut, cX8_longestTailBehind, cX8_queueWith, cX8_neverWith, cX8_putIn, cX8_isAhead, cX8_holdBack, cX8_canBeat, cX8_soonestOf, cX8_queueBound, cX8_isHeld, cX8_lengthByRow, cX8_firstGap, cX8_behindOneInTheWay], [cX9_init, cX9_append, cX9_byteAt, cX9_rewind, cX9_advance, cX9_readWord, cX9_readNumber, cX9_isBlank, cX9_isLetter, cX9_isDigit, cX10_init, cX10_readBox, cX10_setTrain, cX10_setOff, cX10_greatestCommon, cX10_countExact], [cX10_weighAll, cX10_choose, cX10_weigh, cX10_changeByWear, cX11_init, cX11_isWithin, cX11_hasBit, cX11_isTool, cX11_isStep, cX11_isMark, cX11_isOldDisc, cX11_isStage, cX11_isPartNumber, cX11_isOff, cX11_isLimit, cX11_feed], [cX11_end, cX11_part, cX11_fault, cX11_told, cX11_toldOfOne, cX11_begin, cX11_held, cX11_byRow, cX11_height, cX11_lobe, cX11_wrong, cX11_slope, cX11_old, cX11_was, cX11_keep, cX11_file], [cX11_share, cX11_shared, cX11_box, cX11_teeth, cX11_train, cX11_isRatio, cX11_wheel, cX11_off, cX11_spare, cX11_worn, cX11_gauge, cX11_right, cX11_fit, cX11_cause, cX11_tells, cX11_surelyWorn], [cX11_surelyDull, cX11_next, cX11_halt, cX11_bin, cX11_count, cX12_in, cX12_bad, cX12_byteAt, cX12_isSmall, cX12_isDigit, cX12_scan, cX12_is, cX12_look, cX12_number, cX12_open, cX12_name], [cX12_toolAt, cX12_readTool, cX12_known, cX12_readStep, cX12_readAfter, cX12_readMeet, cX12_readIdle, cX12_readPart, cX12_init, cX12_feed, cX12_putFour, cX12_end, cX12_part, cX12_fault, cX12_told, cX12_turnsOf], [cX12_fights, cX12_findEarly, cX12_isNoBetter, cX12_order, cX12_findPlan, cX12_isStep, cX12_isTool, cX12_begin, cX12_held, cX12_isFree, cX12_byRow, cX12_markOf, cX12_up, cX12_top, cX12_down, cX12_heightOf], [cX12_discAt, cX12_isMark, cX12_height, cX12_isSteep, cX12_isLate, cX12_lobe, cX12_wrong, cX12_slope, cX12_isDisc, cX12_old, cX12_was, cX12_keep, cX12_canFile, cX12_file, cX12_hasStep, cX12_give], [cX12_share, cX12_shared, cX12_box, cX12_isWheel, cX12_teeth, cX12_common, cX12_tryRow, cX12_rows, cX12_isRatio, cX12_train, cX12_wheel, cX12_off, cX12_spare, cX12_worn, cX12_isPart, cX12_isOff], [cX12_gauge, cX12_right, cX12_offAsKnown, cX12_worns, cX12_dulls, cX12_causes, cX12_heatOf, cX12_wornOf, cX12_dullOf, cX12_tellsOf, cX12_isCause, cX12_cause, cX12_tells, cX12_isFit, cX12_findFit, cX12_isStage], [cX12_fit, cX12_surely, cX12_surelyWorn, cX12_surelyDull, cX12_mostAlike, cX12_next, cX12_isLimit, cX12_halt, cX12_bin, cX12_count, cJ7_fill_53178, cL_law]]
def pmwT : List (List pMW) := [[(0, 2, none, 2, false), (0, 2, (some .int), 2, true), (0, 3, (some .int), 3, true), (0, 2, (some .int), 2, true), (0, 4, (some .boolean), 2, false), (0, 2, none, 2, false), (0, 2, none, 2, false), (0, 4, (some .int), 3, false), (0, 7, (some .int), 3, false), (1, 3, none, 3, false), (1, 2, none, 1, false), (1, 2, (some .int), 2, false), (1, 6, (some .int), 3, false), (1, 5, (some .int), 3, false), (1, 2, (some .boolean), 2, false), (1, 3, (some .boolean), 2, false)], [(1, 5, (some .int), 2, false), (2, 3, none, 3, false), (2, 1, none, 1, false), (2, 5, none, 2, false), (2, 7, none, 3, false), (2, 9, (some .int), 3, false), (2, 10, none, 8, false), (2, 2, (some .int), 2, false), (2, 4, (some .int), 2, false), (2, 4, (some .int), 2, false), (2, 2, (some .int), 2, false), (2, 5, (some .int), 2, false), (2, 5, (some .boolean), 3, false), (2, 8, (some .boolean), 4, false), (3, 1, none, 1, false), (3, 1, none, 1, false)], [(3, 5, (some .int), 5, false), (3, 6, (some .int), 4, false), (3, 3, none, 2, false), (3, 5, (some .int), 3, false), (4, 3, none, 3, false), (4, 3, (some .int), 1, false), (4, 5, none, 3, false), (4, 6, none, 2, false), (4, 7, (some .int), 2, false), (5, 3, none, 3, false), (5, 2, none, 1, false), (5, 3, none, 2, false), (5, 4, (some .int), 3, false), (5, 2, (some .int), 2, true), (5, 6, (some .int), 4, false), (5, 3, (some .int), 3, false)], [(5, 3, (some .int), 3, false), (5, 3, (some .int), 3, false), (5, 8, none, 3, false), (5, 7, (some .int), 4, false), (5, 2, (some .int), 2, false), (5, 6, none, 5, false), (5, 3, (some .boolean), 2, false), (6, 1, none, 1, false), (6, 1, none, 1, false), (6, 2, none, 2, false), (6, 4, (some .int), 2, false), (6, 5, none, 4, false), (6, 4, none, 4, false), (6, 2, (some .int), 2, false), (6, 2, (some .int), 2, false), (6, 5, (some .int), 2, false)], [(6, 1, (some .int), 1, false), (6, 1, (some .int), 1, false), (6, 1, (some .int), 1, false), (7, 2, none, 2, false), (7, 2, (some .boolean), 1, false), (7, 2, (some .boolean), 2, false), (7, 1, (some .boolean), 1, false), (7, 4, (some .boolean), 1, false), (7, 3, (some .boolean), 1, false), (7, 3, (some .boolean), 1, false), (7, 3, (some .boolean), 1, false), (7, 1, (some .boolean), 1, false), (7, 2, (some .boolean), 2, false), (7, 2, (some .boolean), 2, false), (7, 3, (some .boolean), 3, false), (7, 3, (some .boolean), 3, false)], [(7, 1, (some .boolean), 1, false), (8, 2, none, 2, false), (8, 2, none, 1, false), (8, 4, (some .int), 2, false), (8, 5, (some .int), 2, false), (8, 4, (some .int), 2, false), (8, 7, none, 5, false), (8, 4, (some .boolean), 4, false), (8, 6, none, 4, false), (8, 7, (some .boolean), 5, false), (8, 7, (some .int), 5, false), (8, 5, (some .int), 2, false), (8, 5, (some .boolean), 2, false), (8, 6, (some .int), 2, false), (8, 5, (some .int), 3, false), (8, 6, (some .int), 4, false)], [(9, 1, none, 1, false), (9, 3, none, 2, false), (9, 2, (some .int), 2, false), (9, 1, none, 1, false), (9, 2, none, 1, false), (9, 1, none, 1, false), (9, 1, none, 1, false), (9, 1, (some .boolean), 1, true), (9, 1, (some .boolean), 1, true), (9, 1, (some .boolean), 1, true), (10, 1, none, 1, false), (10, 4, (some .int), 2, false), (10, 6, (some .int), 4, false), (10, 9, none, 1, false), (10, 11, (some .long), 2, true), (10, 3, (some .int), 3, false)], [(10, 5, none, 4, false), (10, 5, none, 4, false), (10, 8, none, 2, false), (10, 14, (some .long), 3, false), (11, 1, none, 1, false), (11, 6, (some .boolean), 3, true), (11, 2, (some .boolean), 2, true), (11, 2, (some .boolean), 2, false), (11, 2, (some .boolean), 2, false), (11, 1, (some .boolean), 1, true), (11, 1, (some .boolean), 1, true), (11, 1, (some .boolean), 1, true), (11, 1, (some .boolean), 1, true), (11, 1, (some .boolean), 1, true), (11, 1, (some .boolean), 1, true), (11, 6, (some .int), 6, false)], [(11, 2, (some .int), 2, false), (11, 2, (some .int), 1, false), (11, 2, (some .int), 2, false), (11, 2, (some .int), 2, false), (11, 3, (some .int), 3, false), (11, 2, (some .int), 2, false), (11, 2, (some .int), 2, false), (11, 2, (some .int), 1, false), (11, 3, (some .int), 3, false), (11, 3, (some .int), 3, false), (11, 4, (some .int), 2, false), (11, 2, (some .int), 2, false), (11, 3, (some .int), 2, false), (11, 3, (some .int), 3, false), (11, 4, (some .int), 4, false), (11, 4, (some .int), 4, false)], [(11, 2, (some .int), 2, false), (11, 2, (some .int), 2, false), (11, 2, (some .int), 1, false), (11, 2, (some .int), 2, false), (11, 5, (some .int), 4, false), (11, 2, (some .boolean), 2, true), (11, 2, (some .int), 2, false), (11, 2, (some .long), 2, false), (11, 3, (some .int), 3, false), (11, 3, (some .long), 3, false), (11, 5, (some .int), 5, false), (11, 5, (some .int), 4, false), (11, 3, (some .int), 3, false), (11, 3, (some .int), 3, false), (11, 4, (some .int), 4, false), (11, 3, (some .int), 3, false)], [(11, 3, (some .int), 3, false), (11, 1, (some .int), 1, false), (11, 3, (some .int), 3, false), (11, 4, (some .int), 4, false), (11, 2, (some .int), 2, false), (12, 6, (some .boolean), 3, true), (12, 2, (some .boolean), 2, false), (12, 2, (some .int), 2, false), (12, 1, (some .boolean), 1, true), (12, 1, (some .boolean), 1, true), (12, 2, none, 1, false), (12, 4, (some .boolean), 2, false), (12, 3, (some .boolean), 3, false), (12, 3, (some .boolean), 3, false), (12, 1, none, 1, false), (12, 4, (some .long), 1, false)], [(12, 2, (some .int), 1, false), (12, 3, (some .boolean), 1, false), (12, 1, (some .boolean), 1, false), (12, 1, (some .boolean), 1, false), (12, 2, (some .boolean), 1, false), (12, 3, (some .boolean), 1, false), (12, 1, (some .boolean), 1, false), (12, 2, (some .boolean), 1, false), (12, 1, none, 1, false), (12, 6, (some .int), 6, false), (12, 3, none, 2, false), (12, 2, (some .int), 2, false), (12, 2, (some .int), 1, false), (12, 2, (some .int), 2, false), (12, 2, (some .int), 2, false), (12, 2, (some .int), 2, false)], [(12, 3, (some .boolean), 3, false), (12, 6, (some .int), 2, false), (12, 3, (some .boolean), 2, false), (12, 8, none, 2, false), (12, 2, none, 1, false), (12, 2, (some .boolean), 2, false), (12, 2, (some .boolean), 2, false), (12, 2, (some .int), 2, false), (12, 5, (some .int), 2, false), (12, 6, (some .boolean), 4, false), (12, 10, (some .int), 1, false), (12, 2, (some .int), 2, false), (12, 2, (some .int), 2, false), (12, 2, (some .int), 2, false), (12, 2, (some .int), 2, false), (12, 6, (some .int), 3, false)], [(12, 5, (some .int), 3, false), (12, 1, (some .boolean), 1, true), (12, 3, (some .int), 3, false), (12, 2, (some .boolean), 2, false), (12, 3, (some .boolean), 2, false), (12, 3, (some .int), 3, false), (12, 4, (some .int), 2, false), (12, 5, (some .int), 2, false), (12, 1, (some .boolean), 1, true), (12, 5, (some .int), 2, false), (12, 3, (some .int), 3, false), (12, 6, (some .int), 4, false), (12, 7, (some .boolean), 3, false), (12, 4, (some .int), 4, false), (12, 3, (some .boolean), 2, false), (12, 6, none, 5, false)], [(12, 4, (some .int), 2, false), (12, 2, (some .int), 2, false), (12, 3, (some .int), 1, false), (12, 2, (some .boolean), 2, false), (12, 2, (some .int), 2, false), (12, 10, (some .long), 2, true), (12, 13, none, 4, false), (12, 7, none, 6, false), (12, 1, (some .boolean), 1, true), (12, 7, (some .int), 4, false), (12, 2, (some .int), 2, false), (12, 2, (some .long), 2, false), (12, 8, (some .int), 3, false), (12, 13, (some .long), 3, false), (12, 1, (some .boolean), 1, true), (12, 1, (some .boolean), 1, true)], [(12, 5, (some .int), 5, false), (12, 6, (some .int), 4, false), (12, 5, (some .int), 3, false), (12, 1, (some .int), 1, false), (12, 1, (some .int), 1, false), (12, 1, (some .int), 1, false), (12, 2, (some .int), 2, false), (12, 2, (some .int), 2, false), (12, 2, (some .int), 2, false), (12, 7, (some .int), 4, false), (12, 2, (some .boolean), 2, false), (12, 5, (some .int), 3, false), (12, 4, (some .int), 4, false), (12, 2, (some .boolean), 2, false), (12, 5, none, 2, false), (12, 1, (some .boolean), 1, true)], [(12, 3, (some .int), 3, false), (12, 2, (some .int), 2, false), (12, 5, (some .int), 3, false), (12, 5, (some .int), 3, false), (12, 6, (some .int), 3, false), (12, 6, (some .int), 1, false), (12, 1, (some .boolean), 1, true), (12, 6, (some .int), 3, false), (12, 7, (some .int), 4, false), (12, 2, (some .int), 2, false), (14, 4, none, 2, true), (13, 4, (some .boolean), 1, true)]]
def pyn (M : Nat) : MethodName := (pn2 pynT (M - 1)).getD yL_law
def pcd (M : Nat) : ByteArray := (pn2 pcdT (M - 1)).getD cL_law
/-- the law (268) is no method that is called -/
def pmw (M : Nat) : Option pMW := bif Nat.ble 1 M && Nat.ble M 267 then pn2 pmwT (M - 1) else none
def pml (M : Nat) : Nat := match pn2 pmwT (M - 1) with
  | some w => w.2.1
  | none => 0
def pmr (M : Nat) : Option FieldType := match pn2 pmwT (M - 1) with
  | some w => w.2.2.1
  | none => none
def pjn (M : Nat) : MethodName := (pn [Lib.objectInit, Lib.Math.max.name, Lib.Math.min.name, Lib.Math.abs.name, Lib.MathLoose.abs_long.x, Lib.MathLoose.max_long.x, arraycopyName, yJ0_length_8abf5, yJ0_charAt_5068e] M).getD Lib.objectInit
/-- a word of the tables in numbers: its kind and four numbers -/
abbrev pWd : Type := Nat × Nat × Nat × Nat × Int
def pwd (q : pWd) (c : Cond) : Cond := match q with
  | (t, a, b, x, y) => match t with
    | 0 => .fieldLink (pown a) b (pfT x y.toNat).1 (pfT x y.toNat).2.1 (pfT x y.toNat).2.2.1
    | 1 => .methodLink (pown a) b (pyn x)
    | 2 => .methodLink (pown a) b (pjn x)
    | 3 => .methodLinkNest (pown a) b (pyn x) "DiscLathe"
    | 4 => .classLink (pown a) b (pown x)
    | 5 => .classLink (pown a) b "[[I"
    | 6 => .code (pyn a) (pcd a) (pml a) (pmr a)
    | 7 => .initialized (pown a)
    | 8 => .static (pyn a)
    | 9 => .instanceMethod (pyn a)
    | 10 => .selects (pyn a).cls (pyn a) (pyn a)
    | 11 => .constantLong (pown a) b (Int64.ofInt y)
    | 12 => .instantiable (pown a) b
    | _ => c
def pD_1 : List pWd := [(7, 13, 0, 0, 0), (7, 11, 0, 0, 0), (7, 9, 0, 0, 0), (7, 6, 0, 0, 0), (7, 7, 0, 0, 0), (7, 8, 0, 0, 0), (7, 1, 0, 0, 0), (7, 5, 0, 0, 0), (7, 14, 0, 0, 0), (7, 10, 0, 0, 0), (7, 3, 0, 0, 0), (7, 0, 0, 0, 0), (7, 2, 0, 0, 0), (7, 4, 0, 0, 0), (7, 12, 0, 0, 0), (99, 0, 0, 0, 0), (99, 0, 0, 0, 0), (99, 0, 0, 0, 0), (99, 0, 0, 0, 0), (99, 0, 0, 0, 0), (99, 0, 0, 0, 0), (4, 13, 7, 11, 0), (12, 11, 11, 0, 0), (1, 13, 9, 117, 0), (9, 117, 0, 0, 0), (6, 117, 0, 0, 0), (2, 11, 1, 0, 0), (99, 0, 0, 0, 0), (99, 0, 0, 0, 0), (4, 11, 7, 9, 0), (12, 9, 6, 0, 0), (3, 11, 9, 97, 0), (9, 97, 0, 0, 0), (6, 97, 0, 0, 0), (2, 9, 3, 0, 0), (0, 9, 9, 9, 0), (0, 9, 15, 9, 1), (0, 9, 19, 9, 2), (0, 5, 60, 9, 2), (0, 11, 119, 9, 2), (0, 8, 116, 9, 2), (0, 9, 22, 9, 3), (0, 10, 72, 9, 3), (0, 7, 44, 9, 3), (0, 9, 25, 9, 4), (0, 7, 54, 9, 4), (0, 9, 28, 9, 5), (0, 10, 81, 9, 5), (0, 7, 61, 9, 5), (99, 0, 0, 0, 0), (99, 0, 0, 0, 0), (99, 0, 0, 0, 0), (99, 0, 0, 0, 0), (99, 0, 0, 0, 0), (99, 0, 0, 0, 0), (99, 0, 0, 0, 0), (99, 0, 0, 0, 0), (99, 0, 0, 0, 0), (99, 0, 0, 0, 0), (99, 0, 0, 0, 0), (99, 0, 0, 0, 0), (99, 0, 0, 0, 0), (99, 0, 0, 0, 0), (4, 11, 16, 6, 0), (12, 6, 12, 0, 0), (3, 11, 18, 56, 0), (9, 56, 0, 0, 0), (6, 56, 0, 0, 0), (2, 6, 3, 0, 0), (0, 6, 9, 6, 0), (0, 7, 51, 6, 0), (0, 11, 149, 6, 0), (0, 6, 15, 6, 1), (0, 11, 98, 6, 1), (0, 2, 87, 6, 1), (0, 7, 90, 6, 1), (0, 5, 105, 6, 1), (0, 6, 18, 6, 2), (0, 8, 50, 6, 2), (0, 1, 29, 6, 2), (0, 4, 47, 6, 2), (0, 11, 106, 6, 2), (0, 7, 108, 6, 2), (0, 0, 67, 6, 2), (0, 2, 144, 6, 2), (0, 5, 127, 6, 2), (0, 6, 21, 6, 3), (0, 1, 53, 6, 3), (0, 7, 134, 6, 3), (0, 11, 158, 6, 3), (0, 6, 24, 6, 4), (0, 6, 28, 6, 5), (0, 11, 190, 6, 5), (0, 6, 32, 6, 6), (0, 1, 59, 6, 6), (0, 11, 193, 6, 6), (0, 6, 35, 6, 7), (0, 7, 131, 6, 7), (0, 11, 187, 6, 7), (0, 6, 38, 6, 8), (0, 4, 91, 6, 8), (0, 1, 62, 6, 8), (0, 2, 104, 6, 8), (0, 0, 63, 6, 8), (0, 5, 130, 6, 8), (0, 11, 180, 6, 8), (0, 6, 41, 6, 9), (0, 1, 56, 6, 9), (0, 6, 44, 6, 10), (0, 6, 47, 6, 11), (0, 8, 72, 6, 11), (0, 7, 124, 6, 11), (0, 11, 184, 6, 11), (99, 0, 0, 0, 0), (99, 0, 0, 0, 0), (99, 0, 0, 0, 0), (99, 0, 0, 0, 0), (99, 0, 0, 0, 0), (99, 0, 0, 0, 0), (99, 0, 0, 0, 0), (99, 0, 0, 0, 0), (99, 0, 0, 0, 0), (99, 0, 0, 0, 0), (99, 0, 0, 0, 0), (99, 0, 0, 0, 0), (99, 0, 0, 0, 0), (99, 0, 0, 0, 0), (99, 0, 0, 0, 0), (99, 0, 0, 0, 0), (99, 0, 0, 0, 0), (99, 0, 0, 0, 0), (99, 0, 0, 0, 0), (99, 0, 0, 0, 0), (99, 0, 0, 0, 0), (99, 0, 0, 0, 0), (99, 0, 0, 0, 0), (99, 0, 0, 0, 0), (99, 0, 0, 0, 0), (99, 0, 0, 0, 0), (99, 0, 0, 0, 0), (4, 11, 23, 7, 0), (12, 7, 5, 0, 0), (1, 11, 25, 68, 0), (9, 68, 0, 0, 0), (6, 68, 0, 0, 0), (2, 7, 3, 0, 0), (4, 7, 9, 6, 0), (3, 7, 11, 56, 0), (0, 7, 29, 7, 0), (0, 7, 12, 7, 1), (0, 11, 130, 7, 1), (0, 7, 18, 7, 2), (0, 7, 22, 7, 3), (0, 11, 152, 7, 3), (0, 7, 26, 7, 4), (0, 11, 155, 7, 4), (99, 0, 0, 0, 0), (99, 0, 0, 0, 0), (99, 0, 0, 0, 0), (99, 0, 0, 0, 0), (99, 0, 0, 0, 0), (99, 0, 0, 0, 0), (99, 0, 0, 0, 0), (99, 0, 0, 0, 0), (99, 0, 0, 0, 0), (99, 0, 0, 0, 0), (99, 0, 0, 0, 0), (4, 11, 32, 8, 0), (12, 8, 11, 0, 0), (1, 11, 34, 82, 0), (9, 82, 0, 0, 0), (6, 82, 0, 0, 0), (2, 8, 3, 0, 0), (5, 8, 41, 0, 0), (99, 0, 0, 0, 0), (0, 8, 46, 8, 0), (0, 8, 9, 8, 1), (0, 1, 35, 8, 1), (0, 11, 196, 8, 1), (0, 8, 15, 8, 2), (0, 1, 50, 8, 2), (0, 11, 164, 8, 2), (0, 8, 19, 8, 3), (0, 8, 23, 8, 4), (0, 8, 26, 8, 5), (0, 8, 29, 8, 6), (0, 8, 32, 8, 7), (0, 8, 35, 8, 8), (0, 8, 38, 8, 9), (0, 8, 43, 8, 10), (99, 0, 0, 0, 0), (99, 0, 0, 0, 0), (99, 0, 0, 0, 0), (99, 0, 0, 0, 0), (99, 0, 0, 0, 0), (99, 0, 0, 0, 0), (99, 0, 0, 0, 0), (99, 0, 0, 0, 0), (99, 0, 0, 0, 0), (99, 0, 0, 0, 0), (99, 0, 0, 0, 0), (99, 0, 0, 0, 0), (99, 0, 0, 0, 0), (99, 0, 0, 0, 0), (99, 0, 0, 0, 0), (99, 0, 0, 0, 0), (99, 0, 0, 0, 0), (99, 0, 0, 0, 0), (99, 0, 0, 0, 0), (99, 0, 0, 0, 0), (99, 0, 0, 0, 0), (99, 0, 0, 0, 0), (99, 0, 0, 0, 0), (4, 11, 41, 1, 0), (12, 1, 5, 0, 0), (1, 11, 43, 10, 0), (9, 10, 0, 0, 0), (6, 10, 0, 0, 0), (2, 1, 3, 0, 0), (0, 1, 21, 1, 0), (0, 1, 25, 1, 1), (0, 1, 9, 1, 2), (0, 11, 212, 1, 2), (0, 1, 15, 1, 3), (0, 11, 215, 1, 3), (0, 1, 18, 1, 4), (0, 11, 218, 1, 4), (99, 0, 0, 0, 0), (99, 0, 0, 0, 0), (99, 0, 0, 0, 0), (99, 0, 0, 0, 0), (99, 0, 0, 0, 0), (99, 0, 0, 0, 0), (99, 0, 0, 0, 0), (99, 0, 0, 0, 0), (99, 0, 0, 0, 0), (99, 0, 0, 0, 0), (99, 0, 0, 0, 0), (4, 11, 50, 5, 0), (12, 5, 10, 0, 0)]
set_option maxRecDepth 100000 in
theorem pD_ok_1 : tables_1_1 = List.zipWith pwd pD_1 tables_1_1 := rfl
def pD_2 : List pWd := [(1, 11, 52, 42, 0), (9, 42, 0, 0, 0), (6, 42, 0, 0, 0), (2, 5, 3, 0, 0), (5, 5, 9, 0, 0), (1, 5, 47, 43, 0), (9, 43, 0, 0, 0), (10, 43, 0, 0, 0), (6, 43, 0, 0, 0), (1, 5, 50, 267, 0), (8, 267, 0, 0, 0), (6, 267, 0, 0, 0), (1, 5, 56, 44, 0), (99, 0, 0, 0, 0), (9, 44, 0, 0, 0), (6, 44, 0, 0, 0), (0, 5, 39, 5, 0), (0, 5, 43, 5, 1), (0, 5, 11, 5, 2), (0, 11, 237, 5, 2), (0, 5, 16, 5, 3), (0, 11, 261, 5, 3), (0, 5, 20, 5, 4), (0, 5, 23, 5, 5), (0, 5, 26, 5, 6), (0, 5, 29, 5, 7), (0, 5, 32, 5, 8), (0, 5, 35, 5, 9), (99, 0, 0, 0, 0), (99, 0, 0, 0, 0), (99, 0, 0, 0, 0), (99, 0, 0, 0, 0), (99, 0, 0, 0, 0), (99, 0, 0, 0, 0), (99, 0, 0, 0, 0), (99, 0, 0, 0, 0), (99, 0, 0, 0, 0), (99, 0, 0, 0, 0), (99, 0, 0, 0, 0), (99, 0, 0, 0, 0), (99, 0, 0, 0, 0), (99, 0, 0, 0, 0), (99, 0, 0, 0, 0), (99, 0, 0, 0, 0), (99, 0, 0, 0, 0), (99, 0, 0, 0, 0), (99, 0, 0, 0, 0), (99, 0, 0, 0, 0), (99, 0, 0, 0, 0), (4, 11, 59, 10, 0), (12, 10, 16, 0, 0), (3, 11, 61, 107, 0), (9, 107, 0, 0, 0), (6, 107, 0, 0, 0), (2, 10, 3, 0, 0), (11, 10, 35, 0, (-1)), (0, 10, 9, 10, 0), (0, 11, 267, 10, 0), (0, 10, 15, 10, 1), (0, 11, 161, 10, 1), (0, 10, 19, 10, 2), (0, 10, 22, 10, 3), (0, 11, 282, 10, 3), (0, 10, 25, 10, 4), (0, 11, 301, 10, 4), (0, 10, 28, 10, 5), (0, 11, 279, 10, 5), (0, 10, 31, 10, 6), (0, 11, 289, 10, 6), (0, 10, 37, 10, 7), (0, 11, 285, 10, 7), (0, 10, 40, 10, 8), (0, 10, 43, 10, 9), (0, 10, 46, 10, 10), (0, 10, 49, 10, 11), (0, 10, 52, 10, 12), (0, 10, 55, 10, 13), (0, 10, 58, 10, 14), (0, 10, 61, 10, 15), (99, 0, 0, 0, 0), (99, 0, 0, 0, 0), (99, 0, 0, 0, 0), (99, 0, 0, 0, 0), (99, 0, 0, 0, 0), (99, 0, 0, 0, 0), (99, 0, 0, 0, 0), (99, 0, 0, 0, 0), (99, 0, 0, 0, 0), (99, 0, 0, 0, 0), (99, 0, 0, 0, 0), (99, 0, 0, 0, 0), (99, 0, 0, 0, 0), (99, 0, 0, 0, 0), (99, 0, 0, 0, 0), (99, 0, 0, 0, 0), (99, 0, 0, 0, 0), (99, 0, 0, 0, 0), (99, 0, 0, 0, 0), (99, 0, 0, 0, 0), (99, 0, 0, 0, 0), (99, 0, 0, 0, 0), (99, 0, 0, 0, 0), (99, 0, 0, 0, 0), (99, 0, 0, 0, 0), (99, 0, 0, 0, 0), (99, 0, 0, 0, 0), (99, 0, 0, 0, 0), (99, 0, 0, 0, 0), (99, 0, 0, 0, 0), (99, 0, 0, 0, 0), (99, 0, 0, 0, 0), (99, 0, 0, 0, 0), (4, 11, 66, 3, 0), (12, 3, 14, 0, 0), (3, 11, 68, 31, 0), (9, 31, 0, 0, 0), (6, 31, 0, 0, 0), (2, 3, 3, 0, 0), (0, 3, 9, 3, 0), (0, 11, 324, 3, 0), (0, 3, 15, 3, 1), (0, 11, 383, 3, 1), (0, 3, 18, 3, 2), (0, 11, 311, 3, 2), (0, 3, 21, 3, 3), (0, 3, 25, 3, 4), (0, 3, 28, 3, 5), (0, 3, 31, 3, 6), (0, 3, 34, 3, 7), (0, 3, 37, 3, 8), (0, 3, 40, 3, 9), (0, 3, 43, 3, 10), (0, 2, 95, 3, 10), (0, 3, 46, 3, 11), (0, 2, 98, 3, 11), (0, 3, 49, 3, 12), (0, 2, 101, 3, 12), (0, 3, 52, 3, 13), (0, 2, 105, 3, 13), (99, 0, 0, 0, 0), (99, 0, 0, 0, 0), (99, 0, 0, 0, 0), (99, 0, 0, 0, 0), (99, 0, 0, 0, 0), (99, 0, 0, 0, 0), (99, 0, 0, 0, 0), (99, 0, 0, 0, 0), (99, 0, 0, 0, 0), (99, 0, 0, 0, 0), (99, 0, 0, 0, 0), (99, 0, 0, 0, 0), (99, 0, 0, 0, 0), (99, 0, 0, 0, 0), (99, 0, 0, 0, 0), (99, 0, 0, 0, 0), (99, 0, 0, 0, 0), (99, 0, 0, 0, 0), (99, 0, 0, 0, 0), (99, 0, 0, 0, 0), (99, 0, 0, 0, 0), (99, 0, 0, 0, 0), (99, 0, 0, 0, 0), (99, 0, 0, 0, 0), (99, 0, 0, 0, 0), (99, 0, 0, 0, 0), (99, 0, 0, 0, 0), (99, 0, 0, 0, 0), (99, 0, 0, 0, 0), (4, 11, 73, 0, 0), (12, 0, 7, 0, 0), (1, 11, 75, 1, 0), (9, 1, 0, 0, 0), (6, 1, 0, 0, 0), (2, 0, 3, 0, 0), (0, 0, 30, 0, 0), (0, 0, 9, 0, 1), (0, 11, 340, 0, 1), (0, 0, 15, 0, 2), (0, 11, 343, 0, 2), (0, 0, 18, 0, 3), (0, 11, 346, 0, 3), (0, 0, 21, 0, 4), (0, 11, 349, 0, 4), (0, 0, 24, 0, 5), (0, 11, 352, 0, 5), (0, 0, 27, 0, 6), (0, 11, 355, 0, 6), (99, 0, 0, 0, 0), (99, 0, 0, 0, 0), (99, 0, 0, 0, 0), (99, 0, 0, 0, 0), (99, 0, 0, 0, 0), (99, 0, 0, 0, 0), (99, 0, 0, 0, 0), (99, 0, 0, 0, 0), (99, 0, 0, 0, 0), (99, 0, 0, 0, 0), (99, 0, 0, 0, 0), (99, 0, 0, 0, 0), (99, 0, 0, 0, 0), (99, 0, 0, 0, 0), (99, 0, 0, 0, 0), (4, 11, 80, 2, 0), (12, 2, 16, 0, 0), (1, 11, 82, 18, 0), (9, 18, 0, 0, 0), (6, 18, 0, 0, 0), (2, 2, 3, 0, 0), (0, 2, 55, 2, 0), (0, 2, 59, 2, 1), (0, 2, 9, 2, 2), (0, 2, 15, 2, 3), (0, 4, 42, 2, 3), (0, 11, 331, 2, 3), (0, 2, 18, 2, 4), (0, 11, 334, 2, 4), (0, 2, 21, 2, 5), (0, 4, 70, 2, 5), (0, 2, 24, 2, 6), (0, 4, 73, 2, 6), (0, 2, 28, 2, 7), (0, 4, 76, 2, 7), (0, 2, 31, 2, 8), (0, 4, 88, 2, 8), (0, 2, 34, 2, 9), (0, 4, 98, 2, 9), (0, 2, 37, 2, 10), (0, 4, 101, 2, 10), (0, 2, 40, 2, 11), (0, 4, 92, 2, 11), (0, 2, 43, 2, 12), (0, 4, 95, 2, 12), (0, 2, 46, 2, 13), (0, 2, 49, 2, 14), (0, 2, 52, 2, 15), (99, 0, 0, 0, 0), (99, 0, 0, 0, 0), (99, 0, 0, 0, 0), (99, 0, 0, 0, 0), (99, 0, 0, 0, 0)]
set_option maxRecDepth 100000 in
theorem pD_ok_2 : tables_1_2 = List.zipWith pwd pD_2 tables_1_2 := rfl
def pD_3 : List pWd := [(99, 0, 0, 0, 0), (99, 0, 0, 0, 0), (99, 0, 0, 0, 0), (99, 0, 0, 0, 0), (99, 0, 0, 0, 0), (99, 0, 0, 0, 0), (99, 0, 0, 0, 0), (99, 0, 0, 0, 0), (99, 0, 0, 0, 0), (99, 0, 0, 0, 0), (99, 0, 0, 0, 0), (99, 0, 0, 0, 0), (99, 0, 0, 0, 0), (99, 0, 0, 0, 0), (99, 0, 0, 0, 0), (99, 0, 0, 0, 0), (99, 0, 0, 0, 0), (99, 0, 0, 0, 0), (99, 0, 0, 0, 0), (99, 0, 0, 0, 0), (99, 0, 0, 0, 0), (99, 0, 0, 0, 0), (99, 0, 0, 0, 0), (99, 0, 0, 0, 0), (99, 0, 0, 0, 0), (99, 0, 0, 0, 0), (99, 0, 0, 0, 0), (99, 0, 0, 0, 0), (4, 11, 89, 4, 0), (12, 4, 9, 0, 0), (1, 11, 91, 37, 0), (9, 37, 0, 0, 0), (6, 37, 0, 0, 0), (2, 4, 5, 0, 0), (0, 4, 34, 4, 0), (0, 4, 38, 4, 1), (0, 4, 11, 4, 2), (0, 4, 15, 4, 3), (0, 4, 18, 4, 4), (0, 4, 21, 4, 5), (0, 4, 24, 4, 6), (0, 4, 27, 4, 7), (0, 4, 31, 4, 8), (99, 0, 0, 0, 0), (99, 0, 0, 0, 0), (99, 0, 0, 0, 0), (99, 0, 0, 0, 0), (99, 0, 0, 0, 0), (99, 0, 0, 0, 0), (99, 0, 0, 0, 0), (99, 0, 0, 0, 0), (99, 0, 0, 0, 0), (99, 0, 0, 0, 0), (99, 0, 0, 0, 0), (99, 0, 0, 0, 0), (99, 0, 0, 0, 0), (99, 0, 0, 0, 0), (99, 0, 0, 0, 0), (99, 0, 0, 0, 0), (99, 0, 0, 0, 0), (99, 0, 0, 0, 0), (99, 0, 0, 0, 0), (0, 11, 10, 11, 0), (0, 11, 19, 11, 1), (0, 11, 28, 11, 2), (0, 11, 37, 11, 3), (0, 11, 46, 11, 4), (0, 11, 55, 11, 5), (0, 11, 62, 11, 6), (0, 11, 69, 11, 7), (0, 11, 76, 11, 8), (0, 11, 85, 11, 9), (0, 11, 94, 11, 10), (99, 0, 0, 0, 0), (99, 0, 0, 0, 0), (99, 0, 0, 0, 0), (99, 0, 0, 0, 0), (99, 0, 0, 0, 0), (99, 0, 0, 0, 0), (99, 0, 0, 0, 0), (99, 0, 0, 0, 0), (99, 0, 0, 0, 0), (99, 0, 0, 0, 0), (99, 0, 0, 0, 0), (99, 0, 0, 0, 0), (99, 0, 0, 0, 0), (99, 0, 0, 0, 0), (99, 0, 0, 0, 0), (99, 0, 0, 0, 0), (99, 0, 0, 0, 0), (99, 0, 0, 0, 0), (99, 0, 0, 0, 0), (99, 0, 0, 0, 0), (99, 0, 0, 0, 0), (99, 0, 0, 0, 0), (99, 0, 0, 0, 0), (1, 13, 13, 128, 0), (9, 128, 0, 0, 0), (10, 128, 0, 0, 0), (6, 128, 0, 0, 0), (1, 11, 122, 98, 0), (9, 98, 0, 0, 0), (10, 98, 0, 0, 0), (6, 98, 0, 0, 0), (1, 13, 18, 129, 0), (9, 129, 0, 0, 0), (10, 129, 0, 0, 0), (6, 129, 0, 0, 0), (1, 11, 102, 118, 0), (8, 118, 0, 0, 0), (6, 118, 0, 0, 0), (1, 13, 23, 130, 0), (9, 130, 0, 0, 0), (10, 130, 0, 0, 0), (6, 130, 0, 0, 0), (1, 11, 126, 69, 0), (9, 69, 0, 0, 0), (10, 69, 0, 0, 0), (6, 69, 0, 0, 0), (1, 7, 33, 57, 0), (9, 57, 0, 0, 0), (10, 57, 0, 0, 0), (6, 57, 0, 0, 0), (1, 7, 36, 100, 0), (9, 100, 0, 0, 0), (10, 100, 0, 0, 0), (6, 100, 0, 0, 0), (1, 7, 41, 101, 0), (9, 101, 0, 0, 0), (10, 101, 0, 0, 0), (6, 101, 0, 0, 0), (1, 9, 32, 99, 0), (9, 99, 0, 0, 0), (10, 99, 0, 0, 0), (6, 99, 0, 0, 0), (1, 9, 36, 104, 0), (8, 104, 0, 0, 0), (6, 104, 0, 0, 0), (1, 9, 40, 105, 0), (8, 105, 0, 0, 0), (6, 105, 0, 0, 0), (1, 9, 43, 102, 0), (99, 0, 0, 0, 0), (9, 102, 0, 0, 0), (6, 102, 0, 0, 0), (11, 9, 52, 0, 27), (11, 9, 54, 0, 97), (1, 9, 46, 106, 0), (8, 106, 0, 0, 0), (6, 106, 0, 0, 0), (1, 9, 49, 103, 0), (99, 0, 0, 0, 0), (9, 103, 0, 0, 0), (6, 103, 0, 0, 0), (11, 9, 56, 0, 10), (11, 9, 58, 0, 48), (1, 7, 47, 71, 0), (99, 0, 0, 0, 0), (9, 71, 0, 0, 0), (6, 71, 0, 0, 0), (1, 7, 57, 70, 0), (99, 0, 0, 0, 0), (9, 70, 0, 0, 0), (6, 70, 0, 0, 0), (11, 7, 65, 0, 405012), (1, 7, 67, 72, 0), (99, 0, 0, 0, 0), (9, 72, 0, 0, 0), (6, 72, 0, 0, 0), (1, 7, 93, 77, 0), (99, 0, 0, 0, 0), (9, 77, 0, 0, 0), (6, 77, 0, 0, 0), (1, 7, 118, 78, 0), (99, 0, 0, 0, 0), (9, 78, 0, 0, 0), (6, 78, 0, 0, 0), (1, 7, 96, 59, 0), (9, 59, 0, 0, 0), (10, 59, 0, 0, 0), (6, 59, 0, 0, 0), (1, 7, 100, 79, 0), (99, 0, 0, 0, 0), (9, 79, 0, 0, 0), (6, 79, 0, 0, 0), (1, 7, 121, 80, 0), (99, 0, 0, 0, 0), (9, 80, 0, 0, 0), (6, 80, 0, 0, 0), (3, 7, 137, 118, 0), (1, 7, 104, 60, 0), (9, 60, 0, 0, 0), (10, 60, 0, 0, 0), (6, 60, 0, 0, 0), (11, 7, 70, 0, 388708), (1, 7, 72, 73, 0), (99, 0, 0, 0, 0), (9, 73, 0, 0, 0), (6, 73, 0, 0, 0), (1, 7, 111, 81, 0), (99, 0, 0, 0, 0), (9, 81, 0, 0, 0), (6, 81, 0, 0, 0), (1, 7, 114, 61, 0), (9, 61, 0, 0, 0), (10, 61, 0, 0, 0), (6, 61, 0, 0, 0), (11, 7, 75, 0, 664272), (1, 7, 77, 74, 0), (99, 0, 0, 0, 0), (9, 74, 0, 0, 0), (6, 74, 0, 0, 0), (3, 7, 128, 119, 0), (8, 119, 0, 0, 0), (6, 119, 0, 0, 0), (11, 7, 80, 0, 259679), (1, 7, 82, 75, 0), (99, 0, 0, 0, 0), (9, 75, 0, 0, 0), (6, 75, 0, 0, 0), (11, 7, 85, 0, 180392), (1, 7, 87, 76, 0), (99, 0, 0, 0, 0), (9, 76, 0, 0, 0), (6, 76, 0, 0, 0), (1, 11, 133, 58, 0), (9, 58, 0, 0, 0), (10, 58, 0, 0, 0), (6, 58, 0, 0, 0), (2, 6, 50, 6, 0), (99, 0, 0, 0, 0), (99, 0, 0, 0, 0), (1, 11, 136, 83, 0), (9, 83, 0, 0, 0), (10, 83, 0, 0, 0), (6, 83, 0, 0, 0), (1, 8, 55, 63, 0), (9, 63, 0, 0, 0), (10, 63, 0, 0, 0), (6, 63, 0, 0, 0)]
set_option maxRecDepth 100000 in
theorem pD_ok_3 : tables_1_3 = List.zipWith pwd pD_3 tables_1_3 := rfl
def pD_4 : List pWd := [(1, 6, 56, 62, 0), (9, 62, 0, 0, 0), (10, 62, 0, 0, 0), (6, 62, 0, 0, 0), (1, 8, 59, 64, 0), (9, 64, 0, 0, 0), (10, 64, 0, 0, 0), (6, 64, 0, 0, 0), (3, 6, 60, 119, 0), (1, 8, 62, 84, 0), (99, 0, 0, 0, 0), (9, 84, 0, 0, 0), (6, 84, 0, 0, 0), (3, 8, 75, 119, 0), (2, 8, 79, 1, 0), (99, 0, 0, 0, 0), (99, 0, 0, 0, 0), (1, 8, 65, 85, 0), (99, 0, 0, 0, 0), (9, 85, 0, 0, 0), (6, 85, 0, 0, 0), (1, 8, 85, 86, 0), (99, 0, 0, 0, 0), (9, 86, 0, 0, 0), (6, 86, 0, 0, 0), (1, 8, 68, 87, 0), (99, 0, 0, 0, 0), (9, 87, 0, 0, 0), (6, 87, 0, 0, 0), (1, 8, 88, 90, 0), (99, 0, 0, 0, 0), (9, 90, 0, 0, 0), (6, 90, 0, 0, 0), (1, 8, 106, 91, 0), (99, 0, 0, 0, 0), (9, 91, 0, 0, 0), (6, 91, 0, 0, 0), (1, 8, 110, 92, 0), (99, 0, 0, 0, 0), (9, 92, 0, 0, 0), (6, 92, 0, 0, 0), (2, 8, 113, 2, 0), (99, 0, 0, 0, 0), (99, 0, 0, 0, 0), (2, 8, 92, 6, 0), (1, 8, 98, 88, 0), (99, 0, 0, 0, 0), (9, 88, 0, 0, 0), (6, 88, 0, 0, 0), (1, 8, 102, 89, 0), (99, 0, 0, 0, 0), (9, 89, 0, 0, 0), (6, 89, 0, 0, 0), (1, 11, 139, 11, 0), (9, 11, 0, 0, 0), (10, 11, 0, 0, 0), (6, 11, 0, 0, 0), (1, 1, 40, 12, 0), (99, 0, 0, 0, 0), (9, 12, 0, 0, 0), (6, 12, 0, 0, 0), (1, 1, 44, 62, 0), (1, 1, 47, 63, 0), (1, 11, 140, 43, 0), (1, 11, 143, 32, 0), (9, 32, 0, 0, 0), (10, 32, 0, 0, 0), (6, 32, 0, 0, 0), (1, 11, 146, 19, 0), (9, 19, 0, 0, 0), (10, 19, 0, 0, 0), (6, 19, 0, 0, 0), (1, 13, 28, 131, 0), (9, 131, 0, 0, 0), (10, 131, 0, 0, 0), (6, 131, 0, 0, 0), (1, 13, 32, 132, 0), (9, 132, 0, 0, 0), (10, 132, 0, 0, 0), (6, 132, 0, 0, 0), (1, 11, 165, 133, 0), (99, 0, 0, 0, 0), (9, 133, 0, 0, 0), (6, 133, 0, 0, 0), (1, 11, 169, 121, 0), (99, 0, 0, 0, 0), (9, 121, 0, 0, 0), (6, 121, 0, 0, 0), (1, 11, 173, 120, 0), (99, 0, 0, 0, 0), (9, 120, 0, 0, 0), (6, 120, 0, 0, 0), (1, 11, 176, 63, 0), (1, 13, 36, 134, 0), (9, 134, 0, 0, 0), (10, 134, 0, 0, 0), (6, 134, 0, 0, 0), (1, 13, 40, 135, 0), (9, 135, 0, 0, 0), (10, 135, 0, 0, 0), (6, 135, 0, 0, 0), (1, 11, 199, 93, 0), (9, 93, 0, 0, 0), (10, 93, 0, 0, 0), (6, 93, 0, 0, 0), (1, 13, 44, 136, 0), (9, 136, 0, 0, 0), (10, 136, 0, 0, 0), (6, 136, 0, 0, 0), (1, 11, 202, 94, 0), (9, 94, 0, 0, 0), (10, 94, 0, 0, 0), (6, 94, 0, 0, 0), (1, 8, 119, 99, 0), (3, 8, 122, 118, 0), (1, 8, 126, 95, 0), (99, 0, 0, 0, 0), (9, 95, 0, 0, 0), (6, 95, 0, 0, 0), (1, 8, 129, 96, 0), (99, 0, 0, 0, 0), (9, 96, 0, 0, 0), (6, 96, 0, 0, 0), (1, 13, 48, 137, 0), (9, 137, 0, 0, 0), (10, 137, 0, 0, 0), (6, 137, 0, 0, 0), (1, 11, 206, 122, 0), (8, 122, 0, 0, 0), (6, 122, 0, 0, 0), (11, 11, 109, 0, 99), (1, 11, 209, 14, 0), (9, 14, 0, 0, 0), (10, 14, 0, 0, 0), (6, 14, 0, 0, 0), (1, 1, 71, 13, 0), (9, 13, 0, 0, 0), (10, 13, 0, 0, 0), (6, 13, 0, 0, 0), (2, 1, 65, 1, 0), (1, 13, 53, 138, 0), (9, 138, 0, 0, 0), (10, 138, 0, 0, 0), (6, 138, 0, 0, 0), (1, 11, 221, 15, 0), (9, 15, 0, 0, 0), (10, 15, 0, 0, 0), (6, 15, 0, 0, 0), (1, 11, 224, 16, 0), (9, 16, 0, 0, 0), (10, 16, 0, 0, 0), (6, 16, 0, 0, 0), (1, 13, 57, 139, 0), (9, 139, 0, 0, 0), (10, 139, 0, 0, 0), (6, 139, 0, 0, 0), (1, 13, 61, 140, 0), (9, 140, 0, 0, 0), (10, 140, 0, 0, 0), (6, 140, 0, 0, 0), (1, 11, 227, 17, 0), (9, 17, 0, 0, 0), (10, 17, 0, 0, 0), (6, 17, 0, 0, 0), (1, 13, 65, 141, 0), (9, 141, 0, 0, 0), (10, 141, 0, 0, 0), (6, 141, 0, 0, 0), (1, 11, 230, 123, 0), (8, 123, 0, 0, 0), (6, 123, 0, 0, 0), (11, 11, 111, 0, 3), (1, 11, 233, 45, 0), (9, 45, 0, 0, 0), (10, 45, 0, 0, 0), (6, 45, 0, 0, 0), (1, 5, 65, 46, 0), (8, 46, 0, 0, 0), (6, 46, 0, 0, 0), (1, 5, 75, 99, 0), (11, 5, 69, 0, 999), (3, 5, 71, 118, 0), (1, 13, 69, 142, 0), (9, 142, 0, 0, 0), (10, 142, 0, 0, 0), (6, 142, 0, 0, 0), (1, 13, 73, 143, 0), (9, 143, 0, 0, 0), (10, 143, 0, 0, 0), (6, 143, 0, 0, 0), (11, 11, 241, 0, 500), (1, 11, 243, 47, 0), (9, 47, 0, 0, 0), (10, 47, 0, 0, 0), (6, 47, 0, 0, 0), (1, 5, 79, 14, 0), (2, 5, 85, 1, 0), (1, 13, 78, 144, 0), (9, 144, 0, 0, 0), (10, 144, 0, 0, 0), (6, 144, 0, 0, 0), (1, 11, 247, 48, 0), (9, 48, 0, 0, 0), (10, 48, 0, 0, 0), (6, 48, 0, 0, 0), (1, 5, 90, 51, 0), (99, 0, 0, 0, 0), (9, 51, 0, 0, 0), (6, 51, 0, 0, 0), (1, 5, 94, 52, 0), (99, 0, 0, 0, 0), (9, 52, 0, 0, 0), (6, 52, 0, 0, 0), (2, 5, 98, 2, 0), (1, 11, 250, 49, 0), (9, 49, 0, 0, 0), (10, 49, 0, 0, 0), (6, 49, 0, 0, 0), (1, 11, 253, 50, 0), (9, 50, 0, 0, 0), (10, 50, 0, 0, 0), (6, 50, 0, 0, 0), (1, 13, 82, 145, 0), (9, 145, 0, 0, 0), (10, 145, 0, 0, 0), (6, 145, 0, 0, 0), (11, 11, 256, 0, 99999), (1, 11, 258, 53, 0), (9, 53, 0, 0, 0), (10, 53, 0, 0, 0), (6, 53, 0, 0, 0), (1, 5, 101, 54, 0), (99, 0, 0, 0, 0), (9, 54, 0, 0, 0), (6, 54, 0, 0, 0), (2, 5, 110, 6, 0), (1, 5, 116, 55, 0), (99, 0, 0, 0, 0), (9, 55, 0, 0, 0), (6, 55, 0, 0, 0)]
set_option maxRecDepth 100000 in
theorem pD_ok_4 : tables_1_4 = List.zipWith pwd pD_4 tables_1_4 := rfl
def pD_5 : List pWd := [(3, 5, 120, 119, 0), (1, 5, 124, 48, 0), (1, 13, 86, 146, 0), (9, 146, 0, 0, 0), (10, 146, 0, 0, 0), (6, 146, 0, 0, 0), (1, 13, 90, 147, 0), (9, 147, 0, 0, 0), (10, 147, 0, 0, 0), (6, 147, 0, 0, 0), (1, 11, 264, 108, 0), (9, 108, 0, 0, 0), (10, 108, 0, 0, 0), (6, 108, 0, 0, 0), (1, 10, 64, 100, 0), (1, 10, 69, 101, 0), (2, 10, 75, 6, 0), (11, 10, 84, 0, 10), (11, 10, 86, 0, 200), (3, 10, 88, 118, 0), (1, 13, 94, 148, 0), (9, 148, 0, 0, 0), (10, 148, 0, 0, 0), (6, 148, 0, 0, 0), (1, 13, 98, 149, 0), (9, 149, 0, 0, 0), (10, 149, 0, 0, 0), (6, 149, 0, 0, 0), (1, 11, 270, 150, 0), (8, 150, 0, 0, 0), (6, 150, 0, 0, 0), (11, 11, 277, 0, 9999), (1, 11, 274, 109, 0), (9, 109, 0, 0, 0), (10, 109, 0, 0, 0), (6, 109, 0, 0, 0), (1, 10, 92, 113, 0), (99, 0, 0, 0, 0), (9, 113, 0, 0, 0), (6, 113, 0, 0, 0), (1, 10, 112, 114, 0), (99, 0, 0, 0, 0), (9, 114, 0, 0, 0), (6, 114, 0, 0, 0), (1, 10, 115, 115, 0), (99, 0, 0, 0, 0), (9, 115, 0, 0, 0), (6, 115, 0, 0, 0), (2, 10, 99, 4, 0), (99, 0, 0, 0, 0), (99, 0, 0, 0, 0), (3, 10, 119, 119, 0), (1, 10, 96, 110, 0), (99, 0, 0, 0, 0), (9, 110, 0, 0, 0), (6, 110, 0, 0, 0), (1, 10, 105, 111, 0), (8, 111, 0, 0, 0), (6, 111, 0, 0, 0), (2, 10, 109, 5, 0), (99, 0, 0, 0, 0), (99, 0, 0, 0, 0), (1, 13, 102, 151, 0), (9, 151, 0, 0, 0), (10, 151, 0, 0, 0), (6, 151, 0, 0, 0), (1, 13, 106, 152, 0), (9, 152, 0, 0, 0), (10, 152, 0, 0, 0), (6, 152, 0, 0, 0), (1, 13, 111, 153, 0), (9, 153, 0, 0, 0), (10, 153, 0, 0, 0), (6, 153, 0, 0, 0), (1, 11, 292, 112, 0), (9, 112, 0, 0, 0), (10, 112, 0, 0, 0), (6, 112, 0, 0, 0), (1, 13, 115, 154, 0), (9, 154, 0, 0, 0), (10, 154, 0, 0, 0), (6, 154, 0, 0, 0), (11, 11, 295, 0, 9), (11, 11, 297, 0, (-2)), (11, 11, 299, 0, (-4)), (1, 11, 304, 116, 0), (9, 116, 0, 0, 0), (10, 116, 0, 0, 0), (6, 116, 0, 0, 0), (11, 10, 123, 0, 1000000), (1, 13, 120, 155, 0), (9, 155, 0, 0, 0), (10, 155, 0, 0, 0), (6, 155, 0, 0, 0), (1, 11, 308, 124, 0), (8, 124, 0, 0, 0), (6, 124, 0, 0, 0), (11, 11, 113, 0, 999), (1, 11, 314, 125, 0), (8, 125, 0, 0, 0), (6, 125, 0, 0, 0), (11, 11, 115, 0, 39), (1, 11, 317, 126, 0), (8, 126, 0, 0, 0), (6, 126, 0, 0, 0), (11, 11, 117, 0, (-99)), (1, 11, 320, 33, 0), (9, 33, 0, 0, 0), (10, 33, 0, 0, 0), (6, 33, 0, 0, 0), (1, 13, 125, 156, 0), (9, 156, 0, 0, 0), (10, 156, 0, 0, 0), (6, 156, 0, 0, 0), (1, 11, 325, 34, 0), (9, 34, 0, 0, 0), (10, 34, 0, 0, 0), (6, 34, 0, 0, 0), (1, 13, 129, 157, 0), (9, 157, 0, 0, 0), (10, 157, 0, 0, 0), (6, 157, 0, 0, 0), (1, 11, 328, 20, 0), (9, 20, 0, 0, 0), (10, 20, 0, 0, 0), (6, 20, 0, 0, 0), (1, 2, 63, 35, 0), (9, 35, 0, 0, 0), (10, 35, 0, 0, 0), (6, 35, 0, 0, 0), (1, 3, 55, 36, 0), (99, 0, 0, 0, 0), (9, 36, 0, 0, 0), (6, 36, 0, 0, 0), (1, 2, 69, 66, 0), (9, 66, 0, 0, 0), (10, 66, 0, 0, 0), (6, 66, 0, 0, 0), (1, 2, 75, 21, 0), (99, 0, 0, 0, 0), (9, 21, 0, 0, 0), (6, 21, 0, 0, 0), (1, 2, 79, 22, 0), (99, 0, 0, 0, 0), (9, 22, 0, 0, 0), (6, 22, 0, 0, 0), (1, 2, 108, 2, 0), (8, 2, 0, 0, 0), (6, 2, 0, 0, 0), (1, 2, 113, 3, 0), (8, 3, 0, 0, 0), (6, 3, 0, 0, 0), (1, 0, 34, 4, 0), (8, 4, 0, 0, 0), (6, 4, 0, 0, 0), (2, 2, 117, 1, 0), (11, 2, 120, 0, 5), (3, 2, 122, 118, 0), (2, 2, 90, 2, 0), (1, 2, 83, 23, 0), (99, 0, 0, 0, 0), (9, 23, 0, 0, 0), (6, 23, 0, 0, 0), (1, 2, 126, 24, 0), (9, 24, 0, 0, 0), (10, 24, 0, 0, 0), (6, 24, 0, 0, 0), (1, 2, 130, 65, 0), (9, 65, 0, 0, 0), (10, 65, 0, 0, 0), (6, 65, 0, 0, 0), (1, 13, 133, 158, 0), (9, 158, 0, 0, 0), (10, 158, 0, 0, 0), (6, 158, 0, 0, 0), (1, 11, 337, 5, 0), (9, 5, 0, 0, 0), (10, 5, 0, 0, 0), (6, 5, 0, 0, 0), (1, 0, 37, 67, 0), (9, 67, 0, 0, 0), (10, 67, 0, 0, 0), (6, 67, 0, 0, 0), (1, 6, 64, 65, 0), (1, 6, 68, 66, 0), (3, 0, 43, 118, 0), (1, 0, 47, 66, 0), (1, 0, 50, 65, 0), (1, 0, 53, 6, 0), (99, 0, 0, 0, 0), (9, 6, 0, 0, 0), (6, 6, 0, 0, 0), (1, 0, 57, 7, 0), (99, 0, 0, 0, 0), (9, 7, 0, 0, 0), (6, 7, 0, 0, 0), (1, 13, 137, 159, 0), (9, 159, 0, 0, 0), (10, 159, 0, 0, 0), (6, 159, 0, 0, 0), (1, 11, 358, 8, 0), (9, 8, 0, 0, 0), (10, 8, 0, 0, 0), (6, 8, 0, 0, 0), (1, 0, 60, 2, 0), (1, 13, 141, 160, 0), (9, 160, 0, 0, 0), (10, 160, 0, 0, 0), (6, 160, 0, 0, 0), (1, 11, 361, 25, 0), (9, 25, 0, 0, 0), (10, 25, 0, 0, 0), (6, 25, 0, 0, 0), (1, 11, 364, 27, 0), (9, 27, 0, 0, 0), (10, 27, 0, 0, 0), (6, 27, 0, 0, 0), (1, 13, 145, 161, 0), (9, 161, 0, 0, 0), (10, 161, 0, 0, 0), (6, 161, 0, 0, 0), (1, 11, 367, 26, 0), (9, 26, 0, 0, 0), (10, 26, 0, 0, 0), (6, 26, 0, 0, 0), (1, 2, 133, 4, 0), (1, 13, 149, 162, 0), (9, 162, 0, 0, 0), (10, 162, 0, 0, 0), (6, 162, 0, 0, 0), (1, 11, 370, 38, 0), (9, 38, 0, 0, 0), (10, 38, 0, 0, 0), (6, 38, 0, 0, 0), (1, 4, 52, 40, 0), (99, 0, 0, 0, 0), (9, 40, 0, 0, 0), (6, 40, 0, 0, 0), (1, 4, 64, 267, 0), (1, 4, 79, 4, 0)]
set_option maxRecDepth 100000 in
theorem pD_ok_5 : tables_1_5 = List.zipWith pwd pD_5 tables_1_5 := rfl
def pD_6 : List pWd := [(1, 4, 85, 24, 0), (1, 4, 56, 39, 0), (99, 0, 0, 0, 0), (9, 39, 0, 0, 0), (6, 39, 0, 0, 0), (1, 4, 60, 41, 0), (99, 0, 0, 0, 0), (9, 41, 0, 0, 0), (6, 41, 0, 0, 0), (1, 4, 104, 2, 0), (2, 4, 107, 1, 0), (1, 13, 153, 163, 0), (9, 163, 0, 0, 0), (10, 163, 0, 0, 0), (6, 163, 0, 0, 0), (1, 11, 374, 127, 0), (8, 127, 0, 0, 0), (6, 127, 0, 0, 0), (1, 11, 377, 28, 0), (9, 28, 0, 0, 0), (10, 28, 0, 0, 0), (6, 28, 0, 0, 0), (1, 2, 136, 29, 0), (99, 0, 0, 0, 0), (9, 29, 0, 0, 0), (6, 29, 0, 0, 0), (1, 2, 140, 30, 0), (99, 0, 0, 0, 0), (9, 30, 0, 0, 0), (6, 30, 0, 0, 0), (1, 13, 157, 164, 0), (9, 164, 0, 0, 0), (10, 164, 0, 0, 0), (6, 164, 0, 0, 0), (1, 11, 380, 9, 0), (9, 9, 0, 0, 0), (10, 9, 0, 0, 0), (6, 9, 0, 0, 0), (1, 0, 70, 8, 0), (1, 13, 161, 165, 0), (9, 165, 0, 0, 0), (10, 165, 0, 0, 0), (6, 165, 0, 0, 0), (1, 11, 386, 67, 0), (4, 13, 10, 12, 0), (12, 12, 74, 0, 0), (1, 13, 12, 185, 0), (9, 185, 0, 0, 0), (6, 185, 0, 0, 0), (2, 12, 153, 0, 0), (5, 12, 180, 0, 0), (1, 12, 254, 197, 0), (99, 0, 0, 0, 0), (9, 197, 0, 0, 0), (6, 197, 0, 0, 0), (1, 12, 333, 196, 0), (99, 0, 0, 0, 0), (9, 196, 0, 0, 0), (6, 196, 0, 0, 0), (1, 12, 324, 194, 0), (99, 0, 0, 0, 0), (9, 194, 0, 0, 0), (6, 194, 0, 0, 0), (1, 12, 289, 192, 0), (99, 0, 0, 0, 0), (9, 192, 0, 0, 0), (6, 192, 0, 0, 0), (2, 12, 318, 1, 0), (1, 12, 327, 195, 0), (99, 0, 0, 0, 0), (9, 195, 0, 0, 0), (6, 195, 0, 0, 0), (1, 12, 330, 193, 0), (99, 0, 0, 0, 0), (9, 193, 0, 0, 0), (6, 193, 0, 0, 0), (0, 12, 16, 12, 0), (0, 12, 67, 12, 1), (0, 12, 13, 12, 2), (0, 12, 7, 12, 3), (0, 12, 20, 12, 4), (0, 12, 27, 12, 5), (0, 12, 37, 12, 6), (0, 12, 56, 12, 7), (0, 12, 1, 12, 8), (0, 12, 10, 12, 9), (0, 12, 267, 12, 10), (0, 12, 270, 12, 11), (0, 12, 158, 12, 12), (0, 12, 273, 12, 13), (0, 12, 70, 12, 14), (0, 12, 97, 12, 15), (0, 12, 126, 12, 16), (0, 12, 129, 12, 17), (0, 12, 122, 12, 18), (0, 12, 73, 12, 19), (0, 12, 160, 12, 20), (0, 12, 163, 12, 21), (0, 12, 166, 12, 22), (0, 12, 169, 12, 23), (0, 12, 171, 12, 24), (0, 12, 174, 12, 25), (0, 12, 177, 12, 26), (0, 12, 87, 12, 27), (0, 12, 91, 12, 28), (0, 12, 94, 12, 29), (0, 12, 104, 12, 30), (0, 12, 107, 12, 31), (0, 12, 110, 12, 32), (0, 12, 113, 12, 33), (0, 12, 315, 12, 34), (0, 12, 182, 12, 35), (0, 12, 185, 12, 36), (0, 12, 188, 12, 37), (0, 12, 191, 12, 38), (0, 12, 194, 12, 39), (0, 12, 197, 12, 40), (0, 12, 200, 12, 41), (0, 12, 203, 12, 42), (0, 12, 386, 12, 43), (0, 12, 392, 12, 44), (0, 12, 395, 12, 45), (0, 12, 206, 12, 46), (0, 12, 209, 12, 47), (0, 12, 403, 12, 48), (0, 12, 312, 12, 49), (0, 12, 433, 12, 50), (0, 12, 212, 12, 51), (0, 12, 215, 12, 52), (0, 12, 218, 12, 53), (0, 12, 221, 12, 54), (0, 12, 224, 12, 55), (0, 12, 427, 12, 56), (0, 12, 430, 12, 57), (0, 12, 424, 12, 58), (0, 12, 420, 12, 59), (0, 12, 276, 12, 60), (0, 12, 279, 12, 61), (0, 12, 282, 12, 62), (0, 12, 227, 12, 63), (0, 12, 230, 12, 64), (0, 12, 233, 12, 65), (0, 12, 236, 12, 66), (0, 12, 239, 12, 67), (0, 12, 242, 12, 68), (0, 12, 245, 12, 69), (0, 12, 248, 12, 70), (0, 12, 496, 12, 71), (0, 12, 499, 12, 72), (0, 12, 251, 12, 73), (99, 0, 0, 0, 0), (99, 0, 0, 0, 0), (99, 0, 0, 0, 0), (99, 0, 0, 0, 0), (99, 0, 0, 0, 0), (99, 0, 0, 0, 0), (99, 0, 0, 0, 0), (99, 0, 0, 0, 0), (99, 0, 0, 0, 0), (99, 0, 0, 0, 0), (99, 0, 0, 0, 0), (99, 0, 0, 0, 0), (99, 0, 0, 0, 0), (99, 0, 0, 0, 0), (99, 0, 0, 0, 0), (99, 0, 0, 0, 0), (99, 0, 0, 0, 0), (99, 0, 0, 0, 0), (99, 0, 0, 0, 0), (99, 0, 0, 0, 0), (99, 0, 0, 0, 0), (99, 0, 0, 0, 0), (99, 0, 0, 0, 0), (99, 0, 0, 0, 0), (99, 0, 0, 0, 0), (99, 0, 0, 0, 0), (99, 0, 0, 0, 0), (99, 0, 0, 0, 0), (99, 0, 0, 0, 0), (99, 0, 0, 0, 0), (99, 0, 0, 0, 0), (99, 0, 0, 0, 0), (99, 0, 0, 0, 0), (99, 0, 0, 0, 0), (99, 0, 0, 0, 0), (99, 0, 0, 0, 0), (99, 0, 0, 0, 0), (99, 0, 0, 0, 0), (99, 0, 0, 0, 0), (99, 0, 0, 0, 0), (99, 0, 0, 0, 0), (99, 0, 0, 0, 0), (99, 0, 0, 0, 0), (99, 0, 0, 0, 0), (99, 0, 0, 0, 0), (99, 0, 0, 0, 0), (99, 0, 0, 0, 0), (99, 0, 0, 0, 0), (99, 0, 0, 0, 0), (99, 0, 0, 0, 0), (99, 0, 0, 0, 0), (99, 0, 0, 0, 0), (99, 0, 0, 0, 0), (99, 0, 0, 0, 0), (99, 0, 0, 0, 0), (99, 0, 0, 0, 0), (99, 0, 0, 0, 0), (99, 0, 0, 0, 0), (99, 0, 0, 0, 0), (99, 0, 0, 0, 0), (99, 0, 0, 0, 0), (99, 0, 0, 0, 0), (99, 0, 0, 0, 0), (99, 0, 0, 0, 0), (99, 0, 0, 0, 0), (99, 0, 0, 0, 0), (99, 0, 0, 0, 0), (99, 0, 0, 0, 0), (99, 0, 0, 0, 0), (99, 0, 0, 0, 0), (99, 0, 0, 0, 0), (99, 0, 0, 0, 0), (99, 0, 0, 0, 0), (99, 0, 0, 0, 0), (99, 0, 0, 0, 0), (99, 0, 0, 0, 0), (99, 0, 0, 0, 0), (99, 0, 0, 0, 0), (99, 0, 0, 0, 0), (99, 0, 0, 0, 0), (99, 0, 0, 0, 0), (99, 0, 0, 0, 0), (99, 0, 0, 0, 0), (99, 0, 0, 0, 0), (99, 0, 0, 0, 0), (99, 0, 0, 0, 0), (99, 0, 0, 0, 0), (99, 0, 0, 0, 0), (99, 0, 0, 0, 0), (99, 0, 0, 0, 0)]
set_option maxRecDepth 100000 in
theorem pD_ok_6 : tables_1_6 = List.zipWith pwd pD_6 tables_1_6 := rfl
def pD_7 : List pWd := [(99, 0, 0, 0, 0), (99, 0, 0, 0, 0), (99, 0, 0, 0, 0), (99, 0, 0, 0, 0), (99, 0, 0, 0, 0), (99, 0, 0, 0, 0), (99, 0, 0, 0, 0), (99, 0, 0, 0, 0), (99, 0, 0, 0, 0), (99, 0, 0, 0, 0), (99, 0, 0, 0, 0), (99, 0, 0, 0, 0), (99, 0, 0, 0, 0), (99, 0, 0, 0, 0), (99, 0, 0, 0, 0), (99, 0, 0, 0, 0), (99, 0, 0, 0, 0), (99, 0, 0, 0, 0), (99, 0, 0, 0, 0), (99, 0, 0, 0, 0), (99, 0, 0, 0, 0), (99, 0, 0, 0, 0), (99, 0, 0, 0, 0), (99, 0, 0, 0, 0), (99, 0, 0, 0, 0), (99, 0, 0, 0, 0), (99, 0, 0, 0, 0), (99, 0, 0, 0, 0), (99, 0, 0, 0, 0), (99, 0, 0, 0, 0), (99, 0, 0, 0, 0), (99, 0, 0, 0, 0), (99, 0, 0, 0, 0), (99, 0, 0, 0, 0), (99, 0, 0, 0, 0), (99, 0, 0, 0, 0), (99, 0, 0, 0, 0), (99, 0, 0, 0, 0), (99, 0, 0, 0, 0), (99, 0, 0, 0, 0), (99, 0, 0, 0, 0), (99, 0, 0, 0, 0), (99, 0, 0, 0, 0), (99, 0, 0, 0, 0), (99, 0, 0, 0, 0), (99, 0, 0, 0, 0), (99, 0, 0, 0, 0), (99, 0, 0, 0, 0), (99, 0, 0, 0, 0), (99, 0, 0, 0, 0), (99, 0, 0, 0, 0), (99, 0, 0, 0, 0), (99, 0, 0, 0, 0), (99, 0, 0, 0, 0), (99, 0, 0, 0, 0), (99, 0, 0, 0, 0), (99, 0, 0, 0, 0), (99, 0, 0, 0, 0), (99, 0, 0, 0, 0), (1, 13, 17, 186, 0), (9, 186, 0, 0, 0), (10, 186, 0, 0, 0), (6, 186, 0, 0, 0), (1, 12, 257, 187, 0), (99, 0, 0, 0, 0), (9, 187, 0, 0, 0), (6, 187, 0, 0, 0), (1, 13, 22, 188, 0), (9, 188, 0, 0, 0), (10, 188, 0, 0, 0), (6, 188, 0, 0, 0), (1, 12, 52, 166, 0), (8, 166, 0, 0, 0), (6, 166, 0, 0, 0), (1, 13, 27, 189, 0), (9, 189, 0, 0, 0), (10, 189, 0, 0, 0), (6, 189, 0, 0, 0), (1, 12, 261, 175, 0), (99, 0, 0, 0, 0), (9, 175, 0, 0, 0), (6, 175, 0, 0, 0), (1, 12, 63, 171, 0), (99, 0, 0, 0, 0), (9, 171, 0, 0, 0), (6, 171, 0, 0, 0), (1, 12, 23, 168, 0), (99, 0, 0, 0, 0), (9, 168, 0, 0, 0), (6, 168, 0, 0, 0), (1, 12, 30, 169, 0), (8, 169, 0, 0, 0), (6, 169, 0, 0, 0), (1, 12, 34, 170, 0), (8, 170, 0, 0, 0), (6, 170, 0, 0, 0), (1, 12, 264, 184, 0), (99, 0, 0, 0, 0), (9, 184, 0, 0, 0), (6, 184, 0, 0, 0), (99, 0, 0, 0, 0), (1, 12, 118, 172, 0), (99, 0, 0, 0, 0), (9, 172, 0, 0, 0), (6, 172, 0, 0, 0), (2, 12, 40, 7, 0), (99, 0, 0, 0, 0), (99, 0, 0, 0, 0), (99, 0, 0, 0, 0), (99, 0, 0, 0, 0), (99, 0, 0, 0, 0), (99, 0, 0, 0, 0), (99, 0, 0, 0, 0), (99, 0, 0, 0, 0), (99, 0, 0, 0, 0), (2, 12, 45, 8, 0), (99, 0, 0, 0, 0), (99, 0, 0, 0, 0), (99, 0, 0, 0, 0), (99, 0, 0, 0, 0), (99, 0, 0, 0, 0), (99, 0, 0, 0, 0), (99, 0, 0, 0, 0), (99, 0, 0, 0, 0), (99, 0, 0, 0, 0), (99, 0, 0, 0, 0), (99, 0, 0, 0, 0), (99, 0, 0, 0, 0), (99, 0, 0, 0, 0), (99, 0, 0, 0, 0), (99, 0, 0, 0, 0), (99, 0, 0, 0, 0), (99, 0, 0, 0, 0), (99, 0, 0, 0, 0), (99, 0, 0, 0, 0), (99, 0, 0, 0, 0), (99, 0, 0, 0, 0), (99, 0, 0, 0, 0), (99, 0, 0, 0, 0), (99, 0, 0, 0, 0), (99, 0, 0, 0, 0), (99, 0, 0, 0, 0), (99, 0, 0, 0, 0), (99, 0, 0, 0, 0), (99, 0, 0, 0, 0), (99, 0, 0, 0, 0), (99, 0, 0, 0, 0), (99, 0, 0, 0, 0), (99, 0, 0, 0, 0), (99, 0, 0, 0, 0), (99, 0, 0, 0, 0), (99, 0, 0, 0, 0), (99, 0, 0, 0, 0), (1, 12, 134, 178, 0), (99, 0, 0, 0, 0), (9, 178, 0, 0, 0), (6, 178, 0, 0, 0), (1, 12, 49, 167, 0), (99, 0, 0, 0, 0), (9, 167, 0, 0, 0), (6, 167, 0, 0, 0), (1, 12, 81, 177, 0), (99, 0, 0, 0, 0), (9, 177, 0, 0, 0), (6, 177, 0, 0, 0), (1, 12, 77, 176, 0), (99, 0, 0, 0, 0), (9, 176, 0, 0, 0), (6, 176, 0, 0, 0), (1, 12, 84, 174, 0), (99, 0, 0, 0, 0), (9, 174, 0, 0, 0), (6, 174, 0, 0, 0), (1, 12, 59, 173, 0), (99, 0, 0, 0, 0), (9, 173, 0, 0, 0), (6, 173, 0, 0, 0), (99, 0, 0, 0, 0), (1, 12, 138, 180, 0), (99, 0, 0, 0, 0), (9, 180, 0, 0, 0), (6, 180, 0, 0, 0), (1, 12, 100, 179, 0), (99, 0, 0, 0, 0), (9, 179, 0, 0, 0), (6, 179, 0, 0, 0), (99, 0, 0, 0, 0), (1, 12, 143, 181, 0), (99, 0, 0, 0, 0), (9, 181, 0, 0, 0), (6, 181, 0, 0, 0), (99, 0, 0, 0, 0), (1, 12, 148, 182, 0), (99, 0, 0, 0, 0), (9, 182, 0, 0, 0), (6, 182, 0, 0, 0), (1, 12, 151, 183, 0), (99, 0, 0, 0, 0), (9, 183, 0, 0, 0), (6, 183, 0, 0, 0), (99, 0, 0, 0, 0), (1, 13, 31, 190, 0), (9, 190, 0, 0, 0), (10, 190, 0, 0, 0), (6, 190, 0, 0, 0), (1, 13, 35, 191, 0), (9, 191, 0, 0, 0), (10, 191, 0, 0, 0), (6, 191, 0, 0, 0), (11, 12, 285, 0, 10), (11, 12, 287, 0, 9), (11, 12, 292, 0, 20), (11, 12, 294, 0, 19), (11, 12, 296, 0, 30), (11, 12, 298, 0, 29), (11, 12, 300, 0, 40), (11, 12, 302, 0, 39), (11, 12, 304, 0, 50), (11, 12, 306, 0, 49), (11, 12, 308, 0, 60), (11, 12, 310, 0, 59), (1, 13, 39, 200, 0), (9, 200, 0, 0, 0), (10, 200, 0, 0, 0), (6, 200, 0, 0, 0), (1, 12, 336, 198, 0), (99, 0, 0, 0, 0), (9, 198, 0, 0, 0), (6, 198, 0, 0, 0), (1, 13, 43, 201, 0), (9, 201, 0, 0, 0), (10, 201, 0, 0, 0), (6, 201, 0, 0, 0), (1, 13, 47, 203, 0), (9, 203, 0, 0, 0), (10, 203, 0, 0, 0), (6, 203, 0, 0, 0), (1, 12, 339, 202, 0), (99, 0, 0, 0, 0), (9, 202, 0, 0, 0)]
set_option maxRecDepth 100000 in
theorem pD_ok_7 : tables_1_7 = List.zipWith pwd pD_7 tables_1_7 := rfl
def pD_8 : List pWd := [(6, 202, 0, 0, 0), (1, 13, 52, 211, 0), (9, 211, 0, 0, 0), (10, 211, 0, 0, 0), (6, 211, 0, 0, 0), (1, 12, 360, 199, 0), (99, 0, 0, 0, 0), (9, 199, 0, 0, 0), (6, 199, 0, 0, 0), (1, 12, 363, 210, 0), (8, 210, 0, 0, 0), (6, 210, 0, 0, 0), (11, 12, 358, 0, 99), (1, 12, 366, 209, 0), (99, 0, 0, 0, 0), (9, 209, 0, 0, 0), (6, 209, 0, 0, 0), (1, 12, 355, 208, 0), (99, 0, 0, 0, 0), (9, 208, 0, 0, 0), (6, 208, 0, 0, 0), (1, 12, 346, 205, 0), (99, 0, 0, 0, 0), (9, 205, 0, 0, 0), (6, 205, 0, 0, 0), (1, 12, 343, 204, 0), (99, 0, 0, 0, 0), (9, 204, 0, 0, 0), (6, 204, 0, 0, 0), (1, 12, 349, 206, 0), (99, 0, 0, 0, 0), (9, 206, 0, 0, 0), (6, 206, 0, 0, 0), (1, 12, 352, 207, 0), (99, 0, 0, 0, 0), (9, 207, 0, 0, 0), (6, 207, 0, 0, 0), (1, 13, 56, 214, 0), (9, 214, 0, 0, 0), (10, 214, 0, 0, 0), (6, 214, 0, 0, 0), (11, 12, 369, 0, 4), (1, 12, 371, 212, 0), (99, 0, 0, 0, 0), (9, 212, 0, 0, 0), (6, 212, 0, 0, 0), (1, 12, 374, 213, 0), (99, 0, 0, 0, 0), (9, 213, 0, 0, 0), (6, 213, 0, 0, 0), (1, 13, 60, 215, 0), (9, 215, 0, 0, 0), (10, 215, 0, 0, 0), (6, 215, 0, 0, 0), (1, 13, 64, 216, 0), (9, 216, 0, 0, 0), (10, 216, 0, 0, 0), (6, 216, 0, 0, 0), (1, 13, 68, 218, 0), (9, 218, 0, 0, 0), (10, 218, 0, 0, 0), (6, 218, 0, 0, 0), (1, 12, 379, 217, 0), (8, 217, 0, 0, 0), (6, 217, 0, 0, 0), (11, 12, 377, 0, 3), (11, 12, 382, 0, 999), (1, 13, 72, 219, 0), (9, 219, 0, 0, 0), (10, 219, 0, 0, 0), (6, 219, 0, 0, 0), (1, 13, 77, 220, 0), (9, 220, 0, 0, 0), (10, 220, 0, 0, 0), (6, 220, 0, 0, 0), (11, 12, 384, 0, 500), (1, 13, 81, 222, 0), (9, 222, 0, 0, 0), (10, 222, 0, 0, 0), (6, 222, 0, 0, 0), (11, 12, 398, 0, 2), (1, 12, 400, 221, 0), (99, 0, 0, 0, 0), (9, 221, 0, 0, 0), (6, 221, 0, 0, 0), (2, 12, 389, 2, 0), (1, 13, 85, 225, 0), (9, 225, 0, 0, 0), (10, 225, 0, 0, 0), (6, 225, 0, 0, 0), (11, 12, 413, 0, 99999), (1, 12, 406, 223, 0), (99, 0, 0, 0, 0), (9, 223, 0, 0, 0), (6, 223, 0, 0, 0), (1, 12, 409, 224, 0), (99, 0, 0, 0, 0), (9, 224, 0, 0, 0), (6, 224, 0, 0, 0), (1, 13, 89, 226, 0), (9, 226, 0, 0, 0), (10, 226, 0, 0, 0), (6, 226, 0, 0, 0), (1, 13, 93, 227, 0), (9, 227, 0, 0, 0), (10, 227, 0, 0, 0), (6, 227, 0, 0, 0), (11, 12, 415, 0, 200), (1, 13, 97, 229, 0), (9, 229, 0, 0, 0), (10, 229, 0, 0, 0), (6, 229, 0, 0, 0), (1, 12, 417, 228, 0), (99, 0, 0, 0, 0), (9, 228, 0, 0, 0), (6, 228, 0, 0, 0), (1, 13, 101, 234, 0), (9, 234, 0, 0, 0), (10, 234, 0, 0, 0), (6, 234, 0, 0, 0), (1, 12, 446, 233, 0), (8, 233, 0, 0, 0), (6, 233, 0, 0, 0), (11, 12, 444, 0, 9999), (1, 12, 440, 232, 0), (99, 0, 0, 0, 0), (9, 232, 0, 0, 0), (6, 232, 0, 0, 0), (1, 12, 436, 231, 0), (99, 0, 0, 0, 0), (9, 231, 0, 0, 0), (6, 231, 0, 0, 0), (1, 12, 449, 230, 0), (8, 230, 0, 0, 0), (6, 230, 0, 0, 0), (1, 13, 105, 235, 0), (9, 235, 0, 0, 0), (10, 235, 0, 0, 0), (6, 235, 0, 0, 0), (1, 13, 110, 236, 0), (9, 236, 0, 0, 0), (10, 236, 0, 0, 0), (6, 236, 0, 0, 0), (11, 12, 453, 0, (-1)), (1, 13, 114, 237, 0), (9, 237, 0, 0, 0), (10, 237, 0, 0, 0), (6, 237, 0, 0, 0), (1, 13, 119, 238, 0), (9, 238, 0, 0, 0), (10, 238, 0, 0, 0), (6, 238, 0, 0, 0), (11, 12, 455, 0, (-2)), (11, 12, 457, 0, (-4)), (11, 12, 459, 0, 1000000), (1, 13, 124, 241, 0), (9, 241, 0, 0, 0), (10, 241, 0, 0, 0), (6, 241, 0, 0, 0), (1, 12, 463, 239, 0), (8, 239, 0, 0, 0), (6, 239, 0, 0, 0), (1, 12, 466, 240, 0), (8, 240, 0, 0, 0), (6, 240, 0, 0, 0), (11, 12, 461, 0, (-99)), (1, 13, 128, 242, 0), (9, 242, 0, 0, 0), (10, 242, 0, 0, 0), (6, 242, 0, 0, 0), (1, 13, 136, 252, 0), (9, 252, 0, 0, 0), (10, 252, 0, 0, 0), (6, 252, 0, 0, 0), (1, 12, 487, 251, 0), (99, 0, 0, 0, 0), (9, 251, 0, 0, 0), (6, 251, 0, 0, 0), (1, 12, 484, 246, 0), (99, 0, 0, 0, 0), (9, 246, 0, 0, 0), (6, 246, 0, 0, 0), (1, 12, 469, 244, 0), (99, 0, 0, 0, 0), (9, 244, 0, 0, 0), (6, 244, 0, 0, 0), (1, 12, 472, 245, 0), (99, 0, 0, 0, 0), (9, 245, 0, 0, 0), (6, 245, 0, 0, 0), (11, 12, 490, 0, 5), (1, 12, 475, 248, 0), (99, 0, 0, 0, 0), (9, 248, 0, 0, 0), (6, 248, 0, 0, 0), (1, 12, 478, 249, 0), (99, 0, 0, 0, 0), (9, 249, 0, 0, 0), (6, 249, 0, 0, 0), (1, 12, 481, 247, 0), (99, 0, 0, 0, 0), (9, 247, 0, 0, 0), (6, 247, 0, 0, 0), (1, 13, 140, 253, 0), (9, 253, 0, 0, 0), (10, 253, 0, 0, 0), (6, 253, 0, 0, 0), (1, 12, 492, 250, 0), (99, 0, 0, 0, 0), (9, 250, 0, 0, 0), (6, 250, 0, 0, 0), (1, 13, 132, 257, 0), (9, 257, 0, 0, 0), (10, 257, 0, 0, 0), (6, 257, 0, 0, 0), (1, 12, 505, 256, 0), (8, 256, 0, 0, 0), (6, 256, 0, 0, 0), (1, 12, 508, 255, 0), (99, 0, 0, 0, 0), (9, 255, 0, 0, 0), (6, 255, 0, 0, 0), (1, 12, 502, 243, 0), (99, 0, 0, 0, 0), (9, 243, 0, 0, 0), (6, 243, 0, 0, 0), (1, 13, 144, 259, 0), (9, 259, 0, 0, 0), (10, 259, 0, 0, 0), (6, 259, 0, 0, 0), (1, 12, 511, 254, 0), (99, 0, 0, 0, 0), (9, 254, 0, 0, 0), (6, 254, 0, 0, 0), (1, 12, 514, 258, 0), (99, 0, 0, 0, 0), (9, 258, 0, 0, 0), (6, 258, 0, 0, 0), (1, 13, 148, 260, 0), (9, 260, 0, 0, 0)]
set_option maxRecDepth 100000 in
theorem pD_ok_8 : tables_1_8 = List.zipWith pwd pD_8 tables_1_8 := rfl
def pD_9 : List pWd := [(10, 260, 0, 0, 0), (6, 260, 0, 0, 0), (1, 13, 152, 262, 0), (9, 262, 0, 0, 0), (10, 262, 0, 0, 0), (6, 262, 0, 0, 0), (1, 12, 517, 261, 0), (99, 0, 0, 0, 0), (9, 261, 0, 0, 0), (6, 261, 0, 0, 0), (1, 13, 156, 264, 0), (9, 264, 0, 0, 0), (10, 264, 0, 0, 0), (6, 264, 0, 0, 0), (1, 12, 520, 263, 0), (8, 263, 0, 0, 0), (6, 263, 0, 0, 0), (2, 12, 523, 3, 0), (99, 0, 0, 0, 0), (99, 0, 0, 0, 0), (1, 13, 160, 265, 0), (9, 265, 0, 0, 0), (10, 265, 0, 0, 0), (6, 265, 0, 0, 0), (1, 13, 164, 266, 0), (9, 266, 0, 0, 0), (10, 266, 0, 0, 0), (6, 266, 0, 0, 0), (99, 0, 0, 0, 0), (99, 0, 0, 0, 0)]
set_option maxRecDepth 100000 in
theorem pD_ok_9 : tables_1_9 = List.zipWith pwd pD_9 tables_1_9 := rfl
def pD_0 : List pWd := [(10, 44, 0, 0, 0), (10, 102, 0, 0, 0), (10, 103, 0, 0, 0), (10, 71, 0, 0, 0), (10, 70, 0, 0, 0), (10, 72, 0, 0, 0), (10, 77, 0, 0, 0), (10, 78, 0, 0, 0), (10, 79, 0, 0, 0), (10, 80, 0, 0, 0), (10, 73, 0, 0, 0), (10, 81, 0, 0, 0), (10, 74, 0, 0, 0), (10, 75, 0, 0, 0), (10, 76, 0, 0, 0), (10, 84, 0, 0, 0), (10, 85, 0, 0, 0), (10, 86, 0, 0, 0), (10, 87, 0, 0, 0), (10, 90, 0, 0, 0), (10, 91, 0, 0, 0), (10, 92, 0, 0, 0), (10, 88, 0, 0, 0), (10, 89, 0, 0, 0), (10, 12, 0, 0, 0), (10, 133, 0, 0, 0), (10, 121, 0, 0, 0), (10, 120, 0, 0, 0), (10, 95, 0, 0, 0), (10, 96, 0, 0, 0), (10, 51, 0, 0, 0), (10, 52, 0, 0, 0), (10, 54, 0, 0, 0), (10, 55, 0, 0, 0), (10, 113, 0, 0, 0), (10, 114, 0, 0, 0), (10, 115, 0, 0, 0), (10, 110, 0, 0, 0), (10, 36, 0, 0, 0), (10, 21, 0, 0, 0), (10, 22, 0, 0, 0), (10, 23, 0, 0, 0), (10, 6, 0, 0, 0), (10, 7, 0, 0, 0), (10, 40, 0, 0, 0), (10, 39, 0, 0, 0), (10, 41, 0, 0, 0), (10, 29, 0, 0, 0), (10, 30, 0, 0, 0), (10, 197, 0, 0, 0), (10, 196, 0, 0, 0), (10, 194, 0, 0, 0), (10, 192, 0, 0, 0), (10, 195, 0, 0, 0), (10, 193, 0, 0, 0), (10, 187, 0, 0, 0), (10, 175, 0, 0, 0), (10, 171, 0, 0, 0), (10, 168, 0, 0, 0), (10, 184, 0, 0, 0), (10, 172, 0, 0, 0), (10, 178, 0, 0, 0), (10, 167, 0, 0, 0), (10, 177, 0, 0, 0), (10, 176, 0, 0, 0), (10, 174, 0, 0, 0), (10, 173, 0, 0, 0), (10, 180, 0, 0, 0), (10, 179, 0, 0, 0), (10, 181, 0, 0, 0), (10, 182, 0, 0, 0), (10, 183, 0, 0, 0), (10, 198, 0, 0, 0), (10, 202, 0, 0, 0), (10, 199, 0, 0, 0), (10, 209, 0, 0, 0), (10, 208, 0, 0, 0), (10, 205, 0, 0, 0), (10, 204, 0, 0, 0), (10, 206, 0, 0, 0), (10, 207, 0, 0, 0), (10, 212, 0, 0, 0), (10, 213, 0, 0, 0), (10, 221, 0, 0, 0), (10, 223, 0, 0, 0), (10, 224, 0, 0, 0), (10, 228, 0, 0, 0), (10, 232, 0, 0, 0), (10, 231, 0, 0, 0), (10, 251, 0, 0, 0), (10, 246, 0, 0, 0), (10, 244, 0, 0, 0), (10, 245, 0, 0, 0), (10, 248, 0, 0, 0), (10, 249, 0, 0, 0), (10, 247, 0, 0, 0), (10, 250, 0, 0, 0), (10, 255, 0, 0, 0), (10, 243, 0, 0, 0), (10, 254, 0, 0, 0), (10, 258, 0, 0, 0), (10, 261, 0, 0, 0)]
set_option maxRecDepth 100000 in
theorem pD_ok_0 : k2_sels lw_privs = List.zipWith pwd pD_0 (k2_sels lw_privs) := rfl
end
section
def pDall : List pWd := pD_0 ++ (pD_1 ++ (pD_2 ++ (pD_3 ++ (pD_4 ++ (pD_5 ++ (pD_6 ++ (pD_7 ++ (pD_8 ++ pD_9))))))))
def lkF : List (Nat × Nat × Nat × Nat) := [(9, 9, 9, 0), (9, 15, 9, 1), (9, 19, 9, 2), (5, 60, 9, 2), (11, 119, 9, 2), (8, 116, 9, 2), (9, 22, 9, 3), (10, 72, 9, 3), (7, 44, 9, 3), (9, 25, 9, 4), (7, 54, 9, 4), (9, 28, 9, 5), (10, 81, 9, 5), (7, 61, 9, 5), (6, 9, 6, 0), (7, 51, 6, 0), (11, 149, 6, 0), (6, 15, 6, 1), (11, 98, 6, 1), (2, 87, 6, 1), (7, 90, 6, 1), (5, 105, 6, 1), (6, 18, 6, 2), (8, 50, 6, 2), (1, 29, 6, 2), (4, 47, 6, 2), (11, 106, 6, 2), (7, 108, 6, 2), (0, 67, 6, 2), (2, 144, 6, 2), (5, 127, 6, 2), (6, 21, 6, 3), (1, 53, 6, 3), (7, 134, 6, 3), (11, 158, 6, 3), (6, 24, 6, 4), (6, 28, 6, 5), (11, 190, 6, 5), (6, 32, 6, 6), (1, 59, 6, 6), (11, 193, 6, 6), (6, 35, 6, 7), (7, 131, 6, 7), (11, 187, 6, 7), (6, 38, 6, 8), (4, 91, 6, 8), (1, 62, 6, 8), (2, 104, 6, 8), (0, 63, 6, 8), (5, 130, 6, 8), (11, 180, 6, 8), (6, 41, 6, 9), (1, 56, 6, 9), (6, 44, 6, 10), (6, 47, 6, 11), (8, 72, 6, 11), (7, 124, 6, 11), (11, 184, 6, 11), (7, 29, 7, 0), (7, 12, 7, 1), (11, 130, 7, 1), (7, 18, 7, 2), (7, 22, 7, 3), (11, 152, 7, 3), (7, 26, 7, 4), (11, 155, 7, 4), (8, 46, 8, 0), (8, 9, 8, 1), (1, 35, 8, 1), (11, 196, 8, 1), (8, 15, 8, 2), (1, 50, 8, 2), (11, 164, 8, 2), (8, 19, 8, 3), (8, 23, 8, 4), (8, 26, 8, 5), (8, 29, 8, 6), (8, 32, 8, 7), (8, 35, 8, 8), (8, 38, 8, 9), (8, 43, 8, 10), (1, 21, 1, 0), (1, 25, 1, 1), (1, 9, 1, 2), (11, 212, 1, 2), (1, 15, 1, 3), (11, 215, 1, 3), (1, 18, 1, 4), (11, 218, 1, 4), (5, 39, 5, 0), (5, 43, 5, 1), (5, 11, 5, 2), (11, 237, 5, 2), (5, 16, 5, 3), (11, 261, 5, 3), (5, 20, 5, 4), (5, 23, 5, 5), (5, 26, 5, 6), (5, 29, 5, 7), (5, 32, 5, 8), (5, 35, 5, 9), (10, 9, 10, 0), (11, 267, 10, 0), (10, 15, 10, 1), (11, 161, 10, 1), (10, 19, 10, 2), (10, 22, 10, 3), (11, 282, 10, 3), (10, 25, 10, 4), (11, 301, 10, 4), (10, 28, 10, 5), (11, 279, 10, 5), (10, 31, 10, 6), (11, 289, 10, 6), (10, 37, 10, 7), (11, 285, 10, 7), (10, 40, 10, 8), (10, 43, 10, 9), (10, 46, 10, 10), (10, 49, 10, 11), (10, 52, 10, 12), (10, 55, 10, 13), (10, 58, 10, 14), (10, 61, 10, 15), (3, 9, 3, 0), (11, 324, 3, 0), (3, 15, 3, 1), (11, 383, 3, 1), (3, 18, 3, 2), (11, 311, 3, 2), (3, 21, 3, 3), (3, 25, 3, 4), (3, 28, 3, 5), (3, 31, 3, 6), (3, 34, 3, 7), (3, 37, 3, 8), (3, 40, 3, 9), (3, 43, 3, 10), (2, 95, 3, 10), (3, 46, 3, 11), (2, 98, 3, 11), (3, 49, 3, 12), (2, 101, 3, 12), (3, 52, 3, 13), (2, 105, 3, 13), (0, 30, 0, 0), (0, 9, 0, 1), (11, 340, 0, 1), (0, 15, 0, 2), (11, 343, 0, 2), (0, 18, 0, 3), (11, 346, 0, 3), (0, 21, 0, 4), (11, 349, 0, 4), (0, 24, 0, 5), (11, 352, 0, 5), (0, 27, 0, 6), (11, 355, 0, 6), (2, 55, 2, 0), (2, 59, 2, 1), (2, 9, 2, 2), (2, 15, 2, 3), (4, 42, 2, 3), (11, 331, 2, 3), (2, 18, 2, 4), (11, 334, 2, 4), (2, 21, 2, 5), (4, 70, 2, 5), (2, 24, 2, 6), (4, 73, 2, 6), (2, 28, 2, 7), (4, 76, 2, 7), (2, 31, 2, 8), (4, 88, 2, 8), (2, 34, 2, 9), (4, 98, 2, 9), (2, 37, 2, 10), (4, 101, 2, 10), (2, 40, 2, 11), (4, 92, 2, 11), (2, 43, 2, 12), (4, 95, 2, 12), (2, 46, 2, 13), (2, 49, 2, 14), (2, 52, 2, 15), (4, 34, 4, 0), (4, 38, 4, 1), (4, 11, 4, 2), (4, 15, 4, 3), (4, 18, 4, 4), (4, 21, 4, 5), (4, 24, 4, 6), (4, 27, 4, 7), (4, 31, 4, 8), (11, 10, 11, 0), (11, 19, 11, 1), (11, 28, 11, 2), (11, 37, 11, 3), (11, 46, 11, 4), (11, 55, 11, 5), (11, 62, 11, 6), (11, 69, 11, 7), (11, 76, 11, 8), (11, 85, 11, 9), (11, 94, 11, 10), (12, 16, 12, 0), (12, 67, 12, 1), (12, 13, 12, 2), (12, 7, 12, 3), (12, 20, 12, 4), (12, 27, 12, 5), (12, 37, 12, 6), (12, 56, 12, 7), (12, 1, 12, 8), (12, 10, 12, 9), (12, 267, 12, 10), (12, 270, 12, 11), (12, 158, 12, 12), (12, 273, 12, 13), (12, 70, 12, 14), (12, 97, 12, 15), (12, 126, 12, 16), (12, 129, 12, 17), (12, 122, 12, 18), (12, 73, 12, 19), (12, 160, 12, 20), (12, 163, 12, 21), (12, 166, 12, 22), (12, 169, 12, 23), (12, 171, 12, 24), (12, 174, 12, 25), (12, 177, 12, 26), (12, 87, 12, 27), (12, 91, 12, 28), (12, 94, 12, 29), (12, 104, 12, 30), (12, 107, 12, 31), (12, 110, 12, 32), (12, 113, 12, 33), (12, 315, 12, 34), (12, 182, 12, 35), (12, 185, 12, 36), (12, 188, 12, 37), (12, 191, 12, 38), (12, 194, 12, 39), (12, 197, 12, 40), (12, 200, 12, 41), (12, 203, 12, 42), (12, 386, 12, 43), (12, 392, 12, 44), (12, 395, 12, 45), (12, 206, 12, 46), (12, 209, 12, 47), (12, 403, 12, 48), (12, 312, 12, 49), (12, 433, 12, 50), (12, 212, 12, 51), (12, 215, 12, 52), (12, 218, 12, 53), (12, 221, 12, 54), (12, 224, 12, 55), (12, 427, 12, 56), (12, 430, 12, 57), (12, 424, 12, 58), (12, 420, 12, 59), (12, 276, 12, 60), (12, 279, 12, 61), (12, 282, 12, 62), (12, 227, 12, 63), (12, 230, 12, 64), (12, 233, 12, 65), (12, 236, 12, 66), (12, 239, 12, 67), (12, 242, 12, 68), (12, 245, 12, 69), (12, 248, 12, 70), (12, 496, 12, 71), (12, 499, 12, 72), (12, 251, 12, 73)]
set_option maxRecDepth 100000 in
theorem lkF_eq : pDall.filterMap (fun q => bif Nat.beq q.1 0 then some (q.2.1, q.2.2.1, q.2.2.2.1, q.2.2.2.2.toNat) else none) = lkF := by decide +kernel
def lkM : List (Nat × Nat × Nat) := [(13, 9, 117), (11, 25, 68), (11, 34, 82), (11, 43, 10), (11, 52, 42), (5, 47, 43), (5, 50, 267), (5, 56, 44), (11, 75, 1), (11, 82, 18), (11, 91, 37), (13, 13, 128), (11, 122, 98), (13, 18, 129), (11, 102, 118), (13, 23, 130), (11, 126, 69), (7, 33, 57), (7, 36, 100), (7, 41, 101), (9, 32, 99), (9, 36, 104), (9, 40, 105), (9, 43, 102), (9, 46, 106), (9, 49, 103), (7, 47, 71), (7, 57, 70), (7, 67, 72), (7, 93, 77), (7, 118, 78), (7, 96, 59), (7, 100, 79), (7, 121, 80), (7, 104, 60), (7, 72, 73), (7, 111, 81), (7, 114, 61), (7, 77, 74), (7, 82, 75), (7, 87, 76), (11, 133, 58), (11, 136, 83), (8, 55, 63), (6, 56, 62), (8, 59, 64), (8, 62, 84), (8, 65, 85), (8, 85, 86), (8, 68, 87), (8, 88, 90), (8, 106, 91), (8, 110, 92), (8, 98, 88), (8, 102, 89), (11, 139, 11), (1, 40, 12), (1, 44, 62), (1, 47, 63), (11, 140, 43), (11, 143, 32), (11, 146, 19), (13, 28, 131), (13, 32, 132), (11, 165, 133), (11, 169, 121), (11, 173, 120), (11, 176, 63), (13, 36, 134), (13, 40, 135), (11, 199, 93), (13, 44, 136), (11, 202, 94), (8, 119, 99), (8, 126, 95), (8, 129, 96), (13, 48, 137), (11, 206, 122), (11, 209, 14), (1, 71, 13), (13, 53, 138), (11, 221, 15), (11, 224, 16), (13, 57, 139), (13, 61, 140), (11, 227, 17), (13, 65, 141), (11, 230, 123), (11, 233, 45), (5, 65, 46), (5, 75, 99), (13, 69, 142), (13, 73, 143), (11, 243, 47), (5, 79, 14), (13, 78, 144), (11, 247, 48), (5, 90, 51), (5, 94, 52), (11, 250, 49), (11, 253, 50), (13, 82, 145), (11, 258, 53), (5, 101, 54), (5, 116, 55), (5, 124, 48), (13, 86, 146), (13, 90, 147), (11, 264, 108), (10, 64, 100), (10, 69, 101), (13, 94, 148), (13, 98, 149), (11, 270, 150), (11, 274, 109), (10, 92, 113), (10, 112, 114), (10, 115, 115), (10, 96, 110), (10, 105, 111), (13, 102, 151), (13, 106, 152), (13, 111, 153), (11, 292, 112), (13, 115, 154), (11, 304, 116), (13, 120, 155), (11, 308, 124), (11, 314, 125), (11, 317, 126), (11, 320, 33), (13, 125, 156), (11, 325, 34), (13, 129, 157), (11, 328, 20), (2, 63, 35), (3, 55, 36), (2, 69, 66), (2, 75, 21), (2, 79, 22), (2, 108, 2), (2, 113, 3), (0, 34, 4), (2, 83, 23), (2, 126, 24), (2, 130, 65), (13, 133, 158), (11, 337, 5), (0, 37, 67), (6, 64, 65), (6, 68, 66), (0, 47, 66), (0, 50, 65), (0, 53, 6), (0, 57, 7), (13, 137, 159), (11, 358, 8), (0, 60, 2), (13, 141, 160), (11, 361, 25), (11, 364, 27), (13, 145, 161), (11, 367, 26), (2, 133, 4), (13, 149, 162), (11, 370, 38), (4, 52, 40), (4, 64, 267), (4, 79, 4), (4, 85, 24), (4, 56, 39), (4, 60, 41), (4, 104, 2), (13, 153, 163), (11, 374, 127), (11, 377, 28), (2, 136, 29), (2, 140, 30), (13, 157, 164), (11, 380, 9), (0, 70, 8), (13, 161, 165), (11, 386, 67), (13, 12, 185), (12, 254, 197), (12, 333, 196), (12, 324, 194), (12, 289, 192), (12, 327, 195), (12, 330, 193), (13, 17, 186), (12, 257, 187), (13, 22, 188), (12, 52, 166), (13, 27, 189), (12, 261, 175), (12, 63, 171), (12, 23, 168), (12, 30, 169), (12, 34, 170), (12, 264, 184), (12, 118, 172), (12, 134, 178), (12, 49, 167), (12, 81, 177), (12, 77, 176), (12, 84, 174), (12, 59, 173), (12, 138, 180), (12, 100, 179), (12, 143, 181), (12, 148, 182), (12, 151, 183), (13, 31, 190), (13, 35, 191), (13, 39, 200), (12, 336, 198), (13, 43, 201), (13, 47, 203), (12, 339, 202), (13, 52, 211), (12, 360, 199), (12, 363, 210), (12, 366, 209), (12, 355, 208), (12, 346, 205), (12, 343, 204), (12, 349, 206), (12, 352, 207), (13, 56, 214), (12, 371, 212), (12, 374, 213), (13, 60, 215), (13, 64, 216), (13, 68, 218), (12, 379, 217), (13, 72, 219), (13, 77, 220), (13, 81, 222), (12, 400, 221), (13, 85, 225), (12, 406, 223), (12, 409, 224), (13, 89, 226), (13, 93, 227), (13, 97, 229), (12, 417, 228), (13, 101, 234), (12, 446, 233), (12, 440, 232), (12, 436, 231), (12, 449, 230), (13, 105, 235), (13, 110, 236), (13, 114, 237), (13, 119, 238), (13, 124, 241), (12, 463, 239), (12, 466, 240), (13, 128, 242), (13, 136, 252), (12, 487, 251), (12, 484, 246), (12, 469, 244), (12, 472, 245), (12, 475, 248), (12, 478, 249), (12, 481, 247), (13, 140, 253), (12, 492, 250), (13, 132, 257), (12, 505, 256), (12, 508, 255), (12, 502, 243), (13, 144, 259), (12, 511, 254), (12, 514, 258), (13, 148, 260), (13, 152, 262), (12, 517, 261), (13, 156, 264), (12, 520, 263), (13, 160, 265), (13, 164, 266)]
set_option maxRecDepth 100000 in
theorem lkM_eq : pDall.filterMap (fun q => bif Nat.beq q.1 1 then some (q.2.1, q.2.2.1, q.2.2.2.1) else none) = lkM := by decide +kernel
def lkJ : List (Nat × Nat × Nat) := [(11, 1, 0), (9, 3, 0), (6, 3, 0), (7, 3, 0), (8, 3, 0), (1, 3, 0), (5, 3, 0), (10, 3, 0), (3, 3, 0), (0, 3, 0), (2, 3, 0), (4, 5, 0), (6, 50, 6), (8, 79, 1), (8, 113, 2), (8, 92, 6), (1, 65, 1), (5, 85, 1), (5, 98, 2), (5, 110, 6), (10, 75, 6), (10, 99, 4), (10, 109, 5), (2, 117, 1), (2, 90, 2), (4, 107, 1), (12, 153, 0), (12, 318, 1), (12, 40, 7), (12, 45, 8), (12, 389, 2), (12, 523, 3)]
set_option maxRecDepth 100000 in
theorem lkJ_eq : pDall.filterMap (fun q => bif Nat.beq q.1 2 then some (q.2.1, q.2.2.1, q.2.2.2.1) else none) = lkJ := by decide +kernel
def lkN : List (Nat × Nat × Nat) := [(11, 9, 97), (11, 18, 56), (7, 11, 56), (11, 61, 107), (11, 68, 31), (7, 137, 118), (7, 128, 119), (6, 60, 119), (8, 75, 119), (8, 122, 118), (5, 71, 118), (5, 120, 119), (10, 88, 118), (10, 119, 119), (2, 122, 118), (0, 43, 118)]
set_option maxRecDepth 100000 in
theorem lkN_eq : pDall.filterMap (fun q => bif Nat.beq q.1 3 then some (q.2.1, q.2.2.1, q.2.2.2.1) else none) = lkN := by decide +kernel
def lkC : List (Nat × Nat × Nat) := [(13, 7, 11), (11, 7, 9), (11, 16, 6), (11, 23, 7), (7, 9, 6), (11, 32, 8), (11, 41, 1), (11, 50, 5), (11, 59, 10), (11, 66, 3), (11, 73, 0), (11, 80, 2), (11, 89, 4), (13, 10, 12)]
set_option maxRecDepth 100000 in
theorem lkC_eq : pDall.filterMap (fun q => bif Nat.beq q.1 4 then some (q.2.1, q.2.2.1, q.2.2.2.1) else none) = lkC := by decide +kernel
def lkA : List (Nat × Nat × Nat) := [(8, 41, 0), (5, 9, 0), (12, 180, 0)]
set_option maxRecDepth 100000 in
theorem lkA_eq : pDall.filterMap (fun q => bif Nat.beq q.1 5 then some (q.2.1, q.2.2.1, q.2.2.2.1) else none) = lkA := by decide +kernel
def lkL : List (Nat × Nat × Int) := [(10, 35, (-1)), (9, 52, 27), (9, 54, 97), (9, 56, 10), (9, 58, 48), (7, 65, 405012), (7, 70, 388708), (7, 75, 664272), (7, 80, 259679), (7, 85, 180392), (11, 109, 99), (11, 111, 3), (5, 69, 999), (11, 241, 500), (11, 256, 99999), (10, 84, 10), (10, 86, 200), (11, 277, 9999), (11, 295, 9), (11, 297, (-2)), (11, 299, (-4)), (10, 123, 1000000), (11, 113, 999), (11, 115, 39), (11, 117, (-99)), (2, 120, 5), (12, 285, 10), (12, 287, 9), (12, 292, 20), (12, 294, 19), (12, 296, 30), (12, 298, 29), (12, 300, 40), (12, 302, 39), (12, 304, 50), (12, 306, 49), (12, 308, 60), (12, 310, 59), (12, 358, 99), (12, 369, 4), (12, 377, 3), (12, 382, 999), (12, 384, 500), (12, 398, 2), (12, 413, 99999), (12, 415, 200), (12, 444, 9999), (12, 453, (-1)), (12, 455, (-2)), (12, 457, (-4)), (12, 459, 1000000), (12, 461, (-99)), (12, 490, 5)]
set_option maxRecDepth 100000 in
theorem lkL_eq : pDall.filterMap (fun q => bif Nat.beq q.1 11 then some (q.2.1, q.2.2.1, q.2.2.2.2) else none) = lkL := by decide +kernel
def lk6 : List Nat := [117, 97, 56, 68, 82, 10, 42, 43, 267, 44, 107, 31, 1, 18, 37, 128, 98, 129, 118, 130, 69, 57, 100, 101, 99, 104, 105, 102, 106, 103, 71, 70, 72, 77, 78, 59, 79, 80, 60, 73, 81, 61, 74, 119, 75, 76, 58, 83, 63, 62, 64, 84, 85, 86, 87, 90, 91, 92, 88, 89, 11, 12, 32, 19, 131, 132, 133, 121, 120, 134, 135, 93, 136, 94, 95, 96, 137, 122, 14, 13, 138, 15, 16, 139, 140, 17, 141, 123, 45, 46, 142, 143, 47, 144, 48, 51, 52, 49, 50, 145, 53, 54, 55, 146, 147, 108, 148, 149, 150, 109, 113, 114, 115, 110, 111, 151, 152, 153, 112, 154, 116, 155, 124, 125, 126, 33, 156, 34, 157, 20, 35, 36, 66, 21, 22, 2, 3, 4, 23, 24, 65, 158, 5, 67, 6, 7, 159, 8, 160, 25, 27, 161, 26, 162, 38, 40, 39, 41, 163, 127, 28, 29, 30, 164, 9, 165, 185, 197, 196, 194, 192, 195, 193, 186, 187, 188, 166, 189, 175, 171, 168, 169, 170, 184, 172, 178, 167, 177, 176, 174, 173, 180, 179, 181, 182, 183, 190, 191, 200, 198, 201, 203, 202, 211, 199, 210, 209, 208, 205, 204, 206, 207, 214, 212, 213, 215, 216, 218, 217, 219, 220, 222, 221, 225, 223, 224, 226, 227, 229, 228, 234, 233, 232, 231, 230, 235, 236, 237, 238, 241, 239, 240, 242, 252, 251, 246, 244, 245, 248, 249, 247, 253, 250, 257, 256, 255, 243, 259, 254, 258, 260, 262, 261, 264, 263, 265, 266]
set_option maxRecDepth 100000 in
theorem lk6_eq : pDall.filterMap (fun q => bif Nat.beq q.1 6 then some q.2.1 else none) = lk6 := by decide +kernel
def lk7 : List Nat := [13, 11, 9, 6, 7, 8, 1, 5, 14, 10, 3, 0, 2, 4, 12]
set_option maxRecDepth 100000 in
theorem lk7_eq : pDall.filterMap (fun q => bif Nat.beq q.1 7 then some q.2.1 else none) = lk7 := by decide +kernel
def lk8 : List Nat := [267, 118, 104, 105, 106, 119, 122, 123, 46, 150, 111, 124, 125, 126, 2, 3, 4, 127, 166, 169, 170, 210, 217, 233, 230, 239, 240, 256, 263]
set_option maxRecDepth 100000 in
theorem lk8_eq : pDall.filterMap (fun q => bif Nat.beq q.1 8 then some q.2.1 else none) = lk8 := by decide +kernel
def lk9 : List Nat := [117, 97, 56, 68, 82, 10, 42, 43, 44, 107, 31, 1, 18, 37, 128, 98, 129, 130, 69, 57, 100, 101, 99, 102, 103, 71, 70, 72, 77, 78, 59, 79, 80, 60, 73, 81, 61, 74, 75, 76, 58, 83, 63, 62, 64, 84, 85, 86, 87, 90, 91, 92, 88, 89, 11, 12, 32, 19, 131, 132, 133, 121, 120, 134, 135, 93, 136, 94, 95, 96, 137, 14, 13, 138, 15, 16, 139, 140, 17, 141, 45, 142, 143, 47, 144, 48, 51, 52, 49, 50, 145, 53, 54, 55, 146, 147, 108, 148, 149, 109, 113, 114, 115, 110, 151, 152, 153, 112, 154, 116, 155, 33, 156, 34, 157, 20, 35, 36, 66, 21, 22, 23, 24, 65, 158, 5, 67, 6, 7, 159, 8, 160, 25, 27, 161, 26, 162, 38, 40, 39, 41, 163, 28, 29, 30, 164, 9, 165, 185, 197, 196, 194, 192, 195, 193, 186, 187, 188, 189, 175, 171, 168, 184, 172, 178, 167, 177, 176, 174, 173, 180, 179, 181, 182, 183, 190, 191, 200, 198, 201, 203, 202, 211, 199, 209, 208, 205, 204, 206, 207, 214, 212, 213, 215, 216, 218, 219, 220, 222, 221, 225, 223, 224, 226, 227, 229, 228, 234, 232, 231, 235, 236, 237, 238, 241, 242, 252, 251, 246, 244, 245, 248, 249, 247, 253, 250, 257, 255, 243, 259, 254, 258, 260, 262, 261, 264, 265, 266]
set_option maxRecDepth 100000 in
theorem lk9_eq : pDall.filterMap (fun q => bif Nat.beq q.1 9 then some q.2.1 else none) = lk9 := by decide +kernel
def lk10 : List Nat := [44, 102, 103, 71, 70, 72, 77, 78, 79, 80, 73, 81, 74, 75, 76, 84, 85, 86, 87, 90, 91, 92, 88, 89, 12, 133, 121, 120, 95, 96, 51, 52, 54, 55, 113, 114, 115, 110, 36, 21, 22, 23, 6, 7, 40, 39, 41, 29, 30, 197, 196, 194, 192, 195, 193, 187, 175, 171, 168, 184, 172, 178, 167, 177, 176, 174, 173, 180, 179, 181, 182, 183, 198, 202, 199, 209, 208, 205, 204, 206, 207, 212, 213, 221, 223, 224, 228, 232, 231, 251, 246, 244, 245, 248, 249, 247, 250, 255, 243, 254, 258, 261, 43, 128, 98, 129, 130, 69, 57, 100, 101, 99, 59, 60, 61, 58, 83, 63, 62, 64, 11, 32, 19, 131, 132, 134, 135, 93, 136, 94, 137, 14, 13, 138, 15, 16, 139, 140, 17, 141, 45, 142, 143, 47, 144, 48, 49, 50, 145, 53, 146, 147, 108, 148, 149, 109, 151, 152, 153, 112, 154, 116, 155, 33, 156, 34, 157, 20, 35, 66, 24, 65, 158, 5, 67, 159, 8, 160, 25, 27, 161, 26, 162, 38, 163, 28, 164, 9, 165, 186, 188, 189, 190, 191, 200, 201, 203, 211, 214, 215, 216, 218, 219, 220, 222, 225, 226, 227, 229, 234, 235, 236, 237, 238, 241, 242, 252, 253, 257, 259, 260, 262, 264, 265, 266]
set_option maxRecDepth 100000 in
theorem lk10_eq : pDall.filterMap (fun q => bif Nat.beq q.1 10 then some q.2.1 else none) = lk10 := by decide +kernel
def lk12 : List (Nat × Nat) := [(11, 11), (9, 6), (6, 12), (7, 5), (8, 11), (1, 5), (5, 10), (10, 16), (3, 14), (0, 7), (2, 16), (4, 9), (12, 74)]
set_option maxRecDepth 100000 in
theorem lk12_eq : pDall.filterMap (fun q => bif Nat.beq q.1 12 then some (q.2.1, q.2.2.1) else none) = lk12 := by decide +kernel
def lkS : List (Nat × Nat × Nat) := [(12, 116, 4), (12, 132, 0), (12, 136, 1), (12, 141, 2), (12, 146, 3)]
def lkf {α : Type} : List (Nat × Nat × α) → Nat → Nat → Option α
  | [], _, _ => none
  | (a, b, v) :: t, K, i => bif Nat.beq a K && Nat.beq b i then some v else lkf t K i
theorem lkf_mem {α : Type} {K i : Nat} {v : α} : ∀ {l : List (Nat × Nat × α)}, lkf l K i = some v → (K, i, v) ∈ l := by
  intro l
  induction l with
  | nil => intro h; cases h
  | cons q t ih =>
    obtain ⟨a, b, w⟩ := q
    intro h
    unfold lkf at h
    cases hc : (Nat.beq a K && Nat.beq b i) with
    | true =>
      rw [hc] at h
      rw [Bool.and_eq_true] at hc
      have h1 := Nat.eq_of_beq_eq_true hc.1
      have h2 := Nat.eq_of_beq_eq_true hc.2
      cases h
      subst h1; subst h2
      exact List.mem_cons_self
    | false => rw [hc] at h; exact List.mem_cons_of_mem _ (ih h)
/-- what a field holds: 0 an int, 1 a long, 2 a reference, 3 a boolean -/
def pfk (ci k : Nat) : Int := match pfY ci k with
  | .int => 0
  | .long => 1
  | .boolean => 3
  | _ => 2
def pfg (ci k : Nat) : Int := match pfk ci k with
  | 3 => 0
  | x => x
def prc (r : Option FieldType) : Nat := match r with
  | none => 0
  | some .long => 2
  | some .boolean => 3
  | some _ => 1
def prc1 (r : Option FieldType) : Nat := match r with
  | none => 0
  | some .long => 2
  | some _ => 1
def ptgt (pc : Nat) (off : Int) (k : Nat → Option pE) : Option pE := bif Int.decEq (((pc : Int) + off).toNat : Int) ((pc : Int) + off) |>.decide then k ((pc : Int) + off).toNat else none
def pnneg (x : Int) : Bool := match x with
  | .ofNat _ => true
  | .negSucc _ => false
/-- the methods that make -/
def pini (M : Nat) : Bool := pmem [1, 10, 18, 31, 37, 42, 56, 68, 82, 97, 107, 117, 185] M
/-- a linked method, called in a way (0 virtual, 1 static, 2 init) -/
def pcalM (way M : Nat) : Option pE := k_op (pmw M) none (fun w => bif Nat.beq way (bif w.2.2.2.2 then 1 else (bif pini M then 2 else 0)) then some (.invokestatic (prc1 w.2.2.1), 3, M, w.2.2.2.1, bif Nat.beq way 0 then (w.1 : Int) else -1) else none)
def pcal (K way i : Nat) : Option pE := match lkf lkM K i with
  | some M => pcalM way M
  | none => match lkf lkN K i with
    | some M => pcalM way M
    | none => match lkf lkJ K i with
      | some J => (match J with
        | 0 => bif Nat.beq way 2 then some (.pop, 3, 0, 0, 0) else none
        | 1 => bif Nat.beq way 1 then some (.f2d, 3, 0, 0, 0) else none
        | 2 => bif Nat.beq way 1 then some (.f2i, 3, 0, 0, 0) else none
        | 3 => bif Nat.beq way 1 then some (.f2l, 3, 0, 0, 0) else none
        | 4 => bif Nat.beq way 1 then some (.d2f, 3, 0, 0, 0) else none
        | 5 => bif Nat.beq way 1 then some (.d2i, 3, 0, 0, 0) else none
        | 6 => bif Nat.beq way 1 then some (.d2l, 3, 0, 0, 0) else none
        | 7 => bif Nat.beq way 0 then some (.daload, 3, 0, 0, 0) else none
        | 8 => bif Nat.beq way 0 then some (.dastore, 3, 0, 0, 0) else none
        | _ => none)
      | none => none
/-- a real instruction, made plain: in the class K, in a method that answers rt -/
def ptr0 (K rt pc : Nat) (r : Instr) (len : Nat) : Option pE := match r with
  | .iconst n => bif (w32 n == n) then some (.iconst n, len, 0, 0, 0) else none
  | .bipush n => bif ((Int8.ofInt n).toInt32.toInt == n) then some (.iconst n, len, 0, 0, 0) else none
  | .sipush n => bif ((Int16.ofInt n).toInt32.toInt == n) then some (.iconst n, len, 0, 0, 0) else none
  | .lconst n => some (.ldc2_w 0, len, 0, 0, (n.val : Int))
  | .ldc2_w i => k_op (lkf lkL K i) none (fun q => some (.ldc2_w 0, len, 0, 0, q))
  | .ldc i => k_op (lkf lkS K i) none (fun q => some (.ldc 0, len, 500 + q, 0, 0))
  | .iload_n k => some (.iload k.val, len, 0, 0, 0)
  | .iload k => some (.iload k, len, 0, 0, 0)
  | .lload_n k => some (.lload k.val, len, 0, 0, 0)
  | .lload k => some (.lload k, len, 0, 0, 0)
  | .aload_n k => some (.aload k.val, len, 0, 0, 0)
  | .aload k => some (.aload k, len, 0, 0, 0)
  | .istore_n k => some (.istore k.val, len, 0, 0, 0)
  | .istore k => some (.istore k, len, 0, 0, 0)
  | .lstore_n k => some (.lstore k.val, len, 0, 0, 0)
  | .lstore k => some (.lstore k, len, 0, 0, 0)
  | .astore_n k => some (.astore k.val, len, 0, 0, 0)
  | .astore k => some (.astore k, len, 0, 0, 0)
  | .iinc i k => some (.iinc i k, len, 0, 0, 0)
  | .iadd => some (.iadd, len, 0, 0, 0)
  | .isub => some (.isub, len, 0, 0, 0)
  | .imul => some (.imul, len, 0, 0, 0)
  | .iand => some (.iand, len, 0, 0, 0)
  | .ior => some (.ior, len, 0, 0, 0)
  | .ixor => some (.ixor, len, 0, 0, 0)
  | .ishl => some (.ishl, len, 0, 0, 0)
  | .ishr => some (.ishr, len, 0, 0, 0)
  | .iushr => some (.iushr, len, 0, 0, 0)
  | .idiv => some (.idiv, len, 0, 0, 0)
  | .irem => some (.irem, len, 0, 0, 0)
  | .ineg => some (.ineg, len, 0, 0, 0)
  | .ladd => some (.ladd, len, 0, 0, 0)
  | .lsub => some (.lsub, len, 0, 0, 0)
  | .lmul => some (.lmul, len, 0, 0, 0)
  | .land => some (.land, len, 0, 0, 0)
  | .lor => some (.lor, len, 0, 0, 0)
  | .ldiv => some (.ldiv, len, 0, 0, 0)
  | .lrem => some (.lrem, len, 0, 0, 0)
  | .lneg => some (.lneg, len, 0, 0, 0)
  | .lshl => some (.lshl, len, 0, 0, 0)
  | .lshr => some (.lshr, len, 0, 0, 0)
  | .lcmp => some (.lcmp, len, 0, 0, 0)
  | .i2l => some (.i2l, len, 0, 0, 0)
  | .l2i => some (.l2i, len, 0, 0, 0)
  | .i2b => some (.i2b, len, 0, 0, 0)
  | .dup => some (.dup, len, 0, 0, 0)
  | .dup2 => some (.dup2, len, 0, 0, 0)
  | .goto off => ptgt pc off (fun t => some (.goto 0, len, t, 0, 0))
  | .ifCond cc off => ptgt pc off (fun t => some (.ifCond cc 0, len, t, 0, 0))
  | .if_icmp cc off => ptgt pc off (fun t => some (.if_icmp cc 0, len, t, 0, 0))
  | .tableswitch d lo hi offs => bif pnneg ((pc : Int) + d) && offs.toList.all (fun o => pnneg ((pc : Int) + o)) then some (.tableswitch d lo hi offs, len, 0, 0, 0) else none
  | .lookupswitch d ps => bif pnneg ((pc : Int) + d) && ps.toList.all (fun o => pnneg ((pc : Int) + o.2)) && (ps.toList.zip (ps.toList.drop 1)).all (fun (a, next) => a.1 < next.1) then some (.lookupswitch d ps, len, 0, 0, 0) else none
  | .getfield i => k_op (lkf lkF K i) none (fun q => some (.getfield 0, len, q.2, q.1, pfg q.1 q.2))
  | .putfield i => k_op (lkf lkF K i) none (fun q => some (.putfield 0, len, q.2, q.1, pfk q.1 q.2))
  | .iaload => some (bif Nat.beq K 13 then .faload else .iaload, len, 0, 0, 0)
  | .laload => some (.laload, len, 0, 0, 0)
  | .baload => some (.baload, len, 0, 0, 0)
  | .aaload => some (.aaload, len, 0, 0, 0)
  | .iastore => some (.iastore, len, 0, 0, 0)
  | .bastore => some (.bastore, len, 0, 0, 0)
  | .lastore => some (.lastore, len, 0, 0, 0)
  | .arraylength => some (bif Nat.beq K 13 then .fastore else .arraylength, len, 0, 0, 0)
  | .invokevirtual i => pcal K 0 i
  | .invokestatic i => pcal K 1 i
  | .invokespecial i => pcal K 2 i
  | .new i => k_op (lkf lkC K i) none (fun q => some (.new 0, len, q, pfN q, 0))
  | .newarray t => match t with
    | .int => some (.newarray .int, len, 100, 0, 0)
    | .long => some (.newarray .long, len, 101, 0, 0)
    | .byte => some (.newarray .byte, len, 102, 0, 0)
    | _ => none
  | .multianewarray i n => bif Nat.beq n 2 then k_op (lkf lkA K i) none (fun _ => some (.multianewarray 0 2, len, 0, 0, 0)) else none
  | .ireturn => some (.ireturn, len, 0, 0, bif Nat.beq rt 3 then 3 else 0)
  | .lreturn => some (.lreturn, len, 0, 0, 0)
  | .return_ => some (.return_, len, 0, 0, 0)
  | _ => none
/-- how long an instruction is -/
def plen (r : Instr) (len : Nat) : Nat := match r with
  | .bipush _ | .iload _ | .lload _ | .aload _ | .istore _ | .lstore _ | .astore _ | .ldc _ | .newarray _ => 2
  | .sipush _ | .ldc2_w _ | .iinc _ _ | .goto _ | .ifCond _ _ | .if_icmp _ _ | .getfield _ | .putfield _ | .invokevirtual _ | .invokestatic _ | .invokespecial _ | .new _ => 3
  | .multianewarray _ _ => 4
  | .tableswitch _ _ _ _ | .lookupswitch _ _ => len
  | _ => 1
def ptr (K rt pc : Nat) (r : Instr) (len : Nat) : Option pE := bif Nat.beq len (plen r len) then ptr0 K rt pc r len else none
def pchkr (K rt : Nat) (cc : ByteArray) : Nat → List (Option pE) → Bool
  | _, [] => true
  | pc, none :: l => pchkr K rt cc (pc + 1) l
  | pc, some e :: l => (match decode cc pc with
    | .ok (r, len) => decide (ptr K rt pc r len = some e)
    | _ => false) && pchkr K rt cc (pc + 1) l
def pchk (K rt : Nat) (cc : ByteArray) : Nat → pT → Bool
  | _, [] => true
  | pc, r :: t => pchkr K rt cc pc r && pchk K rt cc (pc + 16) t
theorem pchkr_at {K rt : Nat} {cc : ByteArray} {e : pE} : ∀ {l : List (Option pE)} {pc j : Nat}, pchkr K rt cc pc l = true → pn l j = some (some e) → ∃ r len, decode cc (pc + j) = .ok (r, len) ∧ ptr K rt (pc + j) r len = some e := by
  intro l
  induction l with
  | nil => intro pc j _ h; cases h
  | cons o l ih =>
    intro pc j h hj
    cases j with
    | zero =>
      cases hj
      unfold pchkr at h
      rw [Bool.and_eq_true] at h
      have h1 := h.1
      split at h1
      · rename_i r len hd
        exact ⟨r, len, hd, of_decide_eq_true h1⟩
      · cases h1
    | succ j =>
      have h2 : pchkr K rt cc (pc + 1) l = true := by
        cases o with
        | none => exact h
        | some e0 =>
          unfold pchkr at h
          rw [Bool.and_eq_true] at h
          exact h.2
      have h3 := ih (j := j) h2 hj
      rw [show pc + (j + 1) = pc + 1 + j by omega]
      exact h3
theorem pchk_at {K rt : Nat} {cc : ByteArray} {e : pE} : ∀ {t : pT} {pc i j : Nat} {l : List (Option pE)}, pchk K rt cc pc t = true → pn t i = some l → pn l j = some (some e) → ∃ r len, decode cc (pc + 16 * i + j) = .ok (r, len) ∧ ptr K rt (pc + 16 * i + j) r len = some e := by
  intro t
  induction t with
  | nil => intro pc i j l _ h _; cases h
  | cons r t ih =>
    intro pc i j l h hi hj
    unfold pchk at h
    rw [Bool.and_eq_true] at h
    cases i with
    | zero => cases hi; exact pchkr_at h.1 hj
    | succ i =>
      have h3 := ih (i := i) h.2 hi hj
      rw [show pc + 16 * (i + 1) + j = pc + 16 + 16 * i + j by omega]
      exact h3
theorem plook_at {K rt : Nat} {cc : ByteArray} {t : pT} {pc : Nat} {e : pE} (h : pchk K rt cc 0 t = true) (hl : plook t pc = some e) : ∃ r len, decode cc pc = .ok (r, len) ∧ ptr K rt pc r len = some e := by
  unfold plook pn2 at hl
  cases h1 : pn t (pc / 16) with
  | none => rw [h1] at hl; cases hl
  | some l =>
    rw [h1] at hl
    dsimp only at hl
    cases h2 : pn l (pc % 16) with
    | none => rw [h2] at hl; cases hl
    | some o =>
      rw [h2] at hl
      cases o with
      | none => cases hl
      | some e0 =>
        cases hl
        have h3 := pchk_at h h1 h2
        rw [show 0 + 16 * (pc / 16) + pc % 16 = pc by omega] at h3
        exact h3
theorem zip_at {D : List pWd} {l : List Cond} (h : l = List.zipWith pwd D l) (hl : D.length = l.length) {q : pWd} (hq : q ∈ D) : ∃ c ∈ l, c = pwd q c := by
  obtain ⟨j, hj⟩ := List.getElem?_of_mem hq
  have hlt : j < l.length := by rw [← hl]; exact (List.getElem?_eq_some_iff.mp hj).1
  refine ⟨l[j], List.getElem_mem hlt, ?_⟩
  have h2 : l[j]? = some l[j] := List.getElem?_eq_getElem hlt
  have h3 : (List.zipWith pwd D l)[j]? = some (pwd q l[j]) := by
    rw [List.getElem?_zipWith, hj, h2]
  rw [← h, h2] at h3
  exact Option.some.inj h3
theorem pwd_any {q : pWd} (h : q.1 ≤ 12) (c c' : Cond) : pwd q c = pwd q c' := by
  obtain ⟨t, a, b, x, y⟩ := q
  have h : t ≤ 12 := h
  rcases t with _ | _ | _ | _ | _ | _ | _ | _ | _ | _ | _ | _ | _ | t
  all_goals first | rfl | omega
theorem zip_mem {D : List pWd} {l : List Cond} (h : l = List.zipWith pwd D l) (hl : D.length = l.length) {q : pWd} (hq : q ∈ D) (ht : q.1 ≤ 12) : pwd q .tt ∈ l := by
  obtain ⟨c, h1, h2⟩ := zip_at h hl hq
  rw [pwd_any ht .tt c, ← h2]
  exact h1
theorem pD_mem {q : pWd} (hq : q ∈ pDall) (ht : q.1 ≤ 12) : pwd q .tt ∈ lw_tbl := by
  unfold pDall at hq
  unfold lw_tbl
  rcases List.mem_append.mp hq with hq | hq
  · exact List.mem_append_left _ (zip_mem pD_ok_0 (by decide +kernel) hq ht)
  refine List.mem_append_right _ ?_
  unfold tables_1
  rcases List.mem_append.mp hq with hq | hq
  · exact List.mem_append_left _ (zip_mem pD_ok_1 (by decide +kernel) hq ht)
  refine List.mem_append_right _ ?_
  rcases List.mem_append.mp hq with hq | hq
  · exact List.mem_append_left _ (zip_mem pD_ok_2 (by decide +kernel) hq ht)
  refine List.mem_append_right _ ?_
  rcases List.mem_append.mp hq with hq | hq
  · exact List.mem_append_left _ (zip_mem pD_ok_3 (by decide +kernel) hq ht)
  refine List.mem_append_right _ ?_
  rcases List.mem_append.mp hq with hq | hq
  · exact List.mem_append_left _ (zip_mem pD_ok_4 (by decide +kernel) hq ht)
  refine List.mem_append_right _ ?_
  rcases List.mem_append.mp hq with hq | hq
  · exact List.mem_append_left _ (zip_mem pD_ok_5 (by decide +kernel) hq ht)
  refine List.mem_append_right _ ?_
  rcases List.mem_append.mp hq with hq | hq
  · exact List.mem_append_left _ (zip_mem pD_ok_6 (by decide +kernel) hq ht)
  refine List.mem_append_right _ ?_
  rcases List.mem_append.mp hq with hq | hq
  · exact List.mem_append_left _ (zip_mem pD_ok_7 (by decide +kernel) hq ht)
  refine List.mem_append_right _ ?_
  rcases List.mem_append.mp hq with hq | hq
  · exact List.mem_append_left _ (zip_mem pD_ok_8 (by decide +kernel) hq ht)
  refine List.mem_append_right _ ?_
  exact zip_mem pD_ok_9 (by decide +kernel) hq ht
theorem pfm {α : Type} {f : pWd → α} {t : Nat} {L : List α} (e : pDall.filterMap (fun q => bif Nat.beq q.1 t then some (f q) else none) = L) {x : α} (hx : x ∈ L) : ∃ q ∈ pDall, q.1 = t ∧ f q = x := by
  rw [← e] at hx
  obtain ⟨q, h1, h2⟩ := List.mem_filterMap.mp hx
  cases hb : Nat.beq q.1 t with
  | true => rw [hb] at h2; cases h2; exact ⟨q, h1, Nat.eq_of_beq_eq_true hb, rfl⟩
  | false => rw [hb] at h2; cases h2
end
section
def t1 : pT := [[some (.aload 0, 1, 0, 0, 0), some (.pop, 3, 0, 0, 0), none, none, some (.aload 0, 1, 0, 0, 0), some (.iconst 0, 1, 0, 0, 0), some (.putfield 0, 3, 1, 0, 0), none, none, some (.aload 0, 1, 0, 0, 0), some (.iconst (-1), 1, 0, 0, 0), some (.putfield 0, 3, 2, 0, 0), none, none, some (.aload 0, 1, 0, 0, 0), some (.iconst 0, 1, 0, 0, 0)],
  [some (.putfield 0, 3, 3, 0, 0), none, none, some (.aload 0, 1, 0, 0, 0), some (.iconst 0, 1, 0, 0, 0), some (.putfield 0, 3, 4, 0, 0), none, none, some (.aload 0, 1, 0, 0, 0), some (.iconst (-1), 1, 0, 0, 0), some (.putfield 0, 3, 5, 0, 0), none, none, some (.aload 0, 1, 0, 0, 0), some (.iconst 0, 1, 0, 0, 0), some (.putfield 0, 3, 6, 0, 0)],
  [none, none, some (.aload 0, 1, 0, 0, 0), some (.aload 1, 1, 0, 0, 0), some (.putfield 0, 3, 0, 0, 2), none, none, some (.return_, 1, 0, 0, 0), none, none, none, none, none, none, none, none]]
set_option maxRecDepth 100000 in
theorem k1 : pchk 0 0 cX0_init 0 t1 = true := by decide +kernel
def t2 : pT := [[some (.iload 0, 1, 0, 0, 0), some (.iload 1, 1, 0, 0, 0), some (.imul, 1, 0, 0, 0), some (.iconst 5, 1, 0, 0, 0), some (.idiv, 1, 0, 0, 0), some (.ireturn, 1, 0, 0, 0), none, none, none, none, none, none, none, none, none, none]]
set_option maxRecDepth 100000 in
theorem k2 : pchk 0 1 cX0_heatOff 0 t2 = true := by decide +kernel
def t3 : pT := [[some (.iload 0, 1, 0, 0, 0), some (.iload 1, 1, 0, 0, 0), some (.invokestatic 1, 3, 4, 2, (-1)), none, none, some (.iload 2, 1, 0, 0, 0), some (.imul, 1, 0, 0, 0), some (.iconst 5, 1, 0, 0, 0), some (.idiv, 1, 0, 0, 0), some (.ireturn, 1, 0, 0, 0), none, none, none, none, none, none]]
set_option maxRecDepth 100000 in
theorem k3 : pchk 0 1 cX0_dullOff 0 t3 = true := by decide +kernel
def t4 : pT := [[some (.iload 0, 1, 0, 0, 0), some (.ifCond .le 0, 3, 23, 0, 0), none, none, some (.iload 0, 1, 0, 0, 0), some (.iconst 1, 1, 0, 0, 0), some (.isub, 1, 0, 0, 0), some (.iconst 4, 1, 0, 0, 0), some (.idiv, 1, 0, 0, 0), some (.iload 1, 1, 0, 0, 0), some (.if_icmp .ne 0, 3, 23, 0, 0), none, none, some (.iload 0, 1, 0, 0, 0), some (.iconst 1, 1, 0, 0, 0), some (.isub, 1, 0, 0, 0)],
  [some (.iconst 4, 1, 0, 0, 0), some (.irem, 1, 0, 0, 0), some (.iconst 1, 1, 0, 0, 0), some (.iadd, 1, 0, 0, 0), some (.goto 0, 3, 24, 0, 0), none, none, some (.iconst 0, 1, 0, 0, 0), some (.ireturn, 1, 0, 0, 0), none, none, none, none, none, none, none]]
set_option maxRecDepth 100000 in
theorem k4 : pchk 0 1 cX0_dullBy 0 t4 = true := by decide +kernel
def t5 : pT := [[some (.iload 1, 1, 0, 0, 0), some (.i2l, 1, 0, 0, 0), some (.ldc2_w 0, 1, 0, 0, 0), some (.aload 0, 1, 0, 0, 0), some (.getfield 0, 3, 0, 0, 2), none, none, some (.invokestatic 1, 3, 67, 1, 6), none, none, some (.iconst 1, 1, 0, 0, 0), some (.isub, 1, 0, 0, 0), some (.i2l, 1, 0, 0, 0), some (.invokestatic 1, 3, 118, 3, (-1)), none, none],
  [some (.ifCond .ne 0, 3, 21, 0, 0), none, none, some (.iconst 0, 1, 0, 0, 0), some (.ireturn, 1, 0, 0, 3), some (.aload 0, 1, 0, 0, 0), some (.getfield 0, 3, 0, 0, 2), none, none, some (.invokestatic 1, 3, 66, 1, 6), none, none, some (.istore 2, 1, 0, 0, 0), some (.aload 0, 1, 0, 0, 0), some (.getfield 0, 3, 0, 0, 2), none],
  [none, some (.invokestatic 1, 3, 65, 1, 6), none, none, some (.istore 3, 1, 0, 0, 0), some (.aload 0, 1, 0, 0, 0), some (.iload 1, 1, 0, 0, 0), some (.iload 2, 1, 0, 0, 0), some (.irem, 1, 0, 0, 0), some (.invokestatic 0, 3, 6, 2, 0), none, none, some (.aload 0, 1, 0, 0, 0), some (.iload 1, 1, 0, 0, 0), some (.iload 2, 1, 0, 0, 0), some (.idiv, 1, 0, 0, 0)],
  [some (.iload 3, 1, 0, 0, 0), some (.irem, 1, 0, 0, 0), some (.invokestatic 0, 3, 7, 2, 0), none, none, some (.aload 0, 1, 0, 0, 0), some (.iload 1, 1, 0, 0, 0), some (.iload 2, 1, 0, 0, 0), some (.iload 3, 1, 0, 0, 0), some (.imul, 1, 0, 0, 0), some (.idiv, 1, 0, 0, 0), some (.iconst 2, 1, 0, 0, 0), some (.isub, 1, 0, 0, 0), some (.putfield 0, 3, 1, 0, 0), none, none],
  [some (.iconst 1, 1, 0, 0, 0), some (.ireturn, 1, 0, 0, 3), none, none, none, none, none, none, none, none, none, none, none, none, none, none]]
set_option maxRecDepth 100000 in
theorem k5 : pchk 0 3 cX0_load 0 t5 = true := by decide +kernel
def t6 : pT := [[some (.aload 0, 1, 0, 0, 0), some (.iload 1, 1, 0, 0, 0), some (.ifCond .ne 0, 3, 9, 0, 0), none, none, some (.iconst (-1), 1, 0, 0, 0), some (.goto 0, 3, 14, 0, 0), none, none, some (.iload 1, 1, 0, 0, 0), some (.iconst 1, 1, 0, 0, 0), some (.isub, 1, 0, 0, 0), some (.iconst 4, 1, 0, 0, 0), some (.idiv, 1, 0, 0, 0), some (.putfield 0, 3, 5, 0, 0), none],
  [none, some (.aload 0, 1, 0, 0, 0), some (.iload 1, 1, 0, 0, 0), some (.ifCond .ne 0, 3, 26, 0, 0), none, none, some (.iconst 0, 1, 0, 0, 0), some (.goto 0, 3, 33, 0, 0), none, none, some (.iload 1, 1, 0, 0, 0), some (.iconst 1, 1, 0, 0, 0), some (.isub, 1, 0, 0, 0), some (.iconst 4, 1, 0, 0, 0), some (.irem, 1, 0, 0, 0), some (.iconst 1, 1, 0, 0, 0)],
  [some (.iadd, 1, 0, 0, 0), some (.putfield 0, 3, 6, 0, 0), none, none, some (.return_, 1, 0, 0, 0), none, none, none, none, none, none, none, none, none, none, none]]
set_option maxRecDepth 100000 in
theorem k6 : pchk 0 0 cX0_loadDull 0 t6 = true := by decide +kernel
def t7 : pT := [[some (.aload 0, 1, 0, 0, 0), some (.iload 1, 1, 0, 0, 0), some (.ifCond .ne 0, 3, 9, 0, 0), none, none, some (.iconst (-1), 1, 0, 0, 0), some (.goto 0, 3, 15, 0, 0), none, none, some (.iload 1, 1, 0, 0, 0), some (.iconst 1, 1, 0, 0, 0), some (.isub, 1, 0, 0, 0), some (.iconst 60, 2, 0, 0, 0), none, some (.idiv, 1, 0, 0, 0), some (.putfield 0, 3, 2, 0, 0)],
  [none, none, some (.aload 0, 1, 0, 0, 0), some (.iload 1, 1, 0, 0, 0), some (.ifCond .ne 0, 3, 27, 0, 0), none, none, some (.iconst 0, 1, 0, 0, 0), some (.goto 0, 3, 35, 0, 0), none, none, some (.iload 1, 1, 0, 0, 0), some (.iconst 1, 1, 0, 0, 0), some (.isub, 1, 0, 0, 0), some (.iconst 5, 1, 0, 0, 0), some (.idiv, 1, 0, 0, 0)],
  [some (.iconst 12, 2, 0, 0, 0), none, some (.irem, 1, 0, 0, 0), some (.putfield 0, 3, 3, 0, 0), none, none, some (.aload 0, 1, 0, 0, 0), some (.iload 1, 1, 0, 0, 0), some (.ifCond .ne 0, 3, 47, 0, 0), none, none, some (.iconst 0, 1, 0, 0, 0), some (.goto 0, 3, 54, 0, 0), none, none, some (.iload 1, 1, 0, 0, 0)],
  [some (.iconst 1, 1, 0, 0, 0), some (.isub, 1, 0, 0, 0), some (.iconst 5, 1, 0, 0, 0), some (.irem, 1, 0, 0, 0), some (.iconst 1, 1, 0, 0, 0), some (.iadd, 1, 0, 0, 0), some (.putfield 0, 3, 4, 0, 0), none, none, some (.return_, 1, 0, 0, 0), none, none, none, none, none, none]]
set_option maxRecDepth 100000 in
theorem k7 : pchk 0 0 cX0_loadWorn 0 t7 = true := by decide +kernel
def t8 : pT := [[some (.aload 0, 1, 0, 0, 0), some (.getfield 0, 3, 1, 0, 0), none, none, some (.iload 1, 1, 0, 0, 0), some (.invokestatic 1, 3, 2, 2, (-1)), none, none, some (.istore 3, 1, 0, 0, 0), some (.aload 0, 1, 0, 0, 0), some (.getfield 0, 3, 0, 0, 2), none, none, some (.getfield 0, 3, 8, 6, 2), none, none],
  [some (.iload 2, 1, 0, 0, 0), some (.iaload, 1, 0, 0, 0), some (.aload 0, 1, 0, 0, 0), some (.getfield 0, 3, 2, 0, 0), none, none, some (.if_icmp .ne 0, 3, 40, 0, 0), none, none, some (.iload 1, 1, 0, 0, 0), some (.aload 0, 1, 0, 0, 0), some (.getfield 0, 3, 3, 0, 0), none, none, some (.if_icmp .lt 0, 3, 40, 0, 0), none],
  [none, some (.iload 3, 1, 0, 0, 0), some (.aload 0, 1, 0, 0, 0), some (.getfield 0, 3, 4, 0, 0), none, none, some (.iadd, 1, 0, 0, 0), some (.istore 3, 1, 0, 0, 0), some (.iload 2, 1, 0, 0, 0), some (.aload 0, 1, 0, 0, 0), some (.getfield 0, 3, 5, 0, 0), none, none, some (.if_icmp .ne 0, 3, 59, 0, 0), none, none],
  [some (.iload 3, 1, 0, 0, 0), some (.aload 0, 1, 0, 0, 0), some (.getfield 0, 3, 6, 0, 0), none, none, some (.iload 1, 1, 0, 0, 0), some (.imul, 1, 0, 0, 0), some (.iconst 5, 1, 0, 0, 0), some (.idiv, 1, 0, 0, 0), some (.iadd, 1, 0, 0, 0), some (.istore 3, 1, 0, 0, 0), some (.iload 3, 1, 0, 0, 0), some (.ireturn, 1, 0, 0, 0), none, none, none]]
set_option maxRecDepth 100000 in
theorem k8 : pchk 0 1 cX0_offBy 0 t8 = true := by decide +kernel
def t9 : pT := [[some (.iconst 0, 1, 0, 0, 0), some (.istore 3, 1, 0, 0, 0), some (.iconst 0, 1, 0, 0, 0), some (.istore 4, 2, 0, 0, 0), none, some (.iconst 0, 1, 0, 0, 0), some (.istore 5, 2, 0, 0, 0), none, some (.iload 5, 2, 0, 0, 0), none, some (.aload 0, 1, 0, 0, 0), some (.getfield 0, 3, 0, 0, 2), none, none, some (.getfield 0, 3, 2, 6, 0), none],
  [none, some (.if_icmp .ge 0, 3, 66, 0, 0), none, none, some (.aload 0, 1, 0, 0, 0), some (.iload 1, 1, 0, 0, 0), some (.iload 5, 2, 0, 0, 0), none, some (.invokestatic 1, 3, 8, 3, 0), none, none, some (.istore 6, 2, 0, 0, 0), none, some (.iload 3, 1, 0, 0, 0), some (.iload 6, 2, 0, 0, 0), none],
  [some (.iload 2, 1, 0, 0, 0), some (.if_icmp .le 0, 3, 40, 0, 0), none, none, some (.iconst 1, 1, 0, 0, 0), some (.goto 0, 3, 41, 0, 0), none, none, some (.iconst 0, 1, 0, 0, 0), some (.ior, 1, 0, 0, 0), some (.istore 3, 1, 0, 0, 0), some (.iload 4, 2, 0, 0, 0), none, some (.iload 6, 2, 0, 0, 0), none, some (.iload 2, 1, 0, 0, 0)],
  [some (.ineg, 1, 0, 0, 0), some (.if_icmp .ge 0, 3, 56, 0, 0), none, none, some (.iconst 1, 1, 0, 0, 0), some (.goto 0, 3, 57, 0, 0), none, none, some (.iconst 0, 1, 0, 0, 0), some (.ior, 1, 0, 0, 0), some (.istore 4, 2, 0, 0, 0), none, some (.iinc 5 1, 3, 0, 0, 0), none, none, some (.goto 0, 3, 8, 0, 0)],
  [none, none, some (.iload 3, 1, 0, 0, 0), some (.ifCond .eq 0, 3, 74, 0, 0), none, none, some (.iconst 1, 1, 0, 0, 0), some (.goto 0, 3, 75, 0, 0), none, none, some (.iconst 0, 1, 0, 0, 0), some (.iload 4, 2, 0, 0, 0), none, some (.ifCond .eq 0, 3, 84, 0, 0), none, none],
  [some (.iconst 2, 1, 0, 0, 0), some (.goto 0, 3, 85, 0, 0), none, none, some (.iconst 0, 1, 0, 0, 0), some (.iadd, 1, 0, 0, 0), some (.ireturn, 1, 0, 0, 0), none, none, none, none, none, none, none, none, none]]
set_option maxRecDepth 100000 in
theorem k9 : pchk 0 1 cX0_binOf 0 t9 = true := by decide +kernel
def t10 : pT := [[some (.aload 0, 1, 0, 0, 0), some (.pop, 3, 0, 0, 0), none, none, some (.aload 0, 1, 0, 0, 0), some (.iconst 7, 2, 0, 0, 0), none, some (.newarray .int, 2, 100, 0, 0), none, some (.putfield 0, 3, 2, 1, 2), none, none, some (.aload 0, 1, 0, 0, 0), some (.iconst 7, 2, 0, 0, 0), none, some (.newarray .int, 2, 100, 0, 0)],
  [none, some (.putfield 0, 3, 3, 1, 2), none, none, some (.aload 0, 1, 0, 0, 0), some (.iconst 7, 2, 0, 0, 0), none, some (.newarray .int, 2, 100, 0, 0), none, some (.putfield 0, 3, 4, 1, 2), none, none, some (.aload 0, 1, 0, 0, 0), some (.aload 1, 1, 0, 0, 0), some (.putfield 0, 3, 0, 1, 2), none],
  [none, some (.aload 0, 1, 0, 0, 0), some (.aload 2, 1, 0, 0, 0), some (.putfield 0, 3, 1, 1, 2), none, none, some (.return_, 1, 0, 0, 0), none, none, none, none, none, none, none, none, none]]
set_option maxRecDepth 100000 in
theorem k10 : pchk 1 0 cX1_init 0 t10 = true := by decide +kernel
def t11 : pT := [[some (.iconst 0, 1, 0, 0, 0), some (.istore 1, 1, 0, 0, 0), some (.iload 1, 1, 0, 0, 0), some (.aload 0, 1, 0, 0, 0), some (.getfield 0, 3, 0, 1, 2), none, none, some (.getfield 0, 3, 2, 6, 0), none, none, some (.if_icmp .ge 0, 3, 94, 0, 0), none, none, some (.aload 0, 1, 0, 0, 0), some (.getfield 0, 3, 2, 1, 2), none],
  [none, some (.iload 1, 1, 0, 0, 0), some (.aload 0, 1, 0, 0, 0), some (.aload 0, 1, 0, 0, 0), some (.getfield 0, 3, 1, 1, 2), none, none, some (.getfield 0, 3, 1, 8, 2), none, none, some (.iload 1, 1, 0, 0, 0), some (.iaload, 1, 0, 0, 0), some (.invokestatic 1, 3, 12, 2, 1), none, none, some (.iastore, 1, 0, 0, 0)],
  [some (.aload 0, 1, 0, 0, 0), some (.getfield 0, 3, 3, 1, 2), none, none, some (.iload 1, 1, 0, 0, 0), some (.aload 0, 1, 0, 0, 0), some (.aload 0, 1, 0, 0, 0), some (.getfield 0, 3, 1, 1, 2), none, none, some (.getfield 0, 3, 1, 8, 2), none, none, some (.iload 1, 1, 0, 0, 0), some (.iaload, 1, 0, 0, 0), some (.aload 0, 1, 0, 0, 0)],
  [some (.getfield 0, 3, 0, 1, 2), none, none, some (.iload 1, 1, 0, 0, 0), some (.invokestatic 1, 3, 62, 2, 6), none, none, some (.iadd, 1, 0, 0, 0), some (.invokestatic 1, 3, 12, 2, 1), none, none, some (.iastore, 1, 0, 0, 0), some (.aload 0, 1, 0, 0, 0), some (.getfield 0, 3, 4, 1, 2), none, none],
  [some (.iload 1, 1, 0, 0, 0), some (.aload 0, 1, 0, 0, 0), some (.aload 0, 1, 0, 0, 0), some (.getfield 0, 3, 1, 1, 2), none, none, some (.getfield 0, 3, 1, 8, 2), none, none, some (.iload 1, 1, 0, 0, 0), some (.iaload, 1, 0, 0, 0), some (.aload 0, 1, 0, 0, 0), some (.getfield 0, 3, 0, 1, 2), none, none, some (.iload 1, 1, 0, 0, 0)],
  [some (.invokestatic 1, 3, 63, 2, 6), none, none, some (.iadd, 1, 0, 0, 0), some (.invokestatic 1, 3, 12, 2, 1), none, none, some (.iastore, 1, 0, 0, 0), some (.iinc 1 1, 3, 0, 0, 0), none, none, some (.goto 0, 3, 2, 0, 0), none, none, some (.return_, 1, 0, 0, 0), none]]
set_option maxRecDepth 100000 in
theorem k11 : pchk 1 0 cX1_layOut 0 t11 = true := by decide +kernel
def t12 : pT := [[some (.aload 0, 1, 0, 0, 0), some (.getfield 0, 3, 1, 1, 2), none, none, some (.getfield 0, 3, 2, 8, 0), none, none, some (.ifCond .gt 0, 3, 14, 0, 0), none, none, some (.iconst 0, 1, 0, 0, 0), some (.goto 0, 3, 34, 0, 0), none, none, some (.iload 1, 1, 0, 0, 0), some (.iconst 100, 2, 0, 0, 0)],
  [none, some (.aload 0, 1, 0, 0, 0), some (.getfield 0, 3, 0, 1, 2), none, none, some (.getfield 0, 3, 3, 6, 0), none, none, some (.isub, 1, 0, 0, 0), some (.imul, 1, 0, 0, 0), some (.aload 0, 1, 0, 0, 0), some (.getfield 0, 3, 1, 1, 2), none, none, some (.getfield 0, 3, 2, 8, 0), none],
  [none, some (.idiv, 1, 0, 0, 0), some (.ireturn, 1, 0, 0, 0), none, none, none, none, none, none, none, none, none, none, none, none, none]]
set_option maxRecDepth 100000 in
theorem k12 : pchk 1 1 cX1_markOf 0 t12 = true := by decide +kernel
def t13 : pT := [[some (.iload 2, 1, 0, 0, 0), some (.aload 0, 1, 0, 0, 0), some (.getfield 0, 3, 2, 1, 2), none, none, some (.iload 1, 1, 0, 0, 0), some (.iaload, 1, 0, 0, 0), some (.if_icmp .lt 0, 3, 21, 0, 0), none, none, some (.iload 2, 1, 0, 0, 0), some (.aload 0, 1, 0, 0, 0), some (.getfield 0, 3, 2, 1, 2), none, none, some (.iload 1, 1, 0, 0, 0)],
  [some (.iaload, 1, 0, 0, 0), some (.isub, 1, 0, 0, 0), some (.goto 0, 3, 32, 0, 0), none, none, some (.iload 2, 1, 0, 0, 0), some (.aload 0, 1, 0, 0, 0), some (.getfield 0, 3, 2, 1, 2), none, none, some (.iload 1, 1, 0, 0, 0), some (.iaload, 1, 0, 0, 0), some (.isub, 1, 0, 0, 0), some (.iconst 100, 2, 0, 0, 0), none, some (.iadd, 1, 0, 0, 0)],
  [some (.istore 3, 1, 0, 0, 0), some (.aload 0, 1, 0, 0, 0), some (.getfield 0, 3, 3, 1, 2), none, none, some (.iload 1, 1, 0, 0, 0), some (.iaload, 1, 0, 0, 0), some (.aload 0, 1, 0, 0, 0), some (.getfield 0, 3, 2, 1, 2), none, none, some (.iload 1, 1, 0, 0, 0), some (.iaload, 1, 0, 0, 0), some (.isub, 1, 0, 0, 0), some (.istore 4, 2, 0, 0, 0), none],
  [some (.aload 0, 1, 0, 0, 0), some (.getfield 0, 3, 4, 1, 2), none, none, some (.iload 1, 1, 0, 0, 0), some (.iaload, 1, 0, 0, 0), some (.aload 0, 1, 0, 0, 0), some (.getfield 0, 3, 2, 1, 2), none, none, some (.iload 1, 1, 0, 0, 0), some (.iaload, 1, 0, 0, 0), some (.isub, 1, 0, 0, 0), some (.istore 5, 2, 0, 0, 0), none, some (.iload 4, 2, 0, 0, 0)],
  [none, some (.ifCond .le 0, 3, 89, 0, 0), none, none, some (.iload 3, 1, 0, 0, 0), some (.iload 4, 2, 0, 0, 0), none, some (.if_icmp .ge 0, 3, 89, 0, 0), none, none, some (.aload 0, 1, 0, 0, 0), some (.getfield 0, 3, 0, 1, 2), none, none, some (.getfield 0, 3, 9, 6, 2), none],
  [none, some (.iload 1, 1, 0, 0, 0), some (.iaload, 1, 0, 0, 0), some (.iload 3, 1, 0, 0, 0), some (.imul, 1, 0, 0, 0), some (.iload 4, 2, 0, 0, 0), none, some (.idiv, 1, 0, 0, 0), some (.ireturn, 1, 0, 0, 0), some (.iload 3, 1, 0, 0, 0), some (.iload 5, 2, 0, 0, 0), none, some (.if_icmp .gt 0, 3, 105, 0, 0), none, none, some (.aload 0, 1, 0, 0, 0)],
  [some (.getfield 0, 3, 0, 1, 2), none, none, some (.getfield 0, 3, 9, 6, 2), none, none, some (.iload 1, 1, 0, 0, 0), some (.iaload, 1, 0, 0, 0), some (.ireturn, 1, 0, 0, 0), some (.iconst 0, 1, 0, 0, 0), some (.aload 0, 1, 0, 0, 0), some (.getfield 0, 3, 0, 1, 2), none, none, some (.getfield 0, 3, 9, 6, 2), none],
  [none, some (.iload 1, 1, 0, 0, 0), some (.iaload, 1, 0, 0, 0), some (.aload 0, 1, 0, 0, 0), some (.getfield 0, 3, 0, 1, 2), none, none, some (.getfield 0, 3, 6, 6, 2), none, none, some (.aload 0, 1, 0, 0, 0), some (.getfield 0, 3, 0, 1, 2), none, none, some (.getfield 0, 3, 8, 6, 2), none],
  [none, some (.iload 1, 1, 0, 0, 0), some (.iaload, 1, 0, 0, 0), some (.iaload, 1, 0, 0, 0), some (.iload 3, 1, 0, 0, 0), some (.iload 5, 2, 0, 0, 0), none, some (.isub, 1, 0, 0, 0), some (.imul, 1, 0, 0, 0), some (.isub, 1, 0, 0, 0), some (.f2d, 3, 0, 0, 0), none, none, some (.ireturn, 1, 0, 0, 0), none, none]]
set_option maxRecDepth 100000 in
theorem k13 : pchk 1 1 cX1_stepHeight 0 t13 = true := by decide +kernel
def t14 : pT := [[some (.iconst 0, 1, 0, 0, 0), some (.istore 3, 1, 0, 0, 0), some (.iconst 0, 1, 0, 0, 0), some (.istore 4, 2, 0, 0, 0), none, some (.iload 4, 2, 0, 0, 0), none, some (.aload 0, 1, 0, 0, 0), some (.getfield 0, 3, 0, 1, 2), none, none, some (.getfield 0, 3, 2, 6, 0), none, none, some (.if_icmp .ge 0, 3, 49, 0, 0), none],
  [none, some (.aload 0, 1, 0, 0, 0), some (.getfield 0, 3, 0, 1, 2), none, none, some (.getfield 0, 3, 8, 6, 2), none, none, some (.iload 4, 2, 0, 0, 0), none, some (.iaload, 1, 0, 0, 0), some (.iload 1, 1, 0, 0, 0), some (.if_icmp .ne 0, 3, 43, 0, 0), none, none, some (.iload 3, 1, 0, 0, 0)],
  [some (.aload 0, 1, 0, 0, 0), some (.iload 4, 2, 0, 0, 0), none, some (.iload 2, 1, 0, 0, 0), some (.invokestatic 1, 3, 13, 3, 1), none, none, some (.f2d, 3, 0, 0, 0), none, none, some (.istore 3, 1, 0, 0, 0), some (.iinc 4 1, 3, 0, 0, 0), none, none, some (.goto 0, 3, 5, 0, 0), none],
  [none, some (.iload 3, 1, 0, 0, 0), some (.ireturn, 1, 0, 0, 0), none, none, none, none, none, none, none, none, none, none, none, none, none]]
set_option maxRecDepth 100000 in
theorem k14 : pchk 1 1 cX1_discHeight 0 t14 = true := by decide +kernel
def t15 : pT := [[some (.aload 0, 1, 0, 0, 0), some (.getfield 0, 3, 0, 1, 2), none, none, some (.getfield 0, 3, 9, 6, 2), none, none, some (.iload 1, 1, 0, 0, 0), some (.iaload, 1, 0, 0, 0), some (.aload 0, 1, 0, 0, 0), some (.getfield 0, 3, 0, 1, 2), none, none, some (.getfield 0, 3, 6, 6, 2), none, none],
  [some (.aload 0, 1, 0, 0, 0), some (.getfield 0, 3, 0, 1, 2), none, none, some (.getfield 0, 3, 8, 6, 2), none, none, some (.iload 1, 1, 0, 0, 0), some (.iaload, 1, 0, 0, 0), some (.iaload, 1, 0, 0, 0), some (.aload 0, 1, 0, 0, 0), some (.getfield 0, 3, 3, 1, 2), none, none, some (.iload 1, 1, 0, 0, 0), some (.iaload, 1, 0, 0, 0)],
  [some (.aload 0, 1, 0, 0, 0), some (.getfield 0, 3, 2, 1, 2), none, none, some (.iload 1, 1, 0, 0, 0), some (.iaload, 1, 0, 0, 0), some (.isub, 1, 0, 0, 0), some (.imul, 1, 0, 0, 0), some (.if_icmp .le 0, 3, 47, 0, 0), none, none, some (.iconst 1, 1, 0, 0, 0), some (.goto 0, 3, 48, 0, 0), none, none, some (.iconst 0, 1, 0, 0, 0)],
  [some (.ireturn, 1, 0, 0, 3), none, none, none, none, none, none, none, none, none, none, none, none, none, none, none]]
set_option maxRecDepth 100000 in
theorem k15 : pchk 1 3 cX1_isSteep 0 t15 = true := by decide +kernel
def t16 : pT := [[some (.iconst 0, 1, 0, 0, 0), some (.istore 2, 1, 0, 0, 0), some (.iload 2, 1, 0, 0, 0), some (.aload 0, 1, 0, 0, 0), some (.getfield 0, 3, 0, 1, 2), none, none, some (.getfield 0, 3, 2, 6, 0), none, none, some (.if_icmp .ge 0, 3, 61, 0, 0), none, none, some (.iload 2, 1, 0, 0, 0), some (.iload 1, 1, 0, 0, 0), some (.if_icmp .eq 0, 3, 55, 0, 0)],
  [none, none, some (.aload 0, 1, 0, 0, 0), some (.getfield 0, 3, 0, 1, 2), none, none, some (.getfield 0, 3, 8, 6, 2), none, none, some (.iload 2, 1, 0, 0, 0), some (.iaload, 1, 0, 0, 0), some (.aload 0, 1, 0, 0, 0), some (.getfield 0, 3, 0, 1, 2), none, none, some (.getfield 0, 3, 8, 6, 2)],
  [none, none, some (.iload 1, 1, 0, 0, 0), some (.iaload, 1, 0, 0, 0), some (.if_icmp .ne 0, 3, 55, 0, 0), none, none, some (.aload 0, 1, 0, 0, 0), some (.iload 2, 1, 0, 0, 0), some (.aload 0, 1, 0, 0, 0), some (.getfield 0, 3, 2, 1, 2), none, none, some (.iload 1, 1, 0, 0, 0), some (.iaload, 1, 0, 0, 0), some (.invokestatic 1, 3, 13, 3, 1)],
  [none, none, some (.ifCond .le 0, 3, 55, 0, 0), none, none, some (.iconst 1, 1, 0, 0, 0), some (.ireturn, 1, 0, 0, 3), some (.iinc 2 1, 3, 0, 0, 0), none, none, some (.goto 0, 3, 2, 0, 0), none, none, some (.iconst 0, 1, 0, 0, 0), some (.ireturn, 1, 0, 0, 3), none]]
set_option maxRecDepth 100000 in
theorem k16 : pchk 1 3 cX1_isLate 0 t16 = true := by decide +kernel
def t17 : pT := [[some (.iconst 1, 1, 0, 0, 0), some (.istore 2, 1, 0, 0, 0), some (.iconst 0, 1, 0, 0, 0), some (.istore 3, 1, 0, 0, 0), some (.iload 3, 1, 0, 0, 0), some (.aload 0, 1, 0, 0, 0), some (.getfield 0, 3, 0, 1, 2), none, none, some (.getfield 0, 3, 2, 6, 0), none, none, some (.if_icmp .ge 0, 3, 81, 0, 0), none, none, some (.aload 0, 1, 0, 0, 0)],
  [some (.getfield 0, 3, 0, 1, 2), none, none, some (.getfield 0, 3, 8, 6, 2), none, none, some (.iload 3, 1, 0, 0, 0), some (.iaload, 1, 0, 0, 0), some (.iload 1, 1, 0, 0, 0), some (.if_icmp .eq 0, 3, 31, 0, 0), none, none, some (.goto 0, 3, 75, 0, 0), none, none, some (.aload 0, 1, 0, 0, 0)],
  [some (.getfield 0, 3, 3, 1, 2), none, none, some (.iload 3, 1, 0, 0, 0), some (.iaload, 1, 0, 0, 0), some (.aload 0, 1, 0, 0, 0), some (.getfield 0, 3, 2, 1, 2), none, none, some (.iload 3, 1, 0, 0, 0), some (.iaload, 1, 0, 0, 0), some (.isub, 1, 0, 0, 0), some (.istore 4, 2, 0, 0, 0), none, some (.iload 4, 2, 0, 0, 0), none],
  [some (.ifCond .gt 0, 3, 53, 0, 0), none, none, some (.iconst (-1), 1, 0, 0, 0), some (.ireturn, 1, 0, 0, 0), some (.iload 2, 1, 0, 0, 0), some (.aload 0, 1, 0, 0, 0), some (.getfield 0, 3, 0, 1, 2), none, none, some (.getfield 0, 3, 9, 6, 2), none, none, some (.iload 3, 1, 0, 0, 0), some (.iaload, 1, 0, 0, 0), some (.iload 4, 2, 0, 0, 0)],
  [none, some (.iadd, 1, 0, 0, 0), some (.iconst 1, 1, 0, 0, 0), some (.isub, 1, 0, 0, 0), some (.iload 4, 2, 0, 0, 0), none, some (.idiv, 1, 0, 0, 0), some (.f2d, 3, 0, 0, 0), none, none, some (.istore 2, 1, 0, 0, 0), some (.iinc 3 1, 3, 0, 0, 0), none, none, some (.goto 0, 3, 4, 0, 0), none],
  [none, some (.iload 2, 1, 0, 0, 0), some (.iconst 60, 2, 0, 0, 0), none, some (.if_icmp .le 0, 3, 91, 0, 0), none, none, some (.iconst (-1), 1, 0, 0, 0), some (.goto 0, 3, 92, 0, 0), none, none, some (.iload 2, 1, 0, 0, 0), some (.ireturn, 1, 0, 0, 0), none, none, none]]
set_option maxRecDepth 100000 in
theorem k17 : pchk 1 1 cX1_leastSlope 0 t17 = true := by decide +kernel
def t18 : pT := [[some (.aload 0, 1, 0, 0, 0), some (.pop, 3, 0, 0, 0), none, none, some (.aload 0, 1, 0, 0, 0), some (.iconst (-1), 1, 0, 0, 0), some (.putfield 0, 3, 2, 2, 0), none, none, some (.aload 0, 1, 0, 0, 0), some (.iconst 0, 1, 0, 0, 0), some (.putfield 0, 3, 3, 2, 0), none, none, some (.aload 0, 1, 0, 0, 0), some (.iconst (-1), 1, 0, 0, 0)],
  [some (.putfield 0, 3, 4, 2, 0), none, none, some (.aload 0, 1, 0, 0, 0), some (.iconst 0, 1, 0, 0, 0), some (.putfield 0, 3, 5, 2, 0), none, none, some (.aload 0, 1, 0, 0, 0), some (.iconst 1015, 3, 0, 0, 0), none, none, some (.newarray .int, 2, 100, 0, 0), none, some (.putfield 0, 3, 6, 2, 2), none],
  [none, some (.aload 0, 1, 0, 0, 0), some (.iconst 1015, 3, 0, 0, 0), none, none, some (.newarray .int, 2, 100, 0, 0), none, some (.putfield 0, 3, 7, 2, 2), none, none, some (.aload 0, 1, 0, 0, 0), some (.iconst 1015, 3, 0, 0, 0), none, none, some (.newarray .int, 2, 100, 0, 0), none],
  [some (.putfield 0, 3, 8, 2, 2), none, none, some (.aload 0, 1, 0, 0, 0), some (.iconst 1015, 3, 0, 0, 0), none, none, some (.newarray .int, 2, 100, 0, 0), none, some (.putfield 0, 3, 9, 2, 2), none, none, some (.aload 0, 1, 0, 0, 0), some (.iconst 1015, 3, 0, 0, 0), none, none],
  [some (.newarray .int, 2, 100, 0, 0), none, some (.putfield 0, 3, 10, 2, 2), none, none, some (.aload 0, 1, 0, 0, 0), some (.iconst 1015, 3, 0, 0, 0), none, none, some (.newarray .int, 2, 100, 0, 0), none, some (.putfield 0, 3, 11, 2, 2), none, none, some (.aload 0, 1, 0, 0, 0), some (.iconst 1015, 3, 0, 0, 0)],
  [none, none, some (.newarray .int, 2, 100, 0, 0), none, some (.putfield 0, 3, 12, 2, 2), none, none, some (.aload 0, 1, 0, 0, 0), some (.iconst 6, 2, 0, 0, 0), none, some (.newarray .int, 2, 100, 0, 0), none, some (.putfield 0, 3, 13, 2, 2), none, none, some (.aload 0, 1, 0, 0, 0)],
  [some (.iconst 6, 2, 0, 0, 0), none, some (.newarray .int, 2, 100, 0, 0), none, some (.putfield 0, 3, 14, 2, 2), none, none, some (.aload 0, 1, 0, 0, 0), some (.iconst 6, 2, 0, 0, 0), none, some (.newarray .int, 2, 100, 0, 0), none, some (.putfield 0, 3, 15, 2, 2), none, none, some (.aload 0, 1, 0, 0, 0)],
  [some (.aload 1, 1, 0, 0, 0), some (.putfield 0, 3, 0, 2, 2), none, none, some (.aload 0, 1, 0, 0, 0), some (.aload 2, 1, 0, 0, 0), some (.putfield 0, 3, 1, 2, 2), none, none, some (.return_, 1, 0, 0, 0), none, none, none, none, none, none]]
set_option maxRecDepth 100000 in
theorem k18 : pchk 2 0 cX2_init 0 t18 = true := by decide +kernel
def t19 : pT := [[some (.aload 0, 1, 0, 0, 0), some (.iconst (-1), 1, 0, 0, 0), some (.putfield 0, 3, 2, 2, 0), none, none, some (.return_, 1, 0, 0, 0), none, none, none, none, none, none, none, none, none, none]]
set_option maxRecDepth 100000 in
theorem k19 : pchk 2 0 cX2_forget 0 t19 = true := by decide +kernel
def t20 : pT := [[some (.iload 1, 1, 0, 0, 0), some (.aload 0, 1, 0, 0, 0), some (.getfield 0, 3, 2, 2, 0), none, none, some (.if_icmp .ne 0, 3, 9, 0, 0), none, none, some (.return_, 1, 0, 0, 0), some (.aload 0, 1, 0, 0, 0), some (.iload 1, 1, 0, 0, 0), some (.putfield 0, 3, 2, 2, 0), none, none, some (.aload 0, 1, 0, 0, 0), some (.iconst 0, 1, 0, 0, 0)],
  [some (.putfield 0, 3, 5, 2, 0), none, none, some (.aload 0, 1, 0, 0, 0), some (.iconst 0, 1, 0, 0, 0), some (.putfield 0, 3, 3, 2, 0), none, none, some (.aload 0, 1, 0, 0, 0), some (.iconst (-1), 1, 0, 0, 0), some (.putfield 0, 3, 4, 2, 0), none, none, some (.aload 0, 1, 0, 0, 0), some (.getfield 0, 3, 1, 2, 2), none],
  [none, some (.iload 1, 1, 0, 0, 0), some (.invokestatic 0, 3, 35, 2, 3), none, none, some (.aload 0, 1, 0, 0, 0), some (.getfield 0, 3, 0, 2, 2), none, none, some (.invokestatic 1, 3, 66, 1, 6), none, none, some (.istore 2, 1, 0, 0, 0), some (.iconst (-2), 2, 0, 0, 0), none, some (.istore 3, 1, 0, 0, 0)],
  [some (.iload 3, 1, 0, 0, 0), some (.iconst 2, 1, 0, 0, 0), some (.if_icmp .gt 0, 3, 81, 0, 0), none, none, some (.iconst 0, 1, 0, 0, 0), some (.istore 4, 2, 0, 0, 0), none, some (.iload 4, 2, 0, 0, 0), none, some (.iload 2, 1, 0, 0, 0), some (.if_icmp .ge 0, 3, 75, 0, 0), none, none, some (.aload 0, 1, 0, 0, 0), some (.iload 3, 1, 0, 0, 0)],
  [some (.iload 4, 2, 0, 0, 0), none, some (.invokestatic 0, 3, 21, 3, 2), none, none, some (.iinc 4 1, 3, 0, 0, 0), none, none, some (.goto 0, 3, 56, 0, 0), none, none, some (.iinc 3 1, 3, 0, 0, 0), none, none, some (.goto 0, 3, 48, 0, 0), none],
  [none, some (.return_, 1, 0, 0, 0), none, none, none, none, none, none, none, none, none, none, none, none, none, none]]
set_option maxRecDepth 100000 in
theorem k20 : pchk 2 0 cX2_view 0 t20 = true := by decide +kernel
def t21 : pT := [[some (.aload 0, 1, 0, 0, 0), some (.iload 1, 1, 0, 0, 0), some (.iload 2, 1, 0, 0, 0), some (.invokestatic 1, 3, 22, 3, 2), none, none, some (.istore 3, 1, 0, 0, 0), some (.iload 3, 1, 0, 0, 0), some (.iconst (-1), 1, 0, 0, 0), some (.if_icmp .ne 0, 3, 13, 0, 0), none, none, some (.return_, 1, 0, 0, 0), some (.iload 3, 1, 0, 0, 0), some (.ifCond .ne 0, 3, 28, 0, 0), none],
  [none, some (.aload 0, 1, 0, 0, 0), some (.iload 1, 1, 0, 0, 0), some (.iload 2, 1, 0, 0, 0), some (.iconst (-1), 1, 0, 0, 0), some (.iconst 0, 1, 0, 0, 0), some (.iconst 0, 1, 0, 0, 0), some (.iconst 0, 1, 0, 0, 0), some (.iconst 0, 1, 0, 0, 0), some (.invokestatic 0, 3, 23, 8, 2), none, none, some (.iconst 0, 1, 0, 0, 0), some (.istore 4, 2, 0, 0, 0), none, some (.iload 4, 2, 0, 0, 0)],
  [none, some (.aload 0, 1, 0, 0, 0), some (.getfield 0, 3, 0, 2, 2), none, none, some (.getfield 0, 3, 1, 6, 0), none, none, some (.if_icmp .ge 0, 3, 124, 0, 0), none, none, some (.iload 3, 1, 0, 0, 0), some (.iconst 1, 1, 0, 0, 0), some (.iload 4, 2, 0, 0, 0), none, some (.ishl, 1, 0, 0, 0)],
  [some (.iconst (-1), 1, 0, 0, 0), some (.ixor, 1, 0, 0, 0), some (.iand, 1, 0, 0, 0), some (.ifCond .ne 0, 3, 118, 0, 0), none, none, some (.aload 0, 1, 0, 0, 0), some (.getfield 0, 3, 15, 2, 2), none, none, some (.iload 4, 2, 0, 0, 0), none, some (.iaload, 1, 0, 0, 0), some (.istore 5, 2, 0, 0, 0), none, some (.iconst 11, 2, 0, 0, 0)],
  [none, some (.aload 0, 1, 0, 0, 0), some (.getfield 0, 3, 14, 2, 2), none, none, some (.iload 4, 2, 0, 0, 0), none, some (.iaload, 1, 0, 0, 0), some (.f2i, 3, 0, 0, 0), none, none, some (.istore 6, 2, 0, 0, 0), none, some (.aload 0, 1, 0, 0, 0), some (.iload 1, 1, 0, 0, 0), some (.iload 2, 1, 0, 0, 0)],
  [some (.iload 4, 2, 0, 0, 0), none, some (.aload 0, 1, 0, 0, 0), some (.getfield 0, 3, 13, 2, 2), none, none, some (.iload 4, 2, 0, 0, 0), none, some (.iaload, 1, 0, 0, 0), some (.iconst 1, 1, 0, 0, 0), some (.iadd, 1, 0, 0, 0), some (.iload 6, 2, 0, 0, 0), none, some (.iload 5, 2, 0, 0, 0), none, some (.ifCond .ne 0, 3, 102, 0, 0)],
  [none, none, some (.iconst 1, 1, 0, 0, 0), some (.goto 0, 3, 104, 0, 0), none, none, some (.iload 5, 2, 0, 0, 0), none, some (.iload 5, 2, 0, 0, 0), none, some (.ifCond .ne 0, 3, 113, 0, 0), none, none, some (.iconst 5, 1, 0, 0, 0), some (.goto 0, 3, 115, 0, 0), none],
  [none, some (.iload 5, 2, 0, 0, 0), none, some (.invokestatic 0, 3, 23, 8, 2), none, none, some (.iinc 4 1, 3, 0, 0, 0), none, none, some (.goto 0, 3, 31, 0, 0), none, none, some (.return_, 1, 0, 0, 0), none, none, none]]
set_option maxRecDepth 100000 in
theorem k21 : pchk 2 0 cX2_addBlocks 0 t21 = true := by decide +kernel
def t22 : pT := [[some (.iconst 0, 1, 0, 0, 0), some (.istore 3, 1, 0, 0, 0), some (.iload 3, 1, 0, 0, 0), some (.aload 0, 1, 0, 0, 0), some (.getfield 0, 3, 0, 2, 2), none, none, some (.getfield 0, 3, 1, 6, 0), none, none, some (.if_icmp .ge 0, 3, 41, 0, 0), none, none, some (.aload 0, 1, 0, 0, 0), some (.getfield 0, 3, 13, 2, 2), none],
  [none, some (.iload 3, 1, 0, 0, 0), some (.iconst (-1), 1, 0, 0, 0), some (.iastore, 1, 0, 0, 0), some (.aload 0, 1, 0, 0, 0), some (.getfield 0, 3, 14, 2, 2), none, none, some (.iload 3, 1, 0, 0, 0), some (.iconst 40, 2, 0, 0, 0), none, some (.iastore, 1, 0, 0, 0), some (.aload 0, 1, 0, 0, 0), some (.getfield 0, 3, 15, 2, 2), none, none],
  [some (.iload 3, 1, 0, 0, 0), some (.iconst 0, 1, 0, 0, 0), some (.iastore, 1, 0, 0, 0), some (.iinc 3 1, 3, 0, 0, 0), none, none, some (.goto 0, 3, 2, 0, 0), none, none, some (.iconst 0, 1, 0, 0, 0), some (.istore 3, 1, 0, 0, 0), some (.iconst 0, 1, 0, 0, 0), some (.istore 4, 2, 0, 0, 0), none, some (.iload 4, 2, 0, 0, 0), none],
  [some (.aload 0, 1, 0, 0, 0), some (.getfield 0, 3, 1, 2, 2), none, none, some (.getfield 0, 3, 10, 3, 0), none, none, some (.if_icmp .ge 0, 3, 227, 0, 0), none, none, some (.aload 0, 1, 0, 0, 0), some (.getfield 0, 3, 1, 2, 2), none, none, some (.getfield 0, 3, 11, 3, 2), none],
  [none, some (.iload 4, 2, 0, 0, 0), none, some (.iaload, 1, 0, 0, 0), some (.istore 5, 2, 0, 0, 0), none, some (.aload 0, 1, 0, 0, 0), some (.getfield 0, 3, 1, 2, 2), none, none, some (.getfield 0, 3, 12, 3, 2), none, none, some (.iload 4, 2, 0, 0, 0), none, some (.iaload, 1, 0, 0, 0)],
  [some (.istore 6, 2, 0, 0, 0), none, some (.aload 0, 1, 0, 0, 0), some (.getfield 0, 3, 0, 2, 2), none, none, some (.getfield 0, 3, 8, 6, 2), none, none, some (.iload 6, 2, 0, 0, 0), none, some (.iaload, 1, 0, 0, 0), some (.istore 7, 2, 0, 0, 0), none, some (.aload 0, 1, 0, 0, 0), some (.getfield 0, 3, 1, 2, 2)],
  [none, none, some (.getfield 0, 3, 13, 3, 2), none, none, some (.iload 4, 2, 0, 0, 0), none, some (.iaload, 1, 0, 0, 0), some (.iload 1, 1, 0, 0, 0), some (.iload 5, 2, 0, 0, 0), none, some (.invokestatic 1, 3, 2, 2, (-1)), none, none, some (.isub, 1, 0, 0, 0), some (.iload 2, 1, 0, 0, 0)],
  [some (.iload 6, 2, 0, 0, 0), none, some (.iload 5, 2, 0, 0, 0), none, some (.invokestatic 1, 3, 3, 3, (-1)), none, none, some (.isub, 1, 0, 0, 0), some (.istore 8, 2, 0, 0, 0), none, some (.iload 8, 2, 0, 0, 0), none, some (.ifCond .ne 0, 3, 149, 0, 0), none, none, some (.aload 0, 1, 0, 0, 0)],
  [some (.getfield 0, 3, 13, 2, 2), none, none, some (.iload 7, 2, 0, 0, 0), none, some (.aload 0, 1, 0, 0, 0), some (.getfield 0, 3, 13, 2, 2), none, none, some (.iload 7, 2, 0, 0, 0), none, some (.iaload, 1, 0, 0, 0), some (.iload 5, 2, 0, 0, 0), none, some (.f2d, 3, 0, 0, 0), none],
  [none, some (.iastore, 1, 0, 0, 0), some (.goto 0, 3, 221, 0, 0), none, none, some (.iload 8, 2, 0, 0, 0), none, some (.i2l, 1, 0, 0, 0), some (.ldc2_w 0, 1, 0, 0, 1), some (.ldc2_w 0, 3, 0, 0, 5), none, none, some (.invokestatic 1, 3, 118, 3, (-1)), none, none, some (.ifCond .eq 0, 3, 184, 0, 0)],
  [none, none, some (.aload 0, 1, 0, 0, 0), some (.getfield 0, 3, 15, 2, 2), none, none, some (.iload 7, 2, 0, 0, 0), none, some (.iaload, 1, 0, 0, 0), some (.ifCond .eq 0, 3, 186, 0, 0), none, none, some (.aload 0, 1, 0, 0, 0), some (.getfield 0, 3, 15, 2, 2), none, none],
  [some (.iload 7, 2, 0, 0, 0), none, some (.iaload, 1, 0, 0, 0), some (.iload 8, 2, 0, 0, 0), none, some (.if_icmp .eq 0, 3, 186, 0, 0), none, none, some (.iconst (-1), 1, 0, 0, 0), some (.ireturn, 1, 0, 0, 0), some (.aload 0, 1, 0, 0, 0), some (.getfield 0, 3, 14, 2, 2), none, none, some (.iload 7, 2, 0, 0, 0), none],
  [some (.aload 0, 1, 0, 0, 0), some (.getfield 0, 3, 14, 2, 2), none, none, some (.iload 7, 2, 0, 0, 0), none, some (.iaload, 1, 0, 0, 0), some (.iload 5, 2, 0, 0, 0), none, some (.f2i, 3, 0, 0, 0), none, none, some (.iastore, 1, 0, 0, 0), some (.aload 0, 1, 0, 0, 0), some (.getfield 0, 3, 15, 2, 2), none],
  [none, some (.iload 7, 2, 0, 0, 0), none, some (.iload 8, 2, 0, 0, 0), none, some (.iastore, 1, 0, 0, 0), some (.iload 3, 1, 0, 0, 0), some (.iconst 1, 1, 0, 0, 0), some (.iload 7, 2, 0, 0, 0), none, some (.ishl, 1, 0, 0, 0), some (.ior, 1, 0, 0, 0), some (.istore 3, 1, 0, 0, 0), some (.iinc 4 1, 3, 0, 0, 0), none, none],
  [some (.goto 0, 3, 46, 0, 0), none, none, some (.iload 3, 1, 0, 0, 0), some (.ireturn, 1, 0, 0, 0), none, none, none, none, none, none, none, none, none, none, none]]
set_option maxRecDepth 100000 in
theorem k22 : pchk 2 1 cX2_splitRests 0 t22 = true := by decide +kernel
def t23 : pT := [[some (.iload 4, 2, 0, 0, 0), none, some (.iload 5, 2, 0, 0, 0), none, some (.if_icmp .gt 0, 3, 24, 0, 0), none, none, some (.iload 6, 2, 0, 0, 0), none, some (.iload 7, 2, 0, 0, 0), none, some (.if_icmp .gt 0, 3, 24, 0, 0), none, none, some (.aload 0, 1, 0, 0, 0), some (.getfield 0, 3, 5, 2, 0)],
  [none, none, some (.iconst 1015, 3, 0, 0, 0), none, none, some (.if_icmp .lt 0, 3, 25, 0, 0), none, none, some (.return_, 1, 0, 0, 0), some (.aload 0, 1, 0, 0, 0), some (.getfield 0, 3, 6, 2, 2), none, none, some (.aload 0, 1, 0, 0, 0), some (.getfield 0, 3, 5, 2, 0), none],
  [none, some (.iload 1, 1, 0, 0, 0), some (.iastore, 1, 0, 0, 0), some (.aload 0, 1, 0, 0, 0), some (.getfield 0, 3, 7, 2, 2), none, none, some (.aload 0, 1, 0, 0, 0), some (.getfield 0, 3, 5, 2, 0), none, none, some (.iload 2, 1, 0, 0, 0), some (.iastore, 1, 0, 0, 0), some (.aload 0, 1, 0, 0, 0), some (.getfield 0, 3, 8, 2, 2), none],
  [none, some (.aload 0, 1, 0, 0, 0), some (.getfield 0, 3, 5, 2, 0), none, none, some (.iload 3, 1, 0, 0, 0), some (.iastore, 1, 0, 0, 0), some (.aload 0, 1, 0, 0, 0), some (.getfield 0, 3, 9, 2, 2), none, none, some (.aload 0, 1, 0, 0, 0), some (.getfield 0, 3, 5, 2, 0), none, none, some (.iload 4, 2, 0, 0, 0)],
  [none, some (.iastore, 1, 0, 0, 0), some (.aload 0, 1, 0, 0, 0), some (.getfield 0, 3, 10, 2, 2), none, none, some (.aload 0, 1, 0, 0, 0), some (.getfield 0, 3, 5, 2, 0), none, none, some (.iload 5, 2, 0, 0, 0), none, some (.iastore, 1, 0, 0, 0), some (.aload 0, 1, 0, 0, 0), some (.getfield 0, 3, 11, 2, 2), none],
  [none, some (.aload 0, 1, 0, 0, 0), some (.getfield 0, 3, 5, 2, 0), none, none, some (.iload 6, 2, 0, 0, 0), none, some (.iastore, 1, 0, 0, 0), some (.aload 0, 1, 0, 0, 0), some (.getfield 0, 3, 12, 2, 2), none, none, some (.aload 0, 1, 0, 0, 0), some (.getfield 0, 3, 5, 2, 0), none, none],
  [some (.iload 7, 2, 0, 0, 0), none, some (.iastore, 1, 0, 0, 0), some (.aload 0, 1, 0, 0, 0), some (.dup, 1, 0, 0, 0), some (.getfield 0, 3, 3, 2, 0), none, none, some (.aload 0, 1, 0, 0, 0), some (.aload 0, 1, 0, 0, 0), some (.getfield 0, 3, 5, 2, 0), none, none, some (.invokestatic 1, 3, 24, 2, 2), none, none],
  [some (.iadd, 1, 0, 0, 0), some (.putfield 0, 3, 3, 2, 0), none, none, some (.iload 3, 1, 0, 0, 0), some (.iconst (-1), 1, 0, 0, 0), some (.if_icmp .ne 0, 3, 125, 0, 0), none, none, some (.iconst 0, 1, 0, 0, 0), some (.goto 0, 3, 141, 0, 0), none, none, some (.iconst 1, 1, 0, 0, 0), some (.iload 3, 1, 0, 0, 0), some (.iconst 12, 2, 0, 0, 0)],
  [none, some (.imul, 1, 0, 0, 0), some (.iload 4, 2, 0, 0, 0), none, some (.iadd, 1, 0, 0, 0), some (.iconst 5, 1, 0, 0, 0), some (.imul, 1, 0, 0, 0), some (.iadd, 1, 0, 0, 0), some (.iload 6, 2, 0, 0, 0), none, some (.iadd, 1, 0, 0, 0), some (.iconst 1, 1, 0, 0, 0), some (.isub, 1, 0, 0, 0), some (.istore 8, 2, 0, 0, 0), none, some (.iload 1, 1, 0, 0, 0)],
  [some (.iconst 2, 1, 0, 0, 0), some (.iadd, 1, 0, 0, 0), some (.aload 0, 1, 0, 0, 0), some (.getfield 0, 3, 0, 2, 2), none, none, some (.invokestatic 1, 3, 65, 1, 6), none, none, some (.imul, 1, 0, 0, 0), some (.iload 8, 2, 0, 0, 0), none, some (.iadd, 1, 0, 0, 0), some (.aload 0, 1, 0, 0, 0), some (.getfield 0, 3, 0, 2, 2), none],
  [none, some (.invokestatic 1, 3, 66, 1, 6), none, none, some (.imul, 1, 0, 0, 0), some (.iload 2, 1, 0, 0, 0), some (.iadd, 1, 0, 0, 0), some (.istore 9, 2, 0, 0, 0), none, some (.aload 0, 1, 0, 0, 0), some (.aload 0, 1, 0, 0, 0), some (.getfield 0, 3, 4, 2, 0), none, none, some (.iconst (-1), 1, 0, 0, 0), some (.if_icmp .ne 0, 3, 183, 0, 0)],
  [none, none, some (.iload 9, 2, 0, 0, 0), none, some (.goto 0, 3, 192, 0, 0), none, none, some (.aload 0, 1, 0, 0, 0), some (.getfield 0, 3, 4, 2, 0), none, none, some (.iload 9, 2, 0, 0, 0), none, some (.f2i, 3, 0, 0, 0), none, none],
  [some (.putfield 0, 3, 4, 2, 0), none, none, some (.aload 0, 1, 0, 0, 0), some (.dup, 1, 0, 0, 0), some (.getfield 0, 3, 5, 2, 0), none, none, some (.iconst 1, 1, 0, 0, 0), some (.iadd, 1, 0, 0, 0), some (.putfield 0, 3, 5, 2, 0), none, none, some (.return_, 1, 0, 0, 0), none, none]]
set_option maxRecDepth 100000 in
theorem k23 : pchk 2 0 cX2_addBlock 0 t23 = true := by decide +kernel
def t24 : pT := [[some (.aload 0, 1, 0, 0, 0), some (.getfield 0, 3, 10, 2, 2), none, none, some (.iload 1, 1, 0, 0, 0), some (.iaload, 1, 0, 0, 0), some (.aload 0, 1, 0, 0, 0), some (.getfield 0, 3, 9, 2, 2), none, none, some (.iload 1, 1, 0, 0, 0), some (.iaload, 1, 0, 0, 0), some (.isub, 1, 0, 0, 0), some (.iconst 1, 1, 0, 0, 0), some (.iadd, 1, 0, 0, 0), some (.aload 0, 1, 0, 0, 0)],
  [some (.getfield 0, 3, 12, 2, 2), none, none, some (.iload 1, 1, 0, 0, 0), some (.iaload, 1, 0, 0, 0), some (.aload 0, 1, 0, 0, 0), some (.getfield 0, 3, 11, 2, 2), none, none, some (.iload 1, 1, 0, 0, 0), some (.iaload, 1, 0, 0, 0), some (.isub, 1, 0, 0, 0), some (.iconst 1, 1, 0, 0, 0), some (.iadd, 1, 0, 0, 0), some (.imul, 1, 0, 0, 0), some (.ireturn, 1, 0, 0, 0)]]
set_option maxRecDepth 100000 in
theorem k24 : pchk 2 1 cX2_sizeOf 0 t24 = true := by decide +kernel
def t25 : pT := [[some (.iconst 0, 1, 0, 0, 0), some (.istore 2, 1, 0, 0, 0), some (.iconst 0, 1, 0, 0, 0), some (.istore 3, 1, 0, 0, 0), some (.iload 3, 1, 0, 0, 0), some (.aload 0, 1, 0, 0, 0), some (.getfield 0, 3, 5, 2, 0), none, none, some (.if_icmp .ge 0, 3, 40, 0, 0), none, none, some (.iload 2, 1, 0, 0, 0), some (.aload 0, 1, 0, 0, 0), some (.getfield 0, 3, 8, 2, 2), none],
  [none, some (.iload 3, 1, 0, 0, 0), some (.iaload, 1, 0, 0, 0), some (.iload 1, 1, 0, 0, 0), some (.if_icmp .ne 0, 3, 31, 0, 0), none, none, some (.aload 0, 1, 0, 0, 0), some (.iload 3, 1, 0, 0, 0), some (.invokestatic 1, 3, 24, 2, 2), none, none, some (.goto 0, 3, 32, 0, 0), none, none, some (.iconst 0, 1, 0, 0, 0)],
  [some (.iadd, 1, 0, 0, 0), some (.istore 2, 1, 0, 0, 0), some (.iinc 3 1, 3, 0, 0, 0), none, none, some (.goto 0, 3, 4, 0, 0), none, none, some (.iload 2, 1, 0, 0, 0), some (.ireturn, 1, 0, 0, 0), none, none, none, none, none, none]]
set_option maxRecDepth 100000 in
theorem k25 : pchk 2 1 cX2_countWorn 0 t25 = true := by decide +kernel
def t26 : pT := [[some (.iconst 0, 1, 0, 0, 0), some (.istore 2, 1, 0, 0, 0), some (.iconst 0, 1, 0, 0, 0), some (.istore 3, 1, 0, 0, 0), some (.iload 3, 1, 0, 0, 0), some (.aload 0, 1, 0, 0, 0), some (.getfield 0, 3, 5, 2, 0), none, none, some (.if_icmp .ge 0, 3, 43, 0, 0), none, none, some (.iload 2, 1, 0, 0, 0), some (.aload 0, 1, 0, 0, 0), some (.getfield 0, 3, 7, 2, 2), none],
  [none, some (.iload 3, 1, 0, 0, 0), some (.iaload, 1, 0, 0, 0), some (.iload 1, 1, 0, 0, 0), some (.invokestatic 1, 3, 4, 2, (-1)), none, none, some (.ifCond .le 0, 3, 34, 0, 0), none, none, some (.aload 0, 1, 0, 0, 0), some (.iload 3, 1, 0, 0, 0), some (.invokestatic 1, 3, 24, 2, 2), none, none, some (.goto 0, 3, 35, 0, 0)],
  [none, none, some (.iconst 0, 1, 0, 0, 0), some (.iadd, 1, 0, 0, 0), some (.istore 2, 1, 0, 0, 0), some (.iinc 3 1, 3, 0, 0, 0), none, none, some (.goto 0, 3, 4, 0, 0), none, none, some (.iload 2, 1, 0, 0, 0), some (.ireturn, 1, 0, 0, 0), none, none, none]]
set_option maxRecDepth 100000 in
theorem k26 : pchk 2 1 cX2_countDull 0 t26 = true := by decide +kernel
def t27 : pT := [[some (.aload 0, 1, 0, 0, 0), some (.getfield 0, 3, 3, 2, 0), none, none, some (.ifCond .ne 0, 3, 9, 0, 0), none, none, some (.iconst (-1), 1, 0, 0, 0), some (.ireturn, 1, 0, 0, 0), some (.iload 1, 1, 0, 0, 0), some (.ifCond .ne 0, 3, 15, 0, 0), none, none, some (.iconst 0, 1, 0, 0, 0), some (.ireturn, 1, 0, 0, 0), some (.iload 1, 1, 0, 0, 0)],
  [some (.aload 0, 1, 0, 0, 0), some (.getfield 0, 3, 3, 2, 0), none, none, some (.if_icmp .ne 0, 3, 27, 0, 0), none, none, some (.iconst 1, 1, 0, 0, 0), some (.goto 0, 3, 28, 0, 0), none, none, some (.iconst 2, 1, 0, 0, 0), some (.ireturn, 1, 0, 0, 0), none, none, none]]
set_option maxRecDepth 100000 in
theorem k27 : pchk 2 1 cX2_surely 0 t27 = true := by decide +kernel
def t28 : pT := [[some (.iconst 40, 2, 0, 0, 0), none, some (.istore 2, 1, 0, 0, 0), some (.iconst 0, 1, 0, 0, 0), some (.istore 3, 1, 0, 0, 0), some (.iload 3, 1, 0, 0, 0), some (.aload 0, 1, 0, 0, 0), some (.getfield 0, 3, 5, 2, 0), none, none, some (.if_icmp .ge 0, 3, 60, 0, 0), none, none, some (.aload 0, 1, 0, 0, 0), some (.iload 3, 1, 0, 0, 0), some (.iload 1, 1, 0, 0, 0)],
  [some (.invokestatic 1, 3, 29, 3, 2), none, none, some (.ifCond .ne 0, 3, 25, 0, 0), none, none, some (.goto 0, 3, 54, 0, 0), none, none, some (.iconst 0, 1, 0, 0, 0), some (.istore 4, 2, 0, 0, 0), none, some (.iload 4, 2, 0, 0, 0), none, some (.iload 2, 1, 0, 0, 0), some (.if_icmp .ge 0, 3, 54, 0, 0)],
  [none, none, some (.aload 0, 1, 0, 0, 0), some (.iload 3, 1, 0, 0, 0), some (.iload 4, 2, 0, 0, 0), none, some (.iload 1, 1, 0, 0, 0), some (.invokestatic 1, 3, 30, 4, 2), none, none, some (.ifCond .eq 0, 3, 48, 0, 0), none, none, some (.iload 4, 2, 0, 0, 0), none, some (.istore 2, 1, 0, 0, 0)],
  [some (.iinc 4 1, 3, 0, 0, 0), none, none, some (.goto 0, 3, 28, 0, 0), none, none, some (.iinc 3 1, 3, 0, 0, 0), none, none, some (.goto 0, 3, 5, 0, 0), none, none, some (.iload 2, 1, 0, 0, 0), some (.iconst 40, 2, 0, 0, 0), none, some (.if_icmp .ge 0, 3, 70, 0, 0)],
  [none, none, some (.iload 2, 1, 0, 0, 0), some (.goto 0, 3, 71, 0, 0), none, none, some (.iconst (-1), 1, 0, 0, 0), some (.ireturn, 1, 0, 0, 0), none, none, none, none, none, none, none, none]]
set_option maxRecDepth 100000 in
theorem k28 : pchk 2 1 cX2_firstBeyond 0 t28 = true := by decide +kernel
def t29 : pT := [[some (.aload 0, 1, 0, 0, 0), some (.getfield 0, 3, 6, 2, 2), none, none, some (.iload 1, 1, 0, 0, 0), some (.iaload, 1, 0, 0, 0), some (.iconst 39, 2, 0, 0, 0), none, some (.invokestatic 1, 3, 2, 2, (-1)), none, none, some (.istore 3, 1, 0, 0, 0), some (.aload 0, 1, 0, 0, 0), some (.getfield 0, 3, 7, 2, 2), none, none],
  [some (.iload 1, 1, 0, 0, 0), some (.iaload, 1, 0, 0, 0), some (.ifCond .ne 0, 3, 25, 0, 0), none, none, some (.iconst 0, 1, 0, 0, 0), some (.goto 0, 3, 42, 0, 0), none, none, some (.aload 0, 1, 0, 0, 0), some (.getfield 0, 3, 7, 2, 2), none, none, some (.iload 1, 1, 0, 0, 0), some (.iaload, 1, 0, 0, 0), some (.iconst 1, 1, 0, 0, 0)],
  [some (.isub, 1, 0, 0, 0), some (.iconst 4, 1, 0, 0, 0), some (.irem, 1, 0, 0, 0), some (.iconst 1, 1, 0, 0, 0), some (.iadd, 1, 0, 0, 0), some (.iconst 39, 2, 0, 0, 0), none, some (.imul, 1, 0, 0, 0), some (.iconst 5, 1, 0, 0, 0), some (.idiv, 1, 0, 0, 0), some (.istore 4, 2, 0, 0, 0), none, some (.iconst 0, 1, 0, 0, 0), some (.iload 3, 1, 0, 0, 0), some (.f2d, 3, 0, 0, 0), none],
  [none, some (.iload 4, 2, 0, 0, 0), none, some (.iadd, 1, 0, 0, 0), some (.aload 0, 1, 0, 0, 0), some (.getfield 0, 3, 12, 2, 2), none, none, some (.iload 1, 1, 0, 0, 0), some (.iaload, 1, 0, 0, 0), some (.iadd, 1, 0, 0, 0), some (.iload 2, 1, 0, 0, 0), some (.if_icmp .gt 0, 3, 69, 0, 0), none, none, some (.iload 3, 1, 0, 0, 0)],
  [some (.ineg, 1, 0, 0, 0), some (.iload 2, 1, 0, 0, 0), some (.if_icmp .le 0, 3, 73, 0, 0), none, none, some (.iconst 1, 1, 0, 0, 0), some (.goto 0, 3, 74, 0, 0), none, none, some (.iconst 0, 1, 0, 0, 0), some (.ireturn, 1, 0, 0, 3), none, none, none, none, none]]
set_option maxRecDepth 100000 in
theorem k29 : pchk 2 3 cX2_canGoBeyond 0 t29 = true := by decide +kernel
def t30 : pT := [[some (.aload 0, 1, 0, 0, 0), some (.getfield 0, 3, 6, 2, 2), none, none, some (.iload 1, 1, 0, 0, 0), some (.iaload, 1, 0, 0, 0), some (.iload 2, 1, 0, 0, 0), some (.invokestatic 1, 3, 2, 2, (-1)), none, none, some (.istore 4, 2, 0, 0, 0), none, some (.iconst 0, 1, 0, 0, 0), some (.istore 5, 2, 0, 0, 0), none, some (.iload 5, 2, 0, 0, 0)],
  [none, some (.aload 0, 1, 0, 0, 0), some (.getfield 0, 3, 0, 2, 2), none, none, some (.getfield 0, 3, 2, 6, 0), none, none, some (.if_icmp .ge 0, 3, 138, 0, 0), none, none, some (.iload 4, 2, 0, 0, 0), none, some (.aload 0, 1, 0, 0, 0), some (.getfield 0, 3, 7, 2, 2), none],
  [none, some (.iload 1, 1, 0, 0, 0), some (.iaload, 1, 0, 0, 0), some (.iload 5, 2, 0, 0, 0), none, some (.iload 2, 1, 0, 0, 0), some (.invokestatic 1, 3, 3, 3, (-1)), none, none, some (.iadd, 1, 0, 0, 0), some (.istore 6, 2, 0, 0, 0), none, some (.iload 6, 2, 0, 0, 0), none, some (.istore 7, 2, 0, 0, 0), none],
  [some (.aload 0, 1, 0, 0, 0), some (.getfield 0, 3, 0, 2, 2), none, none, some (.getfield 0, 3, 8, 6, 2), none, none, some (.iload 5, 2, 0, 0, 0), none, some (.iaload, 1, 0, 0, 0), some (.aload 0, 1, 0, 0, 0), some (.getfield 0, 3, 8, 2, 2), none, none, some (.iload 1, 1, 0, 0, 0), some (.iaload, 1, 0, 0, 0)],
  [some (.if_icmp .ne 0, 3, 117, 0, 0), none, none, some (.iload 7, 2, 0, 0, 0), none, some (.iload 2, 1, 0, 0, 0), some (.aload 0, 1, 0, 0, 0), some (.getfield 0, 3, 9, 2, 2), none, none, some (.iload 1, 1, 0, 0, 0), some (.iaload, 1, 0, 0, 0), some (.if_icmp .lt 0, 3, 88, 0, 0), none, none, some (.aload 0, 1, 0, 0, 0)],
  [some (.getfield 0, 3, 12, 2, 2), none, none, some (.iload 1, 1, 0, 0, 0), some (.iaload, 1, 0, 0, 0), some (.goto 0, 3, 89, 0, 0), none, none, some (.iconst 0, 1, 0, 0, 0), some (.iadd, 1, 0, 0, 0), some (.istore 7, 2, 0, 0, 0), none, some (.iload 6, 2, 0, 0, 0), none, some (.iload 2, 1, 0, 0, 0), some (.aload 0, 1, 0, 0, 0)],
  [some (.getfield 0, 3, 10, 2, 2), none, none, some (.iload 1, 1, 0, 0, 0), some (.iaload, 1, 0, 0, 0), some (.if_icmp .lt 0, 3, 113, 0, 0), none, none, some (.aload 0, 1, 0, 0, 0), some (.getfield 0, 3, 11, 2, 2), none, none, some (.iload 1, 1, 0, 0, 0), some (.iaload, 1, 0, 0, 0), some (.goto 0, 3, 114, 0, 0), none],
  [none, some (.iconst 0, 1, 0, 0, 0), some (.iadd, 1, 0, 0, 0), some (.istore 6, 2, 0, 0, 0), none, some (.iload 7, 2, 0, 0, 0), none, some (.iload 3, 1, 0, 0, 0), some (.if_icmp .gt 0, 3, 130, 0, 0), none, none, some (.iload 6, 2, 0, 0, 0), none, some (.iload 3, 1, 0, 0, 0), some (.ineg, 1, 0, 0, 0), some (.if_icmp .ge 0, 3, 132, 0, 0)],
  [none, none, some (.iconst 1, 1, 0, 0, 0), some (.ireturn, 1, 0, 0, 3), some (.iinc 5 1, 3, 0, 0, 0), none, none, some (.goto 0, 3, 15, 0, 0), none, none, some (.iconst 0, 1, 0, 0, 0), some (.ireturn, 1, 0, 0, 3), none, none, none, none]]
set_option maxRecDepth 100000 in
theorem k30 : pchk 2 3 cX2_isBeyond 0 t30 = true := by decide +kernel
def t31 : pT := [[some (.aload 0, 1, 0, 0, 0), some (.pop, 3, 0, 0, 0), none, none, some (.aload 0, 1, 0, 0, 0), some (.iconst 0, 1, 0, 0, 0), some (.putfield 0, 3, 0, 3, 0), none, none, some (.aload 0, 1, 0, 0, 0), some (.iconst 0, 1, 0, 0, 0), some (.putfield 0, 3, 1, 3, 0), none, none, some (.aload 0, 1, 0, 0, 0), some (.iconst 0, 1, 0, 0, 0)],
  [some (.putfield 0, 3, 2, 3, 0), none, none, some (.aload 0, 1, 0, 0, 0), some (.iconst 16, 2, 0, 0, 0), none, some (.newarray .int, 2, 100, 0, 0), none, some (.putfield 0, 3, 3, 3, 2), none, none, some (.aload 0, 1, 0, 0, 0), some (.iconst 16, 2, 0, 0, 0), none, some (.newarray .int, 2, 100, 0, 0), none],
  [some (.putfield 0, 3, 4, 3, 2), none, none, some (.aload 0, 1, 0, 0, 0), some (.iconst 16, 2, 0, 0, 0), none, some (.newarray .int, 2, 100, 0, 0), none, some (.putfield 0, 3, 5, 3, 2), none, none, some (.aload 0, 1, 0, 0, 0), some (.iconst 16, 2, 0, 0, 0), none, some (.newarray .int, 2, 100, 0, 0), none],
  [some (.putfield 0, 3, 6, 3, 2), none, none, some (.aload 0, 1, 0, 0, 0), some (.iconst 20, 2, 0, 0, 0), none, some (.newarray .int, 2, 100, 0, 0), none, some (.putfield 0, 3, 7, 3, 2), none, none, some (.aload 0, 1, 0, 0, 0), some (.iconst 20, 2, 0, 0, 0), none, some (.newarray .int, 2, 100, 0, 0), none],
  [some (.putfield 0, 3, 8, 3, 2), none, none, some (.aload 0, 1, 0, 0, 0), some (.iconst 20, 2, 0, 0, 0), none, some (.newarray .int, 2, 100, 0, 0), none, some (.putfield 0, 3, 9, 3, 2), none, none, some (.aload 0, 1, 0, 0, 0), some (.iconst 0, 1, 0, 0, 0), some (.putfield 0, 3, 10, 3, 0), none, none],
  [some (.aload 0, 1, 0, 0, 0), some (.iconst 16, 2, 0, 0, 0), none, some (.newarray .int, 2, 100, 0, 0), none, some (.putfield 0, 3, 11, 3, 2), none, none, some (.aload 0, 1, 0, 0, 0), some (.iconst 16, 2, 0, 0, 0), none, some (.newarray .int, 2, 100, 0, 0), none, some (.putfield 0, 3, 12, 3, 2), none, none],
  [some (.aload 0, 1, 0, 0, 0), some (.iconst 16, 2, 0, 0, 0), none, some (.newarray .int, 2, 100, 0, 0), none, some (.putfield 0, 3, 13, 3, 2), none, none, some (.return_, 1, 0, 0, 0), none, none, none, none, none, none, none]]
set_option maxRecDepth 100000 in
theorem k31 : pchk 3 0 cX3_init 0 t31 = true := by decide +kernel
def t32 : pT := [[some (.aload 0, 1, 0, 0, 0), some (.iconst 0, 1, 0, 0, 0), some (.putfield 0, 3, 0, 3, 0), none, none, some (.aload 0, 1, 0, 0, 0), some (.iconst 0, 1, 0, 0, 0), some (.putfield 0, 3, 1, 3, 0), none, none, some (.aload 0, 1, 0, 0, 0), some (.iconst 0, 1, 0, 0, 0), some (.putfield 0, 3, 2, 3, 0), none, none, some (.return_, 1, 0, 0, 0)]]
set_option maxRecDepth 100000 in
theorem k32 : pchk 3 0 cX3_clear 0 t32 = true := by decide +kernel
def t33 : pT := [[some (.aload 0, 1, 0, 0, 0), some (.getfield 0, 3, 0, 3, 0), none, none, some (.iconst 16, 2, 0, 0, 0), none, some (.if_icmp .lt 0, 3, 12, 0, 0), none, none, some (.iconst (-3), 2, 0, 0, 0), none, some (.ireturn, 1, 0, 0, 0), some (.aload 0, 1, 0, 0, 0), some (.iload 1, 1, 0, 0, 0), some (.putfield 0, 3, 2, 3, 0), none],
  [none, some (.aload 0, 1, 0, 0, 0), some (.getfield 0, 3, 3, 3, 2), none, none, some (.aload 0, 1, 0, 0, 0), some (.getfield 0, 3, 0, 3, 0), none, none, some (.iload 1, 1, 0, 0, 0), some (.iastore, 1, 0, 0, 0), some (.aload 0, 1, 0, 0, 0), some (.getfield 0, 3, 4, 3, 2), none, none, some (.aload 0, 1, 0, 0, 0)],
  [some (.getfield 0, 3, 0, 3, 0), none, none, some (.iload 2, 1, 0, 0, 0), some (.iastore, 1, 0, 0, 0), some (.aload 0, 1, 0, 0, 0), some (.getfield 0, 3, 5, 3, 2), none, none, some (.aload 0, 1, 0, 0, 0), some (.getfield 0, 3, 0, 3, 0), none, none, some (.iload 3, 1, 0, 0, 0), some (.iastore, 1, 0, 0, 0), some (.aload 0, 1, 0, 0, 0)],
  [some (.getfield 0, 3, 6, 3, 2), none, none, some (.aload 0, 1, 0, 0, 0), some (.getfield 0, 3, 0, 3, 0), none, none, some (.iload 4, 2, 0, 0, 0), none, some (.iastore, 1, 0, 0, 0), some (.aload 0, 1, 0, 0, 0), some (.dup, 1, 0, 0, 0), some (.getfield 0, 3, 0, 3, 0), none, none, some (.iconst 1, 1, 0, 0, 0)],
  [some (.iadd, 1, 0, 0, 0), some (.putfield 0, 3, 0, 3, 0), none, none, some (.aload 0, 1, 0, 0, 0), some (.getfield 0, 3, 0, 3, 0), none, none, some (.iconst 1, 1, 0, 0, 0), some (.isub, 1, 0, 0, 0), some (.ireturn, 1, 0, 0, 0), none, none, none, none, none]]
set_option maxRecDepth 100000 in
theorem k33 : pchk 3 1 cX3_add 0 t33 = true := by decide +kernel
def t34 : pT := [[some (.aload 0, 1, 0, 0, 0), some (.getfield 0, 3, 1, 3, 0), none, none, some (.iconst 20, 2, 0, 0, 0), none, some (.if_icmp .lt 0, 3, 12, 0, 0), none, none, some (.iconst (-3), 2, 0, 0, 0), none, some (.ireturn, 1, 0, 0, 0), some (.aload 0, 1, 0, 0, 0), some (.iload 1, 1, 0, 0, 0), some (.putfield 0, 3, 2, 3, 0), none],
  [none, some (.aload 0, 1, 0, 0, 0), some (.getfield 0, 3, 7, 3, 2), none, none, some (.aload 0, 1, 0, 0, 0), some (.getfield 0, 3, 1, 3, 0), none, none, some (.iload 1, 1, 0, 0, 0), some (.iastore, 1, 0, 0, 0), some (.aload 0, 1, 0, 0, 0), some (.getfield 0, 3, 8, 3, 2), none, none, some (.aload 0, 1, 0, 0, 0)],
  [some (.getfield 0, 3, 1, 3, 0), none, none, some (.iload 2, 1, 0, 0, 0), some (.iastore, 1, 0, 0, 0), some (.aload 0, 1, 0, 0, 0), some (.getfield 0, 3, 9, 3, 2), none, none, some (.aload 0, 1, 0, 0, 0), some (.getfield 0, 3, 1, 3, 0), none, none, some (.iload 3, 1, 0, 0, 0), some (.iastore, 1, 0, 0, 0), some (.aload 0, 1, 0, 0, 0)],
  [some (.dup, 1, 0, 0, 0), some (.getfield 0, 3, 1, 3, 0), none, none, some (.iconst 1, 1, 0, 0, 0), some (.iadd, 1, 0, 0, 0), some (.putfield 0, 3, 1, 3, 0), none, none, some (.iconst 0, 1, 0, 0, 0), some (.istore 4, 2, 0, 0, 0), none, some (.iconst 0, 1, 0, 0, 0), some (.istore 5, 2, 0, 0, 0), none, some (.iload 5, 2, 0, 0, 0)],
  [none, some (.aload 0, 1, 0, 0, 0), some (.getfield 0, 3, 1, 3, 0), none, none, some (.if_icmp .ge 0, 3, 92, 0, 0), none, none, some (.aload 0, 1, 0, 0, 0), some (.getfield 0, 3, 8, 3, 2), none, none, some (.iload 5, 2, 0, 0, 0), none, some (.iaload, 1, 0, 0, 0), some (.iload 2, 1, 0, 0, 0)],
  [some (.if_icmp .ne 0, 3, 86, 0, 0), none, none, some (.iinc 4 1, 3, 0, 0, 0), none, none, some (.iinc 5 1, 3, 0, 0, 0), none, none, some (.goto 0, 3, 63, 0, 0), none, none, some (.iload 4, 2, 0, 0, 0), none, some (.ireturn, 1, 0, 0, 0), none]]
set_option maxRecDepth 100000 in
theorem k34 : pchk 3 1 cX3_putRight 0 t34 = true := by decide +kernel
def t35 : pT := [[some (.aload 0, 1, 0, 0, 0), some (.iconst 0, 1, 0, 0, 0), some (.putfield 0, 3, 10, 3, 0), none, none, some (.iconst 0, 1, 0, 0, 0), some (.istore 2, 1, 0, 0, 0), some (.iload 2, 1, 0, 0, 0), some (.aload 0, 1, 0, 0, 0), some (.getfield 0, 3, 0, 3, 0), none, none, some (.if_icmp .ge 0, 3, 86, 0, 0), none, none, some (.aload 0, 1, 0, 0, 0)],
  [some (.getfield 0, 3, 3, 3, 2), none, none, some (.iload 2, 1, 0, 0, 0), some (.iaload, 1, 0, 0, 0), some (.iload 1, 1, 0, 0, 0), some (.if_icmp .gt 0, 3, 80, 0, 0), none, none, some (.aload 0, 1, 0, 0, 0), some (.getfield 0, 3, 11, 3, 2), none, none, some (.aload 0, 1, 0, 0, 0), some (.getfield 0, 3, 10, 3, 0), none],
  [none, some (.aload 0, 1, 0, 0, 0), some (.getfield 0, 3, 4, 3, 2), none, none, some (.iload 2, 1, 0, 0, 0), some (.iaload, 1, 0, 0, 0), some (.iastore, 1, 0, 0, 0), some (.aload 0, 1, 0, 0, 0), some (.getfield 0, 3, 12, 3, 2), none, none, some (.aload 0, 1, 0, 0, 0), some (.getfield 0, 3, 10, 3, 0), none, none],
  [some (.aload 0, 1, 0, 0, 0), some (.getfield 0, 3, 5, 3, 2), none, none, some (.iload 2, 1, 0, 0, 0), some (.iaload, 1, 0, 0, 0), some (.iastore, 1, 0, 0, 0), some (.aload 0, 1, 0, 0, 0), some (.getfield 0, 3, 13, 3, 2), none, none, some (.aload 0, 1, 0, 0, 0), some (.getfield 0, 3, 10, 3, 0), none, none, some (.aload 0, 1, 0, 0, 0)],
  [some (.iload 2, 1, 0, 0, 0), some (.iload 1, 1, 0, 0, 0), some (.invokestatic 1, 3, 36, 3, 3), none, none, some (.iastore, 1, 0, 0, 0), some (.aload 0, 1, 0, 0, 0), some (.dup, 1, 0, 0, 0), some (.getfield 0, 3, 10, 3, 0), none, none, some (.iconst 1, 1, 0, 0, 0), some (.iadd, 1, 0, 0, 0), some (.putfield 0, 3, 10, 3, 0), none, none],
  [some (.iinc 2 1, 3, 0, 0, 0), none, none, some (.goto 0, 3, 7, 0, 0), none, none, some (.return_, 1, 0, 0, 0), none, none, none, none, none, none, none, none, none]]
set_option maxRecDepth 100000 in
theorem k35 : pchk 3 0 cX3_look 0 t35 = true := by decide +kernel
def t36 : pT := [[some (.aload 0, 1, 0, 0, 0), some (.getfield 0, 3, 6, 3, 2), none, none, some (.iload 1, 1, 0, 0, 0), some (.iaload, 1, 0, 0, 0), some (.istore 3, 1, 0, 0, 0), some (.iconst 0, 1, 0, 0, 0), some (.istore 4, 2, 0, 0, 0), none, some (.iload 4, 2, 0, 0, 0), none, some (.aload 0, 1, 0, 0, 0), some (.getfield 0, 3, 1, 3, 0), none, none],
  [some (.if_icmp .ge 0, 3, 55, 0, 0), none, none, some (.aload 0, 1, 0, 0, 0), some (.getfield 0, 3, 8, 3, 2), none, none, some (.iload 4, 2, 0, 0, 0), none, some (.iaload, 1, 0, 0, 0), some (.iload 1, 1, 0, 0, 0), some (.if_icmp .ne 0, 3, 49, 0, 0), none, none, some (.aload 0, 1, 0, 0, 0), some (.getfield 0, 3, 7, 3, 2)],
  [none, none, some (.iload 4, 2, 0, 0, 0), none, some (.iaload, 1, 0, 0, 0), some (.iload 2, 1, 0, 0, 0), some (.if_icmp .gt 0, 3, 49, 0, 0), none, none, some (.aload 0, 1, 0, 0, 0), some (.getfield 0, 3, 9, 3, 2), none, none, some (.iload 4, 2, 0, 0, 0), none, some (.iaload, 1, 0, 0, 0)],
  [some (.istore 3, 1, 0, 0, 0), some (.iinc 4 1, 3, 0, 0, 0), none, none, some (.goto 0, 3, 10, 0, 0), none, none, some (.iload 3, 1, 0, 0, 0), some (.ireturn, 1, 0, 0, 0), none, none, none, none, none, none, none]]
set_option maxRecDepth 100000 in
theorem k36 : pchk 3 1 cX3_offAsKnown 0 t36 = true := by decide +kernel
def t37 : pT := [[some (.aload 0, 1, 0, 0, 0), some (.pop, 3, 0, 0, 0), none, none, some (.aload 0, 1, 0, 0, 0), some (.iconst 25, 2, 0, 0, 0), none, some (.newarray .int, 2, 100, 0, 0), none, some (.putfield 0, 3, 2, 4, 2), none, none, some (.aload 0, 1, 0, 0, 0), some (.iconst 125, 2, 0, 0, 0), none, some (.newarray .int, 2, 100, 0, 0)],
  [none, some (.putfield 0, 3, 3, 4, 2), none, none, some (.aload 0, 1, 0, 0, 0), some (.iconst 125, 2, 0, 0, 0), none, some (.newarray .int, 2, 100, 0, 0), none, some (.putfield 0, 3, 4, 4, 2), none, none, some (.aload 0, 1, 0, 0, 0), some (.iconst 1625, 3, 0, 0, 0), none, none],
  [some (.newarray .int, 2, 100, 0, 0), none, some (.putfield 0, 3, 5, 4, 2), none, none, some (.aload 0, 1, 0, 0, 0), some (.iconst 40, 2, 0, 0, 0), none, some (.newarray .int, 2, 100, 0, 0), none, some (.putfield 0, 3, 6, 4, 2), none, none, some (.aload 0, 1, 0, 0, 0), some (.iconst 0, 1, 0, 0, 0), some (.putfield 0, 3, 7, 4, 0)],
  [none, none, some (.aload 0, 1, 0, 0, 0), some (.iconst (-1), 1, 0, 0, 0), some (.putfield 0, 3, 8, 4, 0), none, none, some (.aload 0, 1, 0, 0, 0), some (.aload 1, 1, 0, 0, 0), some (.putfield 0, 3, 0, 4, 2), none, none, some (.aload 0, 1, 0, 0, 0), some (.aload 2, 1, 0, 0, 0), some (.putfield 0, 3, 1, 4, 2), none],
  [none, some (.return_, 1, 0, 0, 0), none, none, none, none, none, none, none, none, none, none, none, none, none, none]]
set_option maxRecDepth 100000 in
theorem k37 : pchk 4 0 cX4_init 0 t37 = true := by decide +kernel
def t38 : pT := [[some (.aload 0, 1, 0, 0, 0), some (.aload 0, 1, 0, 0, 0), some (.getfield 0, 3, 1, 4, 2), none, none, some (.getfield 0, 3, 3, 2, 0), none, none, some (.putfield 0, 3, 7, 4, 0), none, none, some (.aload 0, 1, 0, 0, 0), some (.iconst (-1), 1, 0, 0, 0), some (.putfield 0, 3, 8, 4, 0), none, none],
  [some (.iconst 0, 1, 0, 0, 0), some (.istore 1, 1, 0, 0, 0), some (.iload 1, 1, 0, 0, 0), some (.aload 0, 1, 0, 0, 0), some (.getfield 0, 3, 0, 4, 2), none, none, some (.getfield 0, 3, 2, 6, 0), none, none, some (.if_icmp .ge 0, 3, 60, 0, 0), none, none, some (.aload 0, 1, 0, 0, 0), some (.iload 1, 1, 0, 0, 0), some (.invokestatic 0, 3, 40, 2, 4)],
  [none, none, some (.iconst 0, 1, 0, 0, 0), some (.istore 2, 1, 0, 0, 0), some (.iload 2, 1, 0, 0, 0), some (.iconst 20, 2, 0, 0, 0), none, some (.if_icmp .ge 0, 3, 54, 0, 0), none, none, some (.aload 0, 1, 0, 0, 0), some (.iload 2, 1, 0, 0, 0), some (.iload 1, 1, 0, 0, 0), some (.invokestatic 0, 3, 39, 3, 4), none, none],
  [some (.iinc 2 1, 3, 0, 0, 0), none, none, some (.goto 0, 3, 36, 0, 0), none, none, some (.iinc 1 1, 3, 0, 0, 0), none, none, some (.goto 0, 3, 18, 0, 0), none, none, some (.aload 0, 1, 0, 0, 0), some (.getfield 0, 3, 8, 4, 0), none, none],
  [some (.ireturn, 1, 0, 0, 0), none, none, none, none, none, none, none, none, none, none, none, none, none, none, none]]
set_option maxRecDepth 100000 in
theorem k38 : pchk 4 1 cX4_pick 0 t38 = true := by decide +kernel
def t39 : pT := [[some (.aload 0, 1, 0, 0, 0), some (.iload 1, 1, 0, 0, 0), some (.invokestatic 1, 3, 41, 2, 4), none, none, some (.istore 3, 1, 0, 0, 0), some (.iconst 10, 2, 0, 0, 0), none, some (.iload 1, 1, 0, 0, 0), some (.imul, 1, 0, 0, 0), some (.iload 2, 1, 0, 0, 0), some (.iadd, 1, 0, 0, 0), some (.istore 4, 2, 0, 0, 0), none, some (.iload 3, 1, 0, 0, 0), some (.aload 0, 1, 0, 0, 0)],
  [some (.getfield 0, 3, 7, 4, 0), none, none, some (.if_icmp .lt 0, 3, 47, 0, 0), none, none, some (.iload 3, 1, 0, 0, 0), some (.aload 0, 1, 0, 0, 0), some (.getfield 0, 3, 7, 4, 0), none, none, some (.if_icmp .ne 0, 3, 58, 0, 0), none, none, some (.aload 0, 1, 0, 0, 0), some (.getfield 0, 3, 8, 4, 0)],
  [none, none, some (.iconst (-1), 1, 0, 0, 0), some (.if_icmp .eq 0, 3, 58, 0, 0), none, none, some (.iload 4, 2, 0, 0, 0), none, some (.aload 0, 1, 0, 0, 0), some (.getfield 0, 3, 8, 4, 0), none, none, some (.if_icmp .ge 0, 3, 58, 0, 0), none, none, some (.aload 0, 1, 0, 0, 0)],
  [some (.iload 3, 1, 0, 0, 0), some (.putfield 0, 3, 7, 4, 0), none, none, some (.aload 0, 1, 0, 0, 0), some (.iload 4, 2, 0, 0, 0), none, some (.putfield 0, 3, 8, 4, 0), none, none, some (.return_, 1, 0, 0, 0), none, none, none, none, none]]
set_option maxRecDepth 100000 in
theorem k39 : pchk 4 0 cX4_weigh 0 t39 = true := by decide +kernel
def t40 : pT := [[some (.aload 0, 1, 0, 0, 0), some (.getfield 0, 3, 2, 4, 2), none, none, some (.iconst 0, 1, 0, 0, 0), some (.invokestatic 0, 3, 267, 2, (-1)), none, none, some (.aload 0, 1, 0, 0, 0), some (.getfield 0, 3, 3, 4, 2), none, none, some (.iconst 0, 1, 0, 0, 0), some (.invokestatic 0, 3, 267, 2, (-1)), none, none],
  [some (.aload 0, 1, 0, 0, 0), some (.getfield 0, 3, 4, 4, 2), none, none, some (.iconst 0, 1, 0, 0, 0), some (.invokestatic 0, 3, 267, 2, (-1)), none, none, some (.aload 0, 1, 0, 0, 0), some (.getfield 0, 3, 5, 4, 2), none, none, some (.iconst 0, 1, 0, 0, 0), some (.invokestatic 0, 3, 267, 2, (-1)), none, none],
  [some (.iconst 0, 1, 0, 0, 0), some (.istore 2, 1, 0, 0, 0), some (.iload 2, 1, 0, 0, 0), some (.aload 0, 1, 0, 0, 0), some (.getfield 0, 3, 1, 4, 2), none, none, some (.getfield 0, 3, 5, 2, 0), none, none, some (.if_icmp .ge 0, 3, 211, 0, 0), none, none, some (.aload 0, 1, 0, 0, 0), some (.getfield 0, 3, 1, 4, 2), none],
  [none, some (.getfield 0, 3, 6, 2, 2), none, none, some (.iload 2, 1, 0, 0, 0), some (.iaload, 1, 0, 0, 0), some (.iconst 2, 1, 0, 0, 0), some (.iadd, 1, 0, 0, 0), some (.iconst 5, 1, 0, 0, 0), some (.imul, 1, 0, 0, 0), some (.aload 0, 1, 0, 0, 0), some (.getfield 0, 3, 1, 4, 2), none, none, some (.getfield 0, 3, 7, 2, 2), none],
  [none, some (.iload 2, 1, 0, 0, 0), some (.iaload, 1, 0, 0, 0), some (.iload 1, 1, 0, 0, 0), some (.invokestatic 1, 3, 4, 2, (-1)), none, none, some (.iadd, 1, 0, 0, 0), some (.istore 3, 1, 0, 0, 0), some (.aload 0, 1, 0, 0, 0), some (.getfield 0, 3, 2, 4, 2), none, none, some (.iload 3, 1, 0, 0, 0), some (.dup2, 1, 0, 0, 0), some (.iaload, 1, 0, 0, 0)],
  [some (.aload 0, 1, 0, 0, 0), some (.getfield 0, 3, 1, 4, 2), none, none, some (.iload 2, 1, 0, 0, 0), some (.invokestatic 1, 3, 24, 2, 2), none, none, some (.iadd, 1, 0, 0, 0), some (.iastore, 1, 0, 0, 0), some (.aload 0, 1, 0, 0, 0), some (.getfield 0, 3, 1, 4, 2), none, none, some (.getfield 0, 3, 8, 2, 2), none],
  [none, some (.iload 2, 1, 0, 0, 0), some (.iaload, 1, 0, 0, 0), some (.aload 0, 1, 0, 0, 0), some (.getfield 0, 3, 0, 4, 2), none, none, some (.getfield 0, 3, 8, 6, 2), none, none, some (.iload 1, 1, 0, 0, 0), some (.iaload, 1, 0, 0, 0), some (.if_icmp .eq 0, 3, 114, 0, 0), none, none, some (.goto 0, 3, 205, 0, 0)],
  [none, none, some (.aload 0, 1, 0, 0, 0), some (.getfield 0, 3, 1, 4, 2), none, none, some (.getfield 0, 3, 11, 2, 2), none, none, some (.iload 2, 1, 0, 0, 0), some (.iaload, 1, 0, 0, 0), some (.istore 4, 2, 0, 0, 0), none, some (.iload 4, 2, 0, 0, 0), none, some (.aload 0, 1, 0, 0, 0)],
  [some (.getfield 0, 3, 1, 4, 2), none, none, some (.getfield 0, 3, 12, 2, 2), none, none, some (.iload 2, 1, 0, 0, 0), some (.iaload, 1, 0, 0, 0), some (.if_icmp .gt 0, 3, 205, 0, 0), none, none, some (.iload 3, 1, 0, 0, 0), some (.iconst 5, 1, 0, 0, 0), some (.imul, 1, 0, 0, 0), some (.iload 4, 2, 0, 0, 0), none],
  [some (.iadd, 1, 0, 0, 0), some (.iconst 1, 1, 0, 0, 0), some (.isub, 1, 0, 0, 0), some (.istore 5, 2, 0, 0, 0), none, some (.aload 0, 1, 0, 0, 0), some (.getfield 0, 3, 5, 4, 2), none, none, some (.iload 5, 2, 0, 0, 0), none, some (.iconst 13, 2, 0, 0, 0), none, some (.imul, 1, 0, 0, 0), some (.aload 0, 1, 0, 0, 0), some (.getfield 0, 3, 1, 4, 2)],
  [none, none, some (.getfield 0, 3, 9, 2, 2), none, none, some (.iload 2, 1, 0, 0, 0), some (.iaload, 1, 0, 0, 0), some (.iadd, 1, 0, 0, 0), some (.dup2, 1, 0, 0, 0), some (.iaload, 1, 0, 0, 0), some (.iconst 1, 1, 0, 0, 0), some (.iadd, 1, 0, 0, 0), some (.iastore, 1, 0, 0, 0), some (.aload 0, 1, 0, 0, 0), some (.getfield 0, 3, 5, 4, 2), none],
  [none, some (.iload 5, 2, 0, 0, 0), none, some (.iconst 13, 2, 0, 0, 0), none, some (.imul, 1, 0, 0, 0), some (.aload 0, 1, 0, 0, 0), some (.getfield 0, 3, 1, 4, 2), none, none, some (.getfield 0, 3, 10, 2, 2), none, none, some (.iload 2, 1, 0, 0, 0), some (.iaload, 1, 0, 0, 0), some (.iadd, 1, 0, 0, 0)],
  [some (.iconst 1, 1, 0, 0, 0), some (.iadd, 1, 0, 0, 0), some (.dup2, 1, 0, 0, 0), some (.iaload, 1, 0, 0, 0), some (.iconst 1, 1, 0, 0, 0), some (.isub, 1, 0, 0, 0), some (.iastore, 1, 0, 0, 0), some (.iinc 4 1, 3, 0, 0, 0), none, none, some (.goto 0, 3, 125, 0, 0), none, none, some (.iinc 2 1, 3, 0, 0, 0), none, none],
  [some (.goto 0, 3, 34, 0, 0), none, none, some (.return_, 1, 0, 0, 0), none, none, none, none, none, none, none, none, none, none, none, none]]
set_option maxRecDepth 100000 in
theorem k40 : pchk 4 0 cX4_sortBlocks 0 t40 = true := by decide +kernel
def t41 : pT := [[some (.aload 0, 1, 0, 0, 0), some (.getfield 0, 3, 6, 4, 2), none, none, some (.iconst 0, 1, 0, 0, 0), some (.invokestatic 0, 3, 267, 2, (-1)), none, none, some (.iconst 0, 1, 0, 0, 0), some (.istore 2, 1, 0, 0, 0), some (.iload 2, 1, 0, 0, 0), some (.iconst 25, 2, 0, 0, 0), none, some (.if_icmp .ge 0, 3, 172, 0, 0), none, none],
  [some (.iload 2, 1, 0, 0, 0), some (.iconst 5, 1, 0, 0, 0), some (.idiv, 1, 0, 0, 0), some (.iconst 2, 1, 0, 0, 0), some (.isub, 1, 0, 0, 0), some (.istore 3, 1, 0, 0, 0), some (.iconst 8, 2, 0, 0, 0), none, some (.iload 3, 1, 0, 0, 0), some (.iload 1, 1, 0, 0, 0), some (.invokestatic 1, 3, 2, 2, (-1)), none, none, some (.iadd, 1, 0, 0, 0), some (.iload 2, 1, 0, 0, 0), some (.iconst 5, 1, 0, 0, 0)],
  [some (.irem, 1, 0, 0, 0), some (.iload 1, 1, 0, 0, 0), some (.imul, 1, 0, 0, 0), some (.iconst 5, 1, 0, 0, 0), some (.idiv, 1, 0, 0, 0), some (.iadd, 1, 0, 0, 0), some (.istore 4, 2, 0, 0, 0), none, some (.iconst 1, 1, 0, 0, 0), some (.istore 5, 2, 0, 0, 0), none, some (.iload 5, 2, 0, 0, 0), none, some (.iconst 5, 1, 0, 0, 0), some (.if_icmp .gt 0, 3, 150, 0, 0), none],
  [none, some (.iload 2, 1, 0, 0, 0), some (.iconst 5, 1, 0, 0, 0), some (.imul, 1, 0, 0, 0), some (.iload 5, 2, 0, 0, 0), none, some (.iadd, 1, 0, 0, 0), some (.iconst 1, 1, 0, 0, 0), some (.isub, 1, 0, 0, 0), some (.istore 6, 2, 0, 0, 0), none, some (.aload 0, 1, 0, 0, 0), some (.getfield 0, 3, 4, 4, 2), none, none, some (.iload 6, 2, 0, 0, 0)],
  [none, some (.dup2, 1, 0, 0, 0), some (.iaload, 1, 0, 0, 0), some (.iload 1, 1, 0, 0, 0), some (.iconst 13, 2, 0, 0, 0), none, some (.if_icmp .ge 0, 3, 88, 0, 0), none, none, some (.aload 0, 1, 0, 0, 0), some (.getfield 0, 3, 5, 4, 2), none, none, some (.iload 6, 2, 0, 0, 0), none, some (.iconst 13, 2, 0, 0, 0)],
  [none, some (.imul, 1, 0, 0, 0), some (.iload 1, 1, 0, 0, 0), some (.iadd, 1, 0, 0, 0), some (.iaload, 1, 0, 0, 0), some (.goto 0, 3, 89, 0, 0), none, none, some (.iconst 0, 1, 0, 0, 0), some (.iadd, 1, 0, 0, 0), some (.iastore, 1, 0, 0, 0), some (.aload 0, 1, 0, 0, 0), some (.getfield 0, 3, 3, 4, 2), none, none, some (.iload 6, 2, 0, 0, 0)],
  [none, some (.dup2, 1, 0, 0, 0), some (.iaload, 1, 0, 0, 0), some (.aload 0, 1, 0, 0, 0), some (.getfield 0, 3, 4, 4, 2), none, none, some (.iload 6, 2, 0, 0, 0), none, some (.iaload, 1, 0, 0, 0), some (.iadd, 1, 0, 0, 0), some (.iastore, 1, 0, 0, 0), some (.aload 0, 1, 0, 0, 0), some (.getfield 0, 3, 2, 4, 2), none, none],
  [some (.iload 2, 1, 0, 0, 0), some (.dup2, 1, 0, 0, 0), some (.iaload, 1, 0, 0, 0), some (.aload 0, 1, 0, 0, 0), some (.getfield 0, 3, 4, 4, 2), none, none, some (.iload 6, 2, 0, 0, 0), none, some (.iaload, 1, 0, 0, 0), some (.isub, 1, 0, 0, 0), some (.iastore, 1, 0, 0, 0), some (.aload 0, 1, 0, 0, 0), some (.getfield 0, 3, 6, 4, 2), none, none],
  [some (.iload 4, 2, 0, 0, 0), none, some (.iload 5, 2, 0, 0, 0), none, some (.iadd, 1, 0, 0, 0), some (.dup2, 1, 0, 0, 0), some (.iaload, 1, 0, 0, 0), some (.aload 0, 1, 0, 0, 0), some (.getfield 0, 3, 3, 4, 2), none, none, some (.iload 6, 2, 0, 0, 0), none, some (.iaload, 1, 0, 0, 0), some (.iadd, 1, 0, 0, 0), some (.iastore, 1, 0, 0, 0)],
  [some (.iinc 5 1, 3, 0, 0, 0), none, none, some (.goto 0, 3, 43, 0, 0), none, none, some (.aload 0, 1, 0, 0, 0), some (.getfield 0, 3, 6, 4, 2), none, none, some (.iload 4, 2, 0, 0, 0), none, some (.dup2, 1, 0, 0, 0), some (.iaload, 1, 0, 0, 0), some (.aload 0, 1, 0, 0, 0), some (.getfield 0, 3, 2, 4, 2)],
  [none, none, some (.iload 2, 1, 0, 0, 0), some (.iaload, 1, 0, 0, 0), some (.iadd, 1, 0, 0, 0), some (.iastore, 1, 0, 0, 0), some (.iinc 2 1, 3, 0, 0, 0), none, none, some (.goto 0, 3, 10, 0, 0), none, none, some (.iconst 0, 1, 0, 0, 0), some (.istore 2, 1, 0, 0, 0), some (.iconst 0, 1, 0, 0, 0), some (.istore 3, 1, 0, 0, 0)],
  [some (.iload 3, 1, 0, 0, 0), some (.iconst 40, 2, 0, 0, 0), none, some (.if_icmp .ge 0, 3, 199, 0, 0), none, none, some (.iload 2, 1, 0, 0, 0), some (.aload 0, 1, 0, 0, 0), some (.getfield 0, 3, 6, 4, 2), none, none, some (.iload 3, 1, 0, 0, 0), some (.iaload, 1, 0, 0, 0), some (.f2d, 3, 0, 0, 0), none, none],
  [some (.istore 2, 1, 0, 0, 0), some (.iinc 3 1, 3, 0, 0, 0), none, none, some (.goto 0, 3, 176, 0, 0), none, none, some (.iload 2, 1, 0, 0, 0), some (.ireturn, 1, 0, 0, 0), none, none, none, none, none, none, none]]
set_option maxRecDepth 100000 in
theorem k41 : pchk 4 1 cX4_mostAlike 0 t41 = true := by decide +kernel
def t42 : pT := [[some (.aload 0, 1, 0, 0, 0), some (.pop, 3, 0, 0, 0), none, none, some (.aload 0, 1, 0, 0, 0), some (.iconst 4, 1, 0, 0, 0), some (.iconst 100, 2, 0, 0, 0), none, some (.multianewarray 0 2, 4, 0, 0, 0), none, none, none, some (.putfield 0, 3, 2, 5, 2), none, none, some (.aload 0, 1, 0, 0, 0)],
  [some (.iconst 6, 2, 0, 0, 0), none, some (.newarray .int, 2, 100, 0, 0), none, some (.putfield 0, 3, 3, 5, 2), none, none, some (.aload 0, 1, 0, 0, 0), some (.iconst 100, 2, 0, 0, 0), none, some (.newarray .int, 2, 100, 0, 0), none, some (.putfield 0, 3, 4, 5, 2), none, none, some (.aload 0, 1, 0, 0, 0)],
  [some (.iconst 6, 2, 0, 0, 0), none, some (.iconst 4, 1, 0, 0, 0), some (.multianewarray 0 2, 4, 0, 0, 0), none, none, none, some (.putfield 0, 3, 5, 5, 2), none, none, some (.aload 0, 1, 0, 0, 0), some (.iconst 6, 2, 0, 0, 0), none, some (.iconst 4, 1, 0, 0, 0), some (.multianewarray 0 2, 4, 0, 0, 0), none],
  [none, none, some (.putfield 0, 3, 6, 5, 2), none, none, some (.aload 0, 1, 0, 0, 0), some (.iconst 6, 2, 0, 0, 0), none, some (.iconst 4, 1, 0, 0, 0), some (.multianewarray 0 2, 4, 0, 0, 0), none, none, none, some (.putfield 0, 3, 7, 5, 2), none, none],
  [some (.aload 0, 1, 0, 0, 0), some (.iconst 6, 2, 0, 0, 0), none, some (.newarray .int, 2, 100, 0, 0), none, some (.putfield 0, 3, 8, 5, 2), none, none, some (.aload 0, 1, 0, 0, 0), some (.iconst 0, 1, 0, 0, 0), some (.putfield 0, 3, 9, 5, 0), none, none, some (.aload 0, 1, 0, 0, 0), some (.aload 1, 1, 0, 0, 0), some (.putfield 0, 3, 0, 5, 2)],
  [none, none, some (.aload 0, 1, 0, 0, 0), some (.aload 2, 1, 0, 0, 0), some (.putfield 0, 3, 1, 5, 2), none, none, some (.aload 0, 1, 0, 0, 0), some (.invokestatic 0, 3, 43, 1, 5), none, none, some (.return_, 1, 0, 0, 0), none, none, none, none]]
set_option maxRecDepth 100000 in
theorem k42 : pchk 5 0 cX5_init 0 t42 = true := by decide +kernel
def t43 : pT := [[some (.aload 0, 1, 0, 0, 0), some (.getfield 0, 3, 3, 5, 2), none, none, some (.iconst (-1), 1, 0, 0, 0), some (.invokestatic 0, 3, 267, 2, (-1)), none, none, some (.iconst 0, 1, 0, 0, 0), some (.istore 1, 1, 0, 0, 0), some (.iload 1, 1, 0, 0, 0), some (.iconst 4, 1, 0, 0, 0), some (.if_icmp .ge 0, 3, 26, 0, 0), none, none, some (.aload 0, 1, 0, 0, 0)],
  [some (.iload 1, 1, 0, 0, 0), some (.invokestatic 0, 3, 44, 2, 5), none, none, some (.iinc 1 1, 3, 0, 0, 0), none, none, some (.goto 0, 3, 10, 0, 0), none, none, some (.return_, 1, 0, 0, 0), none, none, none, none, none]]
set_option maxRecDepth 100000 in
theorem k43 : pchk 5 0 cX5_forgetPart 0 t43 = true := by decide +kernel
def t44 : pT := [[some (.iconst 0, 1, 0, 0, 0), some (.istore 2, 1, 0, 0, 0), some (.iload 2, 1, 0, 0, 0), some (.iconst 6, 2, 0, 0, 0), none, some (.if_icmp .ge 0, 3, 24, 0, 0), none, none, some (.aload 0, 1, 0, 0, 0), some (.getfield 0, 3, 5, 5, 2), none, none, some (.iload 2, 1, 0, 0, 0), some (.aaload, 1, 0, 0, 0), some (.iload 1, 1, 0, 0, 0), some (.iconst (-2), 2, 0, 0, 0)],
  [none, some (.iastore, 1, 0, 0, 0), some (.iinc 2 1, 3, 0, 0, 0), none, none, some (.goto 0, 3, 2, 0, 0), none, none, some (.return_, 1, 0, 0, 0), none, none, none, none, none, none, none]]
set_option maxRecDepth 100000 in
theorem k44 : pchk 5 0 cX5_forgetTurns 0 t44 = true := by decide +kernel
def t45 : pT := [[some (.aload 2, 1, 0, 0, 0), some (.getfield 0, 3, 2, 9, 0), none, none, some (.iconst 200, 3, 0, 0, 0), none, none, some (.if_icmp .eq 0, 3, 12, 0, 0), none, none, some (.iconst (-1), 1, 0, 0, 0), some (.ireturn, 1, 0, 0, 0), some (.iconst 0, 1, 0, 0, 0), some (.istore 3, 1, 0, 0, 0), some (.iload 3, 1, 0, 0, 0), some (.iconst 100, 2, 0, 0, 0)],
  [none, some (.if_icmp .ge 0, 3, 44, 0, 0), none, none, some (.aload 2, 1, 0, 0, 0), some (.iload 3, 1, 0, 0, 0), some (.invokestatic 1, 3, 46, 2, (-1)), none, none, some (.i2l, 1, 0, 0, 0), some (.ldc2_w 0, 1, 0, 0, 0), some (.ldc2_w 0, 3, 0, 0, 999), none, none, some (.invokestatic 1, 3, 118, 3, (-1)), none],
  [none, some (.ifCond .ne 0, 3, 38, 0, 0), none, none, some (.iconst (-1), 1, 0, 0, 0), some (.ireturn, 1, 0, 0, 0), some (.iinc 3 1, 3, 0, 0, 0), none, none, some (.goto 0, 3, 14, 0, 0), none, none, some (.iconst 0, 1, 0, 0, 0), some (.istore 3, 1, 0, 0, 0), some (.iload 3, 1, 0, 0, 0), some (.iconst 100, 2, 0, 0, 0)],
  [none, some (.if_icmp .ge 0, 3, 71, 0, 0), none, none, some (.aload 0, 1, 0, 0, 0), some (.getfield 0, 3, 2, 5, 2), none, none, some (.iload 1, 1, 0, 0, 0), some (.aaload, 1, 0, 0, 0), some (.iload 3, 1, 0, 0, 0), some (.aload 2, 1, 0, 0, 0), some (.iload 3, 1, 0, 0, 0), some (.invokestatic 1, 3, 46, 2, (-1)), none, none],
  [some (.iastore, 1, 0, 0, 0), some (.iinc 3 1, 3, 0, 0, 0), none, none, some (.goto 0, 3, 46, 0, 0), none, none, some (.aload 0, 1, 0, 0, 0), some (.iload 1, 1, 0, 0, 0), some (.invokestatic 0, 3, 44, 2, 5), none, none, some (.iconst 1, 1, 0, 0, 0), some (.ireturn, 1, 0, 0, 0), none, none]]
set_option maxRecDepth 100000 in
theorem k45 : pchk 5 1 cX5_readRow 0 t45 = true := by decide +kernel
def t46 : pT := [[some (.iconst 100, 2, 0, 0, 0), none, some (.aload 0, 1, 0, 0, 0), some (.iconst 2, 1, 0, 0, 0), some (.iload 1, 1, 0, 0, 0), some (.imul, 1, 0, 0, 0), some (.invokestatic 1, 3, 99, 2, 9), none, none, some (.imul, 1, 0, 0, 0), some (.iconst 4800, 3, 0, 0, 0), none, none, some (.isub, 1, 0, 0, 0), some (.aload 0, 1, 0, 0, 0), some (.iconst 2, 1, 0, 0, 0)],
  [some (.iload 1, 1, 0, 0, 0), some (.imul, 1, 0, 0, 0), some (.iconst 1, 1, 0, 0, 0), some (.iadd, 1, 0, 0, 0), some (.invokestatic 1, 3, 99, 2, 9), none, none, some (.iadd, 1, 0, 0, 0), some (.iconst 48, 2, 0, 0, 0), none, some (.isub, 1, 0, 0, 0), some (.ireturn, 1, 0, 0, 0), none, none, none, none]]
set_option maxRecDepth 100000 in
theorem k46 : pchk 5 1 cX5_heightOn 0 t46 = true := by decide +kernel
def t47 : pT := [[some (.iconst 0, 1, 0, 0, 0), some (.istore 4, 2, 0, 0, 0), none, some (.iconst 0, 1, 0, 0, 0), some (.istore 5, 2, 0, 0, 0), none, some (.iload 5, 2, 0, 0, 0), none, some (.iconst 100, 2, 0, 0, 0), none, some (.if_icmp .ge 0, 3, 56, 0, 0), none, none, some (.aload 0, 1, 0, 0, 0), some (.getfield 0, 3, 2, 5, 2), none],
  [none, some (.iload 2, 1, 0, 0, 0), some (.aaload, 1, 0, 0, 0), some (.iload 5, 2, 0, 0, 0), none, some (.aload 0, 1, 0, 0, 0), some (.getfield 0, 3, 1, 5, 2), none, none, some (.iload 1, 1, 0, 0, 0), some (.iload 5, 2, 0, 0, 0), none, some (.invokestatic 1, 3, 14, 3, 1), none, none, some (.iload 3, 1, 0, 0, 0)],
  [some (.iadd, 1, 0, 0, 0), some (.iastore, 1, 0, 0, 0), some (.iload 4, 2, 0, 0, 0), none, some (.aload 0, 1, 0, 0, 0), some (.getfield 0, 3, 2, 5, 2), none, none, some (.iload 2, 1, 0, 0, 0), some (.aaload, 1, 0, 0, 0), some (.iload 5, 2, 0, 0, 0), none, some (.iaload, 1, 0, 0, 0), some (.f2d, 3, 0, 0, 0), none, none],
  [some (.istore 4, 2, 0, 0, 0), none, some (.iinc 5 1, 3, 0, 0, 0), none, none, some (.goto 0, 3, 6, 0, 0), none, none, some (.aload 0, 1, 0, 0, 0), some (.iload 2, 1, 0, 0, 0), some (.invokestatic 0, 3, 44, 2, 5), none, none, some (.iload 4, 2, 0, 0, 0), none, some (.ireturn, 1, 0, 0, 0)]]
set_option maxRecDepth 100000 in
theorem k47 : pchk 5 1 cX5_putAway 0 t47 = true := by decide +kernel
def t48 : pT := [[some (.aload 0, 1, 0, 0, 0), some (.iload 1, 1, 0, 0, 0), some (.iload 2, 1, 0, 0, 0), some (.invokestatic 0, 3, 51, 3, 5), none, none, some (.aload 0, 1, 0, 0, 0), some (.getfield 0, 3, 5, 5, 2), none, none, some (.iload 1, 1, 0, 0, 0), some (.aaload, 1, 0, 0, 0), some (.iload 2, 1, 0, 0, 0), some (.iaload, 1, 0, 0, 0), some (.ireturn, 1, 0, 0, 0), none]]
set_option maxRecDepth 100000 in
theorem k48 : pchk 5 1 cX5_bestTurn 0 t48 = true := by decide +kernel
def t49 : pT := [[some (.aload 0, 1, 0, 0, 0), some (.iload 1, 1, 0, 0, 0), some (.iload 2, 1, 0, 0, 0), some (.invokestatic 0, 3, 51, 3, 5), none, none, some (.aload 0, 1, 0, 0, 0), some (.getfield 0, 3, 5, 5, 2), none, none, some (.iload 1, 1, 0, 0, 0), some (.aaload, 1, 0, 0, 0), some (.iload 2, 1, 0, 0, 0), some (.iaload, 1, 0, 0, 0), some (.iconst (-1), 1, 0, 0, 0), some (.if_icmp .ne 0, 3, 22, 0, 0)],
  [none, none, some (.iconst (-1), 1, 0, 0, 0), some (.goto 0, 3, 30, 0, 0), none, none, some (.aload 0, 1, 0, 0, 0), some (.getfield 0, 3, 6, 5, 2), none, none, some (.iload 1, 1, 0, 0, 0), some (.aaload, 1, 0, 0, 0), some (.iload 2, 1, 0, 0, 0), some (.iaload, 1, 0, 0, 0), some (.ireturn, 1, 0, 0, 0), none]]
set_option maxRecDepth 100000 in
theorem k49 : pchk 5 1 cX5_bestBase 0 t49 = true := by decide +kernel
def t50 : pT := [[some (.aload 0, 1, 0, 0, 0), some (.iload 1, 1, 0, 0, 0), some (.iload 2, 1, 0, 0, 0), some (.invokestatic 0, 3, 51, 3, 5), none, none, some (.aload 0, 1, 0, 0, 0), some (.getfield 0, 3, 5, 5, 2), none, none, some (.iload 1, 1, 0, 0, 0), some (.aaload, 1, 0, 0, 0), some (.iload 2, 1, 0, 0, 0), some (.iaload, 1, 0, 0, 0), some (.iconst (-1), 1, 0, 0, 0), some (.if_icmp .ne 0, 3, 22, 0, 0)],
  [none, none, some (.iconst (-1), 1, 0, 0, 0), some (.goto 0, 3, 30, 0, 0), none, none, some (.aload 0, 1, 0, 0, 0), some (.getfield 0, 3, 7, 5, 2), none, none, some (.iload 1, 1, 0, 0, 0), some (.aaload, 1, 0, 0, 0), some (.iload 2, 1, 0, 0, 0), some (.iaload, 1, 0, 0, 0), some (.ireturn, 1, 0, 0, 0), none]]
set_option maxRecDepth 100000 in
theorem k50 : pchk 5 1 cX5_filedOff 0 t50 = true := by decide +kernel
def t51 : pT := [[some (.aload 0, 1, 0, 0, 0), some (.getfield 0, 3, 5, 5, 2), none, none, some (.iload 1, 1, 0, 0, 0), some (.aaload, 1, 0, 0, 0), some (.iload 2, 1, 0, 0, 0), some (.iaload, 1, 0, 0, 0), some (.iconst (-2), 2, 0, 0, 0), none, some (.if_icmp .eq 0, 3, 14, 0, 0), none, none, some (.return_, 1, 0, 0, 0), some (.iconst 0, 1, 0, 0, 0), some (.istore 3, 1, 0, 0, 0)],
  [some (.iconst 0, 1, 0, 0, 0), some (.istore 4, 2, 0, 0, 0), none, some (.iload 4, 2, 0, 0, 0), none, some (.iconst 100, 2, 0, 0, 0), none, some (.if_icmp .ge 0, 3, 69, 0, 0), none, none, some (.aload 0, 1, 0, 0, 0), some (.getfield 0, 3, 4, 5, 2), none, none, some (.iload 4, 2, 0, 0, 0), none],
  [some (.aload 0, 1, 0, 0, 0), some (.getfield 0, 3, 1, 5, 2), none, none, some (.iload 1, 1, 0, 0, 0), some (.iload 4, 2, 0, 0, 0), none, some (.invokestatic 1, 3, 14, 3, 1), none, none, some (.iastore, 1, 0, 0, 0), some (.iload 3, 1, 0, 0, 0), some (.aload 0, 1, 0, 0, 0), some (.getfield 0, 3, 2, 5, 2), none, none],
  [some (.iload 2, 1, 0, 0, 0), some (.aaload, 1, 0, 0, 0), some (.iload 4, 2, 0, 0, 0), none, some (.iaload, 1, 0, 0, 0), some (.aload 0, 1, 0, 0, 0), some (.getfield 0, 3, 4, 5, 2), none, none, some (.iload 4, 2, 0, 0, 0), none, some (.iaload, 1, 0, 0, 0), some (.isub, 1, 0, 0, 0), some (.iadd, 1, 0, 0, 0), some (.istore 3, 1, 0, 0, 0), some (.iinc 4 1, 3, 0, 0, 0)],
  [none, none, some (.goto 0, 3, 19, 0, 0), none, none, some (.iconst (-1), 1, 0, 0, 0), some (.istore 4, 2, 0, 0, 0), none, some (.iconst (-1), 1, 0, 0, 0), some (.istore 5, 2, 0, 0, 0), none, some (.iconst 0, 1, 0, 0, 0), some (.istore 6, 2, 0, 0, 0), none, some (.iload 6, 2, 0, 0, 0), none],
  [some (.iconst 100, 2, 0, 0, 0), none, some (.if_icmp .ge 0, 3, 122, 0, 0), none, none, some (.aload 0, 1, 0, 0, 0), some (.aload 0, 1, 0, 0, 0), some (.getfield 0, 3, 2, 5, 2), none, none, some (.iload 2, 1, 0, 0, 0), some (.aaload, 1, 0, 0, 0), some (.iload 6, 2, 0, 0, 0), none, some (.iload 5, 2, 0, 0, 0), none],
  [some (.invokestatic 1, 3, 52, 4, 5), none, none, some (.istore 7, 2, 0, 0, 0), none, some (.iload 7, 2, 0, 0, 0), none, some (.iload 5, 2, 0, 0, 0), none, some (.if_icmp .le 0, 3, 116, 0, 0), none, none, some (.iload 7, 2, 0, 0, 0), none, some (.istore 5, 2, 0, 0, 0), none],
  [some (.iload 6, 2, 0, 0, 0), none, some (.istore 4, 2, 0, 0, 0), none, some (.iinc 6 1, 3, 0, 0, 0), none, none, some (.goto 0, 3, 78, 0, 0), none, none, some (.aload 0, 1, 0, 0, 0), some (.getfield 0, 3, 5, 5, 2), none, none, some (.iload 1, 1, 0, 0, 0), some (.aaload, 1, 0, 0, 0)],
  [some (.iload 2, 1, 0, 0, 0), some (.iload 4, 2, 0, 0, 0), none, some (.iastore, 1, 0, 0, 0), some (.aload 0, 1, 0, 0, 0), some (.getfield 0, 3, 6, 5, 2), none, none, some (.iload 1, 1, 0, 0, 0), some (.aaload, 1, 0, 0, 0), some (.iload 2, 1, 0, 0, 0), some (.iload 5, 2, 0, 0, 0), none, some (.iastore, 1, 0, 0, 0), some (.aload 0, 1, 0, 0, 0), some (.getfield 0, 3, 7, 5, 2)],
  [none, none, some (.iload 1, 1, 0, 0, 0), some (.aaload, 1, 0, 0, 0), some (.iload 2, 1, 0, 0, 0), some (.iload 3, 1, 0, 0, 0), some (.iconst 100, 2, 0, 0, 0), none, some (.iload 5, 2, 0, 0, 0), none, some (.imul, 1, 0, 0, 0), some (.isub, 1, 0, 0, 0), some (.iastore, 1, 0, 0, 0), some (.return_, 1, 0, 0, 0), none, none]]
set_option maxRecDepth 100000 in
theorem k51 : pchk 5 0 cX5_findTurn 0 t51 = true := by decide +kernel
def t52 : pT := [[some (.iconst 999, 3, 0, 0, 0), none, none, some (.istore 4, 2, 0, 0, 0), none, some (.iload 2, 1, 0, 0, 0), some (.istore 5, 2, 0, 0, 0), none, some (.iconst 0, 1, 0, 0, 0), some (.istore 6, 2, 0, 0, 0), none, some (.iload 6, 2, 0, 0, 0), none, some (.iconst 100, 2, 0, 0, 0), none, some (.if_icmp .ge 0, 3, 68, 0, 0)],
  [none, none, some (.iload 4, 2, 0, 0, 0), none, some (.iload 3, 1, 0, 0, 0), some (.if_icmp .le 0, 3, 68, 0, 0), none, none, some (.iload 4, 2, 0, 0, 0), none, some (.aload 1, 1, 0, 0, 0), some (.iload 5, 2, 0, 0, 0), none, some (.iaload, 1, 0, 0, 0), some (.aload 0, 1, 0, 0, 0), some (.getfield 0, 3, 4, 5, 2)],
  [none, none, some (.iload 6, 2, 0, 0, 0), none, some (.iaload, 1, 0, 0, 0), some (.isub, 1, 0, 0, 0), some (.f2i, 3, 0, 0, 0), none, none, some (.istore 4, 2, 0, 0, 0), none, some (.iload 5, 2, 0, 0, 0), none, some (.iconst 1, 1, 0, 0, 0), some (.iadd, 1, 0, 0, 0), some (.iconst 100, 2, 0, 0, 0)],
  [none, some (.if_icmp .ge 0, 3, 59, 0, 0), none, none, some (.iload 5, 2, 0, 0, 0), none, some (.iconst 1, 1, 0, 0, 0), some (.iadd, 1, 0, 0, 0), some (.goto 0, 3, 60, 0, 0), none, none, some (.iconst 0, 1, 0, 0, 0), some (.istore 5, 2, 0, 0, 0), none, some (.iinc 6 1, 3, 0, 0, 0), none],
  [none, some (.goto 0, 3, 11, 0, 0), none, none, some (.iload 4, 2, 0, 0, 0), none, some (.ireturn, 1, 0, 0, 0), none, none, none, none, none, none, none, none, none]]
set_option maxRecDepth 100000 in
theorem k52 : pchk 5 1 cX5_baseAt 0 t52 = true := by decide +kernel
def t53 : pT := [[some (.aload 0, 1, 0, 0, 0), some (.iload 1, 1, 0, 0, 0), some (.iconst 6, 2, 0, 0, 0), none, some (.imul, 1, 0, 0, 0), some (.iconst 1, 1, 0, 0, 0), some (.iadd, 1, 0, 0, 0), some (.putfield 0, 3, 9, 5, 0), none, none, some (.aload 0, 1, 0, 0, 0), some (.iconst 0, 1, 0, 0, 0), some (.iconst 0, 1, 0, 0, 0), some (.iconst 0, 1, 0, 0, 0), some (.iload 1, 1, 0, 0, 0), some (.invokestatic 0, 3, 54, 5, 5)],
  [none, none, some (.aload 0, 1, 0, 0, 0), some (.getfield 0, 3, 9, 5, 0), none, none, some (.ireturn, 1, 0, 0, 0), none, none, none, none, none, none, none, none, none]]
set_option maxRecDepth 100000 in
theorem k53 : pchk 5 1 cX5_shareOut 0 t53 = true := by decide +kernel
def t54 : pT := [[some (.iload 1, 1, 0, 0, 0), some (.iconst 6, 2, 0, 0, 0), none, some (.if_icmp .gt 0, 3, 14, 0, 0), none, none, some (.iload 3, 1, 0, 0, 0), some (.aload 0, 1, 0, 0, 0), some (.getfield 0, 3, 9, 5, 0), none, none, some (.if_icmp .lt 0, 3, 15, 0, 0), none, none, some (.return_, 1, 0, 0, 0), some (.iload 1, 1, 0, 0, 0)],
  [some (.aload 0, 1, 0, 0, 0), some (.getfield 0, 3, 0, 5, 2), none, none, some (.getfield 0, 3, 1, 6, 0), none, none, some (.if_icmp .lt 0, 3, 47, 0, 0), none, none, some (.aload 0, 1, 0, 0, 0), some (.iload 3, 1, 0, 0, 0), some (.putfield 0, 3, 9, 5, 0), none, none, some (.aload 0, 1, 0, 0, 0)],
  [some (.getfield 0, 3, 8, 5, 2), none, none, some (.iconst 0, 1, 0, 0, 0), some (.aload 0, 1, 0, 0, 0), some (.getfield 0, 3, 3, 5, 2), none, none, some (.iconst 0, 1, 0, 0, 0), some (.iconst 6, 2, 0, 0, 0), none, some (.d2l, 3, 0, 0, 0), none, none, some (.return_, 1, 0, 0, 0), some (.aload 0, 1, 0, 0, 0)],
  [some (.getfield 0, 3, 8, 5, 2), none, none, some (.iload 1, 1, 0, 0, 0), some (.iconst (-1), 1, 0, 0, 0), some (.iastore, 1, 0, 0, 0), some (.aload 0, 1, 0, 0, 0), some (.iload 1, 1, 0, 0, 0), some (.invokestatic 1, 3, 55, 2, 5), none, none, some (.ifCond .ne 0, 3, 74, 0, 0), none, none, some (.aload 0, 1, 0, 0, 0), some (.iload 1, 1, 0, 0, 0)],
  [some (.iconst 1, 1, 0, 0, 0), some (.iadd, 1, 0, 0, 0), some (.iload 2, 1, 0, 0, 0), some (.iload 3, 1, 0, 0, 0), some (.iload 4, 2, 0, 0, 0), none, some (.invokestatic 0, 3, 54, 5, 5), none, none, some (.return_, 1, 0, 0, 0), some (.iconst 0, 1, 0, 0, 0), some (.istore 5, 2, 0, 0, 0), none, some (.iload 5, 2, 0, 0, 0), none, some (.iconst 4, 1, 0, 0, 0)],
  [some (.if_icmp .ge 0, 3, 143, 0, 0), none, none, some (.iload 2, 1, 0, 0, 0), some (.iload 5, 2, 0, 0, 0), none, some (.invokestatic 1, 3, 119, 2, (-1)), none, none, some (.ifCond .ne 0, 3, 137, 0, 0), none, none, some (.aload 0, 1, 0, 0, 0), some (.iload 1, 1, 0, 0, 0), some (.iload 5, 2, 0, 0, 0), none],
  [some (.invokestatic 1, 3, 48, 3, 5), none, none, some (.iconst (-1), 1, 0, 0, 0), some (.if_icmp .eq 0, 3, 137, 0, 0), none, none, some (.aload 0, 1, 0, 0, 0), some (.getfield 0, 3, 8, 5, 2), none, none, some (.iload 1, 1, 0, 0, 0), some (.iload 5, 2, 0, 0, 0), none, some (.iastore, 1, 0, 0, 0), some (.aload 0, 1, 0, 0, 0)],
  [some (.iload 1, 1, 0, 0, 0), some (.iconst 1, 1, 0, 0, 0), some (.iadd, 1, 0, 0, 0), some (.iload 2, 1, 0, 0, 0), some (.iconst 1, 1, 0, 0, 0), some (.iload 5, 2, 0, 0, 0), none, some (.ishl, 1, 0, 0, 0), some (.ior, 1, 0, 0, 0), some (.iload 3, 1, 0, 0, 0), some (.aload 0, 1, 0, 0, 0), some (.getfield 0, 3, 7, 5, 2), none, none, some (.iload 1, 1, 0, 0, 0), some (.aaload, 1, 0, 0, 0)],
  [some (.iload 5, 2, 0, 0, 0), none, some (.iaload, 1, 0, 0, 0), some (.iadd, 1, 0, 0, 0), some (.iload 4, 2, 0, 0, 0), none, some (.invokestatic 0, 3, 54, 5, 5), none, none, some (.iinc 5 1, 3, 0, 0, 0), none, none, some (.goto 0, 3, 77, 0, 0), none, none, some (.aload 0, 1, 0, 0, 0)],
  [some (.getfield 0, 3, 8, 5, 2), none, none, some (.iload 1, 1, 0, 0, 0), some (.iconst (-1), 1, 0, 0, 0), some (.iastore, 1, 0, 0, 0), some (.aload 0, 1, 0, 0, 0), some (.iload 1, 1, 0, 0, 0), some (.iconst 1, 1, 0, 0, 0), some (.iadd, 1, 0, 0, 0), some (.iload 2, 1, 0, 0, 0), some (.iload 3, 1, 0, 0, 0), some (.iload 4, 2, 0, 0, 0), none, some (.iadd, 1, 0, 0, 0), some (.iload 4, 2, 0, 0, 0)],
  [none, some (.invokestatic 0, 3, 54, 5, 5), none, none, some (.return_, 1, 0, 0, 0), none, none, none, none, none, none, none, none, none, none, none]]
set_option maxRecDepth 100000 in
theorem k54 : pchk 5 0 cX5_choose 0 t54 = true := by decide +kernel
def t55 : pT := [[some (.iconst 0, 1, 0, 0, 0), some (.istore 2, 1, 0, 0, 0), some (.iload 2, 1, 0, 0, 0), some (.aload 0, 1, 0, 0, 0), some (.getfield 0, 3, 0, 5, 2), none, none, some (.getfield 0, 3, 2, 6, 0), none, none, some (.if_icmp .ge 0, 3, 34, 0, 0), none, none, some (.aload 0, 1, 0, 0, 0), some (.getfield 0, 3, 0, 5, 2), none],
  [none, some (.getfield 0, 3, 8, 6, 2), none, none, some (.iload 2, 1, 0, 0, 0), some (.iaload, 1, 0, 0, 0), some (.iload 1, 1, 0, 0, 0), some (.if_icmp .ne 0, 3, 28, 0, 0), none, none, some (.iconst 1, 1, 0, 0, 0), some (.ireturn, 1, 0, 0, 3), some (.iinc 2 1, 3, 0, 0, 0), none, none, some (.goto 0, 3, 2, 0, 0)],
  [none, none, some (.iconst 0, 1, 0, 0, 0), some (.ireturn, 1, 0, 0, 3), none, none, none, none, none, none, none, none, none, none, none, none]]
set_option maxRecDepth 100000 in
theorem k55 : pchk 5 3 cX5_hasStep 0 t55 = true := by decide +kernel
def t56 : pT := [[some (.aload 0, 1, 0, 0, 0), some (.pop, 3, 0, 0, 0), none, none, some (.aload 0, 1, 0, 0, 0), some (.iconst 0, 1, 0, 0, 0), some (.putfield 0, 3, 0, 6, 0), none, none, some (.aload 0, 1, 0, 0, 0), some (.iconst 0, 1, 0, 0, 0), some (.putfield 0, 3, 1, 6, 0), none, none, some (.aload 0, 1, 0, 0, 0), some (.iconst 0, 1, 0, 0, 0)],
  [some (.putfield 0, 3, 2, 6, 0), none, none, some (.aload 0, 1, 0, 0, 0), some (.iconst 10, 2, 0, 0, 0), none, some (.putfield 0, 3, 3, 6, 0), none, none, some (.aload 0, 1, 0, 0, 0), some (.iconst 6, 2, 0, 0, 0), none, some (.newarray .long, 2, 101, 0, 0), none, some (.putfield 0, 3, 4, 6, 2), none],
  [none, some (.aload 0, 1, 0, 0, 0), some (.iconst 6, 2, 0, 0, 0), none, some (.newarray .int, 2, 100, 0, 0), none, some (.putfield 0, 3, 5, 6, 2), none, none, some (.aload 0, 1, 0, 0, 0), some (.iconst 6, 2, 0, 0, 0), none, some (.newarray .int, 2, 100, 0, 0), none, some (.putfield 0, 3, 6, 6, 2), none],
  [none, some (.aload 0, 1, 0, 0, 0), some (.iconst 6, 2, 0, 0, 0), none, some (.newarray .int, 2, 100, 0, 0), none, some (.putfield 0, 3, 7, 6, 2), none, none, some (.aload 0, 1, 0, 0, 0), some (.iconst 7, 2, 0, 0, 0), none, some (.newarray .int, 2, 100, 0, 0), none, some (.putfield 0, 3, 8, 6, 2), none],
  [none, some (.aload 0, 1, 0, 0, 0), some (.iconst 7, 2, 0, 0, 0), none, some (.newarray .int, 2, 100, 0, 0), none, some (.putfield 0, 3, 9, 6, 2), none, none, some (.aload 0, 1, 0, 0, 0), some (.iconst 7, 2, 0, 0, 0), none, some (.newarray .int, 2, 100, 0, 0), none, some (.putfield 0, 3, 10, 6, 2), none],
  [none, some (.aload 0, 1, 0, 0, 0), some (.iconst 7, 2, 0, 0, 0), none, some (.newarray .int, 2, 100, 0, 0), none, some (.putfield 0, 3, 11, 6, 2), none, none, some (.return_, 1, 0, 0, 0), none, none, none, none, none, none]]
set_option maxRecDepth 100000 in
theorem k56 : pchk 6 0 cX6_init 0 t56 = true := by decide +kernel
def t57 : pT := [[some (.aload 0, 1, 0, 0, 0), some (.iconst 0, 1, 0, 0, 0), some (.putfield 0, 3, 0, 6, 0), none, none, some (.aload 0, 1, 0, 0, 0), some (.iconst 0, 1, 0, 0, 0), some (.putfield 0, 3, 1, 6, 0), none, none, some (.aload 0, 1, 0, 0, 0), some (.iconst 0, 1, 0, 0, 0), some (.putfield 0, 3, 2, 6, 0), none, none, some (.aload 0, 1, 0, 0, 0)],
  [some (.iconst 10, 2, 0, 0, 0), none, some (.putfield 0, 3, 3, 6, 0), none, none, some (.return_, 1, 0, 0, 0), none, none, none, none, none, none, none, none, none, none]]
set_option maxRecDepth 100000 in
theorem k57 : pchk 6 0 cX6_clear 0 t57 = true := by decide +kernel
def t58 : pT := [[some (.aload 0, 1, 0, 0, 0), some (.aload 1, 1, 0, 0, 0), some (.getfield 0, 3, 0, 6, 0), none, none, some (.putfield 0, 3, 0, 6, 0), none, none, some (.aload 0, 1, 0, 0, 0), some (.aload 1, 1, 0, 0, 0), some (.getfield 0, 3, 1, 6, 0), none, none, some (.putfield 0, 3, 1, 6, 0), none, none],
  [some (.aload 0, 1, 0, 0, 0), some (.aload 1, 1, 0, 0, 0), some (.getfield 0, 3, 2, 6, 0), none, none, some (.putfield 0, 3, 2, 6, 0), none, none, some (.aload 0, 1, 0, 0, 0), some (.aload 1, 1, 0, 0, 0), some (.getfield 0, 3, 3, 6, 0), none, none, some (.putfield 0, 3, 3, 6, 0), none, none],
  [some (.aload 1, 1, 0, 0, 0), some (.getfield 0, 3, 4, 6, 2), none, none, some (.iconst 0, 1, 0, 0, 0), some (.aload 0, 1, 0, 0, 0), some (.getfield 0, 3, 4, 6, 2), none, none, some (.iconst 0, 1, 0, 0, 0), some (.iconst 6, 2, 0, 0, 0), none, some (.d2l, 3, 0, 0, 0), none, none, some (.aload 1, 1, 0, 0, 0)],
  [some (.getfield 0, 3, 5, 6, 2), none, none, some (.iconst 0, 1, 0, 0, 0), some (.aload 0, 1, 0, 0, 0), some (.getfield 0, 3, 5, 6, 2), none, none, some (.iconst 0, 1, 0, 0, 0), some (.iconst 6, 2, 0, 0, 0), none, some (.d2l, 3, 0, 0, 0), none, none, some (.aload 1, 1, 0, 0, 0), some (.getfield 0, 3, 6, 6, 2)],
  [none, none, some (.iconst 0, 1, 0, 0, 0), some (.aload 0, 1, 0, 0, 0), some (.getfield 0, 3, 6, 6, 2), none, none, some (.iconst 0, 1, 0, 0, 0), some (.iconst 6, 2, 0, 0, 0), none, some (.d2l, 3, 0, 0, 0), none, none, some (.aload 1, 1, 0, 0, 0), some (.getfield 0, 3, 7, 6, 2), none],
  [none, some (.iconst 0, 1, 0, 0, 0), some (.aload 0, 1, 0, 0, 0), some (.getfield 0, 3, 7, 6, 2), none, none, some (.iconst 0, 1, 0, 0, 0), some (.iconst 6, 2, 0, 0, 0), none, some (.d2l, 3, 0, 0, 0), none, none, some (.aload 1, 1, 0, 0, 0), some (.getfield 0, 3, 8, 6, 2), none, none],
  [some (.iconst 0, 1, 0, 0, 0), some (.aload 0, 1, 0, 0, 0), some (.getfield 0, 3, 8, 6, 2), none, none, some (.iconst 0, 1, 0, 0, 0), some (.iconst 7, 2, 0, 0, 0), none, some (.d2l, 3, 0, 0, 0), none, none, some (.aload 1, 1, 0, 0, 0), some (.getfield 0, 3, 9, 6, 2), none, none, some (.iconst 0, 1, 0, 0, 0)],
  [some (.aload 0, 1, 0, 0, 0), some (.getfield 0, 3, 9, 6, 2), none, none, some (.iconst 0, 1, 0, 0, 0), some (.iconst 7, 2, 0, 0, 0), none, some (.d2l, 3, 0, 0, 0), none, none, some (.aload 1, 1, 0, 0, 0), some (.getfield 0, 3, 10, 6, 2), none, none, some (.iconst 0, 1, 0, 0, 0), some (.aload 0, 1, 0, 0, 0)],
  [some (.getfield 0, 3, 10, 6, 2), none, none, some (.iconst 0, 1, 0, 0, 0), some (.iconst 7, 2, 0, 0, 0), none, some (.d2l, 3, 0, 0, 0), none, none, some (.aload 1, 1, 0, 0, 0), some (.getfield 0, 3, 11, 6, 2), none, none, some (.iconst 0, 1, 0, 0, 0), some (.aload 0, 1, 0, 0, 0), some (.getfield 0, 3, 11, 6, 2)],
  [none, none, some (.iconst 0, 1, 0, 0, 0), some (.iconst 7, 2, 0, 0, 0), none, some (.d2l, 3, 0, 0, 0), none, none, some (.return_, 1, 0, 0, 0), none, none, none, none, none, none, none]]
set_option maxRecDepth 100000 in
theorem k58 : pchk 6 0 cX6_become 0 t58 = true := by decide +kernel
def t59 : pT := [[some (.iconst 0, 1, 0, 0, 0), some (.istore 3, 1, 0, 0, 0), some (.iload 3, 1, 0, 0, 0), some (.aload 0, 1, 0, 0, 0), some (.getfield 0, 3, 1, 6, 0), none, none, some (.if_icmp .ge 0, 3, 29, 0, 0), none, none, some (.aload 0, 1, 0, 0, 0), some (.getfield 0, 3, 4, 6, 2), none, none, some (.iload 3, 1, 0, 0, 0), some (.laload, 1, 0, 0, 0)],
  [some (.lload 1, 1, 0, 0, 0), some (.lcmp, 1, 0, 0, 0), some (.ifCond .ne 0, 3, 23, 0, 0), none, none, some (.iload 3, 1, 0, 0, 0), some (.ireturn, 1, 0, 0, 0), some (.iinc 3 1, 3, 0, 0, 0), none, none, some (.goto 0, 3, 2, 0, 0), none, none, some (.iconst (-1), 1, 0, 0, 0), some (.ireturn, 1, 0, 0, 0), none]]
set_option maxRecDepth 100000 in
theorem k59 : pchk 6 1 cX6_toolNamed 0 t59 = true := by decide +kernel
def t60 : pT := [[some (.aload 0, 1, 0, 0, 0), some (.getfield 0, 3, 1, 6, 0), none, none, some (.iconst 6, 2, 0, 0, 0), none, some (.if_icmp .lt 0, 3, 10, 0, 0), none, none, some (.return_, 1, 0, 0, 0), some (.aload 0, 1, 0, 0, 0), some (.getfield 0, 3, 4, 6, 2), none, none, some (.aload 0, 1, 0, 0, 0), some (.getfield 0, 3, 1, 6, 0)],
  [none, none, some (.lload 1, 1, 0, 0, 0), some (.lastore, 1, 0, 0, 0), some (.aload 0, 1, 0, 0, 0), some (.getfield 0, 3, 5, 6, 2), none, none, some (.aload 0, 1, 0, 0, 0), some (.getfield 0, 3, 1, 6, 0), none, none, some (.iload 3, 1, 0, 0, 0), some (.iastore, 1, 0, 0, 0), some (.aload 0, 1, 0, 0, 0), some (.getfield 0, 3, 6, 6, 2)],
  [none, none, some (.aload 0, 1, 0, 0, 0), some (.getfield 0, 3, 1, 6, 0), none, none, some (.iload 4, 2, 0, 0, 0), none, some (.iastore, 1, 0, 0, 0), some (.aload 0, 1, 0, 0, 0), some (.getfield 0, 3, 7, 6, 2), none, none, some (.aload 0, 1, 0, 0, 0), some (.getfield 0, 3, 1, 6, 0), none],
  [none, some (.iconst 0, 1, 0, 0, 0), some (.iastore, 1, 0, 0, 0), some (.aload 0, 1, 0, 0, 0), some (.dup, 1, 0, 0, 0), some (.getfield 0, 3, 1, 6, 0), none, none, some (.iconst 1, 1, 0, 0, 0), some (.iadd, 1, 0, 0, 0), some (.putfield 0, 3, 1, 6, 0), none, none, some (.return_, 1, 0, 0, 0), none, none]]
set_option maxRecDepth 100000 in
theorem k60 : pchk 6 0 cX6_addTool 0 t60 = true := by decide +kernel
def t61 : pT := [[some (.aload 0, 1, 0, 0, 0), some (.getfield 0, 3, 2, 6, 0), none, none, some (.iconst 7, 2, 0, 0, 0), none, some (.if_icmp .lt 0, 3, 10, 0, 0), none, none, some (.return_, 1, 0, 0, 0), some (.aload 0, 1, 0, 0, 0), some (.getfield 0, 3, 8, 6, 2), none, none, some (.aload 0, 1, 0, 0, 0), some (.getfield 0, 3, 2, 6, 0)],
  [none, none, some (.iload 1, 1, 0, 0, 0), some (.iastore, 1, 0, 0, 0), some (.aload 0, 1, 0, 0, 0), some (.getfield 0, 3, 9, 6, 2), none, none, some (.aload 0, 1, 0, 0, 0), some (.getfield 0, 3, 2, 6, 0), none, none, some (.iload 2, 1, 0, 0, 0), some (.iastore, 1, 0, 0, 0), some (.aload 0, 1, 0, 0, 0), some (.getfield 0, 3, 10, 6, 2)],
  [none, none, some (.aload 0, 1, 0, 0, 0), some (.getfield 0, 3, 2, 6, 0), none, none, some (.iload 3, 1, 0, 0, 0), some (.iastore, 1, 0, 0, 0), some (.aload 0, 1, 0, 0, 0), some (.getfield 0, 3, 11, 6, 2), none, none, some (.aload 0, 1, 0, 0, 0), some (.getfield 0, 3, 2, 6, 0), none, none],
  [some (.iconst 0, 1, 0, 0, 0), some (.iastore, 1, 0, 0, 0), some (.aload 0, 1, 0, 0, 0), some (.dup, 1, 0, 0, 0), some (.getfield 0, 3, 2, 6, 0), none, none, some (.iconst 1, 1, 0, 0, 0), some (.iadd, 1, 0, 0, 0), some (.putfield 0, 3, 2, 6, 0), none, none, some (.return_, 1, 0, 0, 0), none, none, none]]
set_option maxRecDepth 100000 in
theorem k61 : pchk 6 0 cX6_addStep 0 t61 = true := by decide +kernel
def t62 : pT := [[some (.aload 0, 1, 0, 0, 0), some (.getfield 0, 3, 9, 6, 2), none, none, some (.iload 1, 1, 0, 0, 0), some (.iaload, 1, 0, 0, 0), some (.aload 0, 1, 0, 0, 0), some (.getfield 0, 3, 5, 6, 2), none, none, some (.aload 0, 1, 0, 0, 0), some (.getfield 0, 3, 8, 6, 2), none, none, some (.iload 1, 1, 0, 0, 0), some (.iaload, 1, 0, 0, 0)],
  [some (.iaload, 1, 0, 0, 0), some (.imul, 1, 0, 0, 0), some (.ireturn, 1, 0, 0, 0), none, none, none, none, none, none, none, none, none, none, none, none, none]]
set_option maxRecDepth 100000 in
theorem k62 : pchk 6 1 cX6_risingTurns 0 t62 = true := by decide +kernel
def t63 : pT := [[some (.aload 0, 1, 0, 0, 0), some (.iload 1, 1, 0, 0, 0), some (.invokestatic 1, 3, 62, 2, 6), none, none, some (.aload 0, 1, 0, 0, 0), some (.getfield 0, 3, 10, 6, 2), none, none, some (.iload 1, 1, 0, 0, 0), some (.iaload, 1, 0, 0, 0), some (.iadd, 1, 0, 0, 0), some (.ireturn, 1, 0, 0, 0), none, none, none]]
set_option maxRecDepth 100000 in
theorem k63 : pchk 6 1 cX6_turnsOf 0 t63 = true := by decide +kernel
def t64 : pT := [[some (.iconst 0, 1, 0, 0, 0), some (.istore 2, 1, 0, 0, 0), some (.iconst 0, 1, 0, 0, 0), some (.istore 3, 1, 0, 0, 0), some (.iload 3, 1, 0, 0, 0), some (.aload 0, 1, 0, 0, 0), some (.getfield 0, 3, 2, 6, 0), none, none, some (.if_icmp .ge 0, 3, 79, 0, 0), none, none, some (.aload 0, 1, 0, 0, 0), some (.getfield 0, 3, 8, 6, 2), none, none],
  [some (.iload 3, 1, 0, 0, 0), some (.iaload, 1, 0, 0, 0), some (.aload 0, 1, 0, 0, 0), some (.getfield 0, 3, 8, 6, 2), none, none, some (.iload 1, 1, 0, 0, 0), some (.iaload, 1, 0, 0, 0), some (.if_icmp .eq 0, 3, 50, 0, 0), none, none, some (.aload 0, 1, 0, 0, 0), some (.getfield 0, 3, 7, 6, 2), none, none, some (.aload 0, 1, 0, 0, 0)],
  [some (.getfield 0, 3, 8, 6, 2), none, none, some (.iload 1, 1, 0, 0, 0), some (.iaload, 1, 0, 0, 0), some (.iaload, 1, 0, 0, 0), some (.aload 0, 1, 0, 0, 0), some (.getfield 0, 3, 8, 6, 2), none, none, some (.iload 3, 1, 0, 0, 0), some (.iaload, 1, 0, 0, 0), some (.invokestatic 1, 3, 119, 2, (-1)), none, none, some (.ifCond .eq 0, 3, 54, 0, 0)],
  [none, none, some (.iconst 1, 1, 0, 0, 0), some (.goto 0, 3, 55, 0, 0), none, none, some (.iconst 0, 1, 0, 0, 0), some (.istore 4, 2, 0, 0, 0), none, some (.iload 3, 1, 0, 0, 0), some (.iload 1, 1, 0, 0, 0), some (.if_icmp .eq 0, 3, 73, 0, 0), none, none, some (.iload 4, 2, 0, 0, 0), none],
  [some (.ifCond .eq 0, 3, 73, 0, 0), none, none, some (.iload 2, 1, 0, 0, 0), some (.iconst 1, 1, 0, 0, 0), some (.iload 3, 1, 0, 0, 0), some (.ishl, 1, 0, 0, 0), some (.ior, 1, 0, 0, 0), some (.istore 2, 1, 0, 0, 0), some (.iinc 3 1, 3, 0, 0, 0), none, none, some (.goto 0, 3, 4, 0, 0), none, none, some (.iload 2, 1, 0, 0, 0)],
  [some (.ireturn, 1, 0, 0, 0), none, none, none, none, none, none, none, none, none, none, none, none, none, none, none]]
set_option maxRecDepth 100000 in
theorem k64 : pchk 6 1 cX6_apartFrom 0 t64 = true := by decide +kernel
def t65 : pT := [[some (.iconst 1, 1, 0, 0, 0), some (.aload 0, 1, 0, 0, 0), some (.getfield 0, 3, 1, 6, 0), none, none, some (.iconst 12, 2, 0, 0, 0), none, some (.imul, 1, 0, 0, 0), some (.iconst 5, 1, 0, 0, 0), some (.imul, 1, 0, 0, 0), some (.iadd, 1, 0, 0, 0), some (.ireturn, 1, 0, 0, 0), none, none, none, none]]
set_option maxRecDepth 100000 in
theorem k65 : pchk 6 1 cX6_wornWays 0 t65 = true := by decide +kernel
def t66 : pT := [[some (.iconst 1, 1, 0, 0, 0), some (.aload 0, 1, 0, 0, 0), some (.getfield 0, 3, 2, 6, 0), none, none, some (.iconst 4, 1, 0, 0, 0), some (.imul, 1, 0, 0, 0), some (.iadd, 1, 0, 0, 0), some (.ireturn, 1, 0, 0, 0), none, none, none, none, none, none, none]]
set_option maxRecDepth 100000 in
theorem k66 : pchk 6 1 cX6_dullWays 0 t66 = true := by decide +kernel
def t67 : pT := [[some (.iconst 5, 1, 0, 0, 0), some (.aload 0, 1, 0, 0, 0), some (.invokestatic 1, 3, 65, 1, 6), none, none, some (.imul, 1, 0, 0, 0), some (.aload 0, 1, 0, 0, 0), some (.invokestatic 1, 3, 66, 1, 6), none, none, some (.imul, 1, 0, 0, 0), some (.ireturn, 1, 0, 0, 0), none, none, none, none]]
set_option maxRecDepth 100000 in
theorem k67 : pchk 6 1 cX6_causes 0 t67 = true := by decide +kernel
def t68 : pT := [[some (.aload 0, 1, 0, 0, 0), some (.pop, 3, 0, 0, 0), none, none, some (.aload 0, 1, 0, 0, 0), some (.new 0, 3, 6, 12, 0), none, none, some (.dup, 1, 0, 0, 0), some (.invokestatic 0, 3, 56, 1, (-1)), none, none, some (.putfield 0, 3, 1, 7, 2), none, none, some (.aload 0, 1, 0, 0, 0)],
  [some (.iconst 0, 1, 0, 0, 0), some (.putfield 0, 3, 2, 7, 3), none, none, some (.aload 0, 1, 0, 0, 0), some (.iconst 0, 1, 0, 0, 0), some (.putfield 0, 3, 3, 7, 0), none, none, some (.aload 0, 1, 0, 0, 0), some (.iconst (-1), 1, 0, 0, 0), some (.putfield 0, 3, 4, 7, 0), none, none, some (.aload 0, 1, 0, 0, 0), some (.aload 1, 1, 0, 0, 0)],
  [some (.putfield 0, 3, 0, 7, 2), none, none, some (.return_, 1, 0, 0, 0), none, none, none, none, none, none, none, none, none, none, none, none]]
set_option maxRecDepth 100000 in
theorem k68 : pchk 7 0 cX7_init 0 t68 = true := by decide +kernel
def t69 : pT := [[some (.aload 0, 1, 0, 0, 0), some (.iconst 0, 1, 0, 0, 0), some (.putfield 0, 3, 3, 7, 0), none, none, some (.aload 0, 1, 0, 0, 0), some (.iconst (-1), 1, 0, 0, 0), some (.putfield 0, 3, 4, 7, 0), none, none, some (.aload 0, 1, 0, 0, 0), some (.iconst 0, 1, 0, 0, 0), some (.putfield 0, 3, 2, 7, 3), none, none, some (.aload 0, 1, 0, 0, 0)],
  [some (.getfield 0, 3, 1, 7, 2), none, none, some (.invokestatic 0, 3, 57, 1, 6), none, none, some (.aload 0, 1, 0, 0, 0), some (.getfield 0, 3, 0, 7, 2), none, none, some (.invokestatic 0, 3, 100, 1, 9), none, none, some (.iconst 0, 1, 0, 0, 0), some (.istore 1, 1, 0, 0, 0), some (.iload 1, 1, 0, 0, 0)],
  [some (.iconst 800, 3, 0, 0, 0), none, none, some (.if_icmp .gt 0, 3, 85, 0, 0), none, none, some (.aload 0, 1, 0, 0, 0), some (.getfield 0, 3, 0, 7, 2), none, none, some (.invokestatic 0, 3, 101, 1, 9), none, none, some (.aload 0, 1, 0, 0, 0), some (.getfield 0, 3, 0, 7, 2), none],
  [none, some (.getfield 0, 3, 3, 9, 0), none, none, some (.ifCond .ne 0, 3, 57, 0, 0), none, none, some (.iconst 1, 1, 0, 0, 0), some (.ireturn, 1, 0, 0, 3), some (.aload 0, 1, 0, 0, 0), some (.invokestatic 1, 3, 71, 1, 7), none, none, some (.ifCond .ne 0, 3, 66, 0, 0), none, none],
  [some (.iconst 0, 1, 0, 0, 0), some (.ireturn, 1, 0, 0, 3), some (.aload 0, 1, 0, 0, 0), some (.getfield 0, 3, 1, 7, 2), none, none, some (.dup, 1, 0, 0, 0), some (.getfield 0, 3, 0, 6, 0), none, none, some (.iconst 1, 1, 0, 0, 0), some (.iadd, 1, 0, 0, 0), some (.putfield 0, 3, 0, 6, 0), none, none, some (.iinc 1 1, 3, 0, 0, 0)],
  [none, none, some (.goto 0, 3, 31, 0, 0), none, none, some (.iconst 0, 1, 0, 0, 0), some (.ireturn, 1, 0, 0, 3), none, none, none, none, none, none, none, none, none]]
set_option maxRecDepth 100000 in
theorem k69 : pchk 7 3 cX7_readText 0 t69 = true := by decide +kernel
def t70 : pT := [[some (.aload 0, 1, 0, 0, 0), some (.iload 1, 1, 0, 0, 0), some (.putfield 0, 3, 3, 7, 0), none, none, some (.aload 0, 1, 0, 0, 0), some (.aload 0, 1, 0, 0, 0), some (.getfield 0, 3, 0, 7, 2), none, none, some (.getfield 0, 3, 4, 9, 0), none, none, some (.putfield 0, 3, 4, 7, 0), none, none],
  [some (.iconst 0, 1, 0, 0, 0), some (.ireturn, 1, 0, 0, 3), none, none, none, none, none, none, none, none, none, none, none, none, none, none]]
set_option maxRecDepth 100000 in
theorem k70 : pchk 7 3 cX7_refuse 0 t70 = true := by decide +kernel
def t71 : pT := [[some (.aload 0, 1, 0, 0, 0), some (.getfield 0, 3, 0, 7, 2), none, none, some (.getfield 0, 3, 3, 9, 0), none, none, some (.iconst 1, 1, 0, 0, 0), some (.if_icmp .eq 0, 3, 17, 0, 0), none, none, some (.aload 0, 1, 0, 0, 0), some (.iconst 1, 1, 0, 0, 0), some (.invokestatic 1, 3, 70, 2, 7), none, none],
  [some (.ireturn, 1, 0, 0, 3), some (.aload 0, 1, 0, 0, 0), some (.getfield 0, 3, 0, 7, 2), none, none, some (.getfield 0, 3, 5, 9, 1), none, none, some (.ldc2_w 0, 3, 0, 0, 405012), none, none, some (.lcmp, 1, 0, 0, 0), some (.ifCond .ne 0, 3, 36, 0, 0), none, none, some (.aload 0, 1, 0, 0, 0)],
  [some (.invokestatic 1, 3, 72, 1, 7), none, none, some (.ireturn, 1, 0, 0, 3), some (.aload 0, 1, 0, 0, 0), some (.getfield 0, 3, 0, 7, 2), none, none, some (.getfield 0, 3, 5, 9, 1), none, none, some (.ldc2_w 0, 3, 0, 0, 388708), none, none, some (.lcmp, 1, 0, 0, 0), some (.ifCond .ne 0, 3, 55, 0, 0)],
  [none, none, some (.aload 0, 1, 0, 0, 0), some (.invokestatic 1, 3, 73, 1, 7), none, none, some (.ireturn, 1, 0, 0, 3), some (.aload 0, 1, 0, 0, 0), some (.getfield 0, 3, 0, 7, 2), none, none, some (.getfield 0, 3, 5, 9, 1), none, none, some (.ldc2_w 0, 3, 0, 0, 664272), none],
  [none, some (.lcmp, 1, 0, 0, 0), some (.ifCond .ne 0, 3, 74, 0, 0), none, none, some (.aload 0, 1, 0, 0, 0), some (.invokestatic 1, 3, 74, 1, 7), none, none, some (.ireturn, 1, 0, 0, 3), some (.aload 0, 1, 0, 0, 0), some (.getfield 0, 3, 0, 7, 2), none, none, some (.getfield 0, 3, 5, 9, 1), none],
  [none, some (.ldc2_w 0, 3, 0, 0, 259679), none, none, some (.lcmp, 1, 0, 0, 0), some (.ifCond .ne 0, 3, 93, 0, 0), none, none, some (.aload 0, 1, 0, 0, 0), some (.invokestatic 1, 3, 75, 1, 7), none, none, some (.ireturn, 1, 0, 0, 3), some (.aload 0, 1, 0, 0, 0), some (.getfield 0, 3, 0, 7, 2), none],
  [none, some (.getfield 0, 3, 5, 9, 1), none, none, some (.ldc2_w 0, 3, 0, 0, 180392), none, none, some (.lcmp, 1, 0, 0, 0), some (.ifCond .ne 0, 3, 112, 0, 0), none, none, some (.aload 0, 1, 0, 0, 0), some (.invokestatic 1, 3, 76, 1, 7), none, none, some (.ireturn, 1, 0, 0, 3)],
  [some (.aload 0, 1, 0, 0, 0), some (.iconst 1, 1, 0, 0, 0), some (.invokestatic 1, 3, 70, 2, 7), none, none, some (.ireturn, 1, 0, 0, 3), none, none, none, none, none, none, none, none, none, none]]
set_option maxRecDepth 100000 in
theorem k71 : pchk 7 3 cX7_readClause 0 t71 = true := by decide +kernel
def t72 : pT := [[some (.aload 0, 1, 0, 0, 0), some (.getfield 0, 3, 1, 7, 2), none, none, some (.getfield 0, 3, 1, 6, 0), none, none, some (.iconst 6, 2, 0, 0, 0), none, some (.if_icmp .lt 0, 3, 18, 0, 0), none, none, some (.aload 0, 1, 0, 0, 0), some (.iconst 4, 1, 0, 0, 0), some (.invokestatic 1, 3, 70, 2, 7), none],
  [none, some (.ireturn, 1, 0, 0, 3), some (.aload 0, 1, 0, 0, 0), some (.iconst 1, 1, 0, 0, 0), some (.invokestatic 1, 3, 77, 2, 7), none, none, some (.ifCond .ne 0, 3, 28, 0, 0), none, none, some (.iconst 0, 1, 0, 0, 0), some (.ireturn, 1, 0, 0, 3), some (.aload 0, 1, 0, 0, 0), some (.getfield 0, 3, 0, 7, 2), none, none],
  [some (.getfield 0, 3, 5, 9, 1), none, none, some (.lstore 1, 1, 0, 0, 0), some (.aload 0, 1, 0, 0, 0), some (.getfield 0, 3, 1, 7, 2), none, none, some (.lload 1, 1, 0, 0, 0), some (.invokestatic 1, 3, 59, 2, 6), none, none, some (.iconst (-1), 1, 0, 0, 0), some (.if_icmp .eq 0, 3, 54, 0, 0), none, none],
  [some (.aload 0, 1, 0, 0, 0), some (.iconst 3, 1, 0, 0, 0), some (.invokestatic 1, 3, 70, 2, 7), none, none, some (.ireturn, 1, 0, 0, 3), some (.aload 0, 1, 0, 0, 0), some (.iconst 1, 1, 0, 0, 0), some (.iconst 50, 2, 0, 0, 0), none, some (.invokestatic 1, 3, 79, 3, 7), none, none, some (.ifCond .ne 0, 3, 66, 0, 0), none, none],
  [some (.iconst 0, 1, 0, 0, 0), some (.ireturn, 1, 0, 0, 3), some (.aload 0, 1, 0, 0, 0), some (.getfield 0, 3, 0, 7, 2), none, none, some (.getfield 0, 3, 5, 9, 1), none, none, some (.l2i, 1, 0, 0, 0), some (.istore 3, 1, 0, 0, 0), some (.aload 0, 1, 0, 0, 0), some (.iconst 1, 1, 0, 0, 0), some (.iconst 60, 2, 0, 0, 0), none, some (.invokestatic 1, 3, 79, 3, 7)],
  [none, none, some (.ifCond .ne 0, 3, 87, 0, 0), none, none, some (.iconst 0, 1, 0, 0, 0), some (.ireturn, 1, 0, 0, 3), some (.aload 0, 1, 0, 0, 0), some (.getfield 0, 3, 1, 7, 2), none, none, some (.lload 1, 1, 0, 0, 0), some (.iload 3, 1, 0, 0, 0), some (.aload 0, 1, 0, 0, 0), some (.getfield 0, 3, 0, 7, 2), none],
  [none, some (.getfield 0, 3, 5, 9, 1), none, none, some (.l2i, 1, 0, 0, 0), some (.invokestatic 0, 3, 60, 4, 6), none, none, some (.aload 0, 1, 0, 0, 0), some (.iconst 3, 1, 0, 0, 0), some (.invokestatic 1, 3, 77, 2, 7), none, none, some (.ireturn, 1, 0, 0, 3), none, none]]
set_option maxRecDepth 100000 in
theorem k72 : pchk 7 3 cX7_readTool 0 t72 = true := by decide +kernel
def t73 : pT := [[some (.aload 0, 1, 0, 0, 0), some (.getfield 0, 3, 1, 7, 2), none, none, some (.getfield 0, 3, 2, 6, 0), none, none, some (.iconst 7, 2, 0, 0, 0), none, some (.if_icmp .lt 0, 3, 18, 0, 0), none, none, some (.aload 0, 1, 0, 0, 0), some (.iconst 4, 1, 0, 0, 0), some (.invokestatic 1, 3, 70, 2, 7), none],
  [none, some (.ireturn, 1, 0, 0, 3), some (.aload 0, 1, 0, 0, 0), some (.invokestatic 1, 3, 81, 1, 7), none, none, some (.ifCond .ne 0, 3, 27, 0, 0), none, none, some (.iconst 0, 1, 0, 0, 0), some (.ireturn, 1, 0, 0, 3), some (.aload 0, 1, 0, 0, 0), some (.getfield 0, 3, 1, 7, 2), none, none, some (.aload 0, 1, 0, 0, 0)],
  [some (.getfield 0, 3, 0, 7, 2), none, none, some (.getfield 0, 3, 5, 9, 1), none, none, some (.invokestatic 1, 3, 59, 2, 6), none, none, some (.istore 1, 1, 0, 0, 0), some (.aload 0, 1, 0, 0, 0), some (.iconst 1, 1, 0, 0, 0), some (.iconst 400, 3, 0, 0, 0), none, none, some (.invokestatic 1, 3, 79, 3, 7)],
  [none, none, some (.ifCond .ne 0, 3, 55, 0, 0), none, none, some (.iconst 0, 1, 0, 0, 0), some (.ireturn, 1, 0, 0, 3), some (.aload 0, 1, 0, 0, 0), some (.getfield 0, 3, 0, 7, 2), none, none, some (.getfield 0, 3, 5, 9, 1), none, none, some (.l2i, 1, 0, 0, 0), some (.istore 2, 1, 0, 0, 0)],
  [some (.aload 0, 1, 0, 0, 0), some (.getfield 0, 3, 0, 7, 2), none, none, some (.invokestatic 0, 3, 101, 1, 9), none, none, some (.aload 0, 1, 0, 0, 0), some (.getfield 0, 3, 0, 7, 2), none, none, some (.getfield 0, 3, 3, 9, 0), none, none, some (.iconst 2, 1, 0, 0, 0), some (.if_icmp .eq 0, 3, 98, 0, 0)],
  [none, none, some (.aload 0, 1, 0, 0, 0), some (.getfield 0, 3, 1, 7, 2), none, none, some (.iload 1, 1, 0, 0, 0), some (.iload 2, 1, 0, 0, 0), some (.iconst 0, 1, 0, 0, 0), some (.invokestatic 0, 3, 61, 4, 6), none, none, some (.aload 0, 1, 0, 0, 0), some (.iconst 3, 1, 0, 0, 0), some (.invokestatic 1, 3, 78, 2, 7), none],
  [none, some (.ireturn, 1, 0, 0, 3), some (.aload 0, 1, 0, 0, 0), some (.iconst 0, 1, 0, 0, 0), some (.iconst 99, 2, 0, 0, 0), none, some (.invokestatic 1, 3, 80, 3, 7), none, none, some (.ifCond .ne 0, 3, 110, 0, 0), none, none, some (.iconst 0, 1, 0, 0, 0), some (.ireturn, 1, 0, 0, 3), some (.aload 0, 1, 0, 0, 0), some (.getfield 0, 3, 1, 7, 2)],
  [none, none, some (.iload 1, 1, 0, 0, 0), some (.iload 2, 1, 0, 0, 0), some (.aload 0, 1, 0, 0, 0), some (.getfield 0, 3, 0, 7, 2), none, none, some (.getfield 0, 3, 5, 9, 1), none, none, some (.l2i, 1, 0, 0, 0), some (.invokestatic 0, 3, 61, 4, 6), none, none, some (.aload 0, 1, 0, 0, 0)],
  [some (.iconst 3, 1, 0, 0, 0), some (.invokestatic 1, 3, 77, 2, 7), none, none, some (.ireturn, 1, 0, 0, 3), none, none, none, none, none, none, none, none, none, none, none]]
set_option maxRecDepth 100000 in
theorem k73 : pchk 7 3 cX7_readStep 0 t73 = true := by decide +kernel
def t74 : pT := [[some (.aload 0, 1, 0, 0, 0), some (.iconst 0, 1, 0, 0, 0), some (.aload 0, 1, 0, 0, 0), some (.getfield 0, 3, 1, 7, 2), none, none, some (.getfield 0, 3, 2, 6, 0), none, none, some (.iconst 1, 1, 0, 0, 0), some (.isub, 1, 0, 0, 0), some (.invokestatic 1, 3, 79, 3, 7), none, none, some (.ifCond .ne 0, 3, 19, 0, 0), none],
  [none, some (.iconst 0, 1, 0, 0, 0), some (.ireturn, 1, 0, 0, 3), some (.aload 0, 1, 0, 0, 0), some (.getfield 0, 3, 0, 7, 2), none, none, some (.getfield 0, 3, 5, 9, 1), none, none, some (.l2i, 1, 0, 0, 0), some (.istore 1, 1, 0, 0, 0), some (.aload 0, 1, 0, 0, 0), some (.iload 1, 1, 0, 0, 0), some (.aload 0, 1, 0, 0, 0), some (.getfield 0, 3, 1, 7, 2)],
  [none, none, some (.getfield 0, 3, 2, 6, 0), none, none, some (.iconst 1, 1, 0, 0, 0), some (.isub, 1, 0, 0, 0), some (.invokestatic 1, 3, 79, 3, 7), none, none, some (.ifCond .ne 0, 3, 47, 0, 0), none, none, some (.iconst 0, 1, 0, 0, 0), some (.ireturn, 1, 0, 0, 3), some (.aload 0, 1, 0, 0, 0)],
  [some (.getfield 0, 3, 0, 7, 2), none, none, some (.getfield 0, 3, 5, 9, 1), none, none, some (.l2i, 1, 0, 0, 0), some (.istore 2, 1, 0, 0, 0), some (.iload 2, 1, 0, 0, 0), some (.iload 1, 1, 0, 0, 0), some (.if_icmp .eq 0, 3, 77, 0, 0), none, none, some (.aload 0, 1, 0, 0, 0), some (.getfield 0, 3, 1, 7, 2), none],
  [none, some (.getfield 0, 3, 11, 6, 2), none, none, some (.iload 2, 1, 0, 0, 0), some (.iaload, 1, 0, 0, 0), some (.iload 1, 1, 0, 0, 0), some (.invokestatic 1, 3, 119, 2, (-1)), none, none, some (.ifCond .eq 0, 3, 83, 0, 0), none, none, some (.aload 0, 1, 0, 0, 0), some (.iconst 3, 1, 0, 0, 0), some (.invokestatic 1, 3, 70, 2, 7)],
  [none, none, some (.ireturn, 1, 0, 0, 3), some (.aload 0, 1, 0, 0, 0), some (.getfield 0, 3, 1, 7, 2), none, none, some (.getfield 0, 3, 11, 6, 2), none, none, some (.iload 2, 1, 0, 0, 0), some (.dup2, 1, 0, 0, 0), some (.iaload, 1, 0, 0, 0), some (.iconst 1, 1, 0, 0, 0), some (.iload 1, 1, 0, 0, 0), some (.ishl, 1, 0, 0, 0)],
  [some (.ior, 1, 0, 0, 0), some (.iastore, 1, 0, 0, 0), some (.aload 0, 1, 0, 0, 0), some (.iconst 3, 1, 0, 0, 0), some (.invokestatic 1, 3, 77, 2, 7), none, none, some (.ireturn, 1, 0, 0, 3), none, none, none, none, none, none, none, none]]
set_option maxRecDepth 100000 in
theorem k74 : pchk 7 3 cX7_readAfter 0 t74 = true := by decide +kernel
def t75 : pT := [[some (.aload 0, 1, 0, 0, 0), some (.invokestatic 1, 3, 81, 1, 7), none, none, some (.ifCond .ne 0, 3, 9, 0, 0), none, none, some (.iconst 0, 1, 0, 0, 0), some (.ireturn, 1, 0, 0, 3), some (.aload 0, 1, 0, 0, 0), some (.getfield 0, 3, 1, 7, 2), none, none, some (.aload 0, 1, 0, 0, 0), some (.getfield 0, 3, 0, 7, 2), none],
  [none, some (.getfield 0, 3, 5, 9, 1), none, none, some (.invokestatic 1, 3, 59, 2, 6), none, none, some (.istore 1, 1, 0, 0, 0), some (.aload 0, 1, 0, 0, 0), some (.invokestatic 1, 3, 81, 1, 7), none, none, some (.ifCond .ne 0, 3, 33, 0, 0), none, none, some (.iconst 0, 1, 0, 0, 0)],
  [some (.ireturn, 1, 0, 0, 3), some (.aload 0, 1, 0, 0, 0), some (.getfield 0, 3, 1, 7, 2), none, none, some (.aload 0, 1, 0, 0, 0), some (.getfield 0, 3, 0, 7, 2), none, none, some (.getfield 0, 3, 5, 9, 1), none, none, some (.invokestatic 1, 3, 59, 2, 6), none, none, some (.istore 2, 1, 0, 0, 0)],
  [some (.iload 2, 1, 0, 0, 0), some (.iload 1, 1, 0, 0, 0), some (.if_icmp .eq 0, 3, 69, 0, 0), none, none, some (.aload 0, 1, 0, 0, 0), some (.getfield 0, 3, 1, 7, 2), none, none, some (.getfield 0, 3, 7, 6, 2), none, none, some (.iload 1, 1, 0, 0, 0), some (.iaload, 1, 0, 0, 0), some (.iload 2, 1, 0, 0, 0), some (.invokestatic 1, 3, 119, 2, (-1))],
  [none, none, some (.ifCond .eq 0, 3, 75, 0, 0), none, none, some (.aload 0, 1, 0, 0, 0), some (.iconst 3, 1, 0, 0, 0), some (.invokestatic 1, 3, 70, 2, 7), none, none, some (.ireturn, 1, 0, 0, 3), some (.aload 0, 1, 0, 0, 0), some (.getfield 0, 3, 1, 7, 2), none, none, some (.getfield 0, 3, 7, 6, 2)],
  [none, none, some (.iload 1, 1, 0, 0, 0), some (.dup2, 1, 0, 0, 0), some (.iaload, 1, 0, 0, 0), some (.iconst 1, 1, 0, 0, 0), some (.iload 2, 1, 0, 0, 0), some (.ishl, 1, 0, 0, 0), some (.ior, 1, 0, 0, 0), some (.iastore, 1, 0, 0, 0), some (.aload 0, 1, 0, 0, 0), some (.getfield 0, 3, 1, 7, 2), none, none, some (.getfield 0, 3, 7, 6, 2), none],
  [none, some (.iload 2, 1, 0, 0, 0), some (.dup2, 1, 0, 0, 0), some (.iaload, 1, 0, 0, 0), some (.iconst 1, 1, 0, 0, 0), some (.iload 1, 1, 0, 0, 0), some (.ishl, 1, 0, 0, 0), some (.ior, 1, 0, 0, 0), some (.iastore, 1, 0, 0, 0), some (.aload 0, 1, 0, 0, 0), some (.iconst 3, 1, 0, 0, 0), some (.invokestatic 1, 3, 77, 2, 7), none, none, some (.ireturn, 1, 0, 0, 3), none]]
set_option maxRecDepth 100000 in
theorem k75 : pchk 7 3 cX7_readMeet 0 t75 = true := by decide +kernel
def t76 : pT := [[some (.aload 0, 1, 0, 0, 0), some (.getfield 0, 3, 2, 7, 0), none, none, some (.ifCond .eq 0, 3, 13, 0, 0), none, none, some (.aload 0, 1, 0, 0, 0), some (.iconst 3, 1, 0, 0, 0), some (.invokestatic 1, 3, 70, 2, 7), none, none, some (.ireturn, 1, 0, 0, 3), some (.aload 0, 1, 0, 0, 0), some (.iconst 1, 1, 0, 0, 0), some (.putfield 0, 3, 2, 7, 3)],
  [none, none, some (.aload 0, 1, 0, 0, 0), some (.iconst 0, 1, 0, 0, 0), some (.iconst 40, 2, 0, 0, 0), none, some (.invokestatic 1, 3, 79, 3, 7), none, none, some (.ifCond .ne 0, 3, 30, 0, 0), none, none, some (.iconst 0, 1, 0, 0, 0), some (.ireturn, 1, 0, 0, 3), some (.aload 0, 1, 0, 0, 0), some (.getfield 0, 3, 1, 7, 2)],
  [none, none, some (.aload 0, 1, 0, 0, 0), some (.getfield 0, 3, 0, 7, 2), none, none, some (.getfield 0, 3, 5, 9, 1), none, none, some (.l2i, 1, 0, 0, 0), some (.putfield 0, 3, 3, 6, 0), none, none, some (.aload 0, 1, 0, 0, 0), some (.iconst 3, 1, 0, 0, 0), some (.invokestatic 1, 3, 77, 2, 7)],
  [none, none, some (.ireturn, 1, 0, 0, 3), none, none, none, none, none, none, none, none, none, none, none, none, none]]
set_option maxRecDepth 100000 in
theorem k76 : pchk 7 3 cX7_readIdle 0 t76 = true := by decide +kernel
def t77 : pT := [[some (.aload 0, 1, 0, 0, 0), some (.getfield 0, 3, 0, 7, 2), none, none, some (.invokestatic 0, 3, 101, 1, 9), none, none, some (.aload 0, 1, 0, 0, 0), some (.iload 1, 1, 0, 0, 0), some (.invokestatic 1, 3, 78, 2, 7), none, none, some (.ireturn, 1, 0, 0, 3), none, none, none]]
set_option maxRecDepth 100000 in
theorem k77 : pchk 7 3 cX7_advanceTo 0 t77 = true := by decide +kernel
def t78 : pT := [[some (.aload 0, 1, 0, 0, 0), some (.getfield 0, 3, 0, 7, 2), none, none, some (.getfield 0, 3, 3, 9, 0), none, none, some (.iload 1, 1, 0, 0, 0), some (.if_icmp .eq 0, 3, 19, 0, 0), none, none, some (.aload 0, 1, 0, 0, 0), some (.iconst 1, 1, 0, 0, 0), some (.invokestatic 1, 3, 70, 2, 7), none, none],
  [some (.ifCond .eq 0, 3, 23, 0, 0), none, none, some (.iconst 1, 1, 0, 0, 0), some (.goto 0, 3, 24, 0, 0), none, none, some (.iconst 0, 1, 0, 0, 0), some (.ireturn, 1, 0, 0, 3), none, none, none, none, none, none, none]]
set_option maxRecDepth 100000 in
theorem k78 : pchk 7 3 cX7_stayOn 0 t78 = true := by decide +kernel
def t79 : pT := [[some (.aload 0, 1, 0, 0, 0), some (.getfield 0, 3, 0, 7, 2), none, none, some (.invokestatic 0, 3, 101, 1, 9), none, none, some (.aload 0, 1, 0, 0, 0), some (.iconst 2, 1, 0, 0, 0), some (.invokestatic 1, 3, 78, 2, 7), none, none, some (.ifCond .eq 0, 3, 28, 0, 0), none, none, some (.aload 0, 1, 0, 0, 0)],
  [some (.iload 1, 1, 0, 0, 0), some (.iload 2, 1, 0, 0, 0), some (.invokestatic 1, 3, 80, 3, 7), none, none, some (.ifCond .eq 0, 3, 28, 0, 0), none, none, some (.iconst 1, 1, 0, 0, 0), some (.goto 0, 3, 29, 0, 0), none, none, some (.iconst 0, 1, 0, 0, 0), some (.ireturn, 1, 0, 0, 3), none, none]]
set_option maxRecDepth 100000 in
theorem k79 : pchk 7 3 cX7_advanceToNumber 0 t79 = true := by decide +kernel
def t80 : pT := [[some (.aload 0, 1, 0, 0, 0), some (.getfield 0, 3, 0, 7, 2), none, none, some (.getfield 0, 3, 5, 9, 1), none, none, some (.iload 1, 1, 0, 0, 0), some (.i2l, 1, 0, 0, 0), some (.iload 2, 1, 0, 0, 0), some (.i2l, 1, 0, 0, 0), some (.invokestatic 1, 3, 118, 3, (-1)), none, none, some (.ifCond .ne 0, 3, 25, 0, 0), none],
  [none, some (.aload 0, 1, 0, 0, 0), some (.iconst 2, 1, 0, 0, 0), some (.invokestatic 1, 3, 70, 2, 7), none, none, some (.ifCond .eq 0, 3, 29, 0, 0), none, none, some (.iconst 1, 1, 0, 0, 0), some (.goto 0, 3, 30, 0, 0), none, none, some (.iconst 0, 1, 0, 0, 0), some (.ireturn, 1, 0, 0, 3), none]]
set_option maxRecDepth 100000 in
theorem k80 : pchk 7 3 cX7_stayWithin 0 t80 = true := by decide +kernel
def t81 : pT := [[some (.aload 0, 1, 0, 0, 0), some (.getfield 0, 3, 0, 7, 2), none, none, some (.invokestatic 0, 3, 101, 1, 9), none, none, some (.aload 0, 1, 0, 0, 0), some (.iconst 1, 1, 0, 0, 0), some (.invokestatic 1, 3, 78, 2, 7), none, none, some (.ifCond .eq 0, 3, 45, 0, 0), none, none, some (.aload 0, 1, 0, 0, 0)],
  [some (.getfield 0, 3, 1, 7, 2), none, none, some (.aload 0, 1, 0, 0, 0), some (.getfield 0, 3, 0, 7, 2), none, none, some (.getfield 0, 3, 5, 9, 1), none, none, some (.invokestatic 1, 3, 59, 2, 6), none, none, some (.iconst (-1), 1, 0, 0, 0), some (.if_icmp .ne 0, 3, 41, 0, 0), none],
  [none, some (.aload 0, 1, 0, 0, 0), some (.iconst 5, 1, 0, 0, 0), some (.invokestatic 1, 3, 70, 2, 7), none, none, some (.ifCond .eq 0, 3, 45, 0, 0), none, none, some (.iconst 1, 1, 0, 0, 0), some (.goto 0, 3, 46, 0, 0), none, none, some (.iconst 0, 1, 0, 0, 0), some (.ireturn, 1, 0, 0, 3), none]]
set_option maxRecDepth 100000 in
theorem k81 : pchk 7 3 cX7_advanceToToolName 0 t81 = true := by decide +kernel
def t82 : pT := [[some (.aload 0, 1, 0, 0, 0), some (.pop, 3, 0, 0, 0), none, none, some (.aload 0, 1, 0, 0, 0), some (.iconst 7, 2, 0, 0, 0), none, some (.newarray .int, 2, 100, 0, 0), none, some (.putfield 0, 3, 1, 8, 2), none, none, some (.aload 0, 1, 0, 0, 0), some (.iconst 0, 1, 0, 0, 0), some (.putfield 0, 3, 2, 8, 0), none],
  [none, some (.aload 0, 1, 0, 0, 0), some (.iconst 0, 1, 0, 0, 0), some (.putfield 0, 3, 3, 8, 3), none, none, some (.aload 0, 1, 0, 0, 0), some (.iconst 7, 2, 0, 0, 0), none, some (.newarray .int, 2, 100, 0, 0), none, some (.putfield 0, 3, 4, 8, 2), none, none, some (.aload 0, 1, 0, 0, 0), some (.iconst 7, 2, 0, 0, 0)],
  [none, some (.newarray .int, 2, 100, 0, 0), none, some (.putfield 0, 3, 5, 8, 2), none, none, some (.aload 0, 1, 0, 0, 0), some (.iconst 7, 2, 0, 0, 0), none, some (.newarray .int, 2, 100, 0, 0), none, some (.putfield 0, 3, 6, 8, 2), none, none, some (.aload 0, 1, 0, 0, 0), some (.iconst 7, 2, 0, 0, 0)],
  [none, some (.newarray .int, 2, 100, 0, 0), none, some (.putfield 0, 3, 7, 8, 2), none, none, some (.aload 0, 1, 0, 0, 0), some (.iconst 7, 2, 0, 0, 0), none, some (.newarray .int, 2, 100, 0, 0), none, some (.putfield 0, 3, 8, 8, 2), none, none, some (.aload 0, 1, 0, 0, 0), some (.iconst 7, 2, 0, 0, 0)],
  [none, some (.newarray .int, 2, 100, 0, 0), none, some (.putfield 0, 3, 9, 8, 2), none, none, some (.aload 0, 1, 0, 0, 0), some (.iconst 8, 2, 0, 0, 0), none, some (.iconst 7, 2, 0, 0, 0), none, some (.multianewarray 0 2, 4, 0, 0, 0), none, none, none, some (.putfield 0, 3, 10, 8, 2)],
  [none, none, some (.aload 0, 1, 0, 0, 0), some (.aload 1, 1, 0, 0, 0), some (.putfield 0, 3, 0, 8, 2), none, none, some (.return_, 1, 0, 0, 0), none, none, none, none, none, none, none, none]]
set_option maxRecDepth 100000 in
theorem k82 : pchk 8 0 cX8_init 0 t82 = true := by decide +kernel
def t83 : pT := [[some (.aload 0, 1, 0, 0, 0), some (.getfield 0, 3, 0, 8, 2), none, none, some (.getfield 0, 3, 2, 6, 0), none, none, some (.iconst 1, 1, 0, 0, 0), some (.isub, 1, 0, 0, 0), some (.istore 1, 1, 0, 0, 0), some (.iload 1, 1, 0, 0, 0), some (.ifCond .lt 0, 3, 75, 0, 0), none, none, some (.aload 0, 1, 0, 0, 0), some (.getfield 0, 3, 4, 8, 2)],
  [none, none, some (.iload 1, 1, 0, 0, 0), some (.aload 0, 1, 0, 0, 0), some (.getfield 0, 3, 0, 8, 2), none, none, some (.iload 1, 1, 0, 0, 0), some (.invokestatic 1, 3, 63, 2, 6), none, none, some (.iastore, 1, 0, 0, 0), some (.aload 0, 1, 0, 0, 0), some (.getfield 0, 3, 6, 8, 2), none, none],
  [some (.iload 1, 1, 0, 0, 0), some (.aload 0, 1, 0, 0, 0), some (.getfield 0, 3, 0, 8, 2), none, none, some (.iload 1, 1, 0, 0, 0), some (.invokestatic 1, 3, 64, 2, 6), none, none, some (.iastore, 1, 0, 0, 0), some (.aload 0, 1, 0, 0, 0), some (.getfield 0, 3, 10, 8, 2), none, none, some (.iconst 0, 1, 0, 0, 0), some (.aaload, 1, 0, 0, 0)],
  [some (.iload 1, 1, 0, 0, 0), some (.iconst 0, 1, 0, 0, 0), some (.iastore, 1, 0, 0, 0), some (.aload 0, 1, 0, 0, 0), some (.getfield 0, 3, 5, 8, 2), none, none, some (.iload 1, 1, 0, 0, 0), some (.aload 0, 1, 0, 0, 0), some (.getfield 0, 3, 4, 8, 2), none, none, some (.iload 1, 1, 0, 0, 0), some (.iaload, 1, 0, 0, 0), some (.aload 0, 1, 0, 0, 0), some (.iload 1, 1, 0, 0, 0)],
  [some (.invokestatic 1, 3, 84, 2, 8), none, none, some (.iadd, 1, 0, 0, 0), some (.iastore, 1, 0, 0, 0), some (.iinc 1 (-1), 3, 0, 0, 0), none, none, some (.goto 0, 3, 10, 0, 0), none, none, some (.iconst 0, 1, 0, 0, 0), some (.istore 1, 1, 0, 0, 0), some (.iload 1, 1, 0, 0, 0), some (.aload 0, 1, 0, 0, 0), some (.getfield 0, 3, 0, 8, 2)],
  [none, none, some (.getfield 0, 3, 2, 6, 0), none, none, some (.if_icmp .ge 0, 3, 105, 0, 0), none, none, some (.aload 0, 1, 0, 0, 0), some (.getfield 0, 3, 7, 8, 2), none, none, some (.iload 1, 1, 0, 0, 0), some (.aload 0, 1, 0, 0, 0), some (.iload 1, 1, 0, 0, 0), some (.invokestatic 1, 3, 85, 2, 8)],
  [none, none, some (.iastore, 1, 0, 0, 0), some (.iinc 1 1, 3, 0, 0, 0), none, none, some (.goto 0, 3, 77, 0, 0), none, none, some (.aload 0, 1, 0, 0, 0), some (.iconst 0, 1, 0, 0, 0), some (.putfield 0, 3, 3, 8, 3), none, none, some (.aload 0, 1, 0, 0, 0), some (.iconst 0, 1, 0, 0, 0)],
  [some (.putfield 0, 3, 2, 8, 0), none, none, some (.aload 0, 1, 0, 0, 0), some (.iconst 0, 1, 0, 0, 0), some (.iconst 0, 1, 0, 0, 0), some (.iconst (-1), 1, 0, 0, 0), some (.iconst 0, 1, 0, 0, 0), some (.invokestatic 0, 3, 87, 5, 8), none, none, some (.return_, 1, 0, 0, 0), none, none, none, none]]
set_option maxRecDepth 100000 in
theorem k83 : pchk 8 0 cX8_layOut 0 t83 = true := by decide +kernel
def t84 : pT := [[some (.iconst 0, 1, 0, 0, 0), some (.istore 2, 1, 0, 0, 0), some (.iload 1, 1, 0, 0, 0), some (.iconst 1, 1, 0, 0, 0), some (.iadd, 1, 0, 0, 0), some (.istore 3, 1, 0, 0, 0), some (.iload 3, 1, 0, 0, 0), some (.aload 0, 1, 0, 0, 0), some (.getfield 0, 3, 0, 8, 2), none, none, some (.getfield 0, 3, 2, 6, 0), none, none, some (.if_icmp .ge 0, 3, 50, 0, 0), none],
  [none, some (.aload 0, 1, 0, 0, 0), some (.getfield 0, 3, 0, 8, 2), none, none, some (.getfield 0, 3, 11, 6, 2), none, none, some (.iload 3, 1, 0, 0, 0), some (.iaload, 1, 0, 0, 0), some (.iload 1, 1, 0, 0, 0), some (.invokestatic 1, 3, 119, 2, (-1)), none, none, some (.ifCond .eq 0, 3, 44, 0, 0), none],
  [none, some (.iload 2, 1, 0, 0, 0), some (.aload 0, 1, 0, 0, 0), some (.getfield 0, 3, 5, 8, 2), none, none, some (.iload 3, 1, 0, 0, 0), some (.iaload, 1, 0, 0, 0), some (.f2d, 3, 0, 0, 0), none, none, some (.istore 2, 1, 0, 0, 0), some (.iinc 3 1, 3, 0, 0, 0), none, none, some (.goto 0, 3, 6, 0, 0)],
  [none, none, some (.iload 2, 1, 0, 0, 0), some (.ireturn, 1, 0, 0, 0), none, none, none, none, none, none, none, none, none, none, none, none]]
set_option maxRecDepth 100000 in
theorem k84 : pchk 8 1 cX8_longestTailBehind 0 t84 = true := by decide +kernel
def t85 : pT := [[some (.iconst 1, 1, 0, 0, 0), some (.iload 1, 1, 0, 0, 0), some (.ishl, 1, 0, 0, 0), some (.istore 2, 1, 0, 0, 0), some (.aload 0, 1, 0, 0, 0), some (.iload 1, 1, 0, 0, 0), some (.invokestatic 1, 3, 86, 2, 8), none, none, some (.istore 3, 1, 0, 0, 0), some (.iconst 0, 1, 0, 0, 0), some (.istore 4, 2, 0, 0, 0), none, some (.iload 4, 2, 0, 0, 0), none, some (.aload 0, 1, 0, 0, 0)],
  [some (.getfield 0, 3, 0, 8, 2), none, none, some (.getfield 0, 3, 2, 6, 0), none, none, some (.if_icmp .ge 0, 3, 56, 0, 0), none, none, some (.iload 3, 1, 0, 0, 0), some (.iload 4, 2, 0, 0, 0), none, some (.invokestatic 1, 3, 119, 2, (-1)), none, none, some (.ifCond .eq 0, 3, 50, 0, 0)],
  [none, none, some (.iload 2, 1, 0, 0, 0), some (.iconst 1, 1, 0, 0, 0), some (.iload 4, 2, 0, 0, 0), none, some (.ishl, 1, 0, 0, 0), some (.ior, 1, 0, 0, 0), some (.istore 2, 1, 0, 0, 0), some (.iload 3, 1, 0, 0, 0), some (.aload 0, 1, 0, 0, 0), some (.iload 4, 2, 0, 0, 0), none, some (.invokestatic 1, 3, 86, 2, 8), none, none],
  [some (.iand, 1, 0, 0, 0), some (.istore 3, 1, 0, 0, 0), some (.iinc 4 1, 3, 0, 0, 0), none, none, some (.goto 0, 3, 13, 0, 0), none, none, some (.iload 2, 1, 0, 0, 0), some (.ireturn, 1, 0, 0, 0), none, none, none, none, none, none]]
set_option maxRecDepth 100000 in
theorem k85 : pchk 8 1 cX8_queueWith 0 t85 = true := by decide +kernel
def t86 : pT := [[some (.aload 0, 1, 0, 0, 0), some (.getfield 0, 3, 6, 8, 2), none, none, some (.iload 1, 1, 0, 0, 0), some (.iaload, 1, 0, 0, 0), some (.aload 0, 1, 0, 0, 0), some (.getfield 0, 3, 0, 8, 2), none, none, some (.getfield 0, 3, 11, 6, 2), none, none, some (.iload 1, 1, 0, 0, 0), some (.iaload, 1, 0, 0, 0), some (.ior, 1, 0, 0, 0)],
  [some (.istore 2, 1, 0, 0, 0), some (.iload 1, 1, 0, 0, 0), some (.iconst 1, 1, 0, 0, 0), some (.iadd, 1, 0, 0, 0), some (.istore 3, 1, 0, 0, 0), some (.iload 3, 1, 0, 0, 0), some (.aload 0, 1, 0, 0, 0), some (.getfield 0, 3, 0, 8, 2), none, none, some (.getfield 0, 3, 2, 6, 0), none, none, some (.if_icmp .ge 0, 3, 60, 0, 0), none, none],
  [some (.aload 0, 1, 0, 0, 0), some (.getfield 0, 3, 0, 8, 2), none, none, some (.getfield 0, 3, 11, 6, 2), none, none, some (.iload 3, 1, 0, 0, 0), some (.iaload, 1, 0, 0, 0), some (.iload 1, 1, 0, 0, 0), some (.invokestatic 1, 3, 119, 2, (-1)), none, none, some (.ifCond .eq 0, 3, 54, 0, 0), none, none],
  [some (.iload 2, 1, 0, 0, 0), some (.iconst 1, 1, 0, 0, 0), some (.iload 3, 1, 0, 0, 0), some (.ishl, 1, 0, 0, 0), some (.ior, 1, 0, 0, 0), some (.istore 2, 1, 0, 0, 0), some (.iinc 3 1, 3, 0, 0, 0), none, none, some (.goto 0, 3, 21, 0, 0), none, none, some (.iload 2, 1, 0, 0, 0), some (.ireturn, 1, 0, 0, 0), none, none]]
set_option maxRecDepth 100000 in
theorem k86 : pchk 8 1 cX8_neverWith 0 t86 = true := by decide +kernel
def t87 : pT := [[some (.iload 1, 1, 0, 0, 0), some (.iconst 7, 2, 0, 0, 0), none, some (.if_icmp .gt 0, 3, 25, 0, 0), none, none, some (.aload 0, 1, 0, 0, 0), some (.getfield 0, 3, 3, 8, 0), none, none, some (.ifCond .eq 0, 3, 26, 0, 0), none, none, some (.aload 0, 1, 0, 0, 0), some (.iload 1, 1, 0, 0, 0), some (.iload 2, 1, 0, 0, 0)],
  [some (.iload 3, 1, 0, 0, 0), some (.iload 4, 2, 0, 0, 0), none, some (.invokestatic 1, 3, 90, 5, 8), none, none, some (.ifCond .ne 0, 3, 26, 0, 0), none, none, some (.return_, 1, 0, 0, 0), some (.iload 1, 1, 0, 0, 0), some (.aload 0, 1, 0, 0, 0), some (.getfield 0, 3, 0, 8, 2), none, none, some (.getfield 0, 3, 2, 6, 0)],
  [none, none, some (.if_icmp .lt 0, 3, 64, 0, 0), none, none, some (.aload 0, 1, 0, 0, 0), some (.getfield 0, 3, 8, 8, 2), none, none, some (.iconst 0, 1, 0, 0, 0), some (.aload 0, 1, 0, 0, 0), some (.getfield 0, 3, 1, 8, 2), none, none, some (.iconst 0, 1, 0, 0, 0), some (.iconst 7, 2, 0, 0, 0)],
  [none, some (.d2l, 3, 0, 0, 0), none, none, some (.aload 0, 1, 0, 0, 0), some (.iload 4, 2, 0, 0, 0), none, some (.putfield 0, 3, 2, 8, 0), none, none, some (.aload 0, 1, 0, 0, 0), some (.iconst 1, 1, 0, 0, 0), some (.putfield 0, 3, 3, 8, 3), none, none, some (.return_, 1, 0, 0, 0)],
  [some (.iconst 0, 1, 0, 0, 0), some (.istore 5, 2, 0, 0, 0), none, some (.iload 5, 2, 0, 0, 0), none, some (.aload 0, 1, 0, 0, 0), some (.getfield 0, 3, 0, 8, 2), none, none, some (.getfield 0, 3, 2, 6, 0), none, none, some (.if_icmp .ge 0, 3, 197, 0, 0), none, none, some (.iload 2, 1, 0, 0, 0)],
  [some (.iload 5, 2, 0, 0, 0), none, some (.invokestatic 1, 3, 119, 2, (-1)), none, none, some (.ifCond .ne 0, 3, 191, 0, 0), none, none, some (.aload 0, 1, 0, 0, 0), some (.getfield 0, 3, 0, 8, 2), none, none, some (.getfield 0, 3, 11, 6, 2), none, none, some (.iload 5, 2, 0, 0, 0)],
  [none, some (.iaload, 1, 0, 0, 0), some (.iload 2, 1, 0, 0, 0), some (.iconst (-1), 1, 0, 0, 0), some (.ixor, 1, 0, 0, 0), some (.iand, 1, 0, 0, 0), some (.ifCond .ne 0, 3, 191, 0, 0), none, none, some (.aload 0, 1, 0, 0, 0), some (.iload 5, 2, 0, 0, 0), none, some (.aload 0, 1, 0, 0, 0), some (.getfield 0, 3, 10, 8, 2), none, none],
  [some (.iload 1, 1, 0, 0, 0), some (.aaload, 1, 0, 0, 0), some (.iload 5, 2, 0, 0, 0), none, some (.iaload, 1, 0, 0, 0), some (.iload 3, 1, 0, 0, 0), some (.invokestatic 1, 3, 88, 4, 8), none, none, some (.ifCond .eq 0, 3, 127, 0, 0), none, none, some (.goto 0, 3, 191, 0, 0), none, none, some (.aload 0, 1, 0, 0, 0)],
  [some (.getfield 0, 3, 8, 8, 2), none, none, some (.iload 5, 2, 0, 0, 0), none, some (.aload 0, 1, 0, 0, 0), some (.getfield 0, 3, 10, 8, 2), none, none, some (.iload 1, 1, 0, 0, 0), some (.aaload, 1, 0, 0, 0), some (.iload 5, 2, 0, 0, 0), none, some (.iaload, 1, 0, 0, 0), some (.iastore, 1, 0, 0, 0), some (.aload 0, 1, 0, 0, 0)],
  [some (.getfield 0, 3, 8, 8, 2), none, none, some (.iload 5, 2, 0, 0, 0), none, some (.iaload, 1, 0, 0, 0), some (.aload 0, 1, 0, 0, 0), some (.getfield 0, 3, 4, 8, 2), none, none, some (.iload 5, 2, 0, 0, 0), none, some (.iaload, 1, 0, 0, 0), some (.iadd, 1, 0, 0, 0), some (.istore 6, 2, 0, 0, 0), none],
  [some (.aload 0, 1, 0, 0, 0), some (.iload 1, 1, 0, 0, 0), some (.iload 5, 2, 0, 0, 0), none, some (.iload 6, 2, 0, 0, 0), none, some (.invokestatic 0, 3, 89, 4, 8), none, none, some (.aload 0, 1, 0, 0, 0), some (.iload 1, 1, 0, 0, 0), some (.iconst 1, 1, 0, 0, 0), some (.iadd, 1, 0, 0, 0), some (.iload 2, 1, 0, 0, 0), some (.iconst 1, 1, 0, 0, 0), some (.iload 5, 2, 0, 0, 0)],
  [none, some (.ishl, 1, 0, 0, 0), some (.ior, 1, 0, 0, 0), some (.iload 5, 2, 0, 0, 0), none, some (.iload 4, 2, 0, 0, 0), none, some (.iload 6, 2, 0, 0, 0), none, some (.f2d, 3, 0, 0, 0), none, none, some (.invokestatic 0, 3, 87, 5, 8), none, none, some (.iinc 5 1, 3, 0, 0, 0)],
  [none, none, some (.goto 0, 3, 67, 0, 0), none, none, some (.return_, 1, 0, 0, 0), none, none, none, none, none, none, none, none, none, none]]
set_option maxRecDepth 100000 in
theorem k87 : pchk 8 0 cX8_putIn 0 t87 = true := by decide +kernel
def t88 : pT := [[some (.iload 3, 1, 0, 0, 0), some (.iconst (-1), 1, 0, 0, 0), some (.if_icmp .eq 0, 3, 34, 0, 0), none, none, some (.iload 2, 1, 0, 0, 0), some (.aload 0, 1, 0, 0, 0), some (.getfield 0, 3, 8, 8, 2), none, none, some (.iload 3, 1, 0, 0, 0), some (.iaload, 1, 0, 0, 0), some (.if_icmp .lt 0, 3, 30, 0, 0), none, none, some (.iload 2, 1, 0, 0, 0)],
  [some (.aload 0, 1, 0, 0, 0), some (.getfield 0, 3, 8, 8, 2), none, none, some (.iload 3, 1, 0, 0, 0), some (.iaload, 1, 0, 0, 0), some (.if_icmp .ne 0, 3, 34, 0, 0), none, none, some (.iload 1, 1, 0, 0, 0), some (.iload 3, 1, 0, 0, 0), some (.if_icmp .ge 0, 3, 34, 0, 0), none, none, some (.iconst 1, 1, 0, 0, 0), some (.goto 0, 3, 35, 0, 0)],
  [none, none, some (.iconst 0, 1, 0, 0, 0), some (.ireturn, 1, 0, 0, 3), none, none, none, none, none, none, none, none, none, none, none, none]]
set_option maxRecDepth 100000 in
theorem k88 : pchk 8 3 cX8_isAhead 0 t88 = true := by decide +kernel
def t89 : pT := [[some (.iconst 0, 1, 0, 0, 0), some (.istore 4, 2, 0, 0, 0), none, some (.iload 4, 2, 0, 0, 0), none, some (.aload 0, 1, 0, 0, 0), some (.getfield 0, 3, 0, 8, 2), none, none, some (.getfield 0, 3, 2, 6, 0), none, none, some (.if_icmp .ge 0, 3, 100, 0, 0), none, none, some (.aload 0, 1, 0, 0, 0)],
  [some (.getfield 0, 3, 6, 8, 2), none, none, some (.iload 2, 1, 0, 0, 0), some (.iaload, 1, 0, 0, 0), some (.iload 4, 2, 0, 0, 0), none, some (.invokestatic 1, 3, 119, 2, (-1)), none, none, some (.ifCond .ne 0, 3, 46, 0, 0), none, none, some (.aload 0, 1, 0, 0, 0), some (.getfield 0, 3, 0, 8, 2), none],
  [none, some (.getfield 0, 3, 11, 6, 2), none, none, some (.iload 4, 2, 0, 0, 0), none, some (.iaload, 1, 0, 0, 0), some (.iload 2, 1, 0, 0, 0), some (.invokestatic 1, 3, 119, 2, (-1)), none, none, some (.ifCond .eq 0, 3, 50, 0, 0), none, none, some (.iconst 1, 1, 0, 0, 0), some (.goto 0, 3, 51, 0, 0)],
  [none, none, some (.iconst 0, 1, 0, 0, 0), some (.istore 5, 2, 0, 0, 0), none, some (.aload 0, 1, 0, 0, 0), some (.getfield 0, 3, 10, 8, 2), none, none, some (.iload 1, 1, 0, 0, 0), some (.iconst 1, 1, 0, 0, 0), some (.iadd, 1, 0, 0, 0), some (.aaload, 1, 0, 0, 0), some (.iload 4, 2, 0, 0, 0), none, some (.iload 5, 2, 0, 0, 0)],
  [none, some (.ifCond .eq 0, 3, 84, 0, 0), none, none, some (.aload 0, 1, 0, 0, 0), some (.getfield 0, 3, 10, 8, 2), none, none, some (.iload 1, 1, 0, 0, 0), some (.aaload, 1, 0, 0, 0), some (.iload 4, 2, 0, 0, 0), none, some (.iaload, 1, 0, 0, 0), some (.iload 3, 1, 0, 0, 0), some (.f2d, 3, 0, 0, 0), none],
  [none, some (.goto 0, 3, 93, 0, 0), none, none, some (.aload 0, 1, 0, 0, 0), some (.getfield 0, 3, 10, 8, 2), none, none, some (.iload 1, 1, 0, 0, 0), some (.aaload, 1, 0, 0, 0), some (.iload 4, 2, 0, 0, 0), none, some (.iaload, 1, 0, 0, 0), some (.iastore, 1, 0, 0, 0), some (.iinc 4 1, 3, 0, 0, 0), none],
  [none, some (.goto 0, 3, 3, 0, 0), none, none, some (.return_, 1, 0, 0, 0), none, none, none, none, none, none, none, none, none, none, none]]
set_option maxRecDepth 100000 in
theorem k89 : pchk 8 0 cX8_holdBack 0 t89 = true := by decide +kernel
def t90 : pT := [[some (.iload 4, 2, 0, 0, 0), none, some (.istore 5, 2, 0, 0, 0), none, some (.iconst 0, 1, 0, 0, 0), some (.istore 6, 2, 0, 0, 0), none, some (.iload 6, 2, 0, 0, 0), none, some (.aload 0, 1, 0, 0, 0), some (.getfield 0, 3, 0, 8, 2), none, none, some (.getfield 0, 3, 2, 6, 0), none, none],
  [some (.if_icmp .ge 0, 3, 91, 0, 0), none, none, some (.aload 0, 1, 0, 0, 0), some (.getfield 0, 3, 9, 8, 2), none, none, some (.iload 6, 2, 0, 0, 0), none, some (.iload 2, 1, 0, 0, 0), some (.iload 6, 2, 0, 0, 0), none, some (.invokestatic 1, 3, 119, 2, (-1)), none, none, some (.ifCond .eq 0, 3, 44, 0, 0)],
  [none, none, some (.aload 0, 1, 0, 0, 0), some (.getfield 0, 3, 8, 8, 2), none, none, some (.iload 6, 2, 0, 0, 0), none, some (.iaload, 1, 0, 0, 0), some (.goto 0, 3, 53, 0, 0), none, none, some (.aload 0, 1, 0, 0, 0), some (.iload 6, 2, 0, 0, 0), none, some (.iload 1, 1, 0, 0, 0)],
  [some (.iload 2, 1, 0, 0, 0), some (.iload 3, 1, 0, 0, 0), some (.invokestatic 1, 3, 91, 5, 8), none, none, some (.iastore, 1, 0, 0, 0), some (.iload 2, 1, 0, 0, 0), some (.iload 6, 2, 0, 0, 0), none, some (.invokestatic 1, 3, 119, 2, (-1)), none, none, some (.ifCond .ne 0, 3, 85, 0, 0), none, none, some (.iload 5, 2, 0, 0, 0)],
  [none, some (.aload 0, 1, 0, 0, 0), some (.getfield 0, 3, 9, 8, 2), none, none, some (.iload 6, 2, 0, 0, 0), none, some (.iaload, 1, 0, 0, 0), some (.aload 0, 1, 0, 0, 0), some (.getfield 0, 3, 5, 8, 2), none, none, some (.iload 6, 2, 0, 0, 0), none, some (.iaload, 1, 0, 0, 0), some (.iadd, 1, 0, 0, 0)],
  [some (.f2d, 3, 0, 0, 0), none, none, some (.istore 5, 2, 0, 0, 0), none, some (.iinc 6 1, 3, 0, 0, 0), none, none, some (.goto 0, 3, 7, 0, 0), none, none, some (.iconst 0, 1, 0, 0, 0), some (.istore 6, 2, 0, 0, 0), none, some (.iload 6, 2, 0, 0, 0), none],
  [some (.aload 0, 1, 0, 0, 0), some (.getfield 0, 3, 0, 8, 2), none, none, some (.getfield 0, 3, 2, 6, 0), none, none, some (.if_icmp .ge 0, 3, 143, 0, 0), none, none, some (.iload 5, 2, 0, 0, 0), none, some (.aload 0, 1, 0, 0, 0), some (.getfield 0, 3, 2, 8, 0), none, none],
  [some (.if_icmp .gt 0, 3, 143, 0, 0), none, none, some (.iload 5, 2, 0, 0, 0), none, some (.aload 0, 1, 0, 0, 0), some (.aload 0, 1, 0, 0, 0), some (.getfield 0, 3, 7, 8, 2), none, none, some (.iload 6, 2, 0, 0, 0), none, some (.iaload, 1, 0, 0, 0), some (.iload 2, 1, 0, 0, 0), some (.iconst (-1), 1, 0, 0, 0), some (.ixor, 1, 0, 0, 0)],
  [some (.iand, 1, 0, 0, 0), some (.invokestatic 1, 3, 92, 2, 8), none, none, some (.f2d, 3, 0, 0, 0), none, none, some (.istore 5, 2, 0, 0, 0), none, some (.iinc 6 1, 3, 0, 0, 0), none, none, some (.goto 0, 3, 94, 0, 0), none, none, some (.iload 5, 2, 0, 0, 0)],
  [none, some (.aload 0, 1, 0, 0, 0), some (.getfield 0, 3, 2, 8, 0), none, none, some (.if_icmp .eq 0, 3, 167, 0, 0), none, none, some (.iload 5, 2, 0, 0, 0), none, some (.aload 0, 1, 0, 0, 0), some (.getfield 0, 3, 2, 8, 0), none, none, some (.if_icmp .ge 0, 3, 165, 0, 0), none],
  [none, some (.iconst 1, 1, 0, 0, 0), some (.goto 0, 3, 166, 0, 0), none, none, some (.iconst 0, 1, 0, 0, 0), some (.ireturn, 1, 0, 0, 3), some (.iconst 0, 1, 0, 0, 0), some (.istore 6, 2, 0, 0, 0), none, some (.iload 6, 2, 0, 0, 0), none, some (.aload 0, 1, 0, 0, 0), some (.getfield 0, 3, 0, 8, 2), none, none],
  [some (.getfield 0, 3, 2, 6, 0), none, none, some (.if_icmp .ge 0, 3, 228, 0, 0), none, none, some (.aload 0, 1, 0, 0, 0), some (.getfield 0, 3, 9, 8, 2), none, none, some (.iload 6, 2, 0, 0, 0), none, some (.iaload, 1, 0, 0, 0), some (.aload 0, 1, 0, 0, 0), some (.getfield 0, 3, 1, 8, 2), none],
  [none, some (.iload 6, 2, 0, 0, 0), none, some (.iaload, 1, 0, 0, 0), some (.if_icmp .eq 0, 3, 222, 0, 0), none, none, some (.aload 0, 1, 0, 0, 0), some (.getfield 0, 3, 9, 8, 2), none, none, some (.iload 6, 2, 0, 0, 0), none, some (.iaload, 1, 0, 0, 0), some (.aload 0, 1, 0, 0, 0), some (.getfield 0, 3, 1, 8, 2)],
  [none, none, some (.iload 6, 2, 0, 0, 0), none, some (.iaload, 1, 0, 0, 0), some (.if_icmp .ge 0, 3, 220, 0, 0), none, none, some (.iconst 1, 1, 0, 0, 0), some (.goto 0, 3, 221, 0, 0), none, none, some (.iconst 0, 1, 0, 0, 0), some (.ireturn, 1, 0, 0, 3), some (.iinc 6 1, 3, 0, 0, 0), none],
  [none, some (.goto 0, 3, 170, 0, 0), none, none, some (.iconst 0, 1, 0, 0, 0), some (.ireturn, 1, 0, 0, 3), none, none, none, none, none, none, none, none, none, none]]
set_option maxRecDepth 100000 in
theorem k90 : pchk 8 3 cX8_canBeat 0 t90 = true := by decide +kernel
def t91 : pT := [[some (.iload 4, 2, 0, 0, 0), none, some (.iconst (-1), 1, 0, 0, 0), some (.if_icmp .ne 0, 3, 17, 0, 0), none, none, some (.aload 0, 1, 0, 0, 0), some (.getfield 0, 3, 10, 8, 2), none, none, some (.iload 2, 1, 0, 0, 0), some (.aaload, 1, 0, 0, 0), some (.iload 1, 1, 0, 0, 0), some (.iaload, 1, 0, 0, 0), some (.goto 0, 3, 35, 0, 0), none],
  [none, some (.aload 0, 1, 0, 0, 0), some (.getfield 0, 3, 10, 8, 2), none, none, some (.iload 2, 1, 0, 0, 0), some (.aaload, 1, 0, 0, 0), some (.iload 1, 1, 0, 0, 0), some (.iaload, 1, 0, 0, 0), some (.aload 0, 1, 0, 0, 0), some (.getfield 0, 3, 8, 8, 2), none, none, some (.iload 4, 2, 0, 0, 0), none, some (.iaload, 1, 0, 0, 0)],
  [some (.f2d, 3, 0, 0, 0), none, none, some (.istore 5, 2, 0, 0, 0), none, some (.iconst 0, 1, 0, 0, 0), some (.istore 6, 2, 0, 0, 0), none, some (.iload 6, 2, 0, 0, 0), none, some (.iload 1, 1, 0, 0, 0), some (.if_icmp .ge 0, 3, 100, 0, 0), none, none, some (.aload 0, 1, 0, 0, 0), some (.getfield 0, 3, 0, 8, 2)],
  [none, none, some (.getfield 0, 3, 11, 6, 2), none, none, some (.iload 1, 1, 0, 0, 0), some (.iaload, 1, 0, 0, 0), some (.iload 6, 2, 0, 0, 0), none, some (.invokestatic 1, 3, 119, 2, (-1)), none, none, some (.ifCond .eq 0, 3, 94, 0, 0), none, none, some (.iload 3, 1, 0, 0, 0)],
  [some (.iload 6, 2, 0, 0, 0), none, some (.invokestatic 1, 3, 119, 2, (-1)), none, none, some (.ifCond .ne 0, 3, 94, 0, 0), none, none, some (.iload 5, 2, 0, 0, 0), none, some (.aload 0, 1, 0, 0, 0), some (.getfield 0, 3, 9, 8, 2), none, none, some (.iload 6, 2, 0, 0, 0), none],
  [some (.iaload, 1, 0, 0, 0), some (.aload 0, 1, 0, 0, 0), some (.getfield 0, 3, 4, 8, 2), none, none, some (.iload 6, 2, 0, 0, 0), none, some (.iaload, 1, 0, 0, 0), some (.iadd, 1, 0, 0, 0), some (.f2d, 3, 0, 0, 0), none, none, some (.istore 5, 2, 0, 0, 0), none, some (.iinc 6 1, 3, 0, 0, 0), none],
  [none, some (.goto 0, 3, 40, 0, 0), none, none, some (.iload 5, 2, 0, 0, 0), none, some (.ireturn, 1, 0, 0, 0), none, none, none, none, none, none, none, none, none]]
set_option maxRecDepth 100000 in
theorem k91 : pchk 8 1 cX8_soonestOf 0 t91 = true := by decide +kernel
def t92 : pT := [[some (.iconst (-1), 1, 0, 0, 0), some (.istore 2, 1, 0, 0, 0), some (.iconst 0, 1, 0, 0, 0), some (.istore 3, 1, 0, 0, 0), some (.iconst 0, 1, 0, 0, 0), some (.istore 4, 2, 0, 0, 0), none, some (.iload 4, 2, 0, 0, 0), none, some (.aload 0, 1, 0, 0, 0), some (.getfield 0, 3, 0, 8, 2), none, none, some (.getfield 0, 3, 2, 6, 0), none, none],
  [some (.if_icmp .ge 0, 3, 71, 0, 0), none, none, some (.iload 1, 1, 0, 0, 0), some (.iload 4, 2, 0, 0, 0), none, some (.invokestatic 1, 3, 119, 2, (-1)), none, none, some (.ifCond .eq 0, 3, 65, 0, 0), none, none, some (.iload 2, 1, 0, 0, 0), some (.iconst (-1), 1, 0, 0, 0), some (.if_icmp .ne 0, 3, 43, 0, 0), none],
  [none, some (.aload 0, 1, 0, 0, 0), some (.getfield 0, 3, 9, 8, 2), none, none, some (.iload 4, 2, 0, 0, 0), none, some (.iaload, 1, 0, 0, 0), some (.goto 0, 3, 54, 0, 0), none, none, some (.iload 2, 1, 0, 0, 0), some (.aload 0, 1, 0, 0, 0), some (.getfield 0, 3, 9, 8, 2), none, none],
  [some (.iload 4, 2, 0, 0, 0), none, some (.iaload, 1, 0, 0, 0), some (.f2i, 3, 0, 0, 0), none, none, some (.istore 2, 1, 0, 0, 0), some (.iload 3, 1, 0, 0, 0), some (.aload 0, 1, 0, 0, 0), some (.getfield 0, 3, 4, 8, 2), none, none, some (.iload 4, 2, 0, 0, 0), none, some (.iaload, 1, 0, 0, 0), some (.iadd, 1, 0, 0, 0)],
  [some (.istore 3, 1, 0, 0, 0), some (.iinc 4 1, 3, 0, 0, 0), none, none, some (.goto 0, 3, 7, 0, 0), none, none, some (.iload 3, 1, 0, 0, 0), some (.ifCond .ne 0, 3, 79, 0, 0), none, none, some (.iconst 0, 1, 0, 0, 0), some (.goto 0, 3, 82, 0, 0), none, none, some (.iload 2, 1, 0, 0, 0)],
  [some (.iload 3, 1, 0, 0, 0), some (.iadd, 1, 0, 0, 0), some (.ireturn, 1, 0, 0, 0), none, none, none, none, none, none, none, none, none, none, none, none, none]]
set_option maxRecDepth 100000 in
theorem k92 : pchk 8 1 cX8_queueBound 0 t92 = true := by decide +kernel
def t93 : pT := [[some (.aload 0, 1, 0, 0, 0), some (.getfield 0, 3, 1, 8, 2), none, none, some (.iload 1, 1, 0, 0, 0), some (.iaload, 1, 0, 0, 0), some (.aload 0, 1, 0, 0, 0), some (.getfield 0, 3, 4, 8, 2), none, none, some (.iload 1, 1, 0, 0, 0), some (.iaload, 1, 0, 0, 0), some (.iadd, 1, 0, 0, 0), some (.istore 2, 1, 0, 0, 0), some (.iload 2, 1, 0, 0, 0), some (.aload 0, 1, 0, 0, 0)],
  [some (.getfield 0, 3, 2, 8, 0), none, none, some (.if_icmp .lt 0, 3, 24, 0, 0), none, none, some (.iconst 1, 1, 0, 0, 0), some (.ireturn, 1, 0, 0, 3), some (.iconst 0, 1, 0, 0, 0), some (.istore 3, 1, 0, 0, 0), some (.iload 3, 1, 0, 0, 0), some (.aload 0, 1, 0, 0, 0), some (.getfield 0, 3, 0, 8, 2), none, none, some (.getfield 0, 3, 2, 6, 0)],
  [none, none, some (.if_icmp .ge 0, 3, 96, 0, 0), none, none, some (.aload 0, 1, 0, 0, 0), some (.getfield 0, 3, 6, 8, 2), none, none, some (.iload 1, 1, 0, 0, 0), some (.iaload, 1, 0, 0, 0), some (.iload 3, 1, 0, 0, 0), some (.invokestatic 1, 3, 119, 2, (-1)), none, none, some (.ifCond .ne 0, 3, 66, 0, 0)],
  [none, none, some (.aload 0, 1, 0, 0, 0), some (.getfield 0, 3, 0, 8, 2), none, none, some (.getfield 0, 3, 11, 6, 2), none, none, some (.iload 3, 1, 0, 0, 0), some (.iaload, 1, 0, 0, 0), some (.iload 1, 1, 0, 0, 0), some (.invokestatic 1, 3, 119, 2, (-1)), none, none, some (.ifCond .eq 0, 3, 70, 0, 0)],
  [none, none, some (.iconst 1, 1, 0, 0, 0), some (.goto 0, 3, 71, 0, 0), none, none, some (.iconst 0, 1, 0, 0, 0), some (.istore 4, 2, 0, 0, 0), none, some (.iload 4, 2, 0, 0, 0), none, some (.ifCond .eq 0, 3, 90, 0, 0), none, none, some (.aload 0, 1, 0, 0, 0), some (.getfield 0, 3, 1, 8, 2)],
  [none, none, some (.iload 3, 1, 0, 0, 0), some (.iaload, 1, 0, 0, 0), some (.iload 2, 1, 0, 0, 0), some (.if_icmp .ne 0, 3, 90, 0, 0), none, none, some (.iconst 1, 1, 0, 0, 0), some (.ireturn, 1, 0, 0, 3), some (.iinc 3 1, 3, 0, 0, 0), none, none, some (.goto 0, 3, 26, 0, 0), none, none],
  [some (.iconst 0, 1, 0, 0, 0), some (.ireturn, 1, 0, 0, 3), none, none, none, none, none, none, none, none, none, none, none, none, none, none]]
set_option maxRecDepth 100000 in
theorem k93 : pchk 8 3 cX8_isHeld 0 t93 = true := by decide +kernel
def t94 : pT := [[some (.aload 1, 1, 0, 0, 0), some (.getfield 0, 3, 2, 9, 0), none, none, some (.aload 0, 1, 0, 0, 0), some (.getfield 0, 3, 0, 8, 2), none, none, some (.getfield 0, 3, 2, 6, 0), none, none, some (.if_icmp .eq 0, 3, 16, 0, 0), none, none, some (.iconst (-1), 1, 0, 0, 0), some (.ireturn, 1, 0, 0, 0)],
  [some (.iconst 0, 1, 0, 0, 0), some (.istore 2, 1, 0, 0, 0), some (.iconst 0, 1, 0, 0, 0), some (.istore 3, 1, 0, 0, 0), some (.iconst 0, 1, 0, 0, 0), some (.istore 4, 2, 0, 0, 0), none, some (.iload 4, 2, 0, 0, 0), none, some (.aload 0, 1, 0, 0, 0), some (.getfield 0, 3, 0, 8, 2), none, none, some (.getfield 0, 3, 2, 6, 0), none, none],
  [some (.if_icmp .ge 0, 3, 141, 0, 0), none, none, some (.aload 1, 1, 0, 0, 0), some (.iload 4, 2, 0, 0, 0), none, some (.invokestatic 1, 3, 99, 2, 9), none, none, some (.iconst 48, 2, 0, 0, 0), none, some (.isub, 1, 0, 0, 0), some (.istore 5, 2, 0, 0, 0), none, some (.iload 5, 2, 0, 0, 0), none],
  [some (.i2l, 1, 0, 0, 0), some (.ldc2_w 0, 1, 0, 0, 0), some (.aload 0, 1, 0, 0, 0), some (.getfield 0, 3, 0, 8, 2), none, none, some (.getfield 0, 3, 2, 6, 0), none, none, some (.iconst 1, 1, 0, 0, 0), some (.isub, 1, 0, 0, 0), some (.i2l, 1, 0, 0, 0), some (.invokestatic 1, 3, 118, 3, (-1)), none, none, some (.ifCond .eq 0, 3, 92, 0, 0)],
  [none, none, some (.iload 2, 1, 0, 0, 0), some (.iload 5, 2, 0, 0, 0), none, some (.invokestatic 1, 3, 119, 2, (-1)), none, none, some (.ifCond .ne 0, 3, 92, 0, 0), none, none, some (.aload 0, 1, 0, 0, 0), some (.getfield 0, 3, 0, 8, 2), none, none, some (.getfield 0, 3, 11, 6, 2)],
  [none, none, some (.iload 5, 2, 0, 0, 0), none, some (.iaload, 1, 0, 0, 0), some (.iload 2, 1, 0, 0, 0), some (.iconst (-1), 1, 0, 0, 0), some (.ixor, 1, 0, 0, 0), some (.iand, 1, 0, 0, 0), some (.ifCond .eq 0, 3, 94, 0, 0), none, none, some (.iconst (-1), 1, 0, 0, 0), some (.ireturn, 1, 0, 0, 0), some (.aload 0, 1, 0, 0, 0), some (.getfield 0, 3, 8, 8, 2)],
  [none, none, some (.iload 5, 2, 0, 0, 0), none, some (.aload 0, 1, 0, 0, 0), some (.iload 5, 2, 0, 0, 0), none, some (.iload 2, 1, 0, 0, 0), some (.invokestatic 1, 3, 95, 3, 8), none, none, some (.iastore, 1, 0, 0, 0), some (.iload 3, 1, 0, 0, 0), some (.aload 0, 1, 0, 0, 0), some (.getfield 0, 3, 8, 8, 2), none],
  [none, some (.iload 5, 2, 0, 0, 0), none, some (.iaload, 1, 0, 0, 0), some (.aload 0, 1, 0, 0, 0), some (.getfield 0, 3, 4, 8, 2), none, none, some (.iload 5, 2, 0, 0, 0), none, some (.iaload, 1, 0, 0, 0), some (.iadd, 1, 0, 0, 0), some (.f2d, 3, 0, 0, 0), none, none, some (.istore 3, 1, 0, 0, 0)],
  [some (.iload 2, 1, 0, 0, 0), some (.iconst 1, 1, 0, 0, 0), some (.iload 5, 2, 0, 0, 0), none, some (.ishl, 1, 0, 0, 0), some (.ior, 1, 0, 0, 0), some (.istore 2, 1, 0, 0, 0), some (.iinc 4 1, 3, 0, 0, 0), none, none, some (.goto 0, 3, 23, 0, 0), none, none, some (.iload 3, 1, 0, 0, 0), some (.ireturn, 1, 0, 0, 0), none]]
set_option maxRecDepth 100000 in
theorem k94 : pchk 8 1 cX8_lengthByRow 0 t94 = true := by decide +kernel
def t95 : pT := [[some (.iconst 0, 1, 0, 0, 0), some (.istore 3, 1, 0, 0, 0), some (.iconst 0, 1, 0, 0, 0), some (.istore 4, 2, 0, 0, 0), none, some (.iload 4, 2, 0, 0, 0), none, some (.aload 0, 1, 0, 0, 0), some (.getfield 0, 3, 0, 8, 2), none, none, some (.getfield 0, 3, 2, 6, 0), none, none, some (.if_icmp .ge 0, 3, 60, 0, 0), none],
  [none, some (.aload 0, 1, 0, 0, 0), some (.getfield 0, 3, 0, 8, 2), none, none, some (.getfield 0, 3, 11, 6, 2), none, none, some (.iload 1, 1, 0, 0, 0), some (.iaload, 1, 0, 0, 0), some (.iload 4, 2, 0, 0, 0), none, some (.invokestatic 1, 3, 119, 2, (-1)), none, none, some (.ifCond .eq 0, 3, 54, 0, 0)],
  [none, none, some (.iload 3, 1, 0, 0, 0), some (.aload 0, 1, 0, 0, 0), some (.getfield 0, 3, 8, 8, 2), none, none, some (.iload 4, 2, 0, 0, 0), none, some (.iaload, 1, 0, 0, 0), some (.aload 0, 1, 0, 0, 0), some (.getfield 0, 3, 4, 8, 2), none, none, some (.iload 4, 2, 0, 0, 0), none],
  [some (.iaload, 1, 0, 0, 0), some (.iadd, 1, 0, 0, 0), some (.f2d, 3, 0, 0, 0), none, none, some (.istore 3, 1, 0, 0, 0), some (.iinc 4 1, 3, 0, 0, 0), none, none, some (.goto 0, 3, 5, 0, 0), none, none, some (.iconst 0, 1, 0, 0, 0), some (.istore 4, 2, 0, 0, 0), none, some (.iload 4, 2, 0, 0, 0)],
  [none, some (.aload 0, 1, 0, 0, 0), some (.getfield 0, 3, 0, 8, 2), none, none, some (.getfield 0, 3, 2, 6, 0), none, none, some (.if_icmp .ge 0, 3, 89, 0, 0), none, none, some (.aload 0, 1, 0, 0, 0), some (.iload 1, 1, 0, 0, 0), some (.iload 2, 1, 0, 0, 0), some (.iload 3, 1, 0, 0, 0), some (.invokestatic 1, 3, 96, 4, 8)],
  [none, none, some (.istore 3, 1, 0, 0, 0), some (.iinc 4 1, 3, 0, 0, 0), none, none, some (.goto 0, 3, 63, 0, 0), none, none, some (.iload 3, 1, 0, 0, 0), some (.ireturn, 1, 0, 0, 0), none, none, none, none, none]]
set_option maxRecDepth 100000 in
theorem k95 : pchk 8 1 cX8_firstGap 0 t95 = true := by decide +kernel
end
section
def t96 : pT := [[some (.iconst 0, 1, 0, 0, 0), some (.istore 4, 2, 0, 0, 0), none, some (.iload 4, 2, 0, 0, 0), none, some (.aload 0, 1, 0, 0, 0), some (.getfield 0, 3, 0, 8, 2), none, none, some (.getfield 0, 3, 2, 6, 0), none, none, some (.if_icmp .ge 0, 3, 109, 0, 0), none, none, some (.iload 2, 1, 0, 0, 0)],
  [some (.iload 4, 2, 0, 0, 0), none, some (.invokestatic 1, 3, 119, 2, (-1)), none, none, some (.ifCond .eq 0, 3, 42, 0, 0), none, none, some (.aload 0, 1, 0, 0, 0), some (.getfield 0, 3, 6, 8, 2), none, none, some (.iload 1, 1, 0, 0, 0), some (.iaload, 1, 0, 0, 0), some (.iload 4, 2, 0, 0, 0), none],
  [some (.invokestatic 1, 3, 119, 2, (-1)), none, none, some (.ifCond .eq 0, 3, 42, 0, 0), none, none, some (.iconst 1, 1, 0, 0, 0), some (.goto 0, 3, 43, 0, 0), none, none, some (.iconst 0, 1, 0, 0, 0), some (.istore 5, 2, 0, 0, 0), none, some (.iload 5, 2, 0, 0, 0), none, some (.ifCond .eq 0, 3, 103, 0, 0)],
  [none, none, some (.aload 0, 1, 0, 0, 0), some (.getfield 0, 3, 8, 8, 2), none, none, some (.iload 4, 2, 0, 0, 0), none, some (.iaload, 1, 0, 0, 0), some (.iload 3, 1, 0, 0, 0), some (.aload 0, 1, 0, 0, 0), some (.getfield 0, 3, 4, 8, 2), none, none, some (.iload 1, 1, 0, 0, 0), some (.iaload, 1, 0, 0, 0)],
  [some (.iadd, 1, 0, 0, 0), some (.if_icmp .ge 0, 3, 103, 0, 0), none, none, some (.aload 0, 1, 0, 0, 0), some (.getfield 0, 3, 8, 8, 2), none, none, some (.iload 4, 2, 0, 0, 0), none, some (.iaload, 1, 0, 0, 0), some (.aload 0, 1, 0, 0, 0), some (.getfield 0, 3, 4, 8, 2), none, none, some (.iload 4, 2, 0, 0, 0)],
  [none, some (.iaload, 1, 0, 0, 0), some (.iadd, 1, 0, 0, 0), some (.iload 3, 1, 0, 0, 0), some (.if_icmp .le 0, 3, 103, 0, 0), none, none, some (.aload 0, 1, 0, 0, 0), some (.getfield 0, 3, 8, 8, 2), none, none, some (.iload 4, 2, 0, 0, 0), none, some (.iaload, 1, 0, 0, 0), some (.aload 0, 1, 0, 0, 0), some (.getfield 0, 3, 4, 8, 2)],
  [none, none, some (.iload 4, 2, 0, 0, 0), none, some (.iaload, 1, 0, 0, 0), some (.iadd, 1, 0, 0, 0), some (.ireturn, 1, 0, 0, 0), some (.iinc 4 1, 3, 0, 0, 0), none, none, some (.goto 0, 3, 3, 0, 0), none, none, some (.iload 3, 1, 0, 0, 0), some (.ireturn, 1, 0, 0, 0), none]]
set_option maxRecDepth 100000 in
theorem k96 : pchk 8 1 cX8_behindOneInTheWay 0 t96 = true := by decide +kernel
def t97 : pT := [[some (.aload 0, 1, 0, 0, 0), some (.pop, 3, 0, 0, 0), none, none, some (.aload 0, 1, 0, 0, 0), some (.iconst 800, 3, 0, 0, 0), none, none, some (.newarray .byte, 2, 102, 0, 0), none, some (.putfield 0, 3, 0, 9, 2), none, none, some (.aload 0, 1, 0, 0, 0), some (.iconst 0, 1, 0, 0, 0), some (.putfield 0, 3, 1, 9, 0)],
  [none, none, some (.aload 0, 1, 0, 0, 0), some (.iconst 0, 1, 0, 0, 0), some (.putfield 0, 3, 2, 9, 0), none, none, some (.aload 0, 1, 0, 0, 0), some (.iconst 0, 1, 0, 0, 0), some (.putfield 0, 3, 3, 9, 0), none, none, some (.aload 0, 1, 0, 0, 0), some (.iconst 0, 1, 0, 0, 0), some (.putfield 0, 3, 4, 9, 0), none],
  [none, some (.aload 0, 1, 0, 0, 0), some (.ldc2_w 0, 1, 0, 0, 0), some (.putfield 0, 3, 5, 9, 1), none, none, some (.return_, 1, 0, 0, 0), none, none, none, none, none, none, none, none, none]]
set_option maxRecDepth 100000 in
theorem k97 : pchk 9 0 cX9_init 0 t97 = true := by decide +kernel
def t98 : pT := [[some (.iconst 24, 2, 0, 0, 0), none, some (.istore 2, 1, 0, 0, 0), some (.iload 2, 1, 0, 0, 0), some (.ifCond .lt 0, 3, 46, 0, 0), none, none, some (.aload 0, 1, 0, 0, 0), some (.getfield 0, 3, 2, 9, 0), none, none, some (.iconst 800, 3, 0, 0, 0), none, none, some (.if_icmp .ge 0, 3, 46, 0, 0), none],
  [none, some (.aload 0, 1, 0, 0, 0), some (.getfield 0, 3, 0, 9, 2), none, none, some (.aload 0, 1, 0, 0, 0), some (.getfield 0, 3, 2, 9, 0), none, none, some (.iload 1, 1, 0, 0, 0), some (.iload 2, 1, 0, 0, 0), some (.iushr, 1, 0, 0, 0), some (.i2b, 1, 0, 0, 0), some (.bastore, 1, 0, 0, 0), some (.aload 0, 1, 0, 0, 0), some (.dup, 1, 0, 0, 0)],
  [some (.getfield 0, 3, 2, 9, 0), none, none, some (.iconst 1, 1, 0, 0, 0), some (.iadd, 1, 0, 0, 0), some (.putfield 0, 3, 2, 9, 0), none, none, some (.iinc 2 (-8), 3, 0, 0, 0), none, none, some (.goto 0, 3, 3, 0, 0), none, none, some (.return_, 1, 0, 0, 0), none]]
set_option maxRecDepth 100000 in
theorem k98 : pchk 9 0 cX9_append 0 t98 = true := by decide +kernel
def t99 : pT := [[some (.iload 1, 1, 0, 0, 0), some (.ifCond .lt 0, 3, 32, 0, 0), none, none, some (.iload 1, 1, 0, 0, 0), some (.iconst 800, 3, 0, 0, 0), none, none, some (.if_icmp .ge 0, 3, 32, 0, 0), none, none, some (.iload 1, 1, 0, 0, 0), some (.aload 0, 1, 0, 0, 0), some (.getfield 0, 3, 2, 9, 0), none, none],
  [some (.if_icmp .ge 0, 3, 32, 0, 0), none, none, some (.aload 0, 1, 0, 0, 0), some (.getfield 0, 3, 0, 9, 2), none, none, some (.iload 1, 1, 0, 0, 0), some (.baload, 1, 0, 0, 0), some (.iconst 255, 3, 0, 0, 0), none, none, some (.iand, 1, 0, 0, 0), some (.goto 0, 3, 33, 0, 0), none, none],
  [some (.iconst 0, 1, 0, 0, 0), some (.ireturn, 1, 0, 0, 0), none, none, none, none, none, none, none, none, none, none, none, none, none, none]]
set_option maxRecDepth 100000 in
theorem k99 : pchk 9 1 cX9_byteAt 0 t99 = true := by decide +kernel
def t100 : pT := [[some (.aload 0, 1, 0, 0, 0), some (.iconst 0, 1, 0, 0, 0), some (.putfield 0, 3, 1, 9, 0), none, none, some (.return_, 1, 0, 0, 0), none, none, none, none, none, none, none, none, none, none]]
set_option maxRecDepth 100000 in
theorem k100 : pchk 9 0 cX9_rewind 0 t100 = true := by decide +kernel
def t101 : pT := [[some (.aload 0, 1, 0, 0, 0), some (.getfield 0, 3, 1, 9, 0), none, none, some (.aload 0, 1, 0, 0, 0), some (.getfield 0, 3, 2, 9, 0), none, none, some (.if_icmp .ge 0, 3, 38, 0, 0), none, none, some (.aload 0, 1, 0, 0, 0), some (.aload 0, 1, 0, 0, 0), some (.getfield 0, 3, 1, 9, 0), none, none],
  [some (.invokestatic 1, 3, 99, 2, 9), none, none, some (.invokestatic 1, 3, 104, 1, (-1)), none, none, some (.ifCond .eq 0, 3, 38, 0, 0), none, none, some (.aload 0, 1, 0, 0, 0), some (.dup, 1, 0, 0, 0), some (.getfield 0, 3, 1, 9, 0), none, none, some (.iconst 1, 1, 0, 0, 0), some (.iadd, 1, 0, 0, 0)],
  [some (.putfield 0, 3, 1, 9, 0), none, none, some (.goto 0, 3, 0, 0, 0), none, none, some (.aload 0, 1, 0, 0, 0), some (.aload 0, 1, 0, 0, 0), some (.getfield 0, 3, 1, 9, 0), none, none, some (.putfield 0, 3, 4, 9, 0), none, none, some (.aload 0, 1, 0, 0, 0), some (.ldc2_w 0, 1, 0, 0, 0)],
  [some (.putfield 0, 3, 5, 9, 1), none, none, some (.aload 0, 1, 0, 0, 0), some (.getfield 0, 3, 1, 9, 0), none, none, some (.aload 0, 1, 0, 0, 0), some (.getfield 0, 3, 2, 9, 0), none, none, some (.if_icmp .lt 0, 3, 68, 0, 0), none, none, some (.aload 0, 1, 0, 0, 0), some (.iconst 0, 1, 0, 0, 0)],
  [some (.putfield 0, 3, 3, 9, 0), none, none, some (.return_, 1, 0, 0, 0), some (.aload 0, 1, 0, 0, 0), some (.aload 0, 1, 0, 0, 0), some (.getfield 0, 3, 1, 9, 0), none, none, some (.invokestatic 1, 3, 99, 2, 9), none, none, some (.istore 1, 1, 0, 0, 0), some (.iload 1, 1, 0, 0, 0), some (.invokestatic 1, 3, 105, 1, (-1)), none],
  [none, some (.ifCond .eq 0, 3, 91, 0, 0), none, none, some (.aload 0, 1, 0, 0, 0), some (.invokestatic 0, 3, 102, 1, 9), none, none, some (.goto 0, 3, 130, 0, 0), none, none, some (.iload 1, 1, 0, 0, 0), some (.invokestatic 1, 3, 106, 1, (-1)), none, none, some (.ifCond .eq 0, 3, 105, 0, 0)],
  [none, none, some (.aload 0, 1, 0, 0, 0), some (.invokestatic 0, 3, 103, 1, 9), none, none, some (.goto 0, 3, 130, 0, 0), none, none, some (.aload 0, 1, 0, 0, 0), some (.iload 1, 1, 0, 0, 0), some (.iconst 59, 2, 0, 0, 0), none, some (.if_icmp .ne 0, 3, 116, 0, 0), none, none],
  [some (.iconst 3, 1, 0, 0, 0), some (.goto 0, 3, 117, 0, 0), none, none, some (.iconst 4, 1, 0, 0, 0), some (.putfield 0, 3, 3, 9, 0), none, none, some (.aload 0, 1, 0, 0, 0), some (.dup, 1, 0, 0, 0), some (.getfield 0, 3, 1, 9, 0), none, none, some (.iconst 1, 1, 0, 0, 0), some (.iadd, 1, 0, 0, 0), some (.putfield 0, 3, 1, 9, 0)],
  [none, none, some (.return_, 1, 0, 0, 0), none, none, none, none, none, none, none, none, none, none, none, none, none]]
set_option maxRecDepth 100000 in
theorem k101 : pchk 9 0 cX9_advance 0 t101 = true := by decide +kernel
def t102 : pT := [[some (.aload 0, 1, 0, 0, 0), some (.getfield 0, 3, 1, 9, 0), none, none, some (.aload 0, 1, 0, 0, 0), some (.getfield 0, 3, 2, 9, 0), none, none, some (.if_icmp .ge 0, 3, 66, 0, 0), none, none, some (.aload 0, 1, 0, 0, 0), some (.aload 0, 1, 0, 0, 0), some (.getfield 0, 3, 1, 9, 0), none, none],
  [some (.invokestatic 1, 3, 99, 2, 9), none, none, some (.invokestatic 1, 3, 105, 1, (-1)), none, none, some (.ifCond .eq 0, 3, 66, 0, 0), none, none, some (.aload 0, 1, 0, 0, 0), some (.aload 0, 1, 0, 0, 0), some (.getfield 0, 3, 5, 9, 1), none, none, some (.ldc2_w 0, 3, 0, 0, 27), none],
  [none, some (.lmul, 1, 0, 0, 0), some (.aload 0, 1, 0, 0, 0), some (.aload 0, 1, 0, 0, 0), some (.getfield 0, 3, 1, 9, 0), none, none, some (.invokestatic 1, 3, 99, 2, 9), none, none, some (.i2l, 1, 0, 0, 0), some (.ladd, 1, 0, 0, 0), some (.ldc2_w 0, 3, 0, 0, 97), none, none, some (.lsub, 1, 0, 0, 0)],
  [some (.ldc2_w 0, 1, 0, 0, 1), some (.ladd, 1, 0, 0, 0), some (.putfield 0, 3, 5, 9, 1), none, none, some (.aload 0, 1, 0, 0, 0), some (.dup, 1, 0, 0, 0), some (.getfield 0, 3, 1, 9, 0), none, none, some (.iconst 1, 1, 0, 0, 0), some (.iadd, 1, 0, 0, 0), some (.putfield 0, 3, 1, 9, 0), none, none, some (.goto 0, 3, 0, 0, 0)],
  [none, none, some (.aload 0, 1, 0, 0, 0), some (.aload 0, 1, 0, 0, 0), some (.getfield 0, 3, 1, 9, 0), none, none, some (.aload 0, 1, 0, 0, 0), some (.getfield 0, 3, 4, 9, 0), none, none, some (.isub, 1, 0, 0, 0), some (.iconst 8, 2, 0, 0, 0), none, some (.if_icmp .le 0, 3, 85, 0, 0), none],
  [none, some (.iconst 4, 1, 0, 0, 0), some (.goto 0, 3, 86, 0, 0), none, none, some (.iconst 1, 1, 0, 0, 0), some (.putfield 0, 3, 3, 9, 0), none, none, some (.return_, 1, 0, 0, 0), none, none, none, none, none, none]]
set_option maxRecDepth 100000 in
theorem k102 : pchk 9 0 cX9_readWord 0 t102 = true := by decide +kernel
def t103 : pT := [[some (.aload 0, 1, 0, 0, 0), some (.getfield 0, 3, 1, 9, 0), none, none, some (.aload 0, 1, 0, 0, 0), some (.getfield 0, 3, 2, 9, 0), none, none, some (.if_icmp .ge 0, 3, 64, 0, 0), none, none, some (.aload 0, 1, 0, 0, 0), some (.aload 0, 1, 0, 0, 0), some (.getfield 0, 3, 1, 9, 0), none, none],
  [some (.invokestatic 1, 3, 99, 2, 9), none, none, some (.invokestatic 1, 3, 106, 1, (-1)), none, none, some (.ifCond .eq 0, 3, 64, 0, 0), none, none, some (.aload 0, 1, 0, 0, 0), some (.aload 0, 1, 0, 0, 0), some (.getfield 0, 3, 5, 9, 1), none, none, some (.ldc2_w 0, 3, 0, 0, 10), none],
  [none, some (.lmul, 1, 0, 0, 0), some (.aload 0, 1, 0, 0, 0), some (.aload 0, 1, 0, 0, 0), some (.getfield 0, 3, 1, 9, 0), none, none, some (.invokestatic 1, 3, 99, 2, 9), none, none, some (.i2l, 1, 0, 0, 0), some (.ladd, 1, 0, 0, 0), some (.ldc2_w 0, 3, 0, 0, 48), none, none, some (.lsub, 1, 0, 0, 0)],
  [some (.putfield 0, 3, 5, 9, 1), none, none, some (.aload 0, 1, 0, 0, 0), some (.dup, 1, 0, 0, 0), some (.getfield 0, 3, 1, 9, 0), none, none, some (.iconst 1, 1, 0, 0, 0), some (.iadd, 1, 0, 0, 0), some (.putfield 0, 3, 1, 9, 0), none, none, some (.goto 0, 3, 0, 0, 0), none, none],
  [some (.aload 0, 1, 0, 0, 0), some (.aload 0, 1, 0, 0, 0), some (.getfield 0, 3, 1, 9, 0), none, none, some (.aload 0, 1, 0, 0, 0), some (.getfield 0, 3, 4, 9, 0), none, none, some (.isub, 1, 0, 0, 0), some (.iconst 4, 1, 0, 0, 0), some (.if_icmp .le 0, 3, 82, 0, 0), none, none, some (.iconst 4, 1, 0, 0, 0), some (.goto 0, 3, 83, 0, 0)],
  [none, none, some (.iconst 2, 1, 0, 0, 0), some (.putfield 0, 3, 3, 9, 0), none, none, some (.return_, 1, 0, 0, 0), none, none, none, none, none, none, none, none, none]]
set_option maxRecDepth 100000 in
theorem k103 : pchk 9 0 cX9_readNumber 0 t103 = true := by decide +kernel
def t104 : pT := [[some (.iload 0, 1, 0, 0, 0), some (.iconst 32, 2, 0, 0, 0), none, some (.if_icmp .eq 0, 3, 12, 0, 0), none, none, some (.iload 0, 1, 0, 0, 0), some (.iconst 10, 2, 0, 0, 0), none, some (.if_icmp .ne 0, 3, 16, 0, 0), none, none, some (.iconst 1, 1, 0, 0, 0), some (.goto 0, 3, 17, 0, 0), none, none],
  [some (.iconst 0, 1, 0, 0, 0), some (.ireturn, 1, 0, 0, 3), none, none, none, none, none, none, none, none, none, none, none, none, none, none]]
set_option maxRecDepth 100000 in
theorem k104 : pchk 9 3 cX9_isBlank 0 t104 = true := by decide +kernel
def t105 : pT := [[some (.iload 0, 1, 0, 0, 0), some (.iconst 97, 2, 0, 0, 0), none, some (.if_icmp .lt 0, 3, 16, 0, 0), none, none, some (.iload 0, 1, 0, 0, 0), some (.iconst 122, 2, 0, 0, 0), none, some (.if_icmp .gt 0, 3, 16, 0, 0), none, none, some (.iconst 1, 1, 0, 0, 0), some (.goto 0, 3, 17, 0, 0), none, none],
  [some (.iconst 0, 1, 0, 0, 0), some (.ireturn, 1, 0, 0, 3), none, none, none, none, none, none, none, none, none, none, none, none, none, none]]
set_option maxRecDepth 100000 in
theorem k105 : pchk 9 3 cX9_isLetter 0 t105 = true := by decide +kernel
def t106 : pT := [[some (.iload 0, 1, 0, 0, 0), some (.iconst 48, 2, 0, 0, 0), none, some (.if_icmp .lt 0, 3, 16, 0, 0), none, none, some (.iload 0, 1, 0, 0, 0), some (.iconst 57, 2, 0, 0, 0), none, some (.if_icmp .gt 0, 3, 16, 0, 0), none, none, some (.iconst 1, 1, 0, 0, 0), some (.goto 0, 3, 17, 0, 0), none, none],
  [some (.iconst 0, 1, 0, 0, 0), some (.ireturn, 1, 0, 0, 3), none, none, none, none, none, none, none, none, none, none, none, none, none, none]]
set_option maxRecDepth 100000 in
theorem k106 : pchk 9 3 cX9_isDigit 0 t106 = true := by decide +kernel
def t107 : pT := [[some (.aload 0, 1, 0, 0, 0), some (.pop, 3, 0, 0, 0), none, none, some (.aload 0, 1, 0, 0, 0), some (.iconst 10, 2, 0, 0, 0), none, some (.newarray .int, 2, 100, 0, 0), none, some (.putfield 0, 3, 0, 10, 2), none, none, some (.aload 0, 1, 0, 0, 0), some (.iconst 0, 1, 0, 0, 0), some (.putfield 0, 3, 1, 10, 0), none],
  [none, some (.aload 0, 1, 0, 0, 0), some (.iconst 10, 2, 0, 0, 0), none, some (.newarray .int, 2, 100, 0, 0), none, some (.putfield 0, 3, 2, 10, 2), none, none, some (.aload 0, 1, 0, 0, 0), some (.iconst 4, 1, 0, 0, 0), some (.newarray .int, 2, 100, 0, 0), none, some (.putfield 0, 3, 3, 10, 2), none, none],
  [some (.aload 0, 1, 0, 0, 0), some (.iconst 4, 1, 0, 0, 0), some (.newarray .int, 2, 100, 0, 0), none, some (.putfield 0, 3, 4, 10, 2), none, none, some (.aload 0, 1, 0, 0, 0), some (.iconst 0, 1, 0, 0, 0), some (.putfield 0, 3, 5, 10, 0), none, none, some (.aload 0, 1, 0, 0, 0), some (.ldc2_w 0, 1, 0, 0, 0), some (.putfield 0, 3, 6, 10, 1), none],
  [none, some (.aload 0, 1, 0, 0, 0), some (.ldc2_w 0, 3, 0, 0, (-1)), none, none, some (.putfield 0, 3, 7, 10, 1), none, none, some (.aload 0, 1, 0, 0, 0), some (.iconst 4, 1, 0, 0, 0), some (.newarray .int, 2, 100, 0, 0), none, some (.putfield 0, 3, 8, 10, 2), none, none, some (.aload 0, 1, 0, 0, 0)],
  [some (.iconst 4, 1, 0, 0, 0), some (.newarray .int, 2, 100, 0, 0), none, some (.putfield 0, 3, 9, 10, 2), none, none, some (.aload 0, 1, 0, 0, 0), some (.iconst 0, 1, 0, 0, 0), some (.putfield 0, 3, 10, 10, 0), none, none, some (.aload 0, 1, 0, 0, 0), some (.ldc2_w 0, 1, 0, 0, 0), some (.putfield 0, 3, 11, 10, 1), none, none],
  [some (.aload 0, 1, 0, 0, 0), some (.ldc2_w 0, 1, 0, 0, 1), some (.putfield 0, 3, 12, 10, 1), none, none, some (.aload 0, 1, 0, 0, 0), some (.iconst 0, 1, 0, 0, 0), some (.putfield 0, 3, 13, 10, 0), none, none, some (.aload 0, 1, 0, 0, 0), some (.ldc2_w 0, 1, 0, 0, 1), some (.putfield 0, 3, 14, 10, 1), none, none, some (.aload 0, 1, 0, 0, 0)],
  [some (.ldc2_w 0, 1, 0, 0, 1), some (.putfield 0, 3, 15, 10, 1), none, none, some (.return_, 1, 0, 0, 0), none, none, none, none, none, none, none, none, none, none, none]]
set_option maxRecDepth 100000 in
theorem k107 : pchk 10 0 cX10_init 0 t107 = true := by decide +kernel
def t108 : pT := [[some (.aload 1, 1, 0, 0, 0), some (.invokestatic 0, 3, 100, 1, 9), none, none, some (.iconst 0, 1, 0, 0, 0), some (.istore 2, 1, 0, 0, 0), some (.iload 2, 1, 0, 0, 0), some (.iconst 10, 2, 0, 0, 0), none, some (.if_icmp .gt 0, 3, 103, 0, 0), none, none, some (.aload 1, 1, 0, 0, 0), some (.invokestatic 0, 3, 101, 1, 9), none, none],
  [some (.aload 1, 1, 0, 0, 0), some (.getfield 0, 3, 3, 9, 0), none, none, some (.ifCond .ne 0, 3, 44, 0, 0), none, none, some (.aload 0, 1, 0, 0, 0), some (.getfield 0, 3, 2, 10, 2), none, none, some (.iconst 0, 1, 0, 0, 0), some (.aload 0, 1, 0, 0, 0), some (.getfield 0, 3, 0, 10, 2), none, none],
  [some (.iconst 0, 1, 0, 0, 0), some (.iload 2, 1, 0, 0, 0), some (.d2l, 3, 0, 0, 0), none, none, some (.aload 0, 1, 0, 0, 0), some (.iload 2, 1, 0, 0, 0), some (.putfield 0, 3, 1, 10, 0), none, none, some (.iload 2, 1, 0, 0, 0), some (.ireturn, 1, 0, 0, 0), some (.aload 1, 1, 0, 0, 0), some (.getfield 0, 3, 3, 9, 0), none, none],
  [some (.iconst 2, 1, 0, 0, 0), some (.if_icmp .ne 0, 3, 72, 0, 0), none, none, some (.aload 1, 1, 0, 0, 0), some (.getfield 0, 3, 5, 9, 1), none, none, some (.ldc2_w 0, 3, 0, 0, 10), none, none, some (.ldc2_w 0, 3, 0, 0, 200), none, none, some (.invokestatic 1, 3, 118, 3, (-1)), none],
  [none, some (.ifCond .eq 0, 3, 72, 0, 0), none, none, some (.iconst 1, 1, 0, 0, 0), some (.goto 0, 3, 73, 0, 0), none, none, some (.iconst 0, 1, 0, 0, 0), some (.istore 3, 1, 0, 0, 0), some (.iload 2, 1, 0, 0, 0), some (.iconst 10, 2, 0, 0, 0), none, some (.if_icmp .ge 0, 3, 84, 0, 0), none, none],
  [some (.iload 3, 1, 0, 0, 0), some (.ifCond .ne 0, 3, 86, 0, 0), none, none, some (.iconst (-1), 1, 0, 0, 0), some (.ireturn, 1, 0, 0, 0), some (.aload 0, 1, 0, 0, 0), some (.getfield 0, 3, 2, 10, 2), none, none, some (.iload 2, 1, 0, 0, 0), some (.aload 1, 1, 0, 0, 0), some (.getfield 0, 3, 5, 9, 1), none, none, some (.l2i, 1, 0, 0, 0)],
  [some (.iastore, 1, 0, 0, 0), some (.iinc 2 1, 3, 0, 0, 0), none, none, some (.goto 0, 3, 6, 0, 0), none, none, some (.iconst (-1), 1, 0, 0, 0), some (.ireturn, 1, 0, 0, 0), none, none, none, none, none, none, none]]
set_option maxRecDepth 100000 in
theorem k108 : pchk 10 1 cX10_readBox 0 t108 = true := by decide +kernel
def t109 : pT := [[some (.aload 0, 1, 0, 0, 0), some (.iload 1, 1, 0, 0, 0), some (.iload 2, 1, 0, 0, 0), some (.iload 3, 1, 0, 0, 0), some (.invokestatic 0, 3, 113, 4, 10), none, none, some (.aload 0, 1, 0, 0, 0), some (.getfield 0, 3, 10, 10, 0), none, none, some (.ifCond .ne 0, 3, 16, 0, 0), none, none, some (.iconst (-1), 1, 0, 0, 0), some (.ireturn, 1, 0, 0, 0)],
  [some (.aload 0, 1, 0, 0, 0), some (.aload 0, 1, 0, 0, 0), some (.getfield 0, 3, 10, 10, 0), none, none, some (.putfield 0, 3, 5, 10, 0), none, none, some (.iconst 0, 1, 0, 0, 0), some (.istore 4, 2, 0, 0, 0), none, some (.iload 4, 2, 0, 0, 0), none, some (.iconst 4, 1, 0, 0, 0), some (.if_icmp .ge 0, 3, 106, 0, 0), none],
  [none, some (.iload 4, 2, 0, 0, 0), none, some (.aload 0, 1, 0, 0, 0), some (.getfield 0, 3, 10, 10, 0), none, none, some (.if_icmp .ge 0, 3, 46, 0, 0), none, none, some (.iconst 1, 1, 0, 0, 0), some (.goto 0, 3, 47, 0, 0), none, none, some (.iconst 0, 1, 0, 0, 0), some (.istore 5, 2, 0, 0, 0)],
  [none, some (.aload 0, 1, 0, 0, 0), some (.getfield 0, 3, 3, 10, 2), none, none, some (.iload 4, 2, 0, 0, 0), none, some (.iload 5, 2, 0, 0, 0), none, some (.ifCond .eq 0, 3, 70, 0, 0), none, none, some (.aload 0, 1, 0, 0, 0), some (.getfield 0, 3, 9, 10, 2), none, none],
  [some (.iload 4, 2, 0, 0, 0), none, some (.iaload, 1, 0, 0, 0), some (.goto 0, 3, 71, 0, 0), none, none, some (.iconst (-1), 1, 0, 0, 0), some (.iastore, 1, 0, 0, 0), some (.aload 0, 1, 0, 0, 0), some (.getfield 0, 3, 4, 10, 2), none, none, some (.iload 4, 2, 0, 0, 0), none, some (.iload 5, 2, 0, 0, 0), none],
  [some (.ifCond .eq 0, 3, 98, 0, 0), none, none, some (.aload 0, 1, 0, 0, 0), some (.getfield 0, 3, 0, 10, 2), none, none, some (.aload 0, 1, 0, 0, 0), some (.getfield 0, 3, 9, 10, 2), none, none, some (.iload 4, 2, 0, 0, 0), none, some (.iaload, 1, 0, 0, 0), some (.iaload, 1, 0, 0, 0), some (.goto 0, 3, 99, 0, 0)],
  [none, none, some (.iconst 1, 1, 0, 0, 0), some (.iastore, 1, 0, 0, 0), some (.iinc 4 1, 3, 0, 0, 0), none, none, some (.goto 0, 3, 27, 0, 0), none, none, some (.aload 0, 1, 0, 0, 0), some (.invokestatic 0, 3, 110, 1, 10), none, none, some (.aload 0, 1, 0, 0, 0), some (.getfield 0, 3, 5, 10, 0)],
  [none, none, some (.ireturn, 1, 0, 0, 0), none, none, none, none, none, none, none, none, none, none, none, none, none]]
set_option maxRecDepth 100000 in
theorem k109 : pchk 10 1 cX10_setTrain 0 t109 = true := by decide +kernel
def t110 : pT := [[some (.aload 0, 1, 0, 0, 0), some (.getfield 0, 3, 4, 10, 2), none, none, some (.iconst 0, 1, 0, 0, 0), some (.iaload, 1, 0, 0, 0), some (.i2l, 1, 0, 0, 0), some (.aload 0, 1, 0, 0, 0), some (.getfield 0, 3, 4, 10, 2), none, none, some (.iconst 2, 1, 0, 0, 0), some (.iaload, 1, 0, 0, 0), some (.i2l, 1, 0, 0, 0), some (.lmul, 1, 0, 0, 0), some (.lstore 1, 1, 0, 0, 0)],
  [some (.aload 0, 1, 0, 0, 0), some (.getfield 0, 3, 4, 10, 2), none, none, some (.iconst 1, 1, 0, 0, 0), some (.iaload, 1, 0, 0, 0), some (.i2l, 1, 0, 0, 0), some (.aload 0, 1, 0, 0, 0), some (.getfield 0, 3, 4, 10, 2), none, none, some (.iconst 3, 1, 0, 0, 0), some (.iaload, 1, 0, 0, 0), some (.i2l, 1, 0, 0, 0), some (.lmul, 1, 0, 0, 0), some (.lstore 3, 1, 0, 0, 0)],
  [some (.lload 1, 1, 0, 0, 0), some (.aload 0, 1, 0, 0, 0), some (.getfield 0, 3, 15, 10, 1), none, none, some (.lmul, 1, 0, 0, 0), some (.aload 0, 1, 0, 0, 0), some (.getfield 0, 3, 14, 10, 1), none, none, some (.lload 3, 1, 0, 0, 0), some (.lmul, 1, 0, 0, 0), some (.lsub, 1, 0, 0, 0), some (.lstore 5, 2, 0, 0, 0), none, some (.lload 5, 2, 0, 0, 0)],
  [none, some (.d2f, 3, 0, 0, 0), none, none, some (.lload 3, 1, 0, 0, 0), some (.aload 0, 1, 0, 0, 0), some (.getfield 0, 3, 15, 10, 1), none, none, some (.lmul, 1, 0, 0, 0), some (.invokestatic 2, 3, 111, 2, (-1)), none, none, some (.lstore 7, 2, 0, 0, 0), none, some (.aload 0, 1, 0, 0, 0)],
  [some (.lload 5, 2, 0, 0, 0), none, some (.lload 7, 2, 0, 0, 0), none, some (.ldiv, 1, 0, 0, 0), some (.putfield 0, 3, 6, 10, 1), none, none, some (.aload 0, 1, 0, 0, 0), some (.lload 3, 1, 0, 0, 0), some (.aload 0, 1, 0, 0, 0), some (.getfield 0, 3, 15, 10, 1), none, none, some (.lmul, 1, 0, 0, 0), some (.lload 7, 2, 0, 0, 0)],
  [none, some (.ldiv, 1, 0, 0, 0), some (.putfield 0, 3, 7, 10, 1), none, none, some (.return_, 1, 0, 0, 0), none, none, none, none, none, none, none, none, none, none]]
set_option maxRecDepth 100000 in
theorem k110 : pchk 10 0 cX10_setOff 0 t110 = true := by decide +kernel
def t111 : pT := [[some (.lload 0, 1, 0, 0, 0), some (.lstore 4, 2, 0, 0, 0), none, some (.lload 2, 1, 0, 0, 0), some (.lstore 6, 2, 0, 0, 0), none, some (.iconst 0, 1, 0, 0, 0), some (.istore 8, 2, 0, 0, 0), none, some (.iload 8, 2, 0, 0, 0), none, some (.iconst 200, 3, 0, 0, 0), none, none, some (.if_icmp .ge 0, 3, 45, 0, 0), none],
  [none, some (.lload 6, 2, 0, 0, 0), none, some (.ldc2_w 0, 1, 0, 0, 0), some (.lcmp, 1, 0, 0, 0), some (.ifCond .eq 0, 3, 45, 0, 0), none, none, some (.lload 4, 2, 0, 0, 0), none, some (.lload 6, 2, 0, 0, 0), none, some (.lrem, 1, 0, 0, 0), some (.lstore 9, 2, 0, 0, 0), none, some (.lload 6, 2, 0, 0, 0)],
  [none, some (.lstore 4, 2, 0, 0, 0), none, some (.lload 9, 2, 0, 0, 0), none, some (.lstore 6, 2, 0, 0, 0), none, some (.iinc 8 1, 3, 0, 0, 0), none, none, some (.goto 0, 3, 9, 0, 0), none, none, some (.ldc2_w 0, 1, 0, 0, 1), some (.lload 4, 2, 0, 0, 0), none],
  [some (.d2i, 3, 0, 0, 0), none, none, some (.lreturn, 1, 0, 0, 0), none, none, none, none, none, none, none, none, none, none, none, none]]
set_option maxRecDepth 100000 in
theorem k111 : pchk 10 2 cX10_greatestCommon 0 t111 = true := by decide +kernel
def t112 : pT := [[some (.aload 0, 1, 0, 0, 0), some (.iload 1, 1, 0, 0, 0), some (.iload 2, 1, 0, 0, 0), some (.iconst (-1), 1, 0, 0, 0), some (.invokestatic 0, 3, 113, 4, 10), none, none, some (.aload 0, 1, 0, 0, 0), some (.getfield 0, 3, 13, 10, 0), none, none, some (.ireturn, 1, 0, 0, 0), none, none, none, none]]
set_option maxRecDepth 100000 in
theorem k112 : pchk 10 1 cX10_countExact 0 t112 = true := by decide +kernel
def t113 : pT := [[some (.aload 0, 1, 0, 0, 0), some (.iload 1, 1, 0, 0, 0), some (.i2l, 1, 0, 0, 0), some (.putfield 0, 3, 14, 10, 1), none, none, some (.aload 0, 1, 0, 0, 0), some (.iload 2, 1, 0, 0, 0), some (.i2l, 1, 0, 0, 0), some (.putfield 0, 3, 15, 10, 1), none, none, some (.aload 0, 1, 0, 0, 0), some (.iconst 0, 1, 0, 0, 0), some (.putfield 0, 3, 10, 10, 0), none],
  [none, some (.aload 0, 1, 0, 0, 0), some (.iconst 0, 1, 0, 0, 0), some (.putfield 0, 3, 13, 10, 0), none, none, some (.iload 3, 1, 0, 0, 0), some (.iconst (-1), 1, 0, 0, 0), some (.if_icmp .ne 0, 3, 31, 0, 0), none, none, some (.iconst 0, 1, 0, 0, 0), some (.goto 0, 3, 34, 0, 0), none, none, some (.iconst 1, 1, 0, 0, 0)],
  [some (.iload 3, 1, 0, 0, 0), some (.ishl, 1, 0, 0, 0), some (.istore 4, 2, 0, 0, 0), none, some (.aload 0, 1, 0, 0, 0), some (.iconst 2, 1, 0, 0, 0), some (.iconst 0, 1, 0, 0, 0), some (.iload 4, 2, 0, 0, 0), none, some (.invokestatic 0, 3, 114, 4, 10), none, none, some (.aload 0, 1, 0, 0, 0), some (.iconst 4, 1, 0, 0, 0), some (.iconst 0, 1, 0, 0, 0), some (.iload 4, 2, 0, 0, 0)],
  [none, some (.invokestatic 0, 3, 114, 4, 10), none, none, some (.return_, 1, 0, 0, 0), none, none, none, none, none, none, none, none, none, none, none]]
set_option maxRecDepth 100000 in
theorem k113 : pchk 10 0 cX10_weighAll 0 t113 = true := by decide +kernel
def t114 : pT := [[some (.iload 2, 1, 0, 0, 0), some (.iload 1, 1, 0, 0, 0), some (.if_icmp .ge 0, 3, 10, 0, 0), none, none, some (.iload 2, 1, 0, 0, 0), some (.iconst 4, 1, 0, 0, 0), some (.if_icmp .lt 0, 3, 16, 0, 0), none, none, some (.aload 0, 1, 0, 0, 0), some (.iload 1, 1, 0, 0, 0), some (.invokestatic 0, 3, 115, 2, 10), none, none, some (.return_, 1, 0, 0, 0)],
  [some (.iconst 0, 1, 0, 0, 0), some (.istore 4, 2, 0, 0, 0), none, some (.iload 4, 2, 0, 0, 0), none, some (.aload 0, 1, 0, 0, 0), some (.getfield 0, 3, 1, 10, 0), none, none, some (.if_icmp .ge 0, 3, 65, 0, 0), none, none, some (.iload 3, 1, 0, 0, 0), some (.iload 4, 2, 0, 0, 0), none, some (.invokestatic 1, 3, 119, 2, (-1))],
  [none, none, some (.ifCond .ne 0, 3, 59, 0, 0), none, none, some (.aload 0, 1, 0, 0, 0), some (.getfield 0, 3, 8, 10, 2), none, none, some (.iload 2, 1, 0, 0, 0), some (.iload 4, 2, 0, 0, 0), none, some (.iastore, 1, 0, 0, 0), some (.aload 0, 1, 0, 0, 0), some (.iload 1, 1, 0, 0, 0), some (.iload 2, 1, 0, 0, 0)],
  [some (.iconst 1, 1, 0, 0, 0), some (.iadd, 1, 0, 0, 0), some (.iload 3, 1, 0, 0, 0), some (.iconst 1, 1, 0, 0, 0), some (.iload 4, 2, 0, 0, 0), none, some (.ishl, 1, 0, 0, 0), some (.ior, 1, 0, 0, 0), some (.invokestatic 0, 3, 114, 4, 10), none, none, some (.iinc 4 1, 3, 0, 0, 0), none, none, some (.goto 0, 3, 19, 0, 0), none],
  [none, some (.return_, 1, 0, 0, 0), none, none, none, none, none, none, none, none, none, none, none, none, none, none]]
set_option maxRecDepth 100000 in
theorem k114 : pchk 10 0 cX10_choose 0 t114 = true := by decide +kernel
def t115 : pT := [[some (.aload 0, 1, 0, 0, 0), some (.getfield 0, 3, 0, 10, 2), none, none, some (.aload 0, 1, 0, 0, 0), some (.getfield 0, 3, 8, 10, 2), none, none, some (.iconst 0, 1, 0, 0, 0), some (.iaload, 1, 0, 0, 0), some (.iaload, 1, 0, 0, 0), some (.i2l, 1, 0, 0, 0), some (.lstore 2, 1, 0, 0, 0), some (.aload 0, 1, 0, 0, 0), some (.getfield 0, 3, 0, 10, 2), none],
  [none, some (.aload 0, 1, 0, 0, 0), some (.getfield 0, 3, 8, 10, 2), none, none, some (.iconst 1, 1, 0, 0, 0), some (.iaload, 1, 0, 0, 0), some (.iaload, 1, 0, 0, 0), some (.i2l, 1, 0, 0, 0), some (.lstore 4, 2, 0, 0, 0), none, some (.iload 1, 1, 0, 0, 0), some (.iconst 4, 1, 0, 0, 0), some (.if_icmp .ne 0, 3, 64, 0, 0), none, none],
  [some (.lload 2, 1, 0, 0, 0), some (.aload 0, 1, 0, 0, 0), some (.getfield 0, 3, 0, 10, 2), none, none, some (.aload 0, 1, 0, 0, 0), some (.getfield 0, 3, 8, 10, 2), none, none, some (.iconst 2, 1, 0, 0, 0), some (.iaload, 1, 0, 0, 0), some (.iaload, 1, 0, 0, 0), some (.i2l, 1, 0, 0, 0), some (.lmul, 1, 0, 0, 0), some (.lstore 2, 1, 0, 0, 0), some (.lload 4, 2, 0, 0, 0)],
  [none, some (.aload 0, 1, 0, 0, 0), some (.getfield 0, 3, 0, 10, 2), none, none, some (.aload 0, 1, 0, 0, 0), some (.getfield 0, 3, 8, 10, 2), none, none, some (.iconst 3, 1, 0, 0, 0), some (.iaload, 1, 0, 0, 0), some (.iaload, 1, 0, 0, 0), some (.i2l, 1, 0, 0, 0), some (.lmul, 1, 0, 0, 0), some (.lstore 4, 2, 0, 0, 0), none],
  [some (.lload 2, 1, 0, 0, 0), some (.aload 0, 1, 0, 0, 0), some (.getfield 0, 3, 15, 10, 1), none, none, some (.lmul, 1, 0, 0, 0), some (.aload 0, 1, 0, 0, 0), some (.getfield 0, 3, 14, 10, 1), none, none, some (.lload 4, 2, 0, 0, 0), none, some (.lmul, 1, 0, 0, 0), some (.lsub, 1, 0, 0, 0), some (.d2f, 3, 0, 0, 0), none],
  [none, some (.lstore 6, 2, 0, 0, 0), none, some (.lload 6, 2, 0, 0, 0), none, some (.ldc2_w 0, 1, 0, 0, 0), some (.lcmp, 1, 0, 0, 0), some (.ifCond .ne 0, 3, 100, 0, 0), none, none, some (.aload 0, 1, 0, 0, 0), some (.dup, 1, 0, 0, 0), some (.getfield 0, 3, 13, 10, 0), none, none, some (.iconst 1, 1, 0, 0, 0)],
  [some (.iadd, 1, 0, 0, 0), some (.putfield 0, 3, 13, 10, 0), none, none, some (.aload 0, 1, 0, 0, 0), some (.getfield 0, 3, 10, 10, 0), none, none, some (.ifCond .eq 0, 3, 125, 0, 0), none, none, some (.lload 6, 2, 0, 0, 0), none, some (.aload 0, 1, 0, 0, 0), some (.getfield 0, 3, 12, 10, 1), none],
  [none, some (.lmul, 1, 0, 0, 0), some (.aload 0, 1, 0, 0, 0), some (.getfield 0, 3, 11, 10, 1), none, none, some (.lload 4, 2, 0, 0, 0), none, some (.lmul, 1, 0, 0, 0), some (.lcmp, 1, 0, 0, 0), some (.ifCond .ge 0, 3, 156, 0, 0), none, none, some (.aload 0, 1, 0, 0, 0), some (.iload 1, 1, 0, 0, 0), some (.putfield 0, 3, 10, 10, 0)],
  [none, none, some (.aload 0, 1, 0, 0, 0), some (.lload 6, 2, 0, 0, 0), none, some (.putfield 0, 3, 11, 10, 1), none, none, some (.aload 0, 1, 0, 0, 0), some (.lload 4, 2, 0, 0, 0), none, some (.putfield 0, 3, 12, 10, 1), none, none, some (.aload 0, 1, 0, 0, 0), some (.getfield 0, 3, 8, 10, 2)],
  [none, none, some (.iconst 0, 1, 0, 0, 0), some (.aload 0, 1, 0, 0, 0), some (.getfield 0, 3, 9, 10, 2), none, none, some (.iconst 0, 1, 0, 0, 0), some (.iload 1, 1, 0, 0, 0), some (.d2l, 3, 0, 0, 0), none, none, some (.return_, 1, 0, 0, 0), none, none, none]]
set_option maxRecDepth 100000 in
theorem k115 : pchk 10 0 cX10_weigh 0 t115 = true := by decide +kernel
def t116 : pT := [[some (.aload 0, 1, 0, 0, 0), some (.getfield 0, 3, 4, 10, 2), none, none, some (.iconst 0, 1, 0, 0, 0), some (.iaload, 1, 0, 0, 0), some (.i2l, 1, 0, 0, 0), some (.aload 0, 1, 0, 0, 0), some (.getfield 0, 3, 4, 10, 2), none, none, some (.iconst 2, 1, 0, 0, 0), some (.iaload, 1, 0, 0, 0), some (.i2l, 1, 0, 0, 0), some (.lmul, 1, 0, 0, 0), some (.lstore 3, 1, 0, 0, 0)],
  [some (.aload 0, 1, 0, 0, 0), some (.getfield 0, 3, 4, 10, 2), none, none, some (.iconst 1, 1, 0, 0, 0), some (.iaload, 1, 0, 0, 0), some (.i2l, 1, 0, 0, 0), some (.aload 0, 1, 0, 0, 0), some (.getfield 0, 3, 4, 10, 2), none, none, some (.iconst 3, 1, 0, 0, 0), some (.iaload, 1, 0, 0, 0), some (.i2l, 1, 0, 0, 0), some (.lmul, 1, 0, 0, 0), some (.lstore 5, 2, 0, 0, 0)],
  [none, some (.aload 0, 1, 0, 0, 0), some (.getfield 0, 3, 4, 10, 2), none, none, some (.iload 1, 1, 0, 0, 0), some (.iaload, 1, 0, 0, 0), some (.iload 2, 1, 0, 0, 0), some (.isub, 1, 0, 0, 0), some (.i2l, 1, 0, 0, 0), some (.lstore 7, 2, 0, 0, 0), none, some (.iload 1, 1, 0, 0, 0), some (.ifCond .eq 0, 3, 53, 0, 0), none, none],
  [some (.iload 1, 1, 0, 0, 0), some (.iconst 2, 1, 0, 0, 0), some (.if_icmp .ne 0, 3, 57, 0, 0), none, none, some (.iconst 1, 1, 0, 0, 0), some (.goto 0, 3, 58, 0, 0), none, none, some (.iconst 0, 1, 0, 0, 0), some (.istore 9, 2, 0, 0, 0), none, some (.iload 9, 2, 0, 0, 0), none, some (.ifCond .eq 0, 3, 80, 0, 0), none],
  [none, some (.lload 3, 1, 0, 0, 0), some (.aload 0, 1, 0, 0, 0), some (.getfield 0, 3, 4, 10, 2), none, none, some (.iload 1, 1, 0, 0, 0), some (.iaload, 1, 0, 0, 0), some (.i2l, 1, 0, 0, 0), some (.ldiv, 1, 0, 0, 0), some (.lload 7, 2, 0, 0, 0), none, some (.lmul, 1, 0, 0, 0), some (.goto 0, 3, 81, 0, 0), none, none],
  [some (.lload 3, 1, 0, 0, 0), some (.lstore 10, 2, 0, 0, 0), none, some (.iload 9, 2, 0, 0, 0), none, some (.ifCond .eq 0, 3, 93, 0, 0), none, none, some (.lload 5, 2, 0, 0, 0), none, some (.goto 0, 3, 106, 0, 0), none, none, some (.lload 5, 2, 0, 0, 0), none, some (.aload 0, 1, 0, 0, 0)],
  [some (.getfield 0, 3, 4, 10, 2), none, none, some (.iload 1, 1, 0, 0, 0), some (.iaload, 1, 0, 0, 0), some (.i2l, 1, 0, 0, 0), some (.ldiv, 1, 0, 0, 0), some (.lload 7, 2, 0, 0, 0), none, some (.lmul, 1, 0, 0, 0), some (.lstore 12, 2, 0, 0, 0), none, some (.lload 10, 2, 0, 0, 0), none, some (.lload 5, 2, 0, 0, 0), none],
  [some (.lmul, 1, 0, 0, 0), some (.lload 3, 1, 0, 0, 0), some (.lload 12, 2, 0, 0, 0), none, some (.lmul, 1, 0, 0, 0), some (.lsub, 1, 0, 0, 0), some (.ldc2_w 0, 3, 0, 0, 1000000), none, none, some (.lmul, 1, 0, 0, 0), some (.lload 12, 2, 0, 0, 0), none, some (.lload 5, 2, 0, 0, 0), none, some (.lmul, 1, 0, 0, 0), some (.ldiv, 1, 0, 0, 0)],
  [some (.lreturn, 1, 0, 0, 0), none, none, none, none, none, none, none, none, none, none, none, none, none, none, none]]
set_option maxRecDepth 100000 in
theorem k116 : pchk 10 2 cX10_changeByWear 0 t116 = true := by decide +kernel
def t117 : pT := [[some (.aload 0, 1, 0, 0, 0), some (.pop, 3, 0, 0, 0), none, none, some (.aload 0, 1, 0, 0, 0), some (.new 0, 3, 9, 6, 0), none, none, some (.dup, 1, 0, 0, 0), some (.invokestatic 0, 3, 97, 1, (-1)), none, none, some (.putfield 0, 3, 0, 11, 2), none, none, some (.aload 0, 1, 0, 0, 0)],
  [some (.new 0, 3, 6, 12, 0), none, none, some (.dup, 1, 0, 0, 0), some (.invokestatic 0, 3, 56, 1, (-1)), none, none, some (.putfield 0, 3, 1, 11, 2), none, none, some (.aload 0, 1, 0, 0, 0), some (.new 0, 3, 7, 5, 0), none, none, some (.dup, 1, 0, 0, 0), some (.aload 0, 1, 0, 0, 0)],
  [some (.getfield 0, 3, 0, 11, 2), none, none, some (.invokestatic 0, 3, 68, 2, (-1)), none, none, some (.putfield 0, 3, 2, 11, 2), none, none, some (.aload 0, 1, 0, 0, 0), some (.new 0, 3, 8, 11, 0), none, none, some (.dup, 1, 0, 0, 0), some (.aload 0, 1, 0, 0, 0), some (.getfield 0, 3, 1, 11, 2)],
  [none, none, some (.invokestatic 0, 3, 82, 2, (-1)), none, none, some (.putfield 0, 3, 3, 11, 2), none, none, some (.aload 0, 1, 0, 0, 0), some (.new 0, 3, 1, 5, 0), none, none, some (.dup, 1, 0, 0, 0), some (.aload 0, 1, 0, 0, 0), some (.getfield 0, 3, 1, 11, 2), none],
  [none, some (.aload 0, 1, 0, 0, 0), some (.getfield 0, 3, 3, 11, 2), none, none, some (.invokestatic 0, 3, 10, 3, (-1)), none, none, some (.putfield 0, 3, 4, 11, 2), none, none, some (.aload 0, 1, 0, 0, 0), some (.new 0, 3, 5, 10, 0), none, none, some (.dup, 1, 0, 0, 0)],
  [some (.aload 0, 1, 0, 0, 0), some (.getfield 0, 3, 1, 11, 2), none, none, some (.aload 0, 1, 0, 0, 0), some (.getfield 0, 3, 4, 11, 2), none, none, some (.invokestatic 0, 3, 42, 3, (-1)), none, none, some (.putfield 0, 3, 5, 11, 2), none, none, some (.aload 0, 1, 0, 0, 0), some (.new 0, 3, 10, 16, 0)],
  [none, none, some (.dup, 1, 0, 0, 0), some (.invokestatic 0, 3, 107, 1, (-1)), none, none, some (.putfield 0, 3, 6, 11, 2), none, none, some (.aload 0, 1, 0, 0, 0), some (.new 0, 3, 3, 14, 0), none, none, some (.dup, 1, 0, 0, 0), some (.invokestatic 0, 3, 31, 1, (-1)), none],
  [none, some (.putfield 0, 3, 7, 11, 2), none, none, some (.aload 0, 1, 0, 0, 0), some (.new 0, 3, 0, 7, 0), none, none, some (.dup, 1, 0, 0, 0), some (.aload 0, 1, 0, 0, 0), some (.getfield 0, 3, 1, 11, 2), none, none, some (.invokestatic 0, 3, 1, 2, (-1)), none, none],
  [some (.putfield 0, 3, 8, 11, 2), none, none, some (.aload 0, 1, 0, 0, 0), some (.new 0, 3, 2, 16, 0), none, none, some (.dup, 1, 0, 0, 0), some (.aload 0, 1, 0, 0, 0), some (.getfield 0, 3, 1, 11, 2), none, none, some (.aload 0, 1, 0, 0, 0), some (.getfield 0, 3, 7, 11, 2), none, none],
  [some (.invokestatic 0, 3, 18, 3, (-1)), none, none, some (.putfield 0, 3, 9, 11, 2), none, none, some (.aload 0, 1, 0, 0, 0), some (.new 0, 3, 4, 9, 0), none, none, some (.dup, 1, 0, 0, 0), some (.aload 0, 1, 0, 0, 0), some (.getfield 0, 3, 1, 11, 2), none, none, some (.aload 0, 1, 0, 0, 0)],
  [some (.getfield 0, 3, 9, 11, 2), none, none, some (.invokestatic 0, 3, 37, 3, (-1)), none, none, some (.putfield 0, 3, 10, 11, 2), none, none, some (.return_, 1, 0, 0, 0), none, none, none, none, none, none]]
set_option maxRecDepth 100000 in
theorem k117 : pchk 11 0 cX11_init 0 t117 = true := by decide +kernel
def t118 : pT := [[some (.lload 0, 1, 0, 0, 0), some (.lload 2, 1, 0, 0, 0), some (.lcmp, 1, 0, 0, 0), some (.ifCond .lt 0, 3, 17, 0, 0), none, none, some (.lload 0, 1, 0, 0, 0), some (.lload 4, 2, 0, 0, 0), none, some (.lcmp, 1, 0, 0, 0), some (.ifCond .gt 0, 3, 17, 0, 0), none, none, some (.iconst 1, 1, 0, 0, 0), some (.goto 0, 3, 18, 0, 0), none],
  [none, some (.iconst 0, 1, 0, 0, 0), some (.ireturn, 1, 0, 0, 3), none, none, none, none, none, none, none, none, none, none, none, none, none]]
set_option maxRecDepth 100000 in
theorem k118 : pchk 11 3 cX11_isWithin 0 t118 = true := by decide +kernel
def t119 : pT := [[some (.iload 0, 1, 0, 0, 0), some (.iload 1, 1, 0, 0, 0), some (.ishr, 1, 0, 0, 0), some (.iconst 1, 1, 0, 0, 0), some (.iand, 1, 0, 0, 0), some (.ifCond .eq 0, 3, 12, 0, 0), none, none, some (.iconst 1, 1, 0, 0, 0), some (.goto 0, 3, 13, 0, 0), none, none, some (.iconst 0, 1, 0, 0, 0), some (.ireturn, 1, 0, 0, 3), none, none]]
set_option maxRecDepth 100000 in
theorem k119 : pchk 11 3 cX11_hasBit 0 t119 = true := by decide +kernel
def t120 : pT := [[some (.iload 1, 1, 0, 0, 0), some (.i2l, 1, 0, 0, 0), some (.ldc2_w 0, 1, 0, 0, 0), some (.aload 0, 1, 0, 0, 0), some (.getfield 0, 3, 1, 11, 2), none, none, some (.getfield 0, 3, 1, 6, 0), none, none, some (.iconst 1, 1, 0, 0, 0), some (.isub, 1, 0, 0, 0), some (.i2l, 1, 0, 0, 0), some (.invokestatic 1, 3, 118, 3, (-1)), none, none],
  [some (.ireturn, 1, 0, 0, 3), none, none, none, none, none, none, none, none, none, none, none, none, none, none, none]]
set_option maxRecDepth 100000 in
theorem k120 : pchk 11 3 cX11_isTool 0 t120 = true := by decide +kernel
def t121 : pT := [[some (.iload 1, 1, 0, 0, 0), some (.i2l, 1, 0, 0, 0), some (.ldc2_w 0, 1, 0, 0, 0), some (.aload 0, 1, 0, 0, 0), some (.getfield 0, 3, 1, 11, 2), none, none, some (.getfield 0, 3, 2, 6, 0), none, none, some (.iconst 1, 1, 0, 0, 0), some (.isub, 1, 0, 0, 0), some (.i2l, 1, 0, 0, 0), some (.invokestatic 1, 3, 118, 3, (-1)), none, none],
  [some (.ireturn, 1, 0, 0, 3), none, none, none, none, none, none, none, none, none, none, none, none, none, none, none]]
set_option maxRecDepth 100000 in
theorem k121 : pchk 11 3 cX11_isStep 0 t121 = true := by decide +kernel
def t122 : pT := [[some (.iload 0, 1, 0, 0, 0), some (.i2l, 1, 0, 0, 0), some (.ldc2_w 0, 1, 0, 0, 0), some (.ldc2_w 0, 3, 0, 0, 99), none, none, some (.invokestatic 1, 3, 118, 3, (-1)), none, none, some (.ireturn, 1, 0, 0, 3), none, none, none, none, none, none]]
set_option maxRecDepth 100000 in
theorem k122 : pchk 11 3 cX11_isMark 0 t122 = true := by decide +kernel
def t123 : pT := [[some (.iload 0, 1, 0, 0, 0), some (.i2l, 1, 0, 0, 0), some (.ldc2_w 0, 1, 0, 0, 0), some (.ldc2_w 0, 3, 0, 0, 3), none, none, some (.invokestatic 1, 3, 118, 3, (-1)), none, none, some (.ireturn, 1, 0, 0, 3), none, none, none, none, none, none]]
set_option maxRecDepth 100000 in
theorem k123 : pchk 11 3 cX11_isOldDisc 0 t123 = true := by decide +kernel
def t124 : pT := [[some (.iload 0, 1, 0, 0, 0), some (.i2l, 1, 0, 0, 0), some (.ldc2_w 0, 1, 0, 0, 0), some (.ldc2_w 0, 3, 0, 0, 999), none, none, some (.invokestatic 1, 3, 118, 3, (-1)), none, none, some (.ireturn, 1, 0, 0, 3), none, none, none, none, none, none]]
set_option maxRecDepth 100000 in
theorem k124 : pchk 11 3 cX11_isStage 0 t124 = true := by decide +kernel
def t125 : pT := [[some (.iload 0, 1, 0, 0, 0), some (.i2l, 1, 0, 0, 0), some (.ldc2_w 0, 1, 0, 0, 0), some (.ldc2_w 0, 3, 0, 0, 39), none, none, some (.invokestatic 1, 3, 118, 3, (-1)), none, none, some (.ireturn, 1, 0, 0, 3), none, none, none, none, none, none]]
set_option maxRecDepth 100000 in
theorem k125 : pchk 11 3 cX11_isPartNumber 0 t125 = true := by decide +kernel
def t126 : pT := [[some (.iload 0, 1, 0, 0, 0), some (.i2l, 1, 0, 0, 0), some (.ldc2_w 0, 3, 0, 0, (-99)), none, none, some (.ldc2_w 0, 3, 0, 0, 99), none, none, some (.invokestatic 1, 3, 118, 3, (-1)), none, none, some (.ireturn, 1, 0, 0, 3), none, none, none, none]]
set_option maxRecDepth 100000 in
theorem k126 : pchk 11 3 cX11_isOff 0 t126 = true := by decide +kernel
def t127 : pT := [[some (.iload 0, 1, 0, 0, 0), some (.i2l, 1, 0, 0, 0), some (.ldc2_w 0, 1, 0, 0, 0), some (.ldc2_w 0, 3, 0, 0, 99), none, none, some (.invokestatic 1, 3, 118, 3, (-1)), none, none, some (.ireturn, 1, 0, 0, 3), none, none, none, none, none, none]]
set_option maxRecDepth 100000 in
theorem k127 : pchk 11 3 cX11_isLimit 0 t127 = true := by decide +kernel
def t128 : pT := [[some (.aload 0, 1, 0, 0, 0), some (.getfield 0, 3, 0, 11, 2), none, none, some (.getfield 0, 3, 2, 9, 0), none, none, some (.iconst 20, 2, 0, 0, 0), none, some (.iadd, 1, 0, 0, 0), some (.iconst 800, 3, 0, 0, 0), none, none, some (.if_icmp .le 0, 3, 19, 0, 0), none, none],
  [some (.iconst (-3), 2, 0, 0, 0), none, some (.ireturn, 1, 0, 0, 0), some (.aload 0, 1, 0, 0, 0), some (.getfield 0, 3, 0, 11, 2), none, none, some (.iload 1, 1, 0, 0, 0), some (.invokestatic 0, 3, 98, 2, 9), none, none, some (.aload 0, 1, 0, 0, 0), some (.getfield 0, 3, 0, 11, 2), none, none, some (.iload 2, 1, 0, 0, 0)],
  [some (.invokestatic 0, 3, 98, 2, 9), none, none, some (.aload 0, 1, 0, 0, 0), some (.getfield 0, 3, 0, 11, 2), none, none, some (.iload 3, 1, 0, 0, 0), some (.invokestatic 0, 3, 98, 2, 9), none, none, some (.aload 0, 1, 0, 0, 0), some (.getfield 0, 3, 0, 11, 2), none, none, some (.iload 4, 2, 0, 0, 0)],
  [none, some (.invokestatic 0, 3, 98, 2, 9), none, none, some (.aload 0, 1, 0, 0, 0), some (.getfield 0, 3, 0, 11, 2), none, none, some (.iload 5, 2, 0, 0, 0), none, some (.invokestatic 0, 3, 98, 2, 9), none, none, some (.aload 0, 1, 0, 0, 0), some (.getfield 0, 3, 0, 11, 2), none],
  [none, some (.getfield 0, 3, 2, 9, 0), none, none, some (.ireturn, 1, 0, 0, 0), none, none, none, none, none, none, none, none, none, none, none]]
set_option maxRecDepth 100000 in
theorem k128 : pchk 11 1 cX11_feed 0 t128 = true := by decide +kernel
def t129 : pT := [[some (.iload 1, 1, 0, 0, 0), some (.i2l, 1, 0, 0, 0), some (.ldc2_w 0, 1, 0, 0, 0), some (.aload 0, 1, 0, 0, 0), some (.getfield 0, 3, 0, 11, 2), none, none, some (.getfield 0, 3, 2, 9, 0), none, none, some (.i2l, 1, 0, 0, 0), some (.invokestatic 1, 3, 118, 3, (-1)), none, none, some (.ifCond .ne 0, 3, 19, 0, 0), none],
  [none, some (.iconst (-1), 1, 0, 0, 0), some (.ireturn, 1, 0, 0, 0), some (.aload 0, 1, 0, 0, 0), some (.getfield 0, 3, 0, 11, 2), none, none, some (.iload 1, 1, 0, 0, 0), some (.putfield 0, 3, 2, 9, 0), none, none, some (.iload 1, 1, 0, 0, 0), some (.ireturn, 1, 0, 0, 0), none, none, none]]
set_option maxRecDepth 100000 in
theorem k129 : pchk 11 1 cX11_end 0 t129 = true := by decide +kernel
def t130 : pT := [[some (.aload 0, 1, 0, 0, 0), some (.getfield 0, 3, 2, 11, 2), none, none, some (.invokestatic 1, 3, 69, 1, 7), none, none, some (.istore 1, 1, 0, 0, 0), some (.aload 0, 1, 0, 0, 0), some (.getfield 0, 3, 0, 11, 2), none, none, some (.iconst 0, 1, 0, 0, 0), some (.putfield 0, 3, 2, 9, 0), none, none],
  [some (.iload 1, 1, 0, 0, 0), some (.ifCond .ne 0, 3, 22, 0, 0), none, none, some (.iconst (-1), 1, 0, 0, 0), some (.ireturn, 1, 0, 0, 0), some (.aload 0, 1, 0, 0, 0), some (.getfield 0, 3, 1, 11, 2), none, none, some (.aload 0, 1, 0, 0, 0), some (.getfield 0, 3, 2, 11, 2), none, none, some (.getfield 0, 3, 1, 7, 2), none],
  [none, some (.invokestatic 0, 3, 58, 2, 6), none, none, some (.aload 0, 1, 0, 0, 0), some (.getfield 0, 3, 3, 11, 2), none, none, some (.invokestatic 0, 3, 83, 1, 8), none, none, some (.aload 0, 1, 0, 0, 0), some (.getfield 0, 3, 4, 11, 2), none, none, some (.invokestatic 0, 3, 11, 1, 1)],
  [none, none, some (.aload 0, 1, 0, 0, 0), some (.getfield 0, 3, 5, 11, 2), none, none, some (.invokestatic 0, 3, 43, 1, 5), none, none, some (.aload 0, 1, 0, 0, 0), some (.getfield 0, 3, 7, 11, 2), none, none, some (.invokestatic 0, 3, 32, 1, 3), none, none],
  [some (.aload 0, 1, 0, 0, 0), some (.getfield 0, 3, 9, 11, 2), none, none, some (.invokestatic 0, 3, 19, 1, 2), none, none, some (.aload 0, 1, 0, 0, 0), some (.getfield 0, 3, 1, 11, 2), none, none, some (.getfield 0, 3, 0, 6, 0), none, none, some (.ireturn, 1, 0, 0, 0), none]]
set_option maxRecDepth 100000 in
theorem k130 : pchk 11 1 cX11_part 0 t130 = true := by decide +kernel
def t131 : pT := [[some (.iload 1, 1, 0, 0, 0), some (.lookupswitch 43 #[(0, 27), (1, 35)], 27, 0, 0, 0), none, none, none, none, none, none, none, none, none, none, none, none, none, none],
  [none, none, none, none, none, none, none, none, none, none, none, none, some (.aload 0, 1, 0, 0, 0), some (.getfield 0, 3, 2, 11, 2), none, none],
  [some (.getfield 0, 3, 3, 7, 0), none, none, some (.ireturn, 1, 0, 0, 0), some (.aload 0, 1, 0, 0, 0), some (.getfield 0, 3, 2, 11, 2), none, none, some (.getfield 0, 3, 4, 7, 0), none, none, some (.ireturn, 1, 0, 0, 0), some (.iconst (-1), 1, 0, 0, 0), some (.ireturn, 1, 0, 0, 0), none, none]]
set_option maxRecDepth 100000 in
theorem k131 : pchk 11 1 cX11_fault 0 t131 = true := by decide +kernel
def t132 : pT := [[some (.iload 1, 1, 0, 0, 0), some (.tableswitch 75 0 4 #[35, 43, 51, 59, 67], 35, 0, 0, 0), none, none, none, none, none, none, none, none, none, none, none, none, none, none],
  [none, none, none, none, none, none, none, none, none, none, none, none, none, none, none, none],
  [none, none, none, none, some (.aload 0, 1, 0, 0, 0), some (.getfield 0, 3, 1, 11, 2), none, none, some (.getfield 0, 3, 1, 6, 0), none, none, some (.ireturn, 1, 0, 0, 0), some (.aload 0, 1, 0, 0, 0), some (.getfield 0, 3, 1, 11, 2), none, none],
  [some (.getfield 0, 3, 2, 6, 0), none, none, some (.ireturn, 1, 0, 0, 0), some (.aload 0, 1, 0, 0, 0), some (.getfield 0, 3, 1, 11, 2), none, none, some (.getfield 0, 3, 3, 6, 0), none, none, some (.ireturn, 1, 0, 0, 0), some (.aload 0, 1, 0, 0, 0), some (.getfield 0, 3, 6, 11, 2), none, none],
  [some (.getfield 0, 3, 1, 10, 0), none, none, some (.ireturn, 1, 0, 0, 0), some (.aload 0, 1, 0, 0, 0), some (.getfield 0, 3, 3, 11, 2), none, none, some (.getfield 0, 3, 2, 8, 0), none, none, some (.ireturn, 1, 0, 0, 0), some (.iload 1, 1, 0, 0, 0), some (.iconst 10, 2, 0, 0, 0), none, some (.if_icmp .lt 0, 3, 88, 0, 0)],
  [none, none, some (.iload 1, 1, 0, 0, 0), some (.iconst 69, 2, 0, 0, 0), none, some (.if_icmp .le 0, 3, 92, 0, 0), none, none, some (.iconst (-1), 1, 0, 0, 0), some (.goto 0, 3, 104, 0, 0), none, none, some (.aload 0, 1, 0, 0, 0), some (.iload 1, 1, 0, 0, 0), some (.iconst 10, 2, 0, 0, 0), none],
  [some (.idiv, 1, 0, 0, 0), some (.iload 1, 1, 0, 0, 0), some (.iconst 10, 2, 0, 0, 0), none, some (.irem, 1, 0, 0, 0), some (.invokestatic 1, 3, 133, 3, 11), none, none, some (.ireturn, 1, 0, 0, 0), none, none, none, none, none, none, none]]
set_option maxRecDepth 100000 in
theorem k132 : pchk 11 1 cX11_told 0 t132 = true := by decide +kernel
def t133 : pT := [[some (.iload 1, 1, 0, 0, 0), some (.iconst 3, 1, 0, 0, 0), some (.if_icmp .gt 0, 3, 16, 0, 0), none, none, some (.aload 0, 1, 0, 0, 0), some (.iload 2, 1, 0, 0, 0), some (.invokestatic 1, 3, 121, 2, 11), none, none, some (.ifCond .ne 0, 3, 26, 0, 0), none, none, some (.goto 0, 3, 24, 0, 0), none, none],
  [some (.aload 0, 1, 0, 0, 0), some (.iload 2, 1, 0, 0, 0), some (.invokestatic 1, 3, 120, 2, 11), none, none, some (.ifCond .ne 0, 3, 26, 0, 0), none, none, some (.iconst (-1), 1, 0, 0, 0), some (.ireturn, 1, 0, 0, 0), some (.iload 1, 1, 0, 0, 0), some (.tableswitch 96 1 6 #[37, 46, 56, 66, 76, 86], 37, 0, 0, 0), none, none, none, none],
  [none, none, none, none, none, none, none, none, none, none, none, none, none, none, none, none],
  [none, none, none, none, none, none, none, none, none, none, none, none, none, none, none, none],
  [some (.aload 0, 1, 0, 0, 0), some (.getfield 0, 3, 1, 11, 2), none, none, some (.iload 2, 1, 0, 0, 0), some (.invokestatic 1, 3, 63, 2, 6), none, none, some (.ireturn, 1, 0, 0, 0), some (.aload 0, 1, 0, 0, 0), some (.getfield 0, 3, 1, 11, 2), none, none, some (.getfield 0, 3, 8, 6, 2), none, none],
  [some (.iload 2, 1, 0, 0, 0), some (.iaload, 1, 0, 0, 0), some (.ireturn, 1, 0, 0, 0), some (.aload 0, 1, 0, 0, 0), some (.getfield 0, 3, 1, 11, 2), none, none, some (.getfield 0, 3, 11, 6, 2), none, none, some (.iload 2, 1, 0, 0, 0), some (.iaload, 1, 0, 0, 0), some (.ireturn, 1, 0, 0, 0), some (.aload 0, 1, 0, 0, 0), some (.getfield 0, 3, 1, 11, 2), none],
  [none, some (.getfield 0, 3, 7, 6, 2), none, none, some (.iload 2, 1, 0, 0, 0), some (.iaload, 1, 0, 0, 0), some (.ireturn, 1, 0, 0, 0), some (.aload 0, 1, 0, 0, 0), some (.getfield 0, 3, 1, 11, 2), none, none, some (.getfield 0, 3, 5, 6, 2), none, none, some (.iload 2, 1, 0, 0, 0), some (.iaload, 1, 0, 0, 0)],
  [some (.ireturn, 1, 0, 0, 0), some (.aload 0, 1, 0, 0, 0), some (.getfield 0, 3, 1, 11, 2), none, none, some (.getfield 0, 3, 6, 6, 2), none, none, some (.iload 2, 1, 0, 0, 0), some (.iaload, 1, 0, 0, 0), some (.ireturn, 1, 0, 0, 0), some (.iconst (-1), 1, 0, 0, 0), some (.ireturn, 1, 0, 0, 0), none, none, none]]
set_option maxRecDepth 100000 in
theorem k133 : pchk 11 1 cX11_toldOfOne 0 t133 = true := by decide +kernel
def t134 : pT := [[some (.aload 0, 1, 0, 0, 0), some (.iload 1, 1, 0, 0, 0), some (.invokestatic 1, 3, 121, 2, 11), none, none, some (.ifCond .eq 0, 3, 20, 0, 0), none, none, some (.aload 0, 1, 0, 0, 0), some (.getfield 0, 3, 3, 11, 2), none, none, some (.getfield 0, 3, 1, 8, 2), none, none, some (.iload 1, 1, 0, 0, 0)],
  [some (.iaload, 1, 0, 0, 0), some (.goto 0, 3, 22, 0, 0), none, none, some (.iconst (-2), 2, 0, 0, 0), none, some (.ireturn, 1, 0, 0, 0), none, none, none, none, none, none, none, none, none]]
set_option maxRecDepth 100000 in
theorem k134 : pchk 11 1 cX11_begin 0 t134 = true := by decide +kernel
def t135 : pT := [[some (.aload 0, 1, 0, 0, 0), some (.iload 1, 1, 0, 0, 0), some (.invokestatic 1, 3, 121, 2, 11), none, none, some (.ifCond .ne 0, 3, 11, 0, 0), none, none, some (.iconst (-2), 2, 0, 0, 0), none, some (.ireturn, 1, 0, 0, 0), some (.aload 0, 1, 0, 0, 0), some (.getfield 0, 3, 3, 11, 2), none, none, some (.iload 1, 1, 0, 0, 0)],
  [some (.invokestatic 1, 3, 93, 2, 8), none, none, some (.ifCond .eq 0, 3, 26, 0, 0), none, none, some (.iconst 1, 1, 0, 0, 0), some (.goto 0, 3, 27, 0, 0), none, none, some (.iconst 0, 1, 0, 0, 0), some (.ireturn, 1, 0, 0, 0), none, none, none, none]]
set_option maxRecDepth 100000 in
theorem k135 : pchk 11 1 cX11_held 0 t135 = true := by decide +kernel
def t136 : pT := [[some (.aload 0, 1, 0, 0, 0), some (.getfield 0, 3, 3, 11, 2), none, none, some (.aload 0, 1, 0, 0, 0), some (.getfield 0, 3, 0, 11, 2), none, none, some (.invokestatic 1, 3, 94, 2, 8), none, none, some (.istore 1, 1, 0, 0, 0), some (.aload 0, 1, 0, 0, 0), some (.getfield 0, 3, 0, 11, 2), none, none],
  [some (.iconst 0, 1, 0, 0, 0), some (.putfield 0, 3, 2, 9, 0), none, none, some (.iload 1, 1, 0, 0, 0), some (.ireturn, 1, 0, 0, 0), none, none, none, none, none, none, none, none, none, none]]
set_option maxRecDepth 100000 in
theorem k136 : pchk 11 1 cX11_byRow 0 t136 = true := by decide +kernel
def t137 : pT := [[some (.aload 0, 1, 0, 0, 0), some (.iload 1, 1, 0, 0, 0), some (.invokestatic 1, 3, 120, 2, 11), none, none, some (.ifCond .eq 0, 3, 27, 0, 0), none, none, some (.iload 2, 1, 0, 0, 0), some (.invokestatic 1, 3, 122, 1, (-1)), none, none, some (.ifCond .eq 0, 3, 27, 0, 0), none, none, some (.aload 0, 1, 0, 0, 0)],
  [some (.getfield 0, 3, 4, 11, 2), none, none, some (.iload 1, 1, 0, 0, 0), some (.iload 2, 1, 0, 0, 0), some (.invokestatic 1, 3, 14, 3, 1), none, none, some (.goto 0, 3, 29, 0, 0), none, none, some (.iconst (-2), 2, 0, 0, 0), none, some (.ireturn, 1, 0, 0, 0), none, none]]
set_option maxRecDepth 100000 in
theorem k137 : pchk 11 1 cX11_height 0 t137 = true := by decide +kernel
def t138 : pT := [[some (.aload 0, 1, 0, 0, 0), some (.iload 1, 1, 0, 0, 0), some (.invokestatic 1, 3, 121, 2, 11), none, none, some (.ifCond .ne 0, 3, 11, 0, 0), none, none, some (.iconst (-2), 2, 0, 0, 0), none, some (.ireturn, 1, 0, 0, 0), some (.iload 2, 1, 0, 0, 0), some (.tableswitch 100 0 4 #[36, 46, 56, 66, 83], 36, 0, 0, 0), none, none, none],
  [none, none, none, none, none, none, none, none, none, none, none, none, none, none, none, none],
  [none, none, none, none, none, none, none, none, none, none, none, none, none, none, none, none],
  [some (.aload 0, 1, 0, 0, 0), some (.getfield 0, 3, 4, 11, 2), none, none, some (.getfield 0, 3, 2, 1, 2), none, none, some (.iload 1, 1, 0, 0, 0), some (.iaload, 1, 0, 0, 0), some (.ireturn, 1, 0, 0, 0), some (.aload 0, 1, 0, 0, 0), some (.getfield 0, 3, 4, 11, 2), none, none, some (.getfield 0, 3, 3, 1, 2), none],
  [none, some (.iload 1, 1, 0, 0, 0), some (.iaload, 1, 0, 0, 0), some (.ireturn, 1, 0, 0, 0), some (.aload 0, 1, 0, 0, 0), some (.getfield 0, 3, 4, 11, 2), none, none, some (.getfield 0, 3, 4, 1, 2), none, none, some (.iload 1, 1, 0, 0, 0), some (.iaload, 1, 0, 0, 0), some (.ireturn, 1, 0, 0, 0), some (.aload 0, 1, 0, 0, 0), some (.getfield 0, 3, 4, 11, 2)],
  [none, none, some (.iload 1, 1, 0, 0, 0), some (.invokestatic 1, 3, 15, 2, 1), none, none, some (.ifCond .eq 0, 3, 93, 0, 0), none, none, some (.iconst 1, 1, 0, 0, 0), some (.goto 0, 3, 94, 0, 0), none, none, some (.iconst 0, 1, 0, 0, 0), some (.ireturn, 1, 0, 0, 0), some (.aload 0, 1, 0, 0, 0)],
  [some (.getfield 0, 3, 4, 11, 2), none, none, some (.iload 1, 1, 0, 0, 0), some (.invokestatic 1, 3, 16, 2, 1), none, none, some (.ifCond .eq 0, 3, 110, 0, 0), none, none, some (.iconst 1, 1, 0, 0, 0), some (.goto 0, 3, 111, 0, 0), none, none, some (.iconst 0, 1, 0, 0, 0), some (.ireturn, 1, 0, 0, 0)],
  [some (.iconst (-2), 2, 0, 0, 0), none, some (.ireturn, 1, 0, 0, 0), none, none, none, none, none, none, none, none, none, none, none, none, none]]
set_option maxRecDepth 100000 in
theorem k138 : pchk 11 1 cX11_lobe 0 t138 = true := by decide +kernel
def t139 : pT := [[some (.iload 1, 1, 0, 0, 0), some (.ifCond .eq 0, 3, 11, 0, 0), none, none, some (.iload 1, 1, 0, 0, 0), some (.iconst 1, 1, 0, 0, 0), some (.if_icmp .eq 0, 3, 11, 0, 0), none, none, some (.iconst (-1), 1, 0, 0, 0), some (.ireturn, 1, 0, 0, 0), some (.iconst 0, 1, 0, 0, 0), some (.istore 2, 1, 0, 0, 0), some (.iconst 0, 1, 0, 0, 0), some (.istore 3, 1, 0, 0, 0), some (.iload 3, 1, 0, 0, 0)],
  [some (.aload 0, 1, 0, 0, 0), some (.getfield 0, 3, 1, 11, 2), none, none, some (.getfield 0, 3, 2, 6, 0), none, none, some (.if_icmp .ge 0, 3, 67, 0, 0), none, none, some (.iload 1, 1, 0, 0, 0), some (.ifCond .ne 0, 3, 44, 0, 0), none, none, some (.aload 0, 1, 0, 0, 0), some (.getfield 0, 3, 4, 11, 2)],
  [none, none, some (.iload 3, 1, 0, 0, 0), some (.invokestatic 1, 3, 15, 2, 1), none, none, some (.ifCond .eq 0, 3, 61, 0, 0), none, none, some (.goto 0, 3, 55, 0, 0), none, none, some (.aload 0, 1, 0, 0, 0), some (.getfield 0, 3, 4, 11, 2), none, none],
  [some (.iload 3, 1, 0, 0, 0), some (.invokestatic 1, 3, 16, 2, 1), none, none, some (.ifCond .eq 0, 3, 61, 0, 0), none, none, some (.iload 2, 1, 0, 0, 0), some (.iconst 1, 1, 0, 0, 0), some (.iload 3, 1, 0, 0, 0), some (.ishl, 1, 0, 0, 0), some (.ior, 1, 0, 0, 0), some (.istore 2, 1, 0, 0, 0), some (.iinc 3 1, 3, 0, 0, 0), none, none],
  [some (.goto 0, 3, 15, 0, 0), none, none, some (.iload 2, 1, 0, 0, 0), some (.ireturn, 1, 0, 0, 0), none, none, none, none, none, none, none, none, none, none, none]]
set_option maxRecDepth 100000 in
theorem k139 : pchk 11 1 cX11_wrong 0 t139 = true := by decide +kernel
def t140 : pT := [[some (.aload 0, 1, 0, 0, 0), some (.iload 1, 1, 0, 0, 0), some (.invokestatic 1, 3, 120, 2, 11), none, none, some (.ifCond .eq 0, 3, 19, 0, 0), none, none, some (.aload 0, 1, 0, 0, 0), some (.getfield 0, 3, 4, 11, 2), none, none, some (.iload 1, 1, 0, 0, 0), some (.invokestatic 1, 3, 17, 2, 1), none, none],
  [some (.goto 0, 3, 21, 0, 0), none, none, some (.iconst (-2), 2, 0, 0, 0), none, some (.ireturn, 1, 0, 0, 0), none, none, none, none, none, none, none, none, none, none]]
set_option maxRecDepth 100000 in
theorem k140 : pchk 11 1 cX11_slope 0 t140 = true := by decide +kernel
def t141 : pT := [[some (.iload 1, 1, 0, 0, 0), some (.invokestatic 1, 3, 123, 1, (-1)), none, none, some (.ifCond .eq 0, 3, 22, 0, 0), none, none, some (.aload 0, 1, 0, 0, 0), some (.getfield 0, 3, 5, 11, 2), none, none, some (.iload 1, 1, 0, 0, 0), some (.aload 0, 1, 0, 0, 0), some (.getfield 0, 3, 0, 11, 2), none, none],
  [some (.invokestatic 1, 3, 45, 3, 5), none, none, some (.goto 0, 3, 24, 0, 0), none, none, some (.iconst (-2), 2, 0, 0, 0), none, some (.istore 2, 1, 0, 0, 0), some (.aload 0, 1, 0, 0, 0), some (.getfield 0, 3, 0, 11, 2), none, none, some (.iconst 0, 1, 0, 0, 0), some (.putfield 0, 3, 2, 9, 0), none],
  [none, some (.iload 2, 1, 0, 0, 0), some (.ireturn, 1, 0, 0, 0), none, none, none, none, none, none, none, none, none, none, none, none, none]]
set_option maxRecDepth 100000 in
theorem k141 : pchk 11 1 cX11_old 0 t141 = true := by decide +kernel
def t142 : pT := [[some (.iload 1, 1, 0, 0, 0), some (.invokestatic 1, 3, 123, 1, (-1)), none, none, some (.ifCond .eq 0, 3, 28, 0, 0), none, none, some (.iload 2, 1, 0, 0, 0), some (.invokestatic 1, 3, 122, 1, (-1)), none, none, some (.ifCond .eq 0, 3, 28, 0, 0), none, none, some (.aload 0, 1, 0, 0, 0), some (.getfield 0, 3, 5, 11, 2)],
  [none, none, some (.getfield 0, 3, 2, 5, 2), none, none, some (.iload 1, 1, 0, 0, 0), some (.aaload, 1, 0, 0, 0), some (.iload 2, 1, 0, 0, 0), some (.iaload, 1, 0, 0, 0), some (.goto 0, 3, 30, 0, 0), none, none, some (.iconst (-2), 2, 0, 0, 0), none, some (.ireturn, 1, 0, 0, 0), none]]
set_option maxRecDepth 100000 in
theorem k142 : pchk 11 1 cX11_was 0 t142 = true := by decide +kernel
def t143 : pT := [[some (.aload 0, 1, 0, 0, 0), some (.iload 1, 1, 0, 0, 0), some (.invokestatic 1, 3, 120, 2, 11), none, none, some (.ifCond .eq 0, 3, 27, 0, 0), none, none, some (.iload 2, 1, 0, 0, 0), some (.invokestatic 1, 3, 123, 1, (-1)), none, none, some (.ifCond .eq 0, 3, 27, 0, 0), none, none, some (.iload 3, 1, 0, 0, 0)],
  [some (.i2l, 1, 0, 0, 0), some (.ldc2_w 0, 1, 0, 0, 0), some (.ldc2_w 0, 3, 0, 0, 500), none, none, some (.invokestatic 1, 3, 118, 3, (-1)), none, none, some (.ifCond .ne 0, 3, 30, 0, 0), none, none, some (.iconst (-2), 2, 0, 0, 0), none, some (.ireturn, 1, 0, 0, 0), some (.aload 0, 1, 0, 0, 0), some (.getfield 0, 3, 5, 11, 2)],
  [none, none, some (.iload 1, 1, 0, 0, 0), some (.iload 2, 1, 0, 0, 0), some (.iload 3, 1, 0, 0, 0), some (.invokestatic 1, 3, 47, 4, 5), none, none, some (.ireturn, 1, 0, 0, 0), none, none, none, none, none, none, none]]
set_option maxRecDepth 100000 in
theorem k143 : pchk 11 1 cX11_keep 0 t143 = true := by decide +kernel
def t144 : pT := [[some (.aload 0, 1, 0, 0, 0), some (.iload 1, 1, 0, 0, 0), some (.invokestatic 1, 3, 120, 2, 11), none, none, some (.ifCond .eq 0, 3, 15, 0, 0), none, none, some (.iload 2, 1, 0, 0, 0), some (.invokestatic 1, 3, 123, 1, (-1)), none, none, some (.ifCond .ne 0, 3, 18, 0, 0), none, none, some (.iconst (-2), 2, 0, 0, 0)],
  [none, some (.ireturn, 1, 0, 0, 0), some (.iload 3, 1, 0, 0, 0), some (.tableswitch 55 0 2 #[25, 35, 45], 25, 0, 0, 0), none, none, none, none, none, none, none, none, none, none, none, none],
  [none, none, none, none, none, none, none, none, none, none, none, none, some (.aload 0, 1, 0, 0, 0), some (.getfield 0, 3, 5, 11, 2), none, none],
  [some (.iload 1, 1, 0, 0, 0), some (.iload 2, 1, 0, 0, 0), some (.invokestatic 1, 3, 48, 3, 5), none, none, some (.ireturn, 1, 0, 0, 0), some (.aload 0, 1, 0, 0, 0), some (.getfield 0, 3, 5, 11, 2), none, none, some (.iload 1, 1, 0, 0, 0), some (.iload 2, 1, 0, 0, 0), some (.invokestatic 1, 3, 49, 3, 5), none, none, some (.ireturn, 1, 0, 0, 0)],
  [some (.aload 0, 1, 0, 0, 0), some (.getfield 0, 3, 5, 11, 2), none, none, some (.iload 1, 1, 0, 0, 0), some (.iload 2, 1, 0, 0, 0), some (.invokestatic 1, 3, 50, 3, 5), none, none, some (.ireturn, 1, 0, 0, 0), some (.iconst (-2), 2, 0, 0, 0), none, some (.ireturn, 1, 0, 0, 0), none, none, none]]
set_option maxRecDepth 100000 in
theorem k144 : pchk 11 1 cX11_file 0 t144 = true := by decide +kernel
def t145 : pT := [[some (.iload 1, 1, 0, 0, 0), some (.i2l, 1, 0, 0, 0), some (.ldc2_w 0, 1, 0, 0, 0), some (.ldc2_w 0, 3, 0, 0, 99999), none, none, some (.invokestatic 1, 3, 118, 3, (-1)), none, none, some (.ifCond .eq 0, 3, 23, 0, 0), none, none, some (.aload 0, 1, 0, 0, 0), some (.getfield 0, 3, 5, 11, 2), none, none],
  [some (.iload 1, 1, 0, 0, 0), some (.invokestatic 1, 3, 53, 2, 5), none, none, some (.goto 0, 3, 25, 0, 0), none, none, some (.iconst (-2), 2, 0, 0, 0), none, some (.ireturn, 1, 0, 0, 0), none, none, none, none, none, none]]
set_option maxRecDepth 100000 in
theorem k145 : pchk 11 1 cX11_share 0 t145 = true := by decide +kernel
def t146 : pT := [[some (.aload 0, 1, 0, 0, 0), some (.iload 1, 1, 0, 0, 0), some (.invokestatic 1, 3, 120, 2, 11), none, none, some (.ifCond .eq 0, 3, 20, 0, 0), none, none, some (.aload 0, 1, 0, 0, 0), some (.getfield 0, 3, 5, 11, 2), none, none, some (.getfield 0, 3, 3, 5, 2), none, none, some (.iload 1, 1, 0, 0, 0)],
  [some (.iaload, 1, 0, 0, 0), some (.goto 0, 3, 21, 0, 0), none, none, some (.iconst (-1), 1, 0, 0, 0), some (.ireturn, 1, 0, 0, 0), none, none, none, none, none, none, none, none, none, none]]
set_option maxRecDepth 100000 in
theorem k146 : pchk 11 1 cX11_shared 0 t146 = true := by decide +kernel
def t147 : pT := [[some (.aload 0, 1, 0, 0, 0), some (.getfield 0, 3, 6, 11, 2), none, none, some (.aload 0, 1, 0, 0, 0), some (.getfield 0, 3, 0, 11, 2), none, none, some (.invokestatic 1, 3, 108, 2, 10), none, none, some (.istore 1, 1, 0, 0, 0), some (.aload 0, 1, 0, 0, 0), some (.getfield 0, 3, 0, 11, 2), none, none],
  [some (.iconst 0, 1, 0, 0, 0), some (.putfield 0, 3, 2, 9, 0), none, none, some (.iload 1, 1, 0, 0, 0), some (.ireturn, 1, 0, 0, 0), none, none, none, none, none, none, none, none, none, none]]
set_option maxRecDepth 100000 in
theorem k147 : pchk 11 1 cX11_box 0 t147 = true := by decide +kernel
def t148 : pT := [[some (.iload 1, 1, 0, 0, 0), some (.i2l, 1, 0, 0, 0), some (.ldc2_w 0, 1, 0, 0, 0), some (.aload 0, 1, 0, 0, 0), some (.getfield 0, 3, 6, 11, 2), none, none, some (.getfield 0, 3, 1, 10, 0), none, none, some (.iconst 1, 1, 0, 0, 0), some (.isub, 1, 0, 0, 0), some (.i2l, 1, 0, 0, 0), some (.invokestatic 1, 3, 118, 3, (-1)), none, none],
  [some (.ifCond .eq 0, 3, 31, 0, 0), none, none, some (.aload 0, 1, 0, 0, 0), some (.getfield 0, 3, 6, 11, 2), none, none, some (.getfield 0, 3, 0, 10, 2), none, none, some (.iload 1, 1, 0, 0, 0), some (.iaload, 1, 0, 0, 0), some (.goto 0, 3, 33, 0, 0), none, none, some (.iconst (-2), 2, 0, 0, 0)],
  [none, some (.ireturn, 1, 0, 0, 0), none, none, none, none, none, none, none, none, none, none, none, none, none, none]]
set_option maxRecDepth 100000 in
theorem k148 : pchk 11 1 cX11_teeth 0 t148 = true := by decide +kernel
def t149 : pT := [[some (.iload 3, 1, 0, 0, 0), some (.iconst (-1), 1, 0, 0, 0), some (.if_icmp .eq 0, 3, 24, 0, 0), none, none, some (.iload 3, 1, 0, 0, 0), some (.i2l, 1, 0, 0, 0), some (.ldc2_w 0, 1, 0, 0, 0), some (.aload 0, 1, 0, 0, 0), some (.getfield 0, 3, 6, 11, 2), none, none, some (.getfield 0, 3, 1, 10, 0), none, none, some (.iconst 1, 1, 0, 0, 0)],
  [some (.isub, 1, 0, 0, 0), some (.i2l, 1, 0, 0, 0), some (.invokestatic 1, 3, 118, 3, (-1)), none, none, some (.ifCond .eq 0, 3, 28, 0, 0), none, none, some (.iconst 1, 1, 0, 0, 0), some (.goto 0, 3, 29, 0, 0), none, none, some (.iconst 0, 1, 0, 0, 0), some (.istore 4, 2, 0, 0, 0), none, some (.iload 4, 2, 0, 0, 0)],
  [none, some (.ifCond .eq 0, 3, 44, 0, 0), none, none, some (.iload 1, 1, 0, 0, 0), some (.iload 2, 1, 0, 0, 0), some (.invokestatic 1, 3, 150, 2, (-1)), none, none, some (.ifCond .ne 0, 3, 47, 0, 0), none, none, some (.iconst (-2), 2, 0, 0, 0), none, some (.ireturn, 1, 0, 0, 0), some (.aload 0, 1, 0, 0, 0)],
  [some (.getfield 0, 3, 6, 11, 2), none, none, some (.iload 1, 1, 0, 0, 0), some (.iload 2, 1, 0, 0, 0), some (.iload 3, 1, 0, 0, 0), some (.invokestatic 1, 3, 109, 4, 10), none, none, some (.ireturn, 1, 0, 0, 0), none, none, none, none, none, none]]
set_option maxRecDepth 100000 in
theorem k149 : pchk 11 1 cX11_train 0 t149 = true := by decide +kernel
def t150 : pT := [[some (.iload 0, 1, 0, 0, 0), some (.i2l, 1, 0, 0, 0), some (.ldc2_w 0, 1, 0, 0, 1), some (.ldc2_w 0, 3, 0, 0, 9999), none, none, some (.invokestatic 1, 3, 118, 3, (-1)), none, none, some (.ifCond .eq 0, 3, 28, 0, 0), none, none, some (.iload 1, 1, 0, 0, 0), some (.i2l, 1, 0, 0, 0), some (.ldc2_w 0, 1, 0, 0, 1), some (.ldc2_w 0, 3, 0, 0, 9999)],
  [none, none, some (.invokestatic 1, 3, 118, 3, (-1)), none, none, some (.ifCond .eq 0, 3, 28, 0, 0), none, none, some (.iconst 1, 1, 0, 0, 0), some (.goto 0, 3, 29, 0, 0), none, none, some (.iconst 0, 1, 0, 0, 0), some (.ireturn, 1, 0, 0, 3), none, none]]
set_option maxRecDepth 100000 in
theorem k150 : pchk 11 3 cX11_isRatio 0 t150 = true := by decide +kernel
def t151 : pT := [[some (.iload 1, 1, 0, 0, 0), some (.i2l, 1, 0, 0, 0), some (.ldc2_w 0, 1, 0, 0, 0), some (.aload 0, 1, 0, 0, 0), some (.getfield 0, 3, 6, 11, 2), none, none, some (.getfield 0, 3, 5, 10, 0), none, none, some (.iconst 1, 1, 0, 0, 0), some (.isub, 1, 0, 0, 0), some (.i2l, 1, 0, 0, 0), some (.invokestatic 1, 3, 118, 3, (-1)), none, none],
  [some (.ifCond .eq 0, 3, 31, 0, 0), none, none, some (.aload 0, 1, 0, 0, 0), some (.getfield 0, 3, 6, 11, 2), none, none, some (.getfield 0, 3, 3, 10, 2), none, none, some (.iload 1, 1, 0, 0, 0), some (.iaload, 1, 0, 0, 0), some (.goto 0, 3, 32, 0, 0), none, none, some (.iconst (-1), 1, 0, 0, 0)],
  [some (.ireturn, 1, 0, 0, 0), none, none, none, none, none, none, none, none, none, none, none, none, none, none, none]]
set_option maxRecDepth 100000 in
theorem k151 : pchk 11 1 cX11_wheel 0 t151 = true := by decide +kernel
def t152 : pT := [[some (.iload 1, 1, 0, 0, 0), some (.ifCond .eq 0, 3, 14, 0, 0), none, none, some (.aload 0, 1, 0, 0, 0), some (.getfield 0, 3, 6, 11, 2), none, none, some (.getfield 0, 3, 7, 10, 1), none, none, some (.goto 0, 3, 21, 0, 0), none, none, some (.aload 0, 1, 0, 0, 0), some (.getfield 0, 3, 6, 11, 2)],
  [none, none, some (.getfield 0, 3, 6, 10, 1), none, none, some (.lreturn, 1, 0, 0, 0), none, none, none, none, none, none, none, none, none, none]]
set_option maxRecDepth 100000 in
theorem k152 : pchk 11 2 cX11_off 0 t152 = true := by decide +kernel
def t153 : pT := [[some (.iload 1, 1, 0, 0, 0), some (.iload 2, 1, 0, 0, 0), some (.invokestatic 1, 3, 150, 2, (-1)), none, none, some (.ifCond .eq 0, 3, 20, 0, 0), none, none, some (.aload 0, 1, 0, 0, 0), some (.getfield 0, 3, 6, 11, 2), none, none, some (.iload 1, 1, 0, 0, 0), some (.iload 2, 1, 0, 0, 0), some (.invokestatic 1, 3, 112, 3, 10), none],
  [none, some (.goto 0, 3, 22, 0, 0), none, none, some (.iconst (-2), 2, 0, 0, 0), none, some (.ireturn, 1, 0, 0, 0), none, none, none, none, none, none, none, none, none]]
set_option maxRecDepth 100000 in
theorem k153 : pchk 11 1 cX11_spare 0 t153 = true := by decide +kernel
def t154 : pT := [[some (.iload 2, 1, 0, 0, 0), some (.i2l, 1, 0, 0, 0), some (.ldc2_w 0, 1, 0, 0, 1), some (.ldc2_w 0, 3, 0, 0, 9), none, none, some (.invokestatic 1, 3, 118, 3, (-1)), none, none, some (.ifCond .ne 0, 3, 16, 0, 0), none, none, some (.ldc2_w 0, 3, 0, 0, (-2)), none, none, some (.lreturn, 1, 0, 0, 0)],
  [some (.aload 0, 1, 0, 0, 0), some (.getfield 0, 3, 6, 11, 2), none, none, some (.getfield 0, 3, 5, 10, 0), none, none, some (.ifCond .ne 0, 3, 30, 0, 0), none, none, some (.ldc2_w 0, 3, 0, 0, (-4)), none, none, some (.lreturn, 1, 0, 0, 0), some (.iload 1, 1, 0, 0, 0), some (.i2l, 1, 0, 0, 0)],
  [some (.ldc2_w 0, 1, 0, 0, 0), some (.aload 0, 1, 0, 0, 0), some (.getfield 0, 3, 6, 11, 2), none, none, some (.getfield 0, 3, 5, 10, 0), none, none, some (.iconst 1, 1, 0, 0, 0), some (.isub, 1, 0, 0, 0), some (.i2l, 1, 0, 0, 0), some (.invokestatic 1, 3, 118, 3, (-1)), none, none, some (.ifCond .eq 0, 3, 64, 0, 0), none],
  [none, some (.aload 0, 1, 0, 0, 0), some (.getfield 0, 3, 6, 11, 2), none, none, some (.getfield 0, 3, 4, 10, 2), none, none, some (.iload 1, 1, 0, 0, 0), some (.iaload, 1, 0, 0, 0), some (.iload 2, 1, 0, 0, 0), some (.isub, 1, 0, 0, 0), some (.iconst 1, 1, 0, 0, 0), some (.if_icmp .ge 0, 3, 68, 0, 0), none, none],
  [some (.ldc2_w 0, 3, 0, 0, (-2)), none, none, some (.lreturn, 1, 0, 0, 0), some (.aload 0, 1, 0, 0, 0), some (.getfield 0, 3, 6, 11, 2), none, none, some (.iload 1, 1, 0, 0, 0), some (.iload 2, 1, 0, 0, 0), some (.invokestatic 2, 3, 116, 3, 10), none, none, some (.lreturn, 1, 0, 0, 0), none, none]]
set_option maxRecDepth 100000 in
theorem k154 : pchk 11 2 cX11_worn 0 t154 = true := by decide +kernel
def t155 : pT := [[some (.iload 1, 1, 0, 0, 0), some (.invokestatic 1, 3, 124, 1, (-1)), none, none, some (.ifCond .eq 0, 3, 41, 0, 0), none, none, some (.iload 1, 1, 0, 0, 0), some (.aload 0, 1, 0, 0, 0), some (.getfield 0, 3, 7, 11, 2), none, none, some (.getfield 0, 3, 2, 3, 0), none, none, some (.if_icmp .lt 0, 3, 41, 0, 0)],
  [none, none, some (.aload 0, 1, 0, 0, 0), some (.iload 3, 1, 0, 0, 0), some (.invokestatic 1, 3, 121, 2, 11), none, none, some (.ifCond .eq 0, 3, 41, 0, 0), none, none, some (.iload 2, 1, 0, 0, 0), some (.invokestatic 1, 3, 125, 1, (-1)), none, none, some (.ifCond .eq 0, 3, 41, 0, 0), none],
  [none, some (.iload 4, 2, 0, 0, 0), none, some (.invokestatic 1, 3, 126, 1, (-1)), none, none, some (.ifCond .ne 0, 3, 44, 0, 0), none, none, some (.iconst (-2), 2, 0, 0, 0), none, some (.ireturn, 1, 0, 0, 0), some (.aload 0, 1, 0, 0, 0), some (.getfield 0, 3, 9, 11, 2), none, none],
  [some (.invokestatic 0, 3, 19, 1, 2), none, none, some (.aload 0, 1, 0, 0, 0), some (.getfield 0, 3, 7, 11, 2), none, none, some (.iload 1, 1, 0, 0, 0), some (.iload 2, 1, 0, 0, 0), some (.iload 3, 1, 0, 0, 0), some (.iload 4, 2, 0, 0, 0), none, some (.invokestatic 1, 3, 33, 5, 3), none, none, some (.ireturn, 1, 0, 0, 0)]]
set_option maxRecDepth 100000 in
theorem k155 : pchk 11 1 cX11_gauge 0 t155 = true := by decide +kernel
def t156 : pT := [[some (.iload 2, 1, 0, 0, 0), some (.i2l, 1, 0, 0, 0), some (.ldc2_w 0, 1, 0, 0, 0), some (.aload 0, 1, 0, 0, 0), some (.getfield 0, 3, 7, 11, 2), none, none, some (.getfield 0, 3, 0, 3, 0), none, none, some (.iconst 1, 1, 0, 0, 0), some (.isub, 1, 0, 0, 0), some (.i2l, 1, 0, 0, 0), some (.invokestatic 1, 3, 118, 3, (-1)), none, none],
  [some (.istore 4, 2, 0, 0, 0), none, some (.iload 1, 1, 0, 0, 0), some (.invokestatic 1, 3, 124, 1, (-1)), none, none, some (.ifCond .eq 0, 3, 48, 0, 0), none, none, some (.iload 1, 1, 0, 0, 0), some (.aload 0, 1, 0, 0, 0), some (.getfield 0, 3, 7, 11, 2), none, none, some (.getfield 0, 3, 2, 3, 0), none],
  [none, some (.if_icmp .lt 0, 3, 48, 0, 0), none, none, some (.iload 4, 2, 0, 0, 0), none, some (.ifCond .eq 0, 3, 48, 0, 0), none, none, some (.iload 3, 1, 0, 0, 0), some (.invokestatic 1, 3, 126, 1, (-1)), none, none, some (.ifCond .ne 0, 3, 51, 0, 0), none, none],
  [some (.iconst (-2), 2, 0, 0, 0), none, some (.ireturn, 1, 0, 0, 0), some (.aload 0, 1, 0, 0, 0), some (.getfield 0, 3, 9, 11, 2), none, none, some (.invokestatic 0, 3, 19, 1, 2), none, none, some (.aload 0, 1, 0, 0, 0), some (.getfield 0, 3, 7, 11, 2), none, none, some (.iload 1, 1, 0, 0, 0), some (.iload 2, 1, 0, 0, 0)],
  [some (.iload 3, 1, 0, 0, 0), some (.invokestatic 1, 3, 34, 4, 3), none, none, some (.ireturn, 1, 0, 0, 0), none, none, none, none, none, none, none, none, none, none, none]]
set_option maxRecDepth 100000 in
theorem k156 : pchk 11 1 cX11_right 0 t156 = true := by decide +kernel
def t157 : pT := [[some (.iload 1, 1, 0, 0, 0), some (.invokestatic 1, 3, 124, 1, (-1)), none, none, some (.ifCond .eq 0, 3, 16, 0, 0), none, none, some (.iload 2, 1, 0, 0, 0), some (.ifCond .eq 0, 3, 19, 0, 0), none, none, some (.iload 2, 1, 0, 0, 0), some (.iconst 1, 1, 0, 0, 0), some (.if_icmp .eq 0, 3, 19, 0, 0), none, none],
  [some (.iconst (-2), 2, 0, 0, 0), none, some (.ireturn, 1, 0, 0, 0), some (.aload 0, 1, 0, 0, 0), some (.getfield 0, 3, 9, 11, 2), none, none, some (.iload 1, 1, 0, 0, 0), some (.invokestatic 0, 3, 20, 2, 2), none, none, some (.iload 2, 1, 0, 0, 0), some (.ifCond .ne 0, 3, 41, 0, 0), none, none, some (.aload 0, 1, 0, 0, 0)],
  [some (.getfield 0, 3, 9, 11, 2), none, none, some (.getfield 0, 3, 3, 2, 0), none, none, some (.goto 0, 3, 48, 0, 0), none, none, some (.aload 0, 1, 0, 0, 0), some (.getfield 0, 3, 9, 11, 2), none, none, some (.getfield 0, 3, 4, 2, 0), none, none],
  [some (.ireturn, 1, 0, 0, 0), none, none, none, none, none, none, none, none, none, none, none, none, none, none, none]]
set_option maxRecDepth 100000 in
theorem k157 : pchk 11 1 cX11_fit 0 t157 = true := by decide +kernel
def t158 : pT := [[some (.aload 0, 1, 0, 0, 0), some (.getfield 0, 3, 8, 11, 2), none, none, some (.iload 1, 1, 0, 0, 0), some (.invokestatic 1, 3, 5, 2, 0), none, none, some (.ifCond .ne 0, 3, 14, 0, 0), none, none, some (.iconst (-9), 2, 0, 0, 0), none, some (.ireturn, 1, 0, 0, 0), some (.iload 2, 1, 0, 0, 0), some (.tableswitch 85 0 5 #[37, 45, 53, 61, 69, 77], 37, 0, 0, 0)],
  [none, none, none, none, none, none, none, none, none, none, none, none, none, none, none, none],
  [none, none, none, none, none, none, none, none, none, none, none, none, none, none, none, none],
  [none, none, none, none, some (.aload 0, 1, 0, 0, 0), some (.getfield 0, 3, 8, 11, 2), none, none, some (.getfield 0, 3, 1, 0, 0), none, none, some (.ireturn, 1, 0, 0, 0), some (.aload 0, 1, 0, 0, 0), some (.getfield 0, 3, 8, 11, 2), none, none],
  [some (.getfield 0, 3, 2, 0, 0), none, none, some (.ireturn, 1, 0, 0, 0), some (.aload 0, 1, 0, 0, 0), some (.getfield 0, 3, 8, 11, 2), none, none, some (.getfield 0, 3, 3, 0, 0), none, none, some (.ireturn, 1, 0, 0, 0), some (.aload 0, 1, 0, 0, 0), some (.getfield 0, 3, 8, 11, 2), none, none],
  [some (.getfield 0, 3, 4, 0, 0), none, none, some (.ireturn, 1, 0, 0, 0), some (.aload 0, 1, 0, 0, 0), some (.getfield 0, 3, 8, 11, 2), none, none, some (.getfield 0, 3, 5, 0, 0), none, none, some (.ireturn, 1, 0, 0, 0), some (.aload 0, 1, 0, 0, 0), some (.getfield 0, 3, 8, 11, 2), none, none],
  [some (.getfield 0, 3, 6, 0, 0), none, none, some (.ireturn, 1, 0, 0, 0), some (.iconst (-9), 2, 0, 0, 0), none, some (.ireturn, 1, 0, 0, 0), none, none, none, none, none, none, none, none, none]]
set_option maxRecDepth 100000 in
theorem k158 : pchk 11 1 cX11_cause 0 t158 = true := by decide +kernel
def t159 : pT := [[some (.iload 2, 1, 0, 0, 0), some (.invokestatic 1, 3, 125, 1, (-1)), none, none, some (.ifCond .eq 0, 3, 26, 0, 0), none, none, some (.aload 0, 1, 0, 0, 0), some (.iload 3, 1, 0, 0, 0), some (.invokestatic 1, 3, 121, 2, 11), none, none, some (.ifCond .eq 0, 3, 26, 0, 0), none, none, some (.aload 0, 1, 0, 0, 0)],
  [some (.getfield 0, 3, 8, 11, 2), none, none, some (.iload 1, 1, 0, 0, 0), some (.invokestatic 1, 3, 5, 2, 0), none, none, some (.ifCond .ne 0, 3, 30, 0, 0), none, none, some (.iconst (-9999), 3, 0, 0, 0), none, none, some (.ireturn, 1, 0, 0, 0), some (.aload 0, 1, 0, 0, 0), some (.getfield 0, 3, 8, 11, 2)],
  [none, none, some (.iload 2, 1, 0, 0, 0), some (.iload 3, 1, 0, 0, 0), some (.invokestatic 1, 3, 8, 3, 0), none, none, some (.ireturn, 1, 0, 0, 0), none, none, none, none, none, none, none, none]]
set_option maxRecDepth 100000 in
theorem k159 : pchk 11 1 cX11_tells 0 t159 = true := by decide +kernel
def t160 : pT := [[some (.aload 0, 1, 0, 0, 0), some (.iload 1, 1, 0, 0, 0), some (.invokestatic 1, 3, 120, 2, 11), none, none, some (.ifCond .eq 0, 3, 15, 0, 0), none, none, some (.iload 2, 1, 0, 0, 0), some (.invokestatic 1, 3, 124, 1, (-1)), none, none, some (.ifCond .ne 0, 3, 18, 0, 0), none, none, some (.iconst (-2), 2, 0, 0, 0)],
  [none, some (.ireturn, 1, 0, 0, 0), some (.aload 0, 1, 0, 0, 0), some (.getfield 0, 3, 9, 11, 2), none, none, some (.iload 2, 1, 0, 0, 0), some (.invokestatic 0, 3, 20, 2, 2), none, none, some (.aload 0, 1, 0, 0, 0), some (.getfield 0, 3, 9, 11, 2), none, none, some (.aload 0, 1, 0, 0, 0), some (.getfield 0, 3, 9, 11, 2)],
  [none, none, some (.iload 1, 1, 0, 0, 0), some (.invokestatic 1, 3, 25, 2, 2), none, none, some (.invokestatic 1, 3, 27, 2, 2), none, none, some (.ireturn, 1, 0, 0, 0), none, none, none, none, none, none]]
set_option maxRecDepth 100000 in
theorem k160 : pchk 11 1 cX11_surelyWorn 0 t160 = true := by decide +kernel
def t161 : pT := [[some (.aload 0, 1, 0, 0, 0), some (.iload 1, 1, 0, 0, 0), some (.invokestatic 1, 3, 121, 2, 11), none, none, some (.ifCond .eq 0, 3, 15, 0, 0), none, none, some (.iload 2, 1, 0, 0, 0), some (.invokestatic 1, 3, 124, 1, (-1)), none, none, some (.ifCond .ne 0, 3, 18, 0, 0), none, none, some (.iconst (-2), 2, 0, 0, 0)],
  [none, some (.ireturn, 1, 0, 0, 0), some (.aload 0, 1, 0, 0, 0), some (.getfield 0, 3, 9, 11, 2), none, none, some (.iload 2, 1, 0, 0, 0), some (.invokestatic 0, 3, 20, 2, 2), none, none, some (.aload 0, 1, 0, 0, 0), some (.getfield 0, 3, 9, 11, 2), none, none, some (.aload 0, 1, 0, 0, 0), some (.getfield 0, 3, 9, 11, 2)],
  [none, none, some (.iload 1, 1, 0, 0, 0), some (.invokestatic 1, 3, 26, 2, 2), none, none, some (.invokestatic 1, 3, 27, 2, 2), none, none, some (.ireturn, 1, 0, 0, 0), none, none, none, none, none, none]]
set_option maxRecDepth 100000 in
theorem k161 : pchk 11 1 cX11_surelyDull 0 t161 = true := by decide +kernel
def t162 : pT := [[some (.aload 0, 1, 0, 0, 0), some (.getfield 0, 3, 9, 11, 2), none, none, some (.iconst 999, 3, 0, 0, 0), none, none, some (.invokestatic 0, 3, 20, 2, 2), none, none, some (.aload 0, 1, 0, 0, 0), some (.getfield 0, 3, 10, 11, 2), none, none, some (.invokestatic 1, 3, 38, 1, 4), none],
  [none, some (.ireturn, 1, 0, 0, 0), none, none, none, none, none, none, none, none, none, none, none, none, none, none]]
set_option maxRecDepth 100000 in
theorem k162 : pchk 11 1 cX11_next 0 t162 = true := by decide +kernel
def t163 : pT := [[some (.iload 1, 1, 0, 0, 0), some (.invokestatic 1, 3, 127, 1, (-1)), none, none, some (.ifCond .eq 0, 3, 14, 0, 0), none, none, some (.iload 2, 1, 0, 0, 0), some (.invokestatic 1, 3, 124, 1, (-1)), none, none, some (.ifCond .ne 0, 3, 17, 0, 0), none, none, some (.iconst (-2), 2, 0, 0, 0), none],
  [some (.ireturn, 1, 0, 0, 0), some (.aload 0, 1, 0, 0, 0), some (.getfield 0, 3, 9, 11, 2), none, none, some (.iload 2, 1, 0, 0, 0), some (.invokestatic 0, 3, 20, 2, 2), none, none, some (.aload 0, 1, 0, 0, 0), some (.getfield 0, 3, 9, 11, 2), none, none, some (.iload 1, 1, 0, 0, 0), some (.invokestatic 1, 3, 28, 2, 2), none],
  [none, some (.ireturn, 1, 0, 0, 0), none, none, none, none, none, none, none, none, none, none, none, none, none, none]]
set_option maxRecDepth 100000 in
theorem k163 : pchk 11 1 cX11_halt 0 t163 = true := by decide +kernel
def t164 : pT := [[some (.iload 1, 1, 0, 0, 0), some (.invokestatic 1, 3, 125, 1, (-1)), none, none, some (.ifCond .eq 0, 3, 21, 0, 0), none, none, some (.iload 2, 1, 0, 0, 0), some (.invokestatic 1, 3, 127, 1, (-1)), none, none, some (.ifCond .eq 0, 3, 21, 0, 0), none, none, some (.iload 3, 1, 0, 0, 0), some (.invokestatic 1, 3, 124, 1, (-1))],
  [none, none, some (.ifCond .ne 0, 3, 24, 0, 0), none, none, some (.iconst (-2), 2, 0, 0, 0), none, some (.ireturn, 1, 0, 0, 0), some (.aload 0, 1, 0, 0, 0), some (.getfield 0, 3, 9, 11, 2), none, none, some (.iload 3, 1, 0, 0, 0), some (.invokestatic 0, 3, 20, 2, 2), none, none],
  [some (.aload 0, 1, 0, 0, 0), some (.getfield 0, 3, 8, 11, 2), none, none, some (.aload 0, 1, 0, 0, 0), some (.getfield 0, 3, 9, 11, 2), none, none, some (.getfield 0, 3, 4, 2, 0), none, none, some (.invokestatic 1, 3, 5, 2, 0), none, none, some (.ifCond .eq 0, 3, 61, 0, 0), none],
  [none, some (.aload 0, 1, 0, 0, 0), some (.getfield 0, 3, 8, 11, 2), none, none, some (.iload 1, 1, 0, 0, 0), some (.iload 2, 1, 0, 0, 0), some (.invokestatic 1, 3, 9, 3, 0), none, none, some (.goto 0, 3, 62, 0, 0), none, none, some (.iconst (-1), 1, 0, 0, 0), some (.ireturn, 1, 0, 0, 0), none]]
set_option maxRecDepth 100000 in
theorem k164 : pchk 11 1 cX11_bin 0 t164 = true := by decide +kernel
def t165 : pT := [[some (.iload 1, 1, 0, 0, 0), some (.tableswitch 75 0 4 #[35, 43, 51, 59, 67], 35, 0, 0, 0), none, none, none, none, none, none, none, none, none, none, none, none, none, none],
  [none, none, none, none, none, none, none, none, none, none, none, none, none, none, none, none],
  [none, none, none, none, some (.aload 0, 1, 0, 0, 0), some (.getfield 0, 3, 1, 11, 2), none, none, some (.getfield 0, 3, 0, 6, 0), none, none, some (.ireturn, 1, 0, 0, 0), some (.aload 0, 1, 0, 0, 0), some (.getfield 0, 3, 7, 11, 2), none, none],
  [some (.getfield 0, 3, 0, 3, 0), none, none, some (.ireturn, 1, 0, 0, 0), some (.aload 0, 1, 0, 0, 0), some (.getfield 0, 3, 7, 11, 2), none, none, some (.getfield 0, 3, 1, 3, 0), none, none, some (.ireturn, 1, 0, 0, 0), some (.aload 0, 1, 0, 0, 0), some (.getfield 0, 3, 0, 11, 2), none, none],
  [some (.getfield 0, 3, 2, 9, 0), none, none, some (.ireturn, 1, 0, 0, 0), some (.aload 0, 1, 0, 0, 0), some (.getfield 0, 3, 1, 11, 2), none, none, some (.invokestatic 1, 3, 67, 1, 6), none, none, some (.ireturn, 1, 0, 0, 0), some (.iconst (-1), 1, 0, 0, 0), some (.ireturn, 1, 0, 0, 0), none, none]]
set_option maxRecDepth 100000 in
theorem k165 : pchk 11 1 cX11_count 0 t165 = true := by decide +kernel
def t166 : pT := [[some (.lload 0, 1, 0, 0, 0), some (.lload 2, 1, 0, 0, 0), some (.lcmp, 1, 0, 0, 0), some (.ifCond .lt 0, 3, 17, 0, 0), none, none, some (.lload 0, 1, 0, 0, 0), some (.lload 4, 2, 0, 0, 0), none, some (.lcmp, 1, 0, 0, 0), some (.ifCond .gt 0, 3, 17, 0, 0), none, none, some (.iconst 1, 1, 0, 0, 0), some (.goto 0, 3, 18, 0, 0), none],
  [none, some (.iconst 0, 1, 0, 0, 0), some (.ireturn, 1, 0, 0, 3), none, none, none, none, none, none, none, none, none, none, none, none, none]]
set_option maxRecDepth 100000 in
theorem k166 : pchk 12 3 cX12_in 0 t166 = true := by decide +kernel
def t167 : pT := [[some (.aload 0, 1, 0, 0, 0), some (.iload 1, 1, 0, 0, 0), some (.putfield 0, 3, 8, 12, 0), none, none, some (.aload 0, 1, 0, 0, 0), some (.aload 0, 1, 0, 0, 0), some (.getfield 0, 3, 3, 12, 0), none, none, some (.putfield 0, 3, 9, 12, 0), none, none, some (.iconst 0, 1, 0, 0, 0), some (.ireturn, 1, 0, 0, 3), none]]
set_option maxRecDepth 100000 in
theorem k167 : pchk 12 3 cX12_bad 0 t167 = true := by decide +kernel
def t168 : pT := [[some (.iload 1, 1, 0, 0, 0), some (.aload 0, 1, 0, 0, 0), some (.getfield 0, 3, 2, 12, 0), none, none, some (.if_icmp .ge 0, 3, 21, 0, 0), none, none, some (.aload 0, 1, 0, 0, 0), some (.getfield 0, 3, 0, 12, 2), none, none, some (.iload 1, 1, 0, 0, 0), some (.baload, 1, 0, 0, 0), some (.iconst 255, 3, 0, 0, 0), none],
  [none, some (.iand, 1, 0, 0, 0), some (.goto 0, 3, 22, 0, 0), none, none, some (.iconst 0, 1, 0, 0, 0), some (.ireturn, 1, 0, 0, 0), none, none, none, none, none, none, none, none, none]]
set_option maxRecDepth 100000 in
theorem k168 : pchk 12 1 cX12_byteAt 0 t168 = true := by decide +kernel
def t169 : pT := [[some (.iload 0, 1, 0, 0, 0), some (.iconst 97, 2, 0, 0, 0), none, some (.if_icmp .lt 0, 3, 16, 0, 0), none, none, some (.iload 0, 1, 0, 0, 0), some (.iconst 122, 2, 0, 0, 0), none, some (.if_icmp .gt 0, 3, 16, 0, 0), none, none, some (.iconst 1, 1, 0, 0, 0), some (.goto 0, 3, 17, 0, 0), none, none],
  [some (.iconst 0, 1, 0, 0, 0), some (.ireturn, 1, 0, 0, 3), none, none, none, none, none, none, none, none, none, none, none, none, none, none]]
set_option maxRecDepth 100000 in
theorem k169 : pchk 12 3 cX12_isSmall 0 t169 = true := by decide +kernel
def t170 : pT := [[some (.iload 0, 1, 0, 0, 0), some (.iconst 48, 2, 0, 0, 0), none, some (.if_icmp .lt 0, 3, 16, 0, 0), none, none, some (.iload 0, 1, 0, 0, 0), some (.iconst 57, 2, 0, 0, 0), none, some (.if_icmp .gt 0, 3, 16, 0, 0), none, none, some (.iconst 1, 1, 0, 0, 0), some (.goto 0, 3, 17, 0, 0), none, none],
  [some (.iconst 0, 1, 0, 0, 0), some (.ireturn, 1, 0, 0, 3), none, none, none, none, none, none, none, none, none, none, none, none, none, none]]
set_option maxRecDepth 100000 in
theorem k170 : pchk 12 3 cX12_isDigit 0 t170 = true := by decide +kernel
def t171 : pT := [[some (.aload 0, 1, 0, 0, 0), some (.getfield 0, 3, 4, 12, 0), none, none, some (.aload 0, 1, 0, 0, 0), some (.getfield 0, 3, 2, 12, 0), none, none, some (.if_icmp .ge 0, 3, 52, 0, 0), none, none, some (.aload 0, 1, 0, 0, 0), some (.getfield 0, 3, 0, 12, 2), none, none, some (.aload 0, 1, 0, 0, 0)],
  [some (.getfield 0, 3, 4, 12, 0), none, none, some (.baload, 1, 0, 0, 0), some (.iconst 32, 2, 0, 0, 0), none, some (.if_icmp .eq 0, 3, 39, 0, 0), none, none, some (.aload 0, 1, 0, 0, 0), some (.getfield 0, 3, 0, 12, 2), none, none, some (.aload 0, 1, 0, 0, 0), some (.getfield 0, 3, 4, 12, 0), none],
  [none, some (.baload, 1, 0, 0, 0), some (.iconst 10, 2, 0, 0, 0), none, some (.if_icmp .ne 0, 3, 52, 0, 0), none, none, some (.aload 0, 1, 0, 0, 0), some (.dup, 1, 0, 0, 0), some (.getfield 0, 3, 4, 12, 0), none, none, some (.iconst 1, 1, 0, 0, 0), some (.iadd, 1, 0, 0, 0), some (.putfield 0, 3, 4, 12, 0), none],
  [none, some (.goto 0, 3, 0, 0, 0), none, none, some (.aload 0, 1, 0, 0, 0), some (.aload 0, 1, 0, 0, 0), some (.getfield 0, 3, 4, 12, 0), none, none, some (.putfield 0, 3, 3, 12, 0), none, none, some (.aload 0, 1, 0, 0, 0), some (.aload 0, 1, 0, 0, 0), some (.getfield 0, 3, 3, 12, 0), none],
  [none, some (.invokestatic 1, 3, 168, 2, 12), none, none, some (.istore 1, 1, 0, 0, 0), some (.aload 0, 1, 0, 0, 0), some (.getfield 0, 3, 3, 12, 0), none, none, some (.aload 0, 1, 0, 0, 0), some (.getfield 0, 3, 2, 12, 0), none, none, some (.if_icmp .ne 0, 3, 88, 0, 0), none, none],
  [some (.aload 0, 1, 0, 0, 0), some (.iconst 0, 1, 0, 0, 0), some (.putfield 0, 3, 5, 12, 0), none, none, some (.goto 0, 3, 273, 0, 0), none, none, some (.iload 1, 1, 0, 0, 0), some (.invokestatic 1, 3, 169, 1, (-1)), none, none, some (.ifCond .eq 0, 3, 148, 0, 0), none, none, some (.aload 0, 1, 0, 0, 0)],
  [some (.aload 0, 1, 0, 0, 0), some (.getfield 0, 3, 4, 12, 0), none, none, some (.invokestatic 1, 3, 168, 2, 12), none, none, some (.invokestatic 1, 3, 169, 1, (-1)), none, none, some (.ifCond .eq 0, 3, 122, 0, 0), none, none, some (.aload 0, 1, 0, 0, 0), some (.dup, 1, 0, 0, 0), some (.getfield 0, 3, 4, 12, 0)],
  [none, none, some (.iconst 1, 1, 0, 0, 0), some (.iadd, 1, 0, 0, 0), some (.putfield 0, 3, 4, 12, 0), none, none, some (.goto 0, 3, 95, 0, 0), none, none, some (.aload 0, 1, 0, 0, 0), some (.aload 0, 1, 0, 0, 0), some (.getfield 0, 3, 4, 12, 0), none, none, some (.aload 0, 1, 0, 0, 0)],
  [some (.getfield 0, 3, 3, 12, 0), none, none, some (.isub, 1, 0, 0, 0), some (.iconst 8, 2, 0, 0, 0), none, some (.if_icmp .le 0, 3, 141, 0, 0), none, none, some (.iconst 4, 1, 0, 0, 0), some (.goto 0, 3, 142, 0, 0), none, none, some (.iconst 1, 1, 0, 0, 0), some (.putfield 0, 3, 5, 12, 0), none],
  [none, some (.goto 0, 3, 273, 0, 0), none, none, some (.iload 1, 1, 0, 0, 0), some (.invokestatic 1, 3, 170, 1, (-1)), none, none, some (.ifCond .eq 0, 3, 248, 0, 0), none, none, some (.aload 0, 1, 0, 0, 0), some (.iconst 0, 1, 0, 0, 0), some (.putfield 0, 3, 6, 12, 0), none, none],
  [some (.aload 0, 1, 0, 0, 0), some (.aload 0, 1, 0, 0, 0), some (.getfield 0, 3, 4, 12, 0), none, none, some (.invokestatic 1, 3, 168, 2, 12), none, none, some (.invokestatic 1, 3, 170, 1, (-1)), none, none, some (.ifCond .eq 0, 3, 223, 0, 0), none, none, some (.aload 0, 1, 0, 0, 0), some (.getfield 0, 3, 4, 12, 0)],
  [none, none, some (.aload 0, 1, 0, 0, 0), some (.getfield 0, 3, 3, 12, 0), none, none, some (.isub, 1, 0, 0, 0), some (.iconst 4, 1, 0, 0, 0), some (.if_icmp .ge 0, 3, 210, 0, 0), none, none, some (.aload 0, 1, 0, 0, 0), some (.iconst 10, 2, 0, 0, 0), none, some (.aload 0, 1, 0, 0, 0), some (.getfield 0, 3, 6, 12, 0)],
  [none, none, some (.imul, 1, 0, 0, 0), some (.aload 0, 1, 0, 0, 0), some (.aload 0, 1, 0, 0, 0), some (.getfield 0, 3, 4, 12, 0), none, none, some (.invokestatic 1, 3, 168, 2, 12), none, none, some (.iadd, 1, 0, 0, 0), some (.iconst 48, 2, 0, 0, 0), none, some (.isub, 1, 0, 0, 0), some (.putfield 0, 3, 6, 12, 0)],
  [none, none, some (.aload 0, 1, 0, 0, 0), some (.dup, 1, 0, 0, 0), some (.getfield 0, 3, 4, 12, 0), none, none, some (.iconst 1, 1, 0, 0, 0), some (.iadd, 1, 0, 0, 0), some (.putfield 0, 3, 4, 12, 0), none, none, some (.goto 0, 3, 160, 0, 0), none, none, some (.aload 0, 1, 0, 0, 0)],
  [some (.aload 0, 1, 0, 0, 0), some (.getfield 0, 3, 4, 12, 0), none, none, some (.aload 0, 1, 0, 0, 0), some (.getfield 0, 3, 3, 12, 0), none, none, some (.isub, 1, 0, 0, 0), some (.iconst 4, 1, 0, 0, 0), some (.if_icmp .le 0, 3, 241, 0, 0), none, none, some (.iconst 4, 1, 0, 0, 0), some (.goto 0, 3, 242, 0, 0), none],
  [none, some (.iconst 2, 1, 0, 0, 0), some (.putfield 0, 3, 5, 12, 0), none, none, some (.goto 0, 3, 273, 0, 0), none, none, some (.aload 0, 1, 0, 0, 0), some (.iload 1, 1, 0, 0, 0), some (.iconst 59, 2, 0, 0, 0), none, some (.if_icmp .ne 0, 3, 259, 0, 0), none, none, some (.iconst 3, 1, 0, 0, 0)],
  [some (.goto 0, 3, 260, 0, 0), none, none, some (.iconst 4, 1, 0, 0, 0), some (.putfield 0, 3, 5, 12, 0), none, none, some (.aload 0, 1, 0, 0, 0), some (.dup, 1, 0, 0, 0), some (.getfield 0, 3, 4, 12, 0), none, none, some (.iconst 1, 1, 0, 0, 0), some (.iadd, 1, 0, 0, 0), some (.putfield 0, 3, 4, 12, 0), none],
  [none, some (.return_, 1, 0, 0, 0), none, none, none, none, none, none, none, none, none, none, none, none, none, none]]
set_option maxRecDepth 100000 in
theorem k171 : pchk 12 0 cX12_scan 0 t171 = true := by decide +kernel
def t172 : pT := [[some (.aload 0, 1, 0, 0, 0), some (.getfield 0, 3, 5, 12, 0), none, none, some (.iconst 1, 1, 0, 0, 0), some (.if_icmp .ne 0, 3, 28, 0, 0), none, none, some (.aload 0, 1, 0, 0, 0), some (.getfield 0, 3, 4, 12, 0), none, none, some (.aload 0, 1, 0, 0, 0), some (.getfield 0, 3, 3, 12, 0), none, none],
  [some (.isub, 1, 0, 0, 0), some (.aload 1, 1, 0, 0, 0), some (.daload, 3, 0, 0, 0), none, none, some (.if_icmp .ne 0, 3, 28, 0, 0), none, none, some (.iconst 1, 1, 0, 0, 0), some (.goto 0, 3, 29, 0, 0), none, none, some (.iconst 0, 1, 0, 0, 0), some (.istore 2, 1, 0, 0, 0), some (.iconst 0, 1, 0, 0, 0), some (.istore 3, 1, 0, 0, 0)],
  [some (.iload 3, 1, 0, 0, 0), some (.aload 1, 1, 0, 0, 0), some (.daload, 3, 0, 0, 0), none, none, some (.if_icmp .ge 0, 3, 75, 0, 0), none, none, some (.iload 2, 1, 0, 0, 0), some (.ifCond .eq 0, 3, 75, 0, 0), none, none, some (.aload 0, 1, 0, 0, 0), some (.getfield 0, 3, 0, 12, 2), none, none],
  [some (.aload 0, 1, 0, 0, 0), some (.getfield 0, 3, 3, 12, 0), none, none, some (.iload 3, 1, 0, 0, 0), some (.iadd, 1, 0, 0, 0), some (.baload, 1, 0, 0, 0), some (.aload 1, 1, 0, 0, 0), some (.iload 3, 1, 0, 0, 0), some (.dastore, 3, 0, 0, 0), none, none, some (.if_icmp .ne 0, 3, 67, 0, 0), none, none, some (.iconst 1, 1, 0, 0, 0)],
  [some (.goto 0, 3, 68, 0, 0), none, none, some (.iconst 0, 1, 0, 0, 0), some (.istore 2, 1, 0, 0, 0), some (.iinc 3 1, 3, 0, 0, 0), none, none, some (.goto 0, 3, 32, 0, 0), none, none, some (.iload 2, 1, 0, 0, 0), some (.ireturn, 1, 0, 0, 3), none, none, none]]
set_option maxRecDepth 100000 in
theorem k172 : pchk 12 3 cX12_is 0 t172 = true := by decide +kernel
def t173 : pT := [[some (.aload 0, 1, 0, 0, 0), some (.getfield 0, 3, 5, 12, 0), none, none, some (.iconst 2, 1, 0, 0, 0), some (.if_icmp .eq 0, 3, 14, 0, 0), none, none, some (.aload 0, 1, 0, 0, 0), some (.iconst 1, 1, 0, 0, 0), some (.invokestatic 1, 3, 167, 2, 12), none, none, some (.ireturn, 1, 0, 0, 3), some (.aload 0, 1, 0, 0, 0), some (.getfield 0, 3, 6, 12, 0)],
  [none, none, some (.i2l, 1, 0, 0, 0), some (.iload 1, 1, 0, 0, 0), some (.i2l, 1, 0, 0, 0), some (.iload 2, 1, 0, 0, 0), some (.i2l, 1, 0, 0, 0), some (.invokestatic 1, 3, 166, 3, (-1)), none, none, some (.ifCond .ne 0, 3, 35, 0, 0), none, none, some (.aload 0, 1, 0, 0, 0), some (.iconst 2, 1, 0, 0, 0), some (.invokestatic 1, 3, 167, 2, 12)],
  [none, none, some (.ireturn, 1, 0, 0, 3), some (.aload 0, 1, 0, 0, 0), some (.aload 0, 1, 0, 0, 0), some (.getfield 0, 3, 6, 12, 0), none, none, some (.putfield 0, 3, 7, 12, 0), none, none, some (.iconst 1, 1, 0, 0, 0), some (.ireturn, 1, 0, 0, 3), none, none, none]]
set_option maxRecDepth 100000 in
theorem k173 : pchk 12 3 cX12_look 0 t173 = true := by decide +kernel
def t174 : pT := [[some (.aload 0, 1, 0, 0, 0), some (.iload 1, 1, 0, 0, 0), some (.iload 2, 1, 0, 0, 0), some (.invokestatic 1, 3, 173, 3, 12), none, none, some (.ifCond .ne 0, 3, 11, 0, 0), none, none, some (.iconst 0, 1, 0, 0, 0), some (.ireturn, 1, 0, 0, 3), some (.aload 0, 1, 0, 0, 0), some (.invokestatic 0, 3, 171, 1, 12), none, none, some (.iconst 1, 1, 0, 0, 0)],
  [some (.ireturn, 1, 0, 0, 3), none, none, none, none, none, none, none, none, none, none, none, none, none, none, none]]
set_option maxRecDepth 100000 in
theorem k174 : pchk 12 3 cX12_number 0 t174 = true := by decide +kernel
def t175 : pT := [[some (.aload 0, 1, 0, 0, 0), some (.aload 0, 1, 0, 0, 0), some (.getfield 0, 3, 1, 12, 0), none, none, some (.putfield 0, 3, 2, 12, 0), none, none, some (.aload 0, 1, 0, 0, 0), some (.iconst 0, 1, 0, 0, 0), some (.putfield 0, 3, 1, 12, 0), none, none, some (.aload 0, 1, 0, 0, 0), some (.iconst 0, 1, 0, 0, 0), some (.putfield 0, 3, 4, 12, 0)],
  [none, none, some (.aload 0, 1, 0, 0, 0), some (.invokestatic 0, 3, 171, 1, 12), none, none, some (.return_, 1, 0, 0, 0), none, none, none, none, none, none, none, none, none]]
set_option maxRecDepth 100000 in
theorem k175 : pchk 12 0 cX12_open 0 t175 = true := by decide +kernel
def t176 : pT := [[some (.ldc2_w 0, 1, 0, 0, 0), some (.lstore 1, 1, 0, 0, 0), some (.aload 0, 1, 0, 0, 0), some (.getfield 0, 3, 3, 12, 0), none, none, some (.istore 3, 1, 0, 0, 0), some (.iload 3, 1, 0, 0, 0), some (.aload 0, 1, 0, 0, 0), some (.getfield 0, 3, 4, 12, 0), none, none, some (.if_icmp .ge 0, 3, 35, 0, 0), none, none, some (.lload 1, 1, 0, 0, 0)],
  [some (.iconst 5, 1, 0, 0, 0), some (.lshl, 1, 0, 0, 0), some (.aload 0, 1, 0, 0, 0), some (.iload 3, 1, 0, 0, 0), some (.invokestatic 1, 3, 168, 2, 12), none, none, some (.iconst 96, 2, 0, 0, 0), none, some (.isub, 1, 0, 0, 0), some (.i2l, 1, 0, 0, 0), some (.lor, 1, 0, 0, 0), some (.lstore 1, 1, 0, 0, 0), some (.iinc 3 1, 3, 0, 0, 0), none, none],
  [some (.goto 0, 3, 7, 0, 0), none, none, some (.lload 1, 1, 0, 0, 0), some (.lreturn, 1, 0, 0, 0), none, none, none, none, none, none, none, none, none, none, none]]
set_option maxRecDepth 100000 in
theorem k176 : pchk 12 2 cX12_name 0 t176 = true := by decide +kernel
def t177 : pT := [[some (.iconst 0, 1, 0, 0, 0), some (.istore 1, 1, 0, 0, 0), some (.iload 1, 1, 0, 0, 0), some (.aload 0, 1, 0, 0, 0), some (.getfield 0, 3, 14, 12, 0), none, none, some (.if_icmp .ge 0, 3, 32, 0, 0), none, none, some (.aload 0, 1, 0, 0, 0), some (.getfield 0, 3, 19, 12, 2), none, none, some (.iload 1, 1, 0, 0, 0), some (.laload, 1, 0, 0, 0)],
  [some (.aload 0, 1, 0, 0, 0), some (.invokestatic 2, 3, 176, 1, 12), none, none, some (.lcmp, 1, 0, 0, 0), some (.ifCond .ne 0, 3, 26, 0, 0), none, none, some (.iload 1, 1, 0, 0, 0), some (.ireturn, 1, 0, 0, 0), some (.iinc 1 1, 3, 0, 0, 0), none, none, some (.goto 0, 3, 2, 0, 0), none, none],
  [some (.iconst (-1), 1, 0, 0, 0), some (.ireturn, 1, 0, 0, 0), none, none, none, none, none, none, none, none, none, none, none, none, none, none]]
set_option maxRecDepth 100000 in
theorem k177 : pchk 12 1 cX12_toolAt 0 t177 = true := by decide +kernel
def t178 : pT := [[some (.aload 0, 1, 0, 0, 0), some (.getfield 0, 3, 14, 12, 0), none, none, some (.iconst 6, 2, 0, 0, 0), none, some (.if_icmp .ne 0, 3, 15, 0, 0), none, none, some (.aload 0, 1, 0, 0, 0), some (.iconst 4, 1, 0, 0, 0), some (.invokestatic 1, 3, 167, 2, 12), none, none, some (.ireturn, 1, 0, 0, 3), some (.aload 0, 1, 0, 0, 0)],
  [some (.invokestatic 0, 3, 171, 1, 12), none, none, some (.aload 0, 1, 0, 0, 0), some (.getfield 0, 3, 5, 12, 0), none, none, some (.iconst 1, 1, 0, 0, 0), some (.if_icmp .eq 0, 3, 33, 0, 0), none, none, some (.aload 0, 1, 0, 0, 0), some (.iconst 1, 1, 0, 0, 0), some (.invokestatic 1, 3, 167, 2, 12), none, none],
  [some (.ireturn, 1, 0, 0, 3), some (.aload 0, 1, 0, 0, 0), some (.invokestatic 1, 3, 177, 1, 12), none, none, some (.iconst (-1), 1, 0, 0, 0), some (.if_icmp .eq 0, 3, 47, 0, 0), none, none, some (.aload 0, 1, 0, 0, 0), some (.iconst 3, 1, 0, 0, 0), some (.invokestatic 1, 3, 167, 2, 12), none, none, some (.ireturn, 1, 0, 0, 3), some (.aload 0, 1, 0, 0, 0)],
  [some (.invokestatic 2, 3, 176, 1, 12), none, none, some (.lstore 1, 1, 0, 0, 0), some (.aload 0, 1, 0, 0, 0), some (.invokestatic 0, 3, 171, 1, 12), none, none, some (.aload 0, 1, 0, 0, 0), some (.iconst 1, 1, 0, 0, 0), some (.iconst 50, 2, 0, 0, 0), none, some (.invokestatic 1, 3, 174, 3, 12), none, none, some (.ifCond .ne 0, 3, 68, 0, 0)],
  [none, none, some (.iconst 0, 1, 0, 0, 0), some (.ireturn, 1, 0, 0, 3), some (.aload 0, 1, 0, 0, 0), some (.getfield 0, 3, 27, 12, 2), none, none, some (.aload 0, 1, 0, 0, 0), some (.getfield 0, 3, 14, 12, 0), none, none, some (.aload 0, 1, 0, 0, 0), some (.getfield 0, 3, 7, 12, 0), none, none],
  [some (.iastore, 1, 0, 0, 0), some (.aload 0, 1, 0, 0, 0), some (.iconst 1, 1, 0, 0, 0), some (.iconst 60, 2, 0, 0, 0), none, some (.invokestatic 1, 3, 174, 3, 12), none, none, some (.ifCond .ne 0, 3, 93, 0, 0), none, none, some (.iconst 0, 1, 0, 0, 0), some (.ireturn, 1, 0, 0, 3), some (.aload 0, 1, 0, 0, 0), some (.getfield 0, 3, 28, 12, 2), none],
  [none, some (.aload 0, 1, 0, 0, 0), some (.getfield 0, 3, 14, 12, 0), none, none, some (.aload 0, 1, 0, 0, 0), some (.getfield 0, 3, 7, 12, 0), none, none, some (.iastore, 1, 0, 0, 0), some (.aload 0, 1, 0, 0, 0), some (.getfield 0, 3, 29, 12, 2), none, none, some (.aload 0, 1, 0, 0, 0), some (.getfield 0, 3, 14, 12, 0)],
  [none, none, some (.iconst 0, 1, 0, 0, 0), some (.iastore, 1, 0, 0, 0), some (.aload 0, 1, 0, 0, 0), some (.getfield 0, 3, 19, 12, 2), none, none, some (.aload 0, 1, 0, 0, 0), some (.getfield 0, 3, 14, 12, 0), none, none, some (.lload 1, 1, 0, 0, 0), some (.lastore, 1, 0, 0, 0), some (.aload 0, 1, 0, 0, 0), some (.dup, 1, 0, 0, 0)],
  [some (.getfield 0, 3, 14, 12, 0), none, none, some (.iconst 1, 1, 0, 0, 0), some (.iadd, 1, 0, 0, 0), some (.putfield 0, 3, 14, 12, 0), none, none, some (.iconst 1, 1, 0, 0, 0), some (.ireturn, 1, 0, 0, 3), none, none, none, none, none, none]]
set_option maxRecDepth 100000 in
theorem k178 : pchk 12 3 cX12_readTool 0 t178 = true := by decide +kernel
def t179 : pT := [[some (.aload 0, 1, 0, 0, 0), some (.getfield 0, 3, 5, 12, 0), none, none, some (.iconst 1, 1, 0, 0, 0), some (.if_icmp .eq 0, 3, 14, 0, 0), none, none, some (.aload 0, 1, 0, 0, 0), some (.iconst 1, 1, 0, 0, 0), some (.invokestatic 1, 3, 167, 2, 12), none, none, some (.ireturn, 1, 0, 0, 3), some (.aload 0, 1, 0, 0, 0), some (.aload 0, 1, 0, 0, 0)],
  [some (.invokestatic 1, 3, 177, 1, 12), none, none, some (.putfield 0, 3, 7, 12, 0), none, none, some (.aload 0, 1, 0, 0, 0), some (.getfield 0, 3, 7, 12, 0), none, none, some (.iconst (-1), 1, 0, 0, 0), some (.if_icmp .ne 0, 3, 38, 0, 0), none, none, some (.aload 0, 1, 0, 0, 0), some (.iconst 5, 1, 0, 0, 0)],
  [some (.invokestatic 1, 3, 167, 2, 12), none, none, some (.ifCond .eq 0, 3, 42, 0, 0), none, none, some (.iconst 1, 1, 0, 0, 0), some (.goto 0, 3, 43, 0, 0), none, none, some (.iconst 0, 1, 0, 0, 0), some (.ireturn, 1, 0, 0, 3), none, none, none, none]]
set_option maxRecDepth 100000 in
theorem k179 : pchk 12 3 cX12_known 0 t179 = true := by decide +kernel
def t180 : pT := [[some (.aload 0, 1, 0, 0, 0), some (.getfield 0, 3, 15, 12, 0), none, none, some (.iconst 7, 2, 0, 0, 0), none, some (.if_icmp .ne 0, 3, 15, 0, 0), none, none, some (.aload 0, 1, 0, 0, 0), some (.iconst 4, 1, 0, 0, 0), some (.invokestatic 1, 3, 167, 2, 12), none, none, some (.ireturn, 1, 0, 0, 3), some (.aload 0, 1, 0, 0, 0)],
  [some (.invokestatic 0, 3, 171, 1, 12), none, none, some (.aload 0, 1, 0, 0, 0), some (.invokestatic 1, 3, 179, 1, 12), none, none, some (.ifCond .ne 0, 3, 28, 0, 0), none, none, some (.iconst 0, 1, 0, 0, 0), some (.ireturn, 1, 0, 0, 3), some (.aload 0, 1, 0, 0, 0), some (.getfield 0, 3, 30, 12, 2), none, none],
  [some (.aload 0, 1, 0, 0, 0), some (.getfield 0, 3, 15, 12, 0), none, none, some (.aload 0, 1, 0, 0, 0), some (.getfield 0, 3, 7, 12, 0), none, none, some (.iastore, 1, 0, 0, 0), some (.aload 0, 1, 0, 0, 0), some (.invokestatic 0, 3, 171, 1, 12), none, none, some (.aload 0, 1, 0, 0, 0), some (.iconst 1, 1, 0, 0, 0), some (.iconst 400, 3, 0, 0, 0)],
  [none, none, some (.invokestatic 1, 3, 174, 3, 12), none, none, some (.ifCond .ne 0, 3, 58, 0, 0), none, none, some (.iconst 0, 1, 0, 0, 0), some (.ireturn, 1, 0, 0, 3), some (.aload 0, 1, 0, 0, 0), some (.getfield 0, 3, 31, 12, 2), none, none, some (.aload 0, 1, 0, 0, 0), some (.getfield 0, 3, 15, 12, 0)],
  [none, none, some (.aload 0, 1, 0, 0, 0), some (.getfield 0, 3, 7, 12, 0), none, none, some (.iastore, 1, 0, 0, 0), some (.aload 0, 1, 0, 0, 0), some (.getfield 0, 3, 32, 12, 2), none, none, some (.aload 0, 1, 0, 0, 0), some (.getfield 0, 3, 15, 12, 0), none, none, some (.iconst 0, 1, 0, 0, 0)],
  [some (.iastore, 1, 0, 0, 0), some (.aload 0, 1, 0, 0, 0), some (.getfield 0, 3, 5, 12, 0), none, none, some (.iconst 2, 1, 0, 0, 0), some (.if_icmp .ne 0, 3, 114, 0, 0), none, none, some (.aload 0, 1, 0, 0, 0), some (.iconst 0, 1, 0, 0, 0), some (.iconst 99, 2, 0, 0, 0), none, some (.invokestatic 1, 3, 174, 3, 12), none, none],
  [some (.ifCond .ne 0, 3, 101, 0, 0), none, none, some (.iconst 0, 1, 0, 0, 0), some (.ireturn, 1, 0, 0, 3), some (.aload 0, 1, 0, 0, 0), some (.getfield 0, 3, 32, 12, 2), none, none, some (.aload 0, 1, 0, 0, 0), some (.getfield 0, 3, 15, 12, 0), none, none, some (.aload 0, 1, 0, 0, 0), some (.getfield 0, 3, 7, 12, 0), none],
  [none, some (.iastore, 1, 0, 0, 0), some (.aload 0, 1, 0, 0, 0), some (.getfield 0, 3, 33, 12, 2), none, none, some (.aload 0, 1, 0, 0, 0), some (.getfield 0, 3, 15, 12, 0), none, none, some (.iconst 0, 1, 0, 0, 0), some (.iastore, 1, 0, 0, 0), some (.aload 0, 1, 0, 0, 0), some (.dup, 1, 0, 0, 0), some (.getfield 0, 3, 15, 12, 0), none],
  [none, some (.iconst 1, 1, 0, 0, 0), some (.iadd, 1, 0, 0, 0), some (.putfield 0, 3, 15, 12, 0), none, none, some (.iconst 1, 1, 0, 0, 0), some (.ireturn, 1, 0, 0, 3), none, none, none, none, none, none, none, none]]
set_option maxRecDepth 100000 in
theorem k180 : pchk 12 3 cX12_readStep 0 t180 = true := by decide +kernel
def t181 : pT := [[some (.aload 0, 1, 0, 0, 0), some (.invokestatic 0, 3, 171, 1, 12), none, none, some (.aload 0, 1, 0, 0, 0), some (.iconst 0, 1, 0, 0, 0), some (.aload 0, 1, 0, 0, 0), some (.getfield 0, 3, 15, 12, 0), none, none, some (.iconst 1, 1, 0, 0, 0), some (.isub, 1, 0, 0, 0), some (.invokestatic 1, 3, 174, 3, 12), none, none, some (.ifCond .ne 0, 3, 20, 0, 0)],
  [none, none, some (.iconst 0, 1, 0, 0, 0), some (.ireturn, 1, 0, 0, 3), some (.aload 0, 1, 0, 0, 0), some (.getfield 0, 3, 7, 12, 0), none, none, some (.istore 1, 1, 0, 0, 0), some (.aload 0, 1, 0, 0, 0), some (.iload 1, 1, 0, 0, 0), some (.aload 0, 1, 0, 0, 0), some (.getfield 0, 3, 15, 12, 0), none, none, some (.iconst 1, 1, 0, 0, 0)],
  [some (.isub, 1, 0, 0, 0), some (.invokestatic 1, 3, 173, 3, 12), none, none, some (.ifCond .ne 0, 3, 41, 0, 0), none, none, some (.iconst 0, 1, 0, 0, 0), some (.ireturn, 1, 0, 0, 3), some (.aload 0, 1, 0, 0, 0), some (.getfield 0, 3, 7, 12, 0), none, none, some (.iload 1, 1, 0, 0, 0), some (.if_icmp .eq 0, 3, 66, 0, 0), none],
  [none, some (.aload 0, 1, 0, 0, 0), some (.getfield 0, 3, 33, 12, 2), none, none, some (.aload 0, 1, 0, 0, 0), some (.getfield 0, 3, 7, 12, 0), none, none, some (.iaload, 1, 0, 0, 0), some (.iload 1, 1, 0, 0, 0), some (.ishr, 1, 0, 0, 0), some (.iconst 1, 1, 0, 0, 0), some (.iand, 1, 0, 0, 0), some (.iconst 1, 1, 0, 0, 0), some (.if_icmp .ne 0, 3, 72, 0, 0)],
  [none, none, some (.aload 0, 1, 0, 0, 0), some (.iconst 3, 1, 0, 0, 0), some (.invokestatic 1, 3, 167, 2, 12), none, none, some (.ireturn, 1, 0, 0, 3), some (.aload 0, 1, 0, 0, 0), some (.getfield 0, 3, 33, 12, 2), none, none, some (.aload 0, 1, 0, 0, 0), some (.getfield 0, 3, 7, 12, 0), none, none],
  [some (.dup2, 1, 0, 0, 0), some (.iaload, 1, 0, 0, 0), some (.iconst 1, 1, 0, 0, 0), some (.iload 1, 1, 0, 0, 0), some (.ishl, 1, 0, 0, 0), some (.ior, 1, 0, 0, 0), some (.iastore, 1, 0, 0, 0), some (.aload 0, 1, 0, 0, 0), some (.invokestatic 0, 3, 171, 1, 12), none, none, some (.iconst 1, 1, 0, 0, 0), some (.ireturn, 1, 0, 0, 3), none, none, none]]
set_option maxRecDepth 100000 in
theorem k181 : pchk 12 3 cX12_readAfter 0 t181 = true := by decide +kernel
def t182 : pT := [[some (.aload 0, 1, 0, 0, 0), some (.invokestatic 0, 3, 171, 1, 12), none, none, some (.aload 0, 1, 0, 0, 0), some (.invokestatic 1, 3, 179, 1, 12), none, none, some (.ifCond .ne 0, 3, 13, 0, 0), none, none, some (.iconst 0, 1, 0, 0, 0), some (.ireturn, 1, 0, 0, 3), some (.aload 0, 1, 0, 0, 0), some (.getfield 0, 3, 7, 12, 0), none],
  [none, some (.istore 1, 1, 0, 0, 0), some (.aload 0, 1, 0, 0, 0), some (.invokestatic 0, 3, 171, 1, 12), none, none, some (.aload 0, 1, 0, 0, 0), some (.getfield 0, 3, 5, 12, 0), none, none, some (.iconst 1, 1, 0, 0, 0), some (.if_icmp .eq 0, 3, 36, 0, 0), none, none, some (.aload 0, 1, 0, 0, 0), some (.iconst 1, 1, 0, 0, 0)],
  [some (.invokestatic 1, 3, 167, 2, 12), none, none, some (.ireturn, 1, 0, 0, 3), some (.aload 0, 1, 0, 0, 0), some (.invokestatic 1, 3, 177, 1, 12), none, none, some (.istore 2, 1, 0, 0, 0), some (.iload 2, 1, 0, 0, 0), some (.iconst (-1), 1, 0, 0, 0), some (.if_icmp .eq 0, 3, 71, 0, 0), none, none, some (.iload 2, 1, 0, 0, 0), some (.iload 1, 1, 0, 0, 0)],
  [some (.if_icmp .eq 0, 3, 65, 0, 0), none, none, some (.aload 0, 1, 0, 0, 0), some (.getfield 0, 3, 29, 12, 2), none, none, some (.iload 1, 1, 0, 0, 0), some (.iaload, 1, 0, 0, 0), some (.iload 2, 1, 0, 0, 0), some (.ishr, 1, 0, 0, 0), some (.iconst 1, 1, 0, 0, 0), some (.iand, 1, 0, 0, 0), some (.iconst 1, 1, 0, 0, 0), some (.if_icmp .ne 0, 3, 71, 0, 0), none],
  [none, some (.aload 0, 1, 0, 0, 0), some (.iconst 3, 1, 0, 0, 0), some (.invokestatic 1, 3, 167, 2, 12), none, none, some (.ireturn, 1, 0, 0, 3), some (.iload 2, 1, 0, 0, 0), some (.iconst (-1), 1, 0, 0, 0), some (.if_icmp .ne 0, 3, 82, 0, 0), none, none, some (.aload 0, 1, 0, 0, 0), some (.iconst 5, 1, 0, 0, 0), some (.invokestatic 1, 3, 167, 2, 12), none],
  [none, some (.ireturn, 1, 0, 0, 3), some (.aload 0, 1, 0, 0, 0), some (.getfield 0, 3, 29, 12, 2), none, none, some (.iload 1, 1, 0, 0, 0), some (.dup2, 1, 0, 0, 0), some (.iaload, 1, 0, 0, 0), some (.iconst 1, 1, 0, 0, 0), some (.iload 2, 1, 0, 0, 0), some (.ishl, 1, 0, 0, 0), some (.ior, 1, 0, 0, 0), some (.iastore, 1, 0, 0, 0), some (.aload 0, 1, 0, 0, 0), some (.getfield 0, 3, 29, 12, 2)],
  [none, none, some (.iload 2, 1, 0, 0, 0), some (.dup2, 1, 0, 0, 0), some (.iaload, 1, 0, 0, 0), some (.iconst 1, 1, 0, 0, 0), some (.iload 1, 1, 0, 0, 0), some (.ishl, 1, 0, 0, 0), some (.ior, 1, 0, 0, 0), some (.iastore, 1, 0, 0, 0), some (.aload 0, 1, 0, 0, 0), some (.invokestatic 0, 3, 171, 1, 12), none, none, some (.iconst 1, 1, 0, 0, 0), some (.ireturn, 1, 0, 0, 3)]]
set_option maxRecDepth 100000 in
theorem k182 : pchk 12 3 cX12_readMeet 0 t182 = true := by decide +kernel
def t183 : pT := [[some (.aload 0, 1, 0, 0, 0), some (.ldc 0, 2, 504, 0, 0), none, some (.invokestatic 1, 3, 172, 2, 12), none, none, some (.ifCond .ne 0, 3, 15, 0, 0), none, none, some (.aload 0, 1, 0, 0, 0), some (.iconst 1, 1, 0, 0, 0), some (.invokestatic 1, 3, 167, 2, 12), none, none, some (.ireturn, 1, 0, 0, 3), some (.aload 0, 1, 0, 0, 0)],
  [some (.getfield 0, 3, 18, 12, 0), none, none, some (.ifCond .eq 0, 3, 28, 0, 0), none, none, some (.aload 0, 1, 0, 0, 0), some (.iconst 3, 1, 0, 0, 0), some (.invokestatic 1, 3, 167, 2, 12), none, none, some (.ireturn, 1, 0, 0, 3), some (.aload 0, 1, 0, 0, 0), some (.iconst 1, 1, 0, 0, 0), some (.putfield 0, 3, 18, 12, 3), none],
  [none, some (.aload 0, 1, 0, 0, 0), some (.invokestatic 0, 3, 171, 1, 12), none, none, some (.aload 0, 1, 0, 0, 0), some (.iconst 0, 1, 0, 0, 0), some (.iconst 40, 2, 0, 0, 0), none, some (.invokestatic 1, 3, 174, 3, 12), none, none, some (.ifCond .ne 0, 3, 49, 0, 0), none, none, some (.iconst 0, 1, 0, 0, 0)],
  [some (.ireturn, 1, 0, 0, 3), some (.aload 0, 1, 0, 0, 0), some (.aload 0, 1, 0, 0, 0), some (.getfield 0, 3, 7, 12, 0), none, none, some (.putfield 0, 3, 16, 12, 0), none, none, some (.iconst 1, 1, 0, 0, 0), some (.ireturn, 1, 0, 0, 3), none, none, none, none, none]]
set_option maxRecDepth 100000 in
theorem k183 : pchk 12 3 cX12_readIdle 0 t183 = true := by decide +kernel
def t184 : pT := [[some (.aload 0, 1, 0, 0, 0), some (.iconst 0, 1, 0, 0, 0), some (.putfield 0, 3, 14, 12, 0), none, none, some (.aload 0, 1, 0, 0, 0), some (.iconst 0, 1, 0, 0, 0), some (.putfield 0, 3, 15, 12, 0), none, none, some (.aload 0, 1, 0, 0, 0), some (.iconst 10, 2, 0, 0, 0), none, some (.putfield 0, 3, 16, 12, 0), none, none],
  [some (.aload 0, 1, 0, 0, 0), some (.iconst 0, 1, 0, 0, 0), some (.putfield 0, 3, 18, 12, 3), none, none, some (.aload 0, 1, 0, 0, 0), some (.iconst 0, 1, 0, 0, 0), some (.putfield 0, 3, 17, 12, 0), none, none, some (.aload 0, 1, 0, 0, 0), some (.getfield 0, 3, 5, 12, 0), none, none, some (.ifCond .eq 0, 3, 139, 0, 0), none],
  [none, some (.aload 0, 1, 0, 0, 0), some (.ldc 0, 2, 500, 0, 0), none, some (.invokestatic 1, 3, 172, 2, 12), none, none, some (.ifCond .eq 0, 3, 49, 0, 0), none, none, some (.aload 0, 1, 0, 0, 0), some (.invokestatic 1, 3, 178, 1, 12), none, none, some (.goto 0, 3, 101, 0, 0), none],
  [none, some (.aload 0, 1, 0, 0, 0), some (.ldc 0, 2, 501, 0, 0), none, some (.invokestatic 1, 3, 172, 2, 12), none, none, some (.ifCond .eq 0, 3, 65, 0, 0), none, none, some (.aload 0, 1, 0, 0, 0), some (.invokestatic 1, 3, 180, 1, 12), none, none, some (.goto 0, 3, 101, 0, 0), none],
  [none, some (.aload 0, 1, 0, 0, 0), some (.ldc 0, 2, 502, 0, 0), none, some (.invokestatic 1, 3, 172, 2, 12), none, none, some (.ifCond .eq 0, 3, 81, 0, 0), none, none, some (.aload 0, 1, 0, 0, 0), some (.invokestatic 1, 3, 181, 1, 12), none, none, some (.goto 0, 3, 101, 0, 0), none],
  [none, some (.aload 0, 1, 0, 0, 0), some (.ldc 0, 2, 503, 0, 0), none, some (.invokestatic 1, 3, 172, 2, 12), none, none, some (.ifCond .eq 0, 3, 97, 0, 0), none, none, some (.aload 0, 1, 0, 0, 0), some (.invokestatic 1, 3, 182, 1, 12), none, none, some (.goto 0, 3, 101, 0, 0), none],
  [none, some (.aload 0, 1, 0, 0, 0), some (.invokestatic 1, 3, 183, 1, 12), none, none, some (.istore 1, 1, 0, 0, 0), some (.iload 1, 1, 0, 0, 0), some (.ifCond .ne 0, 3, 108, 0, 0), none, none, some (.iconst 0, 1, 0, 0, 0), some (.ireturn, 1, 0, 0, 3), some (.aload 0, 1, 0, 0, 0), some (.getfield 0, 3, 5, 12, 0), none, none],
  [some (.iconst 3, 1, 0, 0, 0), some (.if_icmp .eq 0, 3, 122, 0, 0), none, none, some (.aload 0, 1, 0, 0, 0), some (.iconst 1, 1, 0, 0, 0), some (.invokestatic 1, 3, 167, 2, 12), none, none, some (.ireturn, 1, 0, 0, 3), some (.aload 0, 1, 0, 0, 0), some (.invokestatic 0, 3, 171, 1, 12), none, none, some (.aload 0, 1, 0, 0, 0), some (.dup, 1, 0, 0, 0)],
  [some (.getfield 0, 3, 17, 12, 0), none, none, some (.iconst 1, 1, 0, 0, 0), some (.iadd, 1, 0, 0, 0), some (.putfield 0, 3, 17, 12, 0), none, none, some (.goto 0, 3, 26, 0, 0), none, none, some (.iconst 1, 1, 0, 0, 0), some (.ireturn, 1, 0, 0, 3), none, none, none]]
set_option maxRecDepth 100000 in
theorem k184 : pchk 12 3 cX12_readPart 0 t184 = true := by decide +kernel
def t185 : pT := [[some (.aload 0, 1, 0, 0, 0), some (.pop, 3, 0, 0, 0), none, none, some (.aload 0, 1, 0, 0, 0), some (.iconst 800, 3, 0, 0, 0), none, none, some (.newarray .byte, 2, 102, 0, 0), none, some (.putfield 0, 3, 0, 12, 2), none, none, some (.aload 0, 1, 0, 0, 0), some (.iconst (-1), 1, 0, 0, 0), some (.putfield 0, 3, 9, 12, 0)],
  [none, none, some (.aload 0, 1, 0, 0, 0), some (.iconst 10, 2, 0, 0, 0), none, some (.putfield 0, 3, 12, 12, 0), none, none, some (.aload 0, 1, 0, 0, 0), some (.iconst 6, 2, 0, 0, 0), none, some (.newarray .long, 2, 101, 0, 0), none, some (.putfield 0, 3, 19, 12, 2), none, none],
  [some (.aload 0, 1, 0, 0, 0), some (.iconst 6, 2, 0, 0, 0), none, some (.newarray .int, 2, 100, 0, 0), none, some (.putfield 0, 3, 20, 12, 2), none, none, some (.aload 0, 1, 0, 0, 0), some (.iconst 6, 2, 0, 0, 0), none, some (.newarray .int, 2, 100, 0, 0), none, some (.putfield 0, 3, 21, 12, 2), none, none],
  [some (.aload 0, 1, 0, 0, 0), some (.iconst 6, 2, 0, 0, 0), none, some (.newarray .int, 2, 100, 0, 0), none, some (.putfield 0, 3, 22, 12, 2), none, none, some (.aload 0, 1, 0, 0, 0), some (.iconst 7, 2, 0, 0, 0), none, some (.newarray .int, 2, 100, 0, 0), none, some (.putfield 0, 3, 23, 12, 2), none, none],
  [some (.aload 0, 1, 0, 0, 0), some (.iconst 7, 2, 0, 0, 0), none, some (.newarray .int, 2, 100, 0, 0), none, some (.putfield 0, 3, 24, 12, 2), none, none, some (.aload 0, 1, 0, 0, 0), some (.iconst 7, 2, 0, 0, 0), none, some (.newarray .int, 2, 100, 0, 0), none, some (.putfield 0, 3, 25, 12, 2), none, none],
  [some (.aload 0, 1, 0, 0, 0), some (.iconst 7, 2, 0, 0, 0), none, some (.newarray .int, 2, 100, 0, 0), none, some (.putfield 0, 3, 26, 12, 2), none, none, some (.aload 0, 1, 0, 0, 0), some (.iconst 6, 2, 0, 0, 0), none, some (.newarray .int, 2, 100, 0, 0), none, some (.putfield 0, 3, 27, 12, 2), none, none],
  [some (.aload 0, 1, 0, 0, 0), some (.iconst 6, 2, 0, 0, 0), none, some (.newarray .int, 2, 100, 0, 0), none, some (.putfield 0, 3, 28, 12, 2), none, none, some (.aload 0, 1, 0, 0, 0), some (.iconst 6, 2, 0, 0, 0), none, some (.newarray .int, 2, 100, 0, 0), none, some (.putfield 0, 3, 29, 12, 2), none, none],
  [some (.aload 0, 1, 0, 0, 0), some (.iconst 7, 2, 0, 0, 0), none, some (.newarray .int, 2, 100, 0, 0), none, some (.putfield 0, 3, 30, 12, 2), none, none, some (.aload 0, 1, 0, 0, 0), some (.iconst 7, 2, 0, 0, 0), none, some (.newarray .int, 2, 100, 0, 0), none, some (.putfield 0, 3, 31, 12, 2), none, none],
  [some (.aload 0, 1, 0, 0, 0), some (.iconst 7, 2, 0, 0, 0), none, some (.newarray .int, 2, 100, 0, 0), none, some (.putfield 0, 3, 32, 12, 2), none, none, some (.aload 0, 1, 0, 0, 0), some (.iconst 7, 2, 0, 0, 0), none, some (.newarray .int, 2, 100, 0, 0), none, some (.putfield 0, 3, 33, 12, 2), none, none],
  [some (.aload 0, 1, 0, 0, 0), some (.iconst 24, 2, 0, 0, 0), none, some (.iconst 7, 2, 0, 0, 0), none, some (.multianewarray 0 2, 4, 0, 0, 0), none, none, none, some (.putfield 0, 3, 35, 12, 2), none, none, some (.aload 0, 1, 0, 0, 0), some (.iconst 7, 2, 0, 0, 0), none, some (.newarray .int, 2, 100, 0, 0)],
  [none, some (.putfield 0, 3, 36, 12, 2), none, none, some (.aload 0, 1, 0, 0, 0), some (.iconst 7, 2, 0, 0, 0), none, some (.newarray .int, 2, 100, 0, 0), none, some (.putfield 0, 3, 37, 12, 2), none, none, some (.aload 0, 1, 0, 0, 0), some (.iconst 7, 2, 0, 0, 0), none, some (.newarray .int, 2, 100, 0, 0)],
  [none, some (.putfield 0, 3, 38, 12, 2), none, none, some (.aload 0, 1, 0, 0, 0), some (.iconst 7, 2, 0, 0, 0), none, some (.newarray .int, 2, 100, 0, 0), none, some (.putfield 0, 3, 39, 12, 2), none, none, some (.aload 0, 1, 0, 0, 0), some (.iconst 400, 3, 0, 0, 0), none, none],
  [some (.newarray .int, 2, 100, 0, 0), none, some (.putfield 0, 3, 40, 12, 2), none, none, some (.aload 0, 1, 0, 0, 0), some (.iconst 100, 2, 0, 0, 0), none, some (.newarray .int, 2, 100, 0, 0), none, some (.putfield 0, 3, 41, 12, 2), none, none, some (.aload 0, 1, 0, 0, 0), some (.iconst 6, 2, 0, 0, 0), none],
  [some (.newarray .int, 2, 100, 0, 0), none, some (.putfield 0, 3, 42, 12, 2), none, none, some (.aload 0, 1, 0, 0, 0), some (.iconst 24, 2, 0, 0, 0), none, some (.newarray .int, 2, 100, 0, 0), none, some (.putfield 0, 3, 46, 12, 2), none, none, some (.aload 0, 1, 0, 0, 0), some (.iconst 6, 2, 0, 0, 0), none],
  [some (.newarray .int, 2, 100, 0, 0), none, some (.putfield 0, 3, 47, 12, 2), none, none, some (.aload 0, 1, 0, 0, 0), some (.iconst 10, 2, 0, 0, 0), none, some (.newarray .int, 2, 100, 0, 0), none, some (.putfield 0, 3, 51, 12, 2), none, none, some (.aload 0, 1, 0, 0, 0), some (.iconst 10, 2, 0, 0, 0), none],
  [some (.newarray .int, 2, 100, 0, 0), none, some (.putfield 0, 3, 52, 12, 2), none, none, some (.aload 0, 1, 0, 0, 0), some (.iconst 4, 1, 0, 0, 0), some (.newarray .int, 2, 100, 0, 0), none, some (.putfield 0, 3, 53, 12, 2), none, none, some (.aload 0, 1, 0, 0, 0), some (.iconst 4, 1, 0, 0, 0), some (.newarray .int, 2, 100, 0, 0), none],
  [some (.putfield 0, 3, 54, 12, 2), none, none, some (.aload 0, 1, 0, 0, 0), some (.iconst 4, 1, 0, 0, 0), some (.newarray .int, 2, 100, 0, 0), none, some (.putfield 0, 3, 55, 12, 2), none, none, some (.aload 0, 1, 0, 0, 0), some (.iconst 16, 2, 0, 0, 0), none, some (.newarray .int, 2, 100, 0, 0), none, some (.putfield 0, 3, 63, 12, 2)],
  [none, none, some (.aload 0, 1, 0, 0, 0), some (.iconst 16, 2, 0, 0, 0), none, some (.newarray .int, 2, 100, 0, 0), none, some (.putfield 0, 3, 64, 12, 2), none, none, some (.aload 0, 1, 0, 0, 0), some (.iconst 16, 2, 0, 0, 0), none, some (.newarray .int, 2, 100, 0, 0), none, some (.putfield 0, 3, 65, 12, 2)],
  [none, none, some (.aload 0, 1, 0, 0, 0), some (.iconst 16, 2, 0, 0, 0), none, some (.newarray .int, 2, 100, 0, 0), none, some (.putfield 0, 3, 66, 12, 2), none, none, some (.aload 0, 1, 0, 0, 0), some (.iconst 20, 2, 0, 0, 0), none, some (.newarray .int, 2, 100, 0, 0), none, some (.putfield 0, 3, 67, 12, 2)],
  [none, none, some (.aload 0, 1, 0, 0, 0), some (.iconst 20, 2, 0, 0, 0), none, some (.newarray .int, 2, 100, 0, 0), none, some (.putfield 0, 3, 68, 12, 2), none, none, some (.aload 0, 1, 0, 0, 0), some (.iconst 20, 2, 0, 0, 0), none, some (.newarray .int, 2, 100, 0, 0), none, some (.putfield 0, 3, 69, 12, 2)],
  [none, none, some (.aload 0, 1, 0, 0, 0), some (.iconst 818, 3, 0, 0, 0), none, none, some (.newarray .long, 2, 101, 0, 0), none, some (.putfield 0, 3, 70, 12, 2), none, none, some (.aload 0, 1, 0, 0, 0), some (.iconst 100, 2, 0, 0, 0), none, some (.newarray .int, 2, 100, 0, 0), none],
  [some (.putfield 0, 3, 73, 12, 2), none, none, some (.aload 0, 1, 0, 0, 0), some (.invokestatic 0, 3, 197, 1, 12), none, none, some (.return_, 1, 0, 0, 0), none, none, none, none, none, none, none, none]]
set_option maxRecDepth 100000 in
theorem k185 : pchk 12 0 cX12_init 0 t185 = true := by decide +kernel
def t186 : pT := [[some (.aload 0, 1, 0, 0, 0), some (.getfield 0, 3, 1, 12, 0), none, none, some (.iconst 20, 2, 0, 0, 0), none, some (.iadd, 1, 0, 0, 0), some (.iconst 800, 3, 0, 0, 0), none, none, some (.if_icmp .le 0, 3, 16, 0, 0), none, none, some (.iconst (-3), 2, 0, 0, 0), none, some (.ireturn, 1, 0, 0, 0)],
  [some (.aload 0, 1, 0, 0, 0), some (.iload 1, 1, 0, 0, 0), some (.invokestatic 0, 3, 187, 2, 12), none, none, some (.aload 0, 1, 0, 0, 0), some (.iload 2, 1, 0, 0, 0), some (.invokestatic 0, 3, 187, 2, 12), none, none, some (.aload 0, 1, 0, 0, 0), some (.iload 3, 1, 0, 0, 0), some (.invokestatic 0, 3, 187, 2, 12), none, none, some (.aload 0, 1, 0, 0, 0)],
  [some (.iload 4, 2, 0, 0, 0), none, some (.invokestatic 0, 3, 187, 2, 12), none, none, some (.aload 0, 1, 0, 0, 0), some (.iload 5, 2, 0, 0, 0), none, some (.invokestatic 0, 3, 187, 2, 12), none, none, some (.aload 0, 1, 0, 0, 0), some (.getfield 0, 3, 1, 12, 0), none, none, some (.ireturn, 1, 0, 0, 0)]]
set_option maxRecDepth 100000 in
theorem k186 : pchk 12 1 cX12_feed 0 t186 = true := by decide +kernel
def t187 : pT := [[some (.iconst 24, 2, 0, 0, 0), none, some (.istore 2, 1, 0, 0, 0), some (.iload 2, 1, 0, 0, 0), some (.ifCond .lt 0, 3, 36, 0, 0), none, none, some (.aload 0, 1, 0, 0, 0), some (.getfield 0, 3, 0, 12, 2), none, none, some (.aload 0, 1, 0, 0, 0), some (.getfield 0, 3, 1, 12, 0), none, none, some (.iload 1, 1, 0, 0, 0)],
  [some (.iload 2, 1, 0, 0, 0), some (.ishr, 1, 0, 0, 0), some (.i2b, 1, 0, 0, 0), some (.bastore, 1, 0, 0, 0), some (.aload 0, 1, 0, 0, 0), some (.dup, 1, 0, 0, 0), some (.getfield 0, 3, 1, 12, 0), none, none, some (.iconst 1, 1, 0, 0, 0), some (.iadd, 1, 0, 0, 0), some (.putfield 0, 3, 1, 12, 0), none, none, some (.iinc 2 (-8), 3, 0, 0, 0), none],
  [none, some (.goto 0, 3, 3, 0, 0), none, none, some (.return_, 1, 0, 0, 0), none, none, none, none, none, none, none, none, none, none, none]]
set_option maxRecDepth 100000 in
theorem k187 : pchk 12 0 cX12_putFour 0 t187 = true := by decide +kernel
def t188 : pT := [[some (.iload 1, 1, 0, 0, 0), some (.i2l, 1, 0, 0, 0), some (.ldc2_w 0, 1, 0, 0, 0), some (.aload 0, 1, 0, 0, 0), some (.getfield 0, 3, 1, 12, 0), none, none, some (.i2l, 1, 0, 0, 0), some (.invokestatic 1, 3, 166, 3, (-1)), none, none, some (.ifCond .ne 0, 3, 16, 0, 0), none, none, some (.iconst (-1), 1, 0, 0, 0), some (.ireturn, 1, 0, 0, 0)],
  [some (.aload 0, 1, 0, 0, 0), some (.iload 1, 1, 0, 0, 0), some (.putfield 0, 3, 1, 12, 0), none, none, some (.iload 1, 1, 0, 0, 0), some (.ireturn, 1, 0, 0, 0), none, none, none, none, none, none, none, none, none]]
set_option maxRecDepth 100000 in
theorem k188 : pchk 12 1 cX12_end 0 t188 = true := by decide +kernel
def t189 : pT := [[some (.aload 0, 1, 0, 0, 0), some (.iconst 0, 1, 0, 0, 0), some (.putfield 0, 3, 8, 12, 0), none, none, some (.aload 0, 1, 0, 0, 0), some (.iconst (-1), 1, 0, 0, 0), some (.putfield 0, 3, 9, 12, 0), none, none, some (.aload 0, 1, 0, 0, 0), some (.invokestatic 0, 3, 175, 1, 12), none, none, some (.aload 0, 1, 0, 0, 0), some (.invokestatic 1, 3, 184, 1, 12)],
  [none, none, some (.ifCond .ne 0, 3, 23, 0, 0), none, none, some (.iconst (-1), 1, 0, 0, 0), some (.ireturn, 1, 0, 0, 0), some (.aload 0, 1, 0, 0, 0), some (.aload 0, 1, 0, 0, 0), some (.getfield 0, 3, 14, 12, 0), none, none, some (.putfield 0, 3, 10, 12, 0), none, none, some (.aload 0, 1, 0, 0, 0)],
  [some (.aload 0, 1, 0, 0, 0), some (.getfield 0, 3, 15, 12, 0), none, none, some (.putfield 0, 3, 11, 12, 0), none, none, some (.aload 0, 1, 0, 0, 0), some (.aload 0, 1, 0, 0, 0), some (.getfield 0, 3, 16, 12, 0), none, none, some (.putfield 0, 3, 12, 12, 0), none, none, some (.aload 0, 1, 0, 0, 0)],
  [some (.aload 0, 1, 0, 0, 0), some (.getfield 0, 3, 17, 12, 0), none, none, some (.putfield 0, 3, 13, 12, 0), none, none, some (.iconst 0, 1, 0, 0, 0), some (.istore 1, 1, 0, 0, 0), some (.iload 1, 1, 0, 0, 0), some (.aload 0, 1, 0, 0, 0), some (.getfield 0, 3, 10, 12, 0), none, none, some (.if_icmp .ge 0, 3, 114, 0, 0), none],
  [none, some (.aload 0, 1, 0, 0, 0), some (.getfield 0, 3, 20, 12, 2), none, none, some (.iload 1, 1, 0, 0, 0), some (.aload 0, 1, 0, 0, 0), some (.getfield 0, 3, 27, 12, 2), none, none, some (.iload 1, 1, 0, 0, 0), some (.iaload, 1, 0, 0, 0), some (.iastore, 1, 0, 0, 0), some (.aload 0, 1, 0, 0, 0), some (.getfield 0, 3, 21, 12, 2), none],
  [none, some (.iload 1, 1, 0, 0, 0), some (.aload 0, 1, 0, 0, 0), some (.getfield 0, 3, 28, 12, 2), none, none, some (.iload 1, 1, 0, 0, 0), some (.iaload, 1, 0, 0, 0), some (.iastore, 1, 0, 0, 0), some (.aload 0, 1, 0, 0, 0), some (.getfield 0, 3, 22, 12, 2), none, none, some (.iload 1, 1, 0, 0, 0), some (.aload 0, 1, 0, 0, 0), some (.getfield 0, 3, 29, 12, 2)],
  [none, none, some (.iload 1, 1, 0, 0, 0), some (.iaload, 1, 0, 0, 0), some (.iastore, 1, 0, 0, 0), some (.aload 0, 1, 0, 0, 0), some (.getfield 0, 3, 42, 12, 2), none, none, some (.iload 1, 1, 0, 0, 0), some (.iconst (-1), 1, 0, 0, 0), some (.iastore, 1, 0, 0, 0), some (.iinc 1 1, 3, 0, 0, 0), none, none, some (.goto 0, 3, 57, 0, 0)],
  [none, none, some (.iconst 0, 1, 0, 0, 0), some (.istore 1, 1, 0, 0, 0), some (.iload 1, 1, 0, 0, 0), some (.aload 0, 1, 0, 0, 0), some (.getfield 0, 3, 11, 12, 0), none, none, some (.if_icmp .ge 0, 3, 178, 0, 0), none, none, some (.aload 0, 1, 0, 0, 0), some (.getfield 0, 3, 23, 12, 2), none, none],
  [some (.iload 1, 1, 0, 0, 0), some (.aload 0, 1, 0, 0, 0), some (.getfield 0, 3, 30, 12, 2), none, none, some (.iload 1, 1, 0, 0, 0), some (.iaload, 1, 0, 0, 0), some (.iastore, 1, 0, 0, 0), some (.aload 0, 1, 0, 0, 0), some (.getfield 0, 3, 24, 12, 2), none, none, some (.iload 1, 1, 0, 0, 0), some (.aload 0, 1, 0, 0, 0), some (.getfield 0, 3, 31, 12, 2), none],
  [none, some (.iload 1, 1, 0, 0, 0), some (.iaload, 1, 0, 0, 0), some (.iastore, 1, 0, 0, 0), some (.aload 0, 1, 0, 0, 0), some (.getfield 0, 3, 25, 12, 2), none, none, some (.iload 1, 1, 0, 0, 0), some (.aload 0, 1, 0, 0, 0), some (.getfield 0, 3, 32, 12, 2), none, none, some (.iload 1, 1, 0, 0, 0), some (.iaload, 1, 0, 0, 0), some (.iastore, 1, 0, 0, 0)],
  [some (.aload 0, 1, 0, 0, 0), some (.getfield 0, 3, 26, 12, 2), none, none, some (.iload 1, 1, 0, 0, 0), some (.aload 0, 1, 0, 0, 0), some (.getfield 0, 3, 33, 12, 2), none, none, some (.iload 1, 1, 0, 0, 0), some (.iaload, 1, 0, 0, 0), some (.iastore, 1, 0, 0, 0), some (.iinc 1 1, 3, 0, 0, 0), none, none, some (.goto 0, 3, 116, 0, 0)],
  [none, none, some (.aload 0, 1, 0, 0, 0), some (.invokestatic 0, 3, 197, 1, 12), none, none, some (.aload 0, 1, 0, 0, 0), some (.iconst 0, 1, 0, 0, 0), some (.putfield 0, 3, 60, 12, 0), none, none, some (.aload 0, 1, 0, 0, 0), some (.iconst 0, 1, 0, 0, 0), some (.putfield 0, 3, 61, 12, 0), none, none],
  [some (.aload 0, 1, 0, 0, 0), some (.iconst 0, 1, 0, 0, 0), some (.putfield 0, 3, 62, 12, 0), none, none, some (.aload 0, 1, 0, 0, 0), some (.getfield 0, 3, 13, 12, 0), none, none, some (.ireturn, 1, 0, 0, 0), none, none, none, none, none, none]]
set_option maxRecDepth 100000 in
theorem k189 : pchk 12 1 cX12_part 0 t189 = true := by decide +kernel
def t190 : pT := [[some (.iload 1, 1, 0, 0, 0), some (.ifCond .ne 0, 3, 11, 0, 0), none, none, some (.aload 0, 1, 0, 0, 0), some (.getfield 0, 3, 8, 12, 0), none, none, some (.goto 0, 3, 24, 0, 0), none, none, some (.iload 1, 1, 0, 0, 0), some (.iconst 1, 1, 0, 0, 0), some (.if_icmp .ne 0, 3, 23, 0, 0), none, none],
  [some (.aload 0, 1, 0, 0, 0), some (.getfield 0, 3, 9, 12, 0), none, none, some (.goto 0, 3, 24, 0, 0), none, none, some (.iconst (-1), 1, 0, 0, 0), some (.ireturn, 1, 0, 0, 0), none, none, none, none, none, none, none]]
set_option maxRecDepth 100000 in
theorem k190 : pchk 12 1 cX12_fault 0 t190 = true := by decide +kernel
def t191 : pT := [[some (.iload 1, 1, 0, 0, 0), some (.i2l, 1, 0, 0, 0), some (.ldc2_w 0, 3, 0, 0, 10), none, none, some (.ldc2_w 0, 3, 0, 0, 9), none, none, some (.aload 0, 1, 0, 0, 0), some (.getfield 0, 3, 11, 12, 0), none, none, some (.i2l, 1, 0, 0, 0), some (.ladd, 1, 0, 0, 0), some (.invokestatic 1, 3, 166, 3, (-1)), none],
  [none, some (.ifCond .eq 0, 3, 29, 0, 0), none, none, some (.aload 0, 1, 0, 0, 0), some (.iload 1, 1, 0, 0, 0), some (.iconst 10, 2, 0, 0, 0), none, some (.isub, 1, 0, 0, 0), some (.invokestatic 1, 3, 192, 2, 12), none, none, some (.ireturn, 1, 0, 0, 0), some (.iload 1, 1, 0, 0, 0), some (.i2l, 1, 0, 0, 0), some (.ldc2_w 0, 3, 0, 0, 20)],
  [none, none, some (.ldc2_w 0, 3, 0, 0, 19), none, none, some (.aload 0, 1, 0, 0, 0), some (.getfield 0, 3, 11, 12, 0), none, none, some (.i2l, 1, 0, 0, 0), some (.ladd, 1, 0, 0, 0), some (.invokestatic 1, 3, 166, 3, (-1)), none, none, some (.ifCond .eq 0, 3, 59, 0, 0), none],
  [none, some (.aload 0, 1, 0, 0, 0), some (.getfield 0, 3, 23, 12, 2), none, none, some (.iload 1, 1, 0, 0, 0), some (.iconst 20, 2, 0, 0, 0), none, some (.isub, 1, 0, 0, 0), some (.iaload, 1, 0, 0, 0), some (.ireturn, 1, 0, 0, 0), some (.iload 1, 1, 0, 0, 0), some (.i2l, 1, 0, 0, 0), some (.ldc2_w 0, 3, 0, 0, 30), none, none],
  [some (.ldc2_w 0, 3, 0, 0, 29), none, none, some (.aload 0, 1, 0, 0, 0), some (.getfield 0, 3, 11, 12, 0), none, none, some (.i2l, 1, 0, 0, 0), some (.ladd, 1, 0, 0, 0), some (.invokestatic 1, 3, 166, 3, (-1)), none, none, some (.ifCond .eq 0, 3, 89, 0, 0), none, none, some (.aload 0, 1, 0, 0, 0)],
  [some (.getfield 0, 3, 26, 12, 2), none, none, some (.iload 1, 1, 0, 0, 0), some (.iconst 30, 2, 0, 0, 0), none, some (.isub, 1, 0, 0, 0), some (.iaload, 1, 0, 0, 0), some (.ireturn, 1, 0, 0, 0), some (.iload 1, 1, 0, 0, 0), some (.i2l, 1, 0, 0, 0), some (.ldc2_w 0, 3, 0, 0, 40), none, none, some (.ldc2_w 0, 3, 0, 0, 39), none],
  [none, some (.aload 0, 1, 0, 0, 0), some (.getfield 0, 3, 10, 12, 0), none, none, some (.i2l, 1, 0, 0, 0), some (.ladd, 1, 0, 0, 0), some (.invokestatic 1, 3, 166, 3, (-1)), none, none, some (.ifCond .eq 0, 3, 119, 0, 0), none, none, some (.aload 0, 1, 0, 0, 0), some (.getfield 0, 3, 22, 12, 2), none],
  [none, some (.iload 1, 1, 0, 0, 0), some (.iconst 40, 2, 0, 0, 0), none, some (.isub, 1, 0, 0, 0), some (.iaload, 1, 0, 0, 0), some (.ireturn, 1, 0, 0, 0), some (.iload 1, 1, 0, 0, 0), some (.i2l, 1, 0, 0, 0), some (.ldc2_w 0, 3, 0, 0, 50), none, none, some (.ldc2_w 0, 3, 0, 0, 49), none, none, some (.aload 0, 1, 0, 0, 0)],
  [some (.getfield 0, 3, 10, 12, 0), none, none, some (.i2l, 1, 0, 0, 0), some (.ladd, 1, 0, 0, 0), some (.invokestatic 1, 3, 166, 3, (-1)), none, none, some (.ifCond .eq 0, 3, 149, 0, 0), none, none, some (.aload 0, 1, 0, 0, 0), some (.getfield 0, 3, 20, 12, 2), none, none, some (.iload 1, 1, 0, 0, 0)],
  [some (.iconst 50, 2, 0, 0, 0), none, some (.isub, 1, 0, 0, 0), some (.iaload, 1, 0, 0, 0), some (.ireturn, 1, 0, 0, 0), some (.iload 1, 1, 0, 0, 0), some (.i2l, 1, 0, 0, 0), some (.ldc2_w 0, 3, 0, 0, 60), none, none, some (.ldc2_w 0, 3, 0, 0, 59), none, none, some (.aload 0, 1, 0, 0, 0), some (.getfield 0, 3, 10, 12, 0), none],
  [none, some (.i2l, 1, 0, 0, 0), some (.ladd, 1, 0, 0, 0), some (.invokestatic 1, 3, 166, 3, (-1)), none, none, some (.ifCond .eq 0, 3, 179, 0, 0), none, none, some (.aload 0, 1, 0, 0, 0), some (.getfield 0, 3, 21, 12, 2), none, none, some (.iload 1, 1, 0, 0, 0), some (.iconst 60, 2, 0, 0, 0), none],
  [some (.isub, 1, 0, 0, 0), some (.iaload, 1, 0, 0, 0), some (.ireturn, 1, 0, 0, 0), some (.iload 1, 1, 0, 0, 0), some (.tableswitch 61 0 4 #[36, 41, 46, 51, 56], 36, 0, 0, 0), none, none, none, none, none, none, none, none, none, none, none],
  [none, none, none, none, none, none, none, none, none, none, none, none, none, none, none, none],
  [none, none, none, none, none, none, none, none, some (.aload 0, 1, 0, 0, 0), some (.getfield 0, 3, 10, 12, 0), none, none, some (.ireturn, 1, 0, 0, 0), some (.aload 0, 1, 0, 0, 0), some (.getfield 0, 3, 11, 12, 0), none],
  [none, some (.ireturn, 1, 0, 0, 0), some (.aload 0, 1, 0, 0, 0), some (.getfield 0, 3, 12, 12, 0), none, none, some (.ireturn, 1, 0, 0, 0), some (.aload 0, 1, 0, 0, 0), some (.getfield 0, 3, 49, 12, 0), none, none, some (.ireturn, 1, 0, 0, 0), some (.aload 0, 1, 0, 0, 0), some (.getfield 0, 3, 34, 12, 0), none, none],
  [some (.ireturn, 1, 0, 0, 0), some (.iconst (-1), 1, 0, 0, 0), some (.ireturn, 1, 0, 0, 0), none, none, none, none, none, none, none, none, none, none, none, none, none]]
set_option maxRecDepth 100000 in
theorem k191 : pchk 12 1 cX12_told 0 t191 = true := by decide +kernel
def t192 : pT := [[some (.aload 0, 1, 0, 0, 0), some (.getfield 0, 3, 24, 12, 2), none, none, some (.iload 1, 1, 0, 0, 0), some (.iaload, 1, 0, 0, 0), some (.aload 0, 1, 0, 0, 0), some (.getfield 0, 3, 20, 12, 2), none, none, some (.aload 0, 1, 0, 0, 0), some (.getfield 0, 3, 23, 12, 2), none, none, some (.iload 1, 1, 0, 0, 0), some (.iaload, 1, 0, 0, 0)],
  [some (.iaload, 1, 0, 0, 0), some (.imul, 1, 0, 0, 0), some (.aload 0, 1, 0, 0, 0), some (.getfield 0, 3, 25, 12, 2), none, none, some (.iload 1, 1, 0, 0, 0), some (.iaload, 1, 0, 0, 0), some (.iadd, 1, 0, 0, 0), some (.ireturn, 1, 0, 0, 0), none, none, none, none, none, none]]
set_option maxRecDepth 100000 in
theorem k192 : pchk 12 1 cX12_turnsOf 0 t192 = true := by decide +kernel
def t193 : pT := [[some (.aload 0, 1, 0, 0, 0), some (.getfield 0, 3, 23, 12, 2), none, none, some (.iload 1, 1, 0, 0, 0), some (.iaload, 1, 0, 0, 0), some (.aload 0, 1, 0, 0, 0), some (.getfield 0, 3, 23, 12, 2), none, none, some (.iload 2, 1, 0, 0, 0), some (.iaload, 1, 0, 0, 0), some (.if_icmp .eq 0, 3, 39, 0, 0), none, none, some (.aload 0, 1, 0, 0, 0)],
  [some (.getfield 0, 3, 22, 12, 2), none, none, some (.aload 0, 1, 0, 0, 0), some (.getfield 0, 3, 23, 12, 2), none, none, some (.iload 1, 1, 0, 0, 0), some (.iaload, 1, 0, 0, 0), some (.iaload, 1, 0, 0, 0), some (.aload 0, 1, 0, 0, 0), some (.getfield 0, 3, 23, 12, 2), none, none, some (.iload 2, 1, 0, 0, 0), some (.iaload, 1, 0, 0, 0)],
  [some (.ishr, 1, 0, 0, 0), some (.iconst 1, 1, 0, 0, 0), some (.iand, 1, 0, 0, 0), some (.iconst 1, 1, 0, 0, 0), some (.if_icmp .ne 0, 3, 43, 0, 0), none, none, some (.iconst 1, 1, 0, 0, 0), some (.goto 0, 3, 44, 0, 0), none, none, some (.iconst 0, 1, 0, 0, 0), some (.ireturn, 1, 0, 0, 3), none, none, none]]
set_option maxRecDepth 100000 in
theorem k193 : pchk 12 3 cX12_fights 0 t193 = true := by decide +kernel
def t194 : pT := [[some (.iconst 0, 1, 0, 0, 0), some (.istore 2, 1, 0, 0, 0), some (.iload 2, 1, 0, 0, 0), some (.aload 0, 1, 0, 0, 0), some (.getfield 0, 3, 11, 12, 0), none, none, some (.if_icmp .ge 0, 3, 23, 0, 0), none, none, some (.aload 0, 1, 0, 0, 0), some (.getfield 0, 3, 36, 12, 2), none, none, some (.iload 2, 1, 0, 0, 0), some (.iconst 0, 1, 0, 0, 0)],
  [some (.iastore, 1, 0, 0, 0), some (.iinc 2 1, 3, 0, 0, 0), none, none, some (.goto 0, 3, 2, 0, 0), none, none, some (.iconst 1, 1, 0, 0, 0), some (.istore 2, 1, 0, 0, 0), some (.iconst 0, 1, 0, 0, 0), some (.istore 3, 1, 0, 0, 0), some (.iload 3, 1, 0, 0, 0), some (.aload 0, 1, 0, 0, 0), some (.getfield 0, 3, 11, 12, 0), none, none],
  [some (.if_icmp .gt 0, 3, 150, 0, 0), none, none, some (.iload 2, 1, 0, 0, 0), some (.ifCond .eq 0, 3, 150, 0, 0), none, none, some (.iconst 0, 1, 0, 0, 0), some (.istore 2, 1, 0, 0, 0), some (.iconst 0, 1, 0, 0, 0), some (.istore 4, 2, 0, 0, 0), none, some (.iload 4, 2, 0, 0, 0), none, some (.aload 0, 1, 0, 0, 0), some (.getfield 0, 3, 11, 12, 0)],
  [none, none, some (.if_icmp .ge 0, 3, 144, 0, 0), none, none, some (.iconst 0, 1, 0, 0, 0), some (.istore 5, 2, 0, 0, 0), none, some (.iload 5, 2, 0, 0, 0), none, some (.aload 0, 1, 0, 0, 0), some (.getfield 0, 3, 11, 12, 0), none, none, some (.if_icmp .ge 0, 3, 138, 0, 0), none],
  [none, some (.aload 0, 1, 0, 0, 0), some (.getfield 0, 3, 35, 12, 2), none, none, some (.iload 1, 1, 0, 0, 0), some (.aaload, 1, 0, 0, 0), some (.iload 4, 2, 0, 0, 0), none, some (.iaload, 1, 0, 0, 0), some (.iload 5, 2, 0, 0, 0), none, some (.ishr, 1, 0, 0, 0), some (.iconst 1, 1, 0, 0, 0), some (.iand, 1, 0, 0, 0), some (.ifCond .eq 0, 3, 132, 0, 0)],
  [none, none, some (.aload 0, 1, 0, 0, 0), some (.getfield 0, 3, 36, 12, 2), none, none, some (.iload 5, 2, 0, 0, 0), none, some (.iaload, 1, 0, 0, 0), some (.aload 0, 1, 0, 0, 0), some (.iload 5, 2, 0, 0, 0), none, some (.invokestatic 1, 3, 192, 2, 12), none, none, some (.iadd, 1, 0, 0, 0)],
  [some (.aload 0, 1, 0, 0, 0), some (.getfield 0, 3, 36, 12, 2), none, none, some (.iload 4, 2, 0, 0, 0), none, some (.iaload, 1, 0, 0, 0), some (.if_icmp .gt 0, 3, 109, 0, 0), none, none, some (.goto 0, 3, 132, 0, 0), none, none, some (.aload 0, 1, 0, 0, 0), some (.getfield 0, 3, 36, 12, 2), none],
  [none, some (.iload 4, 2, 0, 0, 0), none, some (.aload 0, 1, 0, 0, 0), some (.getfield 0, 3, 36, 12, 2), none, none, some (.iload 5, 2, 0, 0, 0), none, some (.iaload, 1, 0, 0, 0), some (.aload 0, 1, 0, 0, 0), some (.iload 5, 2, 0, 0, 0), none, some (.invokestatic 1, 3, 192, 2, 12), none, none],
  [some (.iadd, 1, 0, 0, 0), some (.iastore, 1, 0, 0, 0), some (.iconst 1, 1, 0, 0, 0), some (.istore 2, 1, 0, 0, 0), some (.iinc 5 1, 3, 0, 0, 0), none, none, some (.goto 0, 3, 56, 0, 0), none, none, some (.iinc 4 1, 3, 0, 0, 0), none, none, some (.goto 0, 3, 44, 0, 0), none, none],
  [some (.iinc 3 1, 3, 0, 0, 0), none, none, some (.goto 0, 3, 27, 0, 0), none, none, some (.iload 2, 1, 0, 0, 0), some (.ifCond .eq 0, 3, 156, 0, 0), none, none, some (.iconst (-1), 1, 0, 0, 0), some (.ireturn, 1, 0, 0, 0), some (.iconst 0, 1, 0, 0, 0), some (.istore 3, 1, 0, 0, 0), some (.iconst 0, 1, 0, 0, 0), some (.istore 4, 2, 0, 0, 0)],
  [none, some (.iload 4, 2, 0, 0, 0), none, some (.aload 0, 1, 0, 0, 0), some (.getfield 0, 3, 11, 12, 0), none, none, some (.if_icmp .ge 0, 3, 195, 0, 0), none, none, some (.iload 3, 1, 0, 0, 0), some (.aload 0, 1, 0, 0, 0), some (.getfield 0, 3, 36, 12, 2), none, none, some (.iload 4, 2, 0, 0, 0)],
  [none, some (.iaload, 1, 0, 0, 0), some (.aload 0, 1, 0, 0, 0), some (.iload 4, 2, 0, 0, 0), none, some (.invokestatic 1, 3, 192, 2, 12), none, none, some (.iadd, 1, 0, 0, 0), some (.f2d, 3, 0, 0, 0), none, none, some (.istore 3, 1, 0, 0, 0), some (.iinc 4 1, 3, 0, 0, 0), none, none],
  [some (.goto 0, 3, 161, 0, 0), none, none, some (.iload 3, 1, 0, 0, 0), some (.ireturn, 1, 0, 0, 0), none, none, none, none, none, none, none, none, none, none, none]]
set_option maxRecDepth 100000 in
theorem k194 : pchk 12 1 cX12_findEarly 0 t194 = true := by decide +kernel
def t195 : pT := [[some (.aload 0, 1, 0, 0, 0), some (.getfield 0, 3, 34, 12, 0), none, none, some (.iconst (-1), 1, 0, 0, 0), some (.if_icmp .ne 0, 3, 10, 0, 0), none, none, some (.iconst 0, 1, 0, 0, 0), some (.ireturn, 1, 0, 0, 3), some (.iload 1, 1, 0, 0, 0), some (.aload 0, 1, 0, 0, 0), some (.getfield 0, 3, 34, 12, 0), none, none, some (.if_icmp .eq 0, 3, 32, 0, 0)],
  [none, none, some (.iload 1, 1, 0, 0, 0), some (.aload 0, 1, 0, 0, 0), some (.getfield 0, 3, 34, 12, 0), none, none, some (.if_icmp .le 0, 3, 30, 0, 0), none, none, some (.iconst 1, 1, 0, 0, 0), some (.goto 0, 3, 31, 0, 0), none, none, some (.iconst 0, 1, 0, 0, 0), some (.ireturn, 1, 0, 0, 3)],
  [some (.iconst 0, 1, 0, 0, 0), some (.istore 2, 1, 0, 0, 0), some (.iload 2, 1, 0, 0, 0), some (.aload 0, 1, 0, 0, 0), some (.getfield 0, 3, 11, 12, 0), none, none, some (.if_icmp .ge 0, 3, 84, 0, 0), none, none, some (.aload 0, 1, 0, 0, 0), some (.getfield 0, 3, 36, 12, 2), none, none, some (.iload 2, 1, 0, 0, 0), some (.iaload, 1, 0, 0, 0)],
  [some (.aload 0, 1, 0, 0, 0), some (.getfield 0, 3, 37, 12, 2), none, none, some (.iload 2, 1, 0, 0, 0), some (.iaload, 1, 0, 0, 0), some (.if_icmp .eq 0, 3, 78, 0, 0), none, none, some (.aload 0, 1, 0, 0, 0), some (.getfield 0, 3, 36, 12, 2), none, none, some (.iload 2, 1, 0, 0, 0), some (.iaload, 1, 0, 0, 0), some (.aload 0, 1, 0, 0, 0)],
  [some (.getfield 0, 3, 37, 12, 2), none, none, some (.iload 2, 1, 0, 0, 0), some (.iaload, 1, 0, 0, 0), some (.if_icmp .le 0, 3, 76, 0, 0), none, none, some (.iconst 1, 1, 0, 0, 0), some (.goto 0, 3, 77, 0, 0), none, none, some (.iconst 0, 1, 0, 0, 0), some (.ireturn, 1, 0, 0, 3), some (.iinc 2 1, 3, 0, 0, 0), none],
  [none, some (.goto 0, 3, 34, 0, 0), none, none, some (.iconst 1, 1, 0, 0, 0), some (.ireturn, 1, 0, 0, 3), none, none, none, none, none, none, none, none, none, none]]
set_option maxRecDepth 100000 in
theorem k195 : pchk 12 3 cX12_isNoBetter 0 t195 = true := by decide +kernel
def t196 : pT := [[some (.aload 0, 1, 0, 0, 0), some (.iload 1, 1, 0, 0, 0), some (.invokestatic 1, 3, 194, 2, 12), none, none, some (.istore 2, 1, 0, 0, 0), some (.iload 2, 1, 0, 0, 0), some (.iconst (-1), 1, 0, 0, 0), some (.if_icmp .eq 0, 3, 19, 0, 0), none, none, some (.aload 0, 1, 0, 0, 0), some (.iload 2, 1, 0, 0, 0), some (.invokestatic 1, 3, 195, 2, 12), none, none],
  [some (.ifCond .eq 0, 3, 20, 0, 0), none, none, some (.return_, 1, 0, 0, 0), some (.iconst 0, 1, 0, 0, 0), some (.istore 3, 1, 0, 0, 0), some (.iload 3, 1, 0, 0, 0), some (.aload 0, 1, 0, 0, 0), some (.getfield 0, 3, 11, 12, 0), none, none, some (.if_icmp .ge 0, 3, 223, 0, 0), none, none, some (.iload 3, 1, 0, 0, 0), some (.iconst 1, 1, 0, 0, 0)],
  [some (.iadd, 1, 0, 0, 0), some (.istore 4, 2, 0, 0, 0), none, some (.iload 4, 2, 0, 0, 0), none, some (.aload 0, 1, 0, 0, 0), some (.getfield 0, 3, 11, 12, 0), none, none, some (.if_icmp .ge 0, 3, 217, 0, 0), none, none, some (.aload 0, 1, 0, 0, 0), some (.iload 3, 1, 0, 0, 0), some (.iload 4, 2, 0, 0, 0), none],
  [some (.invokestatic 1, 3, 193, 3, 12), none, none, some (.ifCond .eq 0, 3, 103, 0, 0), none, none, some (.aload 0, 1, 0, 0, 0), some (.getfield 0, 3, 36, 12, 2), none, none, some (.iload 3, 1, 0, 0, 0), some (.iaload, 1, 0, 0, 0), some (.aload 0, 1, 0, 0, 0), some (.getfield 0, 3, 36, 12, 2), none, none],
  [some (.iload 4, 2, 0, 0, 0), none, some (.iaload, 1, 0, 0, 0), some (.aload 0, 1, 0, 0, 0), some (.iload 4, 2, 0, 0, 0), none, some (.invokestatic 1, 3, 192, 2, 12), none, none, some (.iadd, 1, 0, 0, 0), some (.if_icmp .ge 0, 3, 103, 0, 0), none, none, some (.aload 0, 1, 0, 0, 0), some (.getfield 0, 3, 36, 12, 2), none],
  [none, some (.iload 4, 2, 0, 0, 0), none, some (.iaload, 1, 0, 0, 0), some (.aload 0, 1, 0, 0, 0), some (.getfield 0, 3, 36, 12, 2), none, none, some (.iload 3, 1, 0, 0, 0), some (.iaload, 1, 0, 0, 0), some (.aload 0, 1, 0, 0, 0), some (.iload 3, 1, 0, 0, 0), some (.invokestatic 1, 3, 192, 2, 12), none, none, some (.iadd, 1, 0, 0, 0)],
  [some (.if_icmp .ge 0, 3, 103, 0, 0), none, none, some (.iconst 1, 1, 0, 0, 0), some (.goto 0, 3, 104, 0, 0), none, none, some (.iconst 0, 1, 0, 0, 0), some (.istore 5, 2, 0, 0, 0), none, some (.iload 5, 2, 0, 0, 0), none, some (.ifCond .ne 0, 3, 114, 0, 0), none, none, some (.goto 0, 3, 211, 0, 0)],
  [none, none, some (.iconst 0, 1, 0, 0, 0), some (.istore 6, 2, 0, 0, 0), none, some (.iload 6, 2, 0, 0, 0), none, some (.iconst 2, 1, 0, 0, 0), some (.if_icmp .ge 0, 3, 210, 0, 0), none, none, some (.iconst 0, 1, 0, 0, 0), some (.istore 7, 2, 0, 0, 0), none, some (.iload 7, 2, 0, 0, 0), none],
  [some (.aload 0, 1, 0, 0, 0), some (.getfield 0, 3, 11, 12, 0), none, none, some (.if_icmp .ge 0, 3, 161, 0, 0), none, none, some (.aload 0, 1, 0, 0, 0), some (.getfield 0, 3, 35, 12, 2), none, none, some (.iload 1, 1, 0, 0, 0), some (.iconst 1, 1, 0, 0, 0), some (.iadd, 1, 0, 0, 0), some (.aaload, 1, 0, 0, 0), some (.iload 7, 2, 0, 0, 0)],
  [none, some (.aload 0, 1, 0, 0, 0), some (.getfield 0, 3, 35, 12, 2), none, none, some (.iload 1, 1, 0, 0, 0), some (.aaload, 1, 0, 0, 0), some (.iload 7, 2, 0, 0, 0), none, some (.iaload, 1, 0, 0, 0), some (.iastore, 1, 0, 0, 0), some (.iinc 7 1, 3, 0, 0, 0), none, none, some (.goto 0, 3, 126, 0, 0), none],
  [none, some (.aload 0, 1, 0, 0, 0), some (.getfield 0, 3, 35, 12, 2), none, none, some (.iload 1, 1, 0, 0, 0), some (.iconst 1, 1, 0, 0, 0), some (.iadd, 1, 0, 0, 0), some (.aaload, 1, 0, 0, 0), some (.iload 6, 2, 0, 0, 0), none, some (.ifCond .ne 0, 3, 179, 0, 0), none, none, some (.iload 4, 2, 0, 0, 0), none],
  [some (.goto 0, 3, 180, 0, 0), none, none, some (.iload 3, 1, 0, 0, 0), some (.dup2, 1, 0, 0, 0), some (.iaload, 1, 0, 0, 0), some (.iconst 1, 1, 0, 0, 0), some (.iload 6, 2, 0, 0, 0), none, some (.ifCond .ne 0, 3, 192, 0, 0), none, none, some (.iload 3, 1, 0, 0, 0), some (.goto 0, 3, 194, 0, 0), none, none],
  [some (.iload 4, 2, 0, 0, 0), none, some (.ishl, 1, 0, 0, 0), some (.ior, 1, 0, 0, 0), some (.iastore, 1, 0, 0, 0), some (.aload 0, 1, 0, 0, 0), some (.iload 1, 1, 0, 0, 0), some (.iconst 1, 1, 0, 0, 0), some (.iadd, 1, 0, 0, 0), some (.invokestatic 0, 3, 196, 2, 12), none, none, some (.iinc 6 1, 3, 0, 0, 0), none, none, some (.goto 0, 3, 117, 0, 0)],
  [none, none, some (.return_, 1, 0, 0, 0), some (.iinc 4 1, 3, 0, 0, 0), none, none, some (.goto 0, 3, 35, 0, 0), none, none, some (.iinc 3 1, 3, 0, 0, 0), none, none, some (.goto 0, 3, 22, 0, 0), none, none, some (.aload 0, 1, 0, 0, 0)],
  [some (.iload 2, 1, 0, 0, 0), some (.putfield 0, 3, 34, 12, 0), none, none, some (.iconst 0, 1, 0, 0, 0), some (.istore 3, 1, 0, 0, 0), some (.iload 3, 1, 0, 0, 0), some (.aload 0, 1, 0, 0, 0), some (.getfield 0, 3, 11, 12, 0), none, none, some (.if_icmp .ge 0, 3, 256, 0, 0), none, none, some (.aload 0, 1, 0, 0, 0), some (.getfield 0, 3, 37, 12, 2)],
  [none, none, some (.iload 3, 1, 0, 0, 0), some (.aload 0, 1, 0, 0, 0), some (.getfield 0, 3, 36, 12, 2), none, none, some (.iload 3, 1, 0, 0, 0), some (.iaload, 1, 0, 0, 0), some (.iastore, 1, 0, 0, 0), some (.iinc 3 1, 3, 0, 0, 0), none, none, some (.goto 0, 3, 230, 0, 0), none, none],
  [some (.return_, 1, 0, 0, 0), none, none, none, none, none, none, none, none, none, none, none, none, none, none, none]]
set_option maxRecDepth 100000 in
theorem k196 : pchk 12 0 cX12_order 0 t196 = true := by decide +kernel
def t197 : pT := [[some (.aload 0, 1, 0, 0, 0), some (.iconst (-1), 1, 0, 0, 0), some (.putfield 0, 3, 34, 12, 0), none, none, some (.iconst 0, 1, 0, 0, 0), some (.istore 1, 1, 0, 0, 0), some (.iload 1, 1, 0, 0, 0), some (.aload 0, 1, 0, 0, 0), some (.getfield 0, 3, 11, 12, 0), none, none, some (.if_icmp .ge 0, 3, 35, 0, 0), none, none, some (.aload 0, 1, 0, 0, 0)],
  [some (.getfield 0, 3, 35, 12, 2), none, none, some (.iconst 0, 1, 0, 0, 0), some (.aaload, 1, 0, 0, 0), some (.iload 1, 1, 0, 0, 0), some (.aload 0, 1, 0, 0, 0), some (.getfield 0, 3, 26, 12, 2), none, none, some (.iload 1, 1, 0, 0, 0), some (.iaload, 1, 0, 0, 0), some (.iastore, 1, 0, 0, 0), some (.iinc 1 1, 3, 0, 0, 0), none, none],
  [some (.goto 0, 3, 7, 0, 0), none, none, some (.aload 0, 1, 0, 0, 0), some (.iconst 0, 1, 0, 0, 0), some (.invokestatic 0, 3, 196, 2, 12), none, none, some (.return_, 1, 0, 0, 0), none, none, none, none, none, none, none]]
set_option maxRecDepth 100000 in
theorem k197 : pchk 12 0 cX12_findPlan 0 t197 = true := by decide +kernel
def t198 : pT := [[some (.iload 1, 1, 0, 0, 0), some (.i2l, 1, 0, 0, 0), some (.ldc2_w 0, 1, 0, 0, 0), some (.aload 0, 1, 0, 0, 0), some (.getfield 0, 3, 11, 12, 0), none, none, some (.i2l, 1, 0, 0, 0), some (.ldc2_w 0, 1, 0, 0, 1), some (.lsub, 1, 0, 0, 0), some (.invokestatic 1, 3, 166, 3, (-1)), none, none, some (.ireturn, 1, 0, 0, 3), none, none]]
set_option maxRecDepth 100000 in
theorem k198 : pchk 12 3 cX12_isStep 0 t198 = true := by decide +kernel
def t199 : pT := [[some (.iload 1, 1, 0, 0, 0), some (.i2l, 1, 0, 0, 0), some (.ldc2_w 0, 1, 0, 0, 0), some (.aload 0, 1, 0, 0, 0), some (.getfield 0, 3, 10, 12, 0), none, none, some (.i2l, 1, 0, 0, 0), some (.ldc2_w 0, 1, 0, 0, 1), some (.lsub, 1, 0, 0, 0), some (.invokestatic 1, 3, 166, 3, (-1)), none, none, some (.ireturn, 1, 0, 0, 3), none, none]]
set_option maxRecDepth 100000 in
theorem k199 : pchk 12 3 cX12_isTool 0 t199 = true := by decide +kernel
def t200 : pT := [[some (.aload 0, 1, 0, 0, 0), some (.iload 1, 1, 0, 0, 0), some (.invokestatic 1, 3, 198, 2, 12), none, none, some (.ifCond .eq 0, 3, 17, 0, 0), none, none, some (.aload 0, 1, 0, 0, 0), some (.getfield 0, 3, 37, 12, 2), none, none, some (.iload 1, 1, 0, 0, 0), some (.iaload, 1, 0, 0, 0), some (.goto 0, 3, 19, 0, 0), none],
  [none, some (.iconst (-2), 2, 0, 0, 0), none, some (.ireturn, 1, 0, 0, 0), none, none, none, none, none, none, none, none, none, none, none, none]]
set_option maxRecDepth 100000 in
theorem k200 : pchk 12 1 cX12_begin 0 t200 = true := by decide +kernel
def t201 : pT := [[some (.aload 0, 1, 0, 0, 0), some (.iload 1, 1, 0, 0, 0), some (.invokestatic 1, 3, 198, 2, 12), none, none, some (.ifCond .ne 0, 3, 11, 0, 0), none, none, some (.iconst (-2), 2, 0, 0, 0), none, some (.ireturn, 1, 0, 0, 0), some (.aload 0, 1, 0, 0, 0), some (.getfield 0, 3, 37, 12, 2), none, none, some (.iload 1, 1, 0, 0, 0)],
  [some (.iaload, 1, 0, 0, 0), some (.aload 0, 1, 0, 0, 0), some (.iload 1, 1, 0, 0, 0), some (.invokestatic 1, 3, 192, 2, 12), none, none, some (.iadd, 1, 0, 0, 0), some (.iconst 1, 1, 0, 0, 0), some (.iadd, 1, 0, 0, 0), some (.istore 2, 1, 0, 0, 0), some (.iload 2, 1, 0, 0, 0), some (.aload 0, 1, 0, 0, 0), some (.getfield 0, 3, 34, 12, 0), none, none, some (.if_icmp .le 0, 3, 36, 0, 0)],
  [none, none, some (.iconst 1, 1, 0, 0, 0), some (.ireturn, 1, 0, 0, 0), some (.iconst 0, 1, 0, 0, 0), some (.istore 3, 1, 0, 0, 0), some (.iload 3, 1, 0, 0, 0), some (.aload 0, 1, 0, 0, 0), some (.getfield 0, 3, 11, 12, 0), none, none, some (.if_icmp .ge 0, 3, 140, 0, 0), none, none, some (.iload 3, 1, 0, 0, 0), some (.iload 1, 1, 0, 0, 0)],
  [some (.if_icmp .ne 0, 3, 54, 0, 0), none, none, some (.goto 0, 3, 134, 0, 0), none, none, some (.aload 0, 1, 0, 0, 0), some (.getfield 0, 3, 26, 12, 2), none, none, some (.iload 3, 1, 0, 0, 0), some (.iaload, 1, 0, 0, 0), some (.iload 1, 1, 0, 0, 0), some (.ishr, 1, 0, 0, 0), some (.iconst 1, 1, 0, 0, 0), some (.iand, 1, 0, 0, 0)],
  [some (.iconst 1, 1, 0, 0, 0), some (.if_icmp .ne 0, 3, 82, 0, 0), none, none, some (.aload 0, 1, 0, 0, 0), some (.getfield 0, 3, 37, 12, 2), none, none, some (.iload 3, 1, 0, 0, 0), some (.iaload, 1, 0, 0, 0), some (.iload 2, 1, 0, 0, 0), some (.if_icmp .ge 0, 3, 82, 0, 0), none, none, some (.iconst 1, 1, 0, 0, 0), some (.goto 0, 3, 83, 0, 0)],
  [none, none, some (.iconst 0, 1, 0, 0, 0), some (.istore 4, 2, 0, 0, 0), none, some (.iload 4, 2, 0, 0, 0), none, some (.ifCond .ne 0, 3, 132, 0, 0), none, none, some (.aload 0, 1, 0, 0, 0), some (.iload 1, 1, 0, 0, 0), some (.iload 3, 1, 0, 0, 0), some (.invokestatic 1, 3, 193, 3, 12), none, none],
  [some (.ifCond .eq 0, 3, 134, 0, 0), none, none, some (.aload 0, 1, 0, 0, 0), some (.getfield 0, 3, 37, 12, 2), none, none, some (.iload 3, 1, 0, 0, 0), some (.iaload, 1, 0, 0, 0), some (.iload 2, 1, 0, 0, 0), some (.if_icmp .ge 0, 3, 134, 0, 0), none, none, some (.aload 0, 1, 0, 0, 0), some (.getfield 0, 3, 37, 12, 2), none],
  [none, some (.iload 1, 1, 0, 0, 0), some (.iaload, 1, 0, 0, 0), some (.iconst 1, 1, 0, 0, 0), some (.iadd, 1, 0, 0, 0), some (.aload 0, 1, 0, 0, 0), some (.getfield 0, 3, 37, 12, 2), none, none, some (.iload 3, 1, 0, 0, 0), some (.iaload, 1, 0, 0, 0), some (.aload 0, 1, 0, 0, 0), some (.iload 3, 1, 0, 0, 0), some (.invokestatic 1, 3, 192, 2, 12), none, none],
  [some (.iadd, 1, 0, 0, 0), some (.if_icmp .ge 0, 3, 134, 0, 0), none, none, some (.iconst 1, 1, 0, 0, 0), some (.ireturn, 1, 0, 0, 0), some (.iinc 3 1, 3, 0, 0, 0), none, none, some (.goto 0, 3, 38, 0, 0), none, none, some (.iconst 0, 1, 0, 0, 0), some (.ireturn, 1, 0, 0, 0), none, none]]
set_option maxRecDepth 100000 in
theorem k201 : pchk 12 1 cX12_held 0 t201 = true := by decide +kernel
def t202 : pT := [[some (.iconst 0, 1, 0, 0, 0), some (.istore 4, 2, 0, 0, 0), none, some (.iload 4, 2, 0, 0, 0), none, some (.iload 3, 1, 0, 0, 0), some (.if_icmp .ge 0, 3, 71, 0, 0), none, none, some (.aload 0, 1, 0, 0, 0), some (.getfield 0, 3, 38, 12, 2), none, none, some (.iload 4, 2, 0, 0, 0), none, some (.iaload, 1, 0, 0, 0)],
  [some (.istore 5, 2, 0, 0, 0), none, some (.aload 0, 1, 0, 0, 0), some (.iload 1, 1, 0, 0, 0), some (.iload 5, 2, 0, 0, 0), none, some (.invokestatic 1, 3, 193, 3, 12), none, none, some (.ifCond .eq 0, 3, 65, 0, 0), none, none, some (.iload 2, 1, 0, 0, 0), some (.aload 0, 1, 0, 0, 0), some (.getfield 0, 3, 39, 12, 2), none],
  [none, some (.iload 4, 2, 0, 0, 0), none, some (.iaload, 1, 0, 0, 0), some (.aload 0, 1, 0, 0, 0), some (.iload 5, 2, 0, 0, 0), none, some (.invokestatic 1, 3, 192, 2, 12), none, none, some (.iadd, 1, 0, 0, 0), some (.if_icmp .ge 0, 3, 65, 0, 0), none, none, some (.aload 0, 1, 0, 0, 0), some (.getfield 0, 3, 39, 12, 2)],
  [none, none, some (.iload 4, 2, 0, 0, 0), none, some (.iaload, 1, 0, 0, 0), some (.iload 2, 1, 0, 0, 0), some (.aload 0, 1, 0, 0, 0), some (.iload 1, 1, 0, 0, 0), some (.invokestatic 1, 3, 192, 2, 12), none, none, some (.iadd, 1, 0, 0, 0), some (.if_icmp .ge 0, 3, 65, 0, 0), none, none, some (.iconst 0, 1, 0, 0, 0)],
  [some (.ireturn, 1, 0, 0, 3), some (.iinc 4 1, 3, 0, 0, 0), none, none, some (.goto 0, 3, 3, 0, 0), none, none, some (.iconst 1, 1, 0, 0, 0), some (.ireturn, 1, 0, 0, 3), none, none, none, none, none, none, none]]
set_option maxRecDepth 100000 in
theorem k202 : pchk 12 3 cX12_isFree 0 t202 = true := by decide +kernel
def t203 : pT := [[some (.aload 0, 1, 0, 0, 0), some (.getfield 0, 3, 1, 12, 0), none, none, some (.istore 1, 1, 0, 0, 0), some (.aload 0, 1, 0, 0, 0), some (.iconst 0, 1, 0, 0, 0), some (.putfield 0, 3, 1, 12, 0), none, none, some (.iload 1, 1, 0, 0, 0), some (.aload 0, 1, 0, 0, 0), some (.getfield 0, 3, 11, 12, 0), none, none, some (.if_icmp .eq 0, 3, 20, 0, 0)],
  [none, none, some (.iconst (-1), 1, 0, 0, 0), some (.ireturn, 1, 0, 0, 0), some (.iconst 0, 1, 0, 0, 0), some (.istore 2, 1, 0, 0, 0), some (.iconst 0, 1, 0, 0, 0), some (.istore 3, 1, 0, 0, 0), some (.iconst 0, 1, 0, 0, 0), some (.istore 4, 2, 0, 0, 0), none, some (.iload 4, 2, 0, 0, 0), none, some (.iload 1, 1, 0, 0, 0), some (.if_icmp .ge 0, 3, 289, 0, 0), none],
  [none, some (.aload 0, 1, 0, 0, 0), some (.getfield 0, 3, 0, 12, 2), none, none, some (.iload 4, 2, 0, 0, 0), none, some (.baload, 1, 0, 0, 0), some (.iconst 255, 3, 0, 0, 0), none, none, some (.iand, 1, 0, 0, 0), some (.iconst 48, 2, 0, 0, 0), none, some (.isub, 1, 0, 0, 0), some (.istore 5, 2, 0, 0, 0)],
  [none, some (.aload 0, 1, 0, 0, 0), some (.iload 5, 2, 0, 0, 0), none, some (.invokestatic 1, 3, 198, 2, 12), none, none, some (.ifCond .eq 0, 3, 82, 0, 0), none, none, some (.iload 2, 1, 0, 0, 0), some (.iload 5, 2, 0, 0, 0), none, some (.ishr, 1, 0, 0, 0), some (.iconst 1, 1, 0, 0, 0), some (.iand, 1, 0, 0, 0)],
  [some (.iconst 1, 1, 0, 0, 0), some (.if_icmp .eq 0, 3, 82, 0, 0), none, none, some (.aload 0, 1, 0, 0, 0), some (.getfield 0, 3, 26, 12, 2), none, none, some (.iload 5, 2, 0, 0, 0), none, some (.iaload, 1, 0, 0, 0), some (.iload 2, 1, 0, 0, 0), some (.iconst (-1), 1, 0, 0, 0), some (.ixor, 1, 0, 0, 0), some (.iand, 1, 0, 0, 0), some (.ifCond .eq 0, 3, 84, 0, 0)],
  [none, none, some (.iconst (-1), 1, 0, 0, 0), some (.ireturn, 1, 0, 0, 0), some (.iconst 0, 1, 0, 0, 0), some (.istore 6, 2, 0, 0, 0), none, some (.iconst 0, 1, 0, 0, 0), some (.istore 7, 2, 0, 0, 0), none, some (.iload 7, 2, 0, 0, 0), none, some (.iload 4, 2, 0, 0, 0), none, some (.if_icmp .ge 0, 3, 150, 0, 0), none],
  [none, some (.aload 0, 1, 0, 0, 0), some (.getfield 0, 3, 26, 12, 2), none, none, some (.iload 5, 2, 0, 0, 0), none, some (.iaload, 1, 0, 0, 0), some (.aload 0, 1, 0, 0, 0), some (.getfield 0, 3, 38, 12, 2), none, none, some (.iload 7, 2, 0, 0, 0), none, some (.iaload, 1, 0, 0, 0), some (.ishr, 1, 0, 0, 0)],
  [some (.iconst 1, 1, 0, 0, 0), some (.iand, 1, 0, 0, 0), some (.iconst 1, 1, 0, 0, 0), some (.if_icmp .ne 0, 3, 144, 0, 0), none, none, some (.iload 6, 2, 0, 0, 0), none, some (.aload 0, 1, 0, 0, 0), some (.getfield 0, 3, 39, 12, 2), none, none, some (.iload 7, 2, 0, 0, 0), none, some (.iaload, 1, 0, 0, 0), some (.aload 0, 1, 0, 0, 0)],
  [some (.aload 0, 1, 0, 0, 0), some (.getfield 0, 3, 38, 12, 2), none, none, some (.iload 7, 2, 0, 0, 0), none, some (.iaload, 1, 0, 0, 0), some (.invokestatic 1, 3, 192, 2, 12), none, none, some (.iadd, 1, 0, 0, 0), some (.f2d, 3, 0, 0, 0), none, none, some (.istore 6, 2, 0, 0, 0), none],
  [some (.iinc 7 1, 3, 0, 0, 0), none, none, some (.goto 0, 3, 90, 0, 0), none, none, some (.iload 6, 2, 0, 0, 0), none, some (.istore 7, 2, 0, 0, 0), none, some (.aload 0, 1, 0, 0, 0), some (.iload 5, 2, 0, 0, 0), none, some (.iload 6, 2, 0, 0, 0), none, some (.iload 4, 2, 0, 0, 0)],
  [none, some (.invokestatic 1, 3, 202, 4, 12), none, none, some (.ifCond .ne 0, 3, 244, 0, 0), none, none, some (.iconst (-1), 1, 0, 0, 0), some (.istore 7, 2, 0, 0, 0), none, some (.iconst 0, 1, 0, 0, 0), some (.istore 8, 2, 0, 0, 0), none, some (.iload 8, 2, 0, 0, 0), none, some (.iload 4, 2, 0, 0, 0)],
  [none, some (.if_icmp .ge 0, 3, 244, 0, 0), none, none, some (.aload 0, 1, 0, 0, 0), some (.getfield 0, 3, 39, 12, 2), none, none, some (.iload 8, 2, 0, 0, 0), none, some (.iaload, 1, 0, 0, 0), some (.aload 0, 1, 0, 0, 0), some (.aload 0, 1, 0, 0, 0), some (.getfield 0, 3, 38, 12, 2), none, none],
  [some (.iload 8, 2, 0, 0, 0), none, some (.iaload, 1, 0, 0, 0), some (.invokestatic 1, 3, 192, 2, 12), none, none, some (.iadd, 1, 0, 0, 0), some (.istore 9, 2, 0, 0, 0), none, some (.iload 9, 2, 0, 0, 0), none, some (.iload 6, 2, 0, 0, 0), none, some (.if_icmp .lt 0, 3, 238, 0, 0), none, none],
  [some (.iload 7, 2, 0, 0, 0), none, some (.iconst (-1), 1, 0, 0, 0), some (.if_icmp .eq 0, 3, 221, 0, 0), none, none, some (.iload 9, 2, 0, 0, 0), none, some (.iload 7, 2, 0, 0, 0), none, some (.if_icmp .ge 0, 3, 238, 0, 0), none, none, some (.aload 0, 1, 0, 0, 0), some (.iload 5, 2, 0, 0, 0), none],
  [some (.iload 9, 2, 0, 0, 0), none, some (.iload 4, 2, 0, 0, 0), none, some (.invokestatic 1, 3, 202, 4, 12), none, none, some (.ifCond .eq 0, 3, 238, 0, 0), none, none, some (.iload 9, 2, 0, 0, 0), none, some (.istore 7, 2, 0, 0, 0), none, some (.iinc 8 1, 3, 0, 0, 0), none],
  [none, some (.goto 0, 3, 173, 0, 0), none, none, some (.aload 0, 1, 0, 0, 0), some (.getfield 0, 3, 38, 12, 2), none, none, some (.iload 4, 2, 0, 0, 0), none, some (.iload 5, 2, 0, 0, 0), none, some (.iastore, 1, 0, 0, 0), some (.aload 0, 1, 0, 0, 0), some (.getfield 0, 3, 39, 12, 2), none],
  [none, some (.iload 4, 2, 0, 0, 0), none, some (.iload 7, 2, 0, 0, 0), none, some (.iastore, 1, 0, 0, 0), some (.iload 2, 1, 0, 0, 0), some (.iconst 1, 1, 0, 0, 0), some (.iload 5, 2, 0, 0, 0), none, some (.ishl, 1, 0, 0, 0), some (.ior, 1, 0, 0, 0), some (.istore 2, 1, 0, 0, 0), some (.iload 3, 1, 0, 0, 0), some (.iload 7, 2, 0, 0, 0), none],
  [some (.aload 0, 1, 0, 0, 0), some (.iload 5, 2, 0, 0, 0), none, some (.invokestatic 1, 3, 192, 2, 12), none, none, some (.iadd, 1, 0, 0, 0), some (.f2d, 3, 0, 0, 0), none, none, some (.istore 3, 1, 0, 0, 0), some (.iinc 4 1, 3, 0, 0, 0), none, none, some (.goto 0, 3, 27, 0, 0), none],
  [none, some (.iload 3, 1, 0, 0, 0), some (.ireturn, 1, 0, 0, 0), none, none, none, none, none, none, none, none, none, none, none, none, none]]
set_option maxRecDepth 100000 in
theorem k203 : pchk 12 1 cX12_byRow 0 t203 = true := by decide +kernel
def t204 : pT := [[some (.aload 0, 1, 0, 0, 0), some (.getfield 0, 3, 34, 12, 0), none, none, some (.ifCond .ne 0, 3, 11, 0, 0), none, none, some (.iconst 0, 1, 0, 0, 0), some (.goto 0, 3, 25, 0, 0), none, none, some (.iload 1, 1, 0, 0, 0), some (.iconst 100, 2, 0, 0, 0), none, some (.aload 0, 1, 0, 0, 0), some (.getfield 0, 3, 12, 12, 0)],
  [none, none, some (.isub, 1, 0, 0, 0), some (.imul, 1, 0, 0, 0), some (.aload 0, 1, 0, 0, 0), some (.getfield 0, 3, 34, 12, 0), none, none, some (.idiv, 1, 0, 0, 0), some (.ireturn, 1, 0, 0, 0), none, none, none, none, none, none]]
set_option maxRecDepth 100000 in
theorem k204 : pchk 12 1 cX12_markOf 0 t204 = true := by decide +kernel
def t205 : pT := [[some (.aload 0, 1, 0, 0, 0), some (.aload 0, 1, 0, 0, 0), some (.getfield 0, 3, 37, 12, 2), none, none, some (.iload 1, 1, 0, 0, 0), some (.iaload, 1, 0, 0, 0), some (.invokestatic 1, 3, 204, 2, 12), none, none, some (.ireturn, 1, 0, 0, 0), none, none, none, none, none]]
set_option maxRecDepth 100000 in
theorem k205 : pchk 12 1 cX12_up 0 t205 = true := by decide +kernel
def t206 : pT := [[some (.aload 0, 1, 0, 0, 0), some (.aload 0, 1, 0, 0, 0), some (.getfield 0, 3, 37, 12, 2), none, none, some (.iload 1, 1, 0, 0, 0), some (.iaload, 1, 0, 0, 0), some (.aload 0, 1, 0, 0, 0), some (.getfield 0, 3, 24, 12, 2), none, none, some (.iload 1, 1, 0, 0, 0), some (.iaload, 1, 0, 0, 0), some (.aload 0, 1, 0, 0, 0), some (.getfield 0, 3, 20, 12, 2), none],
  [none, some (.aload 0, 1, 0, 0, 0), some (.getfield 0, 3, 23, 12, 2), none, none, some (.iload 1, 1, 0, 0, 0), some (.iaload, 1, 0, 0, 0), some (.iaload, 1, 0, 0, 0), some (.imul, 1, 0, 0, 0), some (.iadd, 1, 0, 0, 0), some (.invokestatic 1, 3, 204, 2, 12), none, none, some (.ireturn, 1, 0, 0, 0), none, none]]
set_option maxRecDepth 100000 in
theorem k206 : pchk 12 1 cX12_top 0 t206 = true := by decide +kernel
def t207 : pT := [[some (.aload 0, 1, 0, 0, 0), some (.aload 0, 1, 0, 0, 0), some (.getfield 0, 3, 37, 12, 2), none, none, some (.iload 1, 1, 0, 0, 0), some (.iaload, 1, 0, 0, 0), some (.aload 0, 1, 0, 0, 0), some (.iload 1, 1, 0, 0, 0), some (.invokestatic 1, 3, 192, 2, 12), none, none, some (.iadd, 1, 0, 0, 0), some (.invokestatic 1, 3, 204, 2, 12), none, none],
  [some (.ireturn, 1, 0, 0, 0), none, none, none, none, none, none, none, none, none, none, none, none, none, none, none]]
set_option maxRecDepth 100000 in
theorem k207 : pchk 12 1 cX12_down 0 t207 = true := by decide +kernel
def t208 : pT := [[some (.iload 2, 1, 0, 0, 0), some (.aload 0, 1, 0, 0, 0), some (.iload 1, 1, 0, 0, 0), some (.invokestatic 1, 3, 205, 2, 12), none, none, some (.isub, 1, 0, 0, 0), some (.iconst 100, 2, 0, 0, 0), none, some (.iadd, 1, 0, 0, 0), some (.iconst 100, 2, 0, 0, 0), none, some (.iadd, 1, 0, 0, 0), some (.iconst 100, 2, 0, 0, 0), none, some (.irem, 1, 0, 0, 0)],
  [some (.istore 3, 1, 0, 0, 0), some (.aload 0, 1, 0, 0, 0), some (.iload 1, 1, 0, 0, 0), some (.invokestatic 1, 3, 206, 2, 12), none, none, some (.aload 0, 1, 0, 0, 0), some (.iload 1, 1, 0, 0, 0), some (.invokestatic 1, 3, 205, 2, 12), none, none, some (.isub, 1, 0, 0, 0), some (.istore 4, 2, 0, 0, 0), none, some (.aload 0, 1, 0, 0, 0), some (.iload 1, 1, 0, 0, 0)],
  [some (.invokestatic 1, 3, 207, 2, 12), none, none, some (.aload 0, 1, 0, 0, 0), some (.iload 1, 1, 0, 0, 0), some (.invokestatic 1, 3, 205, 2, 12), none, none, some (.isub, 1, 0, 0, 0), some (.istore 5, 2, 0, 0, 0), none, some (.iload 3, 1, 0, 0, 0), some (.iload 4, 2, 0, 0, 0), none, some (.if_icmp .ge 0, 3, 61, 0, 0), none],
  [none, some (.aload 0, 1, 0, 0, 0), some (.getfield 0, 3, 24, 12, 2), none, none, some (.iload 1, 1, 0, 0, 0), some (.iaload, 1, 0, 0, 0), some (.iload 3, 1, 0, 0, 0), some (.imul, 1, 0, 0, 0), some (.iload 4, 2, 0, 0, 0), none, some (.idiv, 1, 0, 0, 0), some (.ireturn, 1, 0, 0, 0), some (.iload 3, 1, 0, 0, 0), some (.iload 5, 2, 0, 0, 0), none],
  [some (.if_icmp .gt 0, 3, 76, 0, 0), none, none, some (.aload 0, 1, 0, 0, 0), some (.getfield 0, 3, 24, 12, 2), none, none, some (.iload 1, 1, 0, 0, 0), some (.iaload, 1, 0, 0, 0), some (.goto 0, 3, 103, 0, 0), none, none, some (.iconst 0, 1, 0, 0, 0), some (.aload 0, 1, 0, 0, 0), some (.getfield 0, 3, 24, 12, 2), none],
  [none, some (.iload 1, 1, 0, 0, 0), some (.iaload, 1, 0, 0, 0), some (.aload 0, 1, 0, 0, 0), some (.getfield 0, 3, 21, 12, 2), none, none, some (.aload 0, 1, 0, 0, 0), some (.getfield 0, 3, 23, 12, 2), none, none, some (.iload 1, 1, 0, 0, 0), some (.iaload, 1, 0, 0, 0), some (.iaload, 1, 0, 0, 0), some (.iload 3, 1, 0, 0, 0), some (.iload 5, 2, 0, 0, 0)],
  [none, some (.isub, 1, 0, 0, 0), some (.imul, 1, 0, 0, 0), some (.isub, 1, 0, 0, 0), some (.f2d, 3, 0, 0, 0), none, none, some (.ireturn, 1, 0, 0, 0), none, none, none, none, none, none, none, none]]
set_option maxRecDepth 100000 in
theorem k208 : pchk 12 1 cX12_heightOf 0 t208 = true := by decide +kernel
def t209 : pT := [[some (.iconst 0, 1, 0, 0, 0), some (.istore 3, 1, 0, 0, 0), some (.iconst 0, 1, 0, 0, 0), some (.istore 4, 2, 0, 0, 0), none, some (.iload 4, 2, 0, 0, 0), none, some (.aload 0, 1, 0, 0, 0), some (.getfield 0, 3, 11, 12, 0), none, none, some (.if_icmp .ge 0, 3, 43, 0, 0), none, none, some (.aload 0, 1, 0, 0, 0), some (.getfield 0, 3, 23, 12, 2)],
  [none, none, some (.iload 4, 2, 0, 0, 0), none, some (.iaload, 1, 0, 0, 0), some (.iload 1, 1, 0, 0, 0), some (.if_icmp .ne 0, 3, 37, 0, 0), none, none, some (.iload 3, 1, 0, 0, 0), some (.aload 0, 1, 0, 0, 0), some (.iload 4, 2, 0, 0, 0), none, some (.iload 2, 1, 0, 0, 0), some (.invokestatic 1, 3, 208, 3, 12), none],
  [none, some (.f2d, 3, 0, 0, 0), none, none, some (.istore 3, 1, 0, 0, 0), some (.iinc 4 1, 3, 0, 0, 0), none, none, some (.goto 0, 3, 5, 0, 0), none, none, some (.iload 3, 1, 0, 0, 0), some (.ireturn, 1, 0, 0, 0), none, none, none]]
set_option maxRecDepth 100000 in
theorem k209 : pchk 12 1 cX12_discAt 0 t209 = true := by decide +kernel
def t210 : pT := [[some (.iload 0, 1, 0, 0, 0), some (.i2l, 1, 0, 0, 0), some (.ldc2_w 0, 1, 0, 0, 0), some (.ldc2_w 0, 3, 0, 0, 99), none, none, some (.invokestatic 1, 3, 166, 3, (-1)), none, none, some (.ireturn, 1, 0, 0, 3), none, none, none, none, none, none]]
set_option maxRecDepth 100000 in
theorem k210 : pchk 12 3 cX12_isMark 0 t210 = true := by decide +kernel
def t211 : pT := [[some (.aload 0, 1, 0, 0, 0), some (.iload 1, 1, 0, 0, 0), some (.invokestatic 1, 3, 199, 2, 12), none, none, some (.ifCond .eq 0, 3, 24, 0, 0), none, none, some (.iload 2, 1, 0, 0, 0), some (.invokestatic 1, 3, 210, 1, (-1)), none, none, some (.ifCond .eq 0, 3, 24, 0, 0), none, none, some (.aload 0, 1, 0, 0, 0)],
  [some (.iload 1, 1, 0, 0, 0), some (.iload 2, 1, 0, 0, 0), some (.invokestatic 1, 3, 209, 3, 12), none, none, some (.goto 0, 3, 26, 0, 0), none, none, some (.iconst (-2), 2, 0, 0, 0), none, some (.ireturn, 1, 0, 0, 0), none, none, none, none, none]]
set_option maxRecDepth 100000 in
theorem k211 : pchk 12 1 cX12_height 0 t211 = true := by decide +kernel
end
section
def t212 : pT := [[some (.aload 0, 1, 0, 0, 0), some (.getfield 0, 3, 24, 12, 2), none, none, some (.iload 1, 1, 0, 0, 0), some (.iaload, 1, 0, 0, 0), some (.aload 0, 1, 0, 0, 0), some (.getfield 0, 3, 21, 12, 2), none, none, some (.aload 0, 1, 0, 0, 0), some (.getfield 0, 3, 23, 12, 2), none, none, some (.iload 1, 1, 0, 0, 0), some (.iaload, 1, 0, 0, 0)],
  [some (.iaload, 1, 0, 0, 0), some (.aload 0, 1, 0, 0, 0), some (.iload 1, 1, 0, 0, 0), some (.invokestatic 1, 3, 206, 2, 12), none, none, some (.aload 0, 1, 0, 0, 0), some (.iload 1, 1, 0, 0, 0), some (.invokestatic 1, 3, 205, 2, 12), none, none, some (.isub, 1, 0, 0, 0), some (.imul, 1, 0, 0, 0), some (.if_icmp .le 0, 3, 36, 0, 0), none, none],
  [some (.iconst 1, 1, 0, 0, 0), some (.goto 0, 3, 37, 0, 0), none, none, some (.iconst 0, 1, 0, 0, 0), some (.ireturn, 1, 0, 0, 3), none, none, none, none, none, none, none, none, none, none]]
set_option maxRecDepth 100000 in
theorem k212 : pchk 12 3 cX12_isSteep 0 t212 = true := by decide +kernel
def t213 : pT := [[some (.iconst 0, 1, 0, 0, 0), some (.istore 2, 1, 0, 0, 0), some (.iload 2, 1, 0, 0, 0), some (.aload 0, 1, 0, 0, 0), some (.getfield 0, 3, 11, 12, 0), none, none, some (.if_icmp .ge 0, 3, 54, 0, 0), none, none, some (.iload 2, 1, 0, 0, 0), some (.iload 1, 1, 0, 0, 0), some (.if_icmp .eq 0, 3, 48, 0, 0), none, none, some (.aload 0, 1, 0, 0, 0)],
  [some (.getfield 0, 3, 23, 12, 2), none, none, some (.iload 2, 1, 0, 0, 0), some (.iaload, 1, 0, 0, 0), some (.aload 0, 1, 0, 0, 0), some (.getfield 0, 3, 23, 12, 2), none, none, some (.iload 1, 1, 0, 0, 0), some (.iaload, 1, 0, 0, 0), some (.if_icmp .ne 0, 3, 48, 0, 0), none, none, some (.aload 0, 1, 0, 0, 0), some (.iload 2, 1, 0, 0, 0)],
  [some (.aload 0, 1, 0, 0, 0), some (.iload 1, 1, 0, 0, 0), some (.invokestatic 1, 3, 205, 2, 12), none, none, some (.iconst 100, 2, 0, 0, 0), none, some (.irem, 1, 0, 0, 0), some (.invokestatic 1, 3, 208, 3, 12), none, none, some (.ifCond .le 0, 3, 48, 0, 0), none, none, some (.iconst 1, 1, 0, 0, 0), some (.ireturn, 1, 0, 0, 3)],
  [some (.iinc 2 1, 3, 0, 0, 0), none, none, some (.goto 0, 3, 2, 0, 0), none, none, some (.iconst 0, 1, 0, 0, 0), some (.ireturn, 1, 0, 0, 3), none, none, none, none, none, none, none, none]]
set_option maxRecDepth 100000 in
theorem k213 : pchk 12 3 cX12_isLate 0 t213 = true := by decide +kernel
def t214 : pT := [[some (.aload 0, 1, 0, 0, 0), some (.iload 1, 1, 0, 0, 0), some (.invokestatic 1, 3, 198, 2, 12), none, none, some (.ifCond .eq 0, 3, 20, 0, 0), none, none, some (.iload 2, 1, 0, 0, 0), some (.i2l, 1, 0, 0, 0), some (.ldc2_w 0, 1, 0, 0, 0), some (.ldc2_w 0, 3, 0, 0, 4), none, none, some (.invokestatic 1, 3, 166, 3, (-1)), none],
  [none, some (.ifCond .ne 0, 3, 23, 0, 0), none, none, some (.iconst (-2), 2, 0, 0, 0), none, some (.ireturn, 1, 0, 0, 0), some (.iload 2, 1, 0, 0, 0), some (.tableswitch 64 0 3 #[32, 38, 44, 50], 32, 0, 0, 0), none, none, none, none, none, none, none],
  [none, none, none, none, none, none, none, none, none, none, none, none, none, none, none, none],
  [none, none, none, none, none, none, none, none, some (.aload 0, 1, 0, 0, 0), some (.iload 1, 1, 0, 0, 0), some (.invokestatic 1, 3, 205, 2, 12), none, none, some (.ireturn, 1, 0, 0, 0), some (.aload 0, 1, 0, 0, 0), some (.iload 1, 1, 0, 0, 0)],
  [some (.invokestatic 1, 3, 206, 2, 12), none, none, some (.ireturn, 1, 0, 0, 0), some (.aload 0, 1, 0, 0, 0), some (.iload 1, 1, 0, 0, 0), some (.invokestatic 1, 3, 207, 2, 12), none, none, some (.ireturn, 1, 0, 0, 0), some (.aload 0, 1, 0, 0, 0), some (.iload 1, 1, 0, 0, 0), some (.invokestatic 1, 3, 212, 2, 12), none, none, some (.ifCond .eq 0, 3, 86, 0, 0)],
  [none, none, some (.iconst 1, 1, 0, 0, 0), some (.goto 0, 3, 87, 0, 0), none, none, some (.iconst 0, 1, 0, 0, 0), some (.ireturn, 1, 0, 0, 0), some (.aload 0, 1, 0, 0, 0), some (.iload 1, 1, 0, 0, 0), some (.invokestatic 1, 3, 213, 2, 12), none, none, some (.ifCond .eq 0, 3, 100, 0, 0), none, none],
  [some (.iconst 1, 1, 0, 0, 0), some (.goto 0, 3, 101, 0, 0), none, none, some (.iconst 0, 1, 0, 0, 0), some (.ireturn, 1, 0, 0, 0), none, none, none, none, none, none, none, none, none, none]]
set_option maxRecDepth 100000 in
theorem k214 : pchk 12 1 cX12_lobe 0 t214 = true := by decide +kernel
def t215 : pT := [[some (.iload 1, 1, 0, 0, 0), some (.i2l, 1, 0, 0, 0), some (.ldc2_w 0, 1, 0, 0, 0), some (.ldc2_w 0, 1, 0, 0, 1), some (.invokestatic 1, 3, 166, 3, (-1)), none, none, some (.ifCond .ne 0, 3, 12, 0, 0), none, none, some (.iconst (-1), 1, 0, 0, 0), some (.ireturn, 1, 0, 0, 0), some (.iconst 0, 1, 0, 0, 0), some (.istore 2, 1, 0, 0, 0), some (.iconst 0, 1, 0, 0, 0), some (.istore 3, 1, 0, 0, 0)],
  [some (.iload 3, 1, 0, 0, 0), some (.aload 0, 1, 0, 0, 0), some (.getfield 0, 3, 11, 12, 0), none, none, some (.if_icmp .ge 0, 3, 59, 0, 0), none, none, some (.iload 1, 1, 0, 0, 0), some (.ifCond .ne 0, 3, 39, 0, 0), none, none, some (.aload 0, 1, 0, 0, 0), some (.iload 3, 1, 0, 0, 0), some (.invokestatic 1, 3, 212, 2, 12), none],
  [none, some (.ifCond .eq 0, 3, 53, 0, 0), none, none, some (.goto 0, 3, 47, 0, 0), none, none, some (.aload 0, 1, 0, 0, 0), some (.iload 3, 1, 0, 0, 0), some (.invokestatic 1, 3, 213, 2, 12), none, none, some (.ifCond .eq 0, 3, 53, 0, 0), none, none, some (.iload 2, 1, 0, 0, 0)],
  [some (.iconst 1, 1, 0, 0, 0), some (.iload 3, 1, 0, 0, 0), some (.ishl, 1, 0, 0, 0), some (.ior, 1, 0, 0, 0), some (.istore 2, 1, 0, 0, 0), some (.iinc 3 1, 3, 0, 0, 0), none, none, some (.goto 0, 3, 16, 0, 0), none, none, some (.iload 2, 1, 0, 0, 0), some (.ireturn, 1, 0, 0, 0), none, none, none]]
set_option maxRecDepth 100000 in
theorem k215 : pchk 12 1 cX12_wrong 0 t215 = true := by decide +kernel
def t216 : pT := [[some (.aload 0, 1, 0, 0, 0), some (.iload 1, 1, 0, 0, 0), some (.invokestatic 1, 3, 199, 2, 12), none, none, some (.ifCond .ne 0, 3, 11, 0, 0), none, none, some (.iconst (-2), 2, 0, 0, 0), none, some (.ireturn, 1, 0, 0, 0), some (.iconst 1, 1, 0, 0, 0), some (.istore 2, 1, 0, 0, 0), some (.iconst 0, 1, 0, 0, 0), some (.istore 3, 1, 0, 0, 0), some (.iload 3, 1, 0, 0, 0)],
  [some (.aload 0, 1, 0, 0, 0), some (.getfield 0, 3, 11, 12, 0), none, none, some (.if_icmp .ge 0, 3, 81, 0, 0), none, none, some (.aload 0, 1, 0, 0, 0), some (.getfield 0, 3, 23, 12, 2), none, none, some (.iload 3, 1, 0, 0, 0), some (.iaload, 1, 0, 0, 0), some (.iload 1, 1, 0, 0, 0), some (.if_icmp .eq 0, 3, 36, 0, 0), none],
  [none, some (.goto 0, 3, 75, 0, 0), none, none, some (.aload 0, 1, 0, 0, 0), some (.iload 3, 1, 0, 0, 0), some (.invokestatic 1, 3, 206, 2, 12), none, none, some (.aload 0, 1, 0, 0, 0), some (.iload 3, 1, 0, 0, 0), some (.invokestatic 1, 3, 205, 2, 12), none, none, some (.isub, 1, 0, 0, 0), some (.istore 4, 2, 0, 0, 0)],
  [none, some (.iload 4, 2, 0, 0, 0), none, some (.ifCond .ne 0, 3, 56, 0, 0), none, none, some (.iconst (-1), 1, 0, 0, 0), some (.ireturn, 1, 0, 0, 0), some (.iload 2, 1, 0, 0, 0), some (.aload 0, 1, 0, 0, 0), some (.getfield 0, 3, 24, 12, 2), none, none, some (.iload 3, 1, 0, 0, 0), some (.iaload, 1, 0, 0, 0), some (.iload 4, 2, 0, 0, 0)],
  [none, some (.iadd, 1, 0, 0, 0), some (.iconst 1, 1, 0, 0, 0), some (.isub, 1, 0, 0, 0), some (.iload 4, 2, 0, 0, 0), none, some (.idiv, 1, 0, 0, 0), some (.f2d, 3, 0, 0, 0), none, none, some (.istore 2, 1, 0, 0, 0), some (.iinc 3 1, 3, 0, 0, 0), none, none, some (.goto 0, 3, 15, 0, 0), none],
  [none, some (.iload 2, 1, 0, 0, 0), some (.iconst 60, 2, 0, 0, 0), none, some (.if_icmp .le 0, 3, 91, 0, 0), none, none, some (.iconst (-1), 1, 0, 0, 0), some (.goto 0, 3, 92, 0, 0), none, none, some (.iload 2, 1, 0, 0, 0), some (.ireturn, 1, 0, 0, 0), none, none, none]]
set_option maxRecDepth 100000 in
theorem k216 : pchk 12 1 cX12_slope 0 t216 = true := by decide +kernel
def t217 : pT := [[some (.iload 0, 1, 0, 0, 0), some (.i2l, 1, 0, 0, 0), some (.ldc2_w 0, 1, 0, 0, 0), some (.ldc2_w 0, 3, 0, 0, 3), none, none, some (.invokestatic 1, 3, 166, 3, (-1)), none, none, some (.ireturn, 1, 0, 0, 3), none, none, none, none, none, none]]
set_option maxRecDepth 100000 in
theorem k217 : pchk 12 3 cX12_isDisc 0 t217 = true := by decide +kernel
def t218 : pT := [[some (.aload 0, 1, 0, 0, 0), some (.getfield 0, 3, 1, 12, 0), none, none, some (.istore 2, 1, 0, 0, 0), some (.aload 0, 1, 0, 0, 0), some (.iconst 0, 1, 0, 0, 0), some (.putfield 0, 3, 1, 12, 0), none, none, some (.iload 1, 1, 0, 0, 0), some (.invokestatic 1, 3, 217, 1, (-1)), none, none, some (.ifCond .ne 0, 3, 20, 0, 0), none],
  [none, some (.iconst (-2), 2, 0, 0, 0), none, some (.ireturn, 1, 0, 0, 0), some (.iload 2, 1, 0, 0, 0), some (.iconst 200, 3, 0, 0, 0), none, none, some (.if_icmp .eq 0, 3, 29, 0, 0), none, none, some (.iconst (-1), 1, 0, 0, 0), some (.ireturn, 1, 0, 0, 0), some (.iconst 0, 1, 0, 0, 0), some (.istore 3, 1, 0, 0, 0), some (.iload 3, 1, 0, 0, 0)],
  [some (.iconst 100, 2, 0, 0, 0), none, some (.if_icmp .ge 0, 3, 104, 0, 0), none, none, some (.iconst 100, 2, 0, 0, 0), none, some (.aload 0, 1, 0, 0, 0), some (.getfield 0, 3, 0, 12, 2), none, none, some (.iconst 2, 1, 0, 0, 0), some (.iload 3, 1, 0, 0, 0), some (.imul, 1, 0, 0, 0), some (.baload, 1, 0, 0, 0), some (.iconst 255, 3, 0, 0, 0)],
  [none, none, some (.iand, 1, 0, 0, 0), some (.iconst 48, 2, 0, 0, 0), none, some (.isub, 1, 0, 0, 0), some (.imul, 1, 0, 0, 0), some (.aload 0, 1, 0, 0, 0), some (.getfield 0, 3, 0, 12, 2), none, none, some (.iconst 2, 1, 0, 0, 0), some (.iload 3, 1, 0, 0, 0), some (.imul, 1, 0, 0, 0), some (.iconst 1, 1, 0, 0, 0), some (.iadd, 1, 0, 0, 0)],
  [some (.baload, 1, 0, 0, 0), some (.iconst 255, 3, 0, 0, 0), none, none, some (.iand, 1, 0, 0, 0), some (.iadd, 1, 0, 0, 0), some (.iconst 48, 2, 0, 0, 0), none, some (.isub, 1, 0, 0, 0), some (.istore 4, 2, 0, 0, 0), none, some (.iload 4, 2, 0, 0, 0), none, some (.i2l, 1, 0, 0, 0), some (.ldc2_w 0, 1, 0, 0, 0), some (.ldc2_w 0, 3, 0, 0, 999)],
  [none, none, some (.invokestatic 1, 3, 166, 3, (-1)), none, none, some (.ifCond .ne 0, 3, 90, 0, 0), none, none, some (.iconst (-1), 1, 0, 0, 0), some (.ireturn, 1, 0, 0, 0), some (.aload 0, 1, 0, 0, 0), some (.getfield 0, 3, 41, 12, 2), none, none, some (.iload 3, 1, 0, 0, 0), some (.iload 4, 2, 0, 0, 0)],
  [none, some (.iastore, 1, 0, 0, 0), some (.iinc 3 1, 3, 0, 0, 0), none, none, some (.goto 0, 3, 31, 0, 0), none, none, some (.iconst 0, 1, 0, 0, 0), some (.istore 3, 1, 0, 0, 0), some (.iload 3, 1, 0, 0, 0), some (.iconst 100, 2, 0, 0, 0), none, some (.if_icmp .ge 0, 3, 135, 0, 0), none, none],
  [some (.aload 0, 1, 0, 0, 0), some (.getfield 0, 3, 40, 12, 2), none, none, some (.iconst 100, 2, 0, 0, 0), none, some (.iload 1, 1, 0, 0, 0), some (.imul, 1, 0, 0, 0), some (.iload 3, 1, 0, 0, 0), some (.iadd, 1, 0, 0, 0), some (.aload 0, 1, 0, 0, 0), some (.getfield 0, 3, 41, 12, 2), none, none, some (.iload 3, 1, 0, 0, 0), some (.iaload, 1, 0, 0, 0)],
  [some (.iastore, 1, 0, 0, 0), some (.iinc 3 1, 3, 0, 0, 0), none, none, some (.goto 0, 3, 106, 0, 0), none, none, some (.iconst 1, 1, 0, 0, 0), some (.ireturn, 1, 0, 0, 0), none, none, none, none, none, none, none]]
set_option maxRecDepth 100000 in
theorem k218 : pchk 12 1 cX12_old 0 t218 = true := by decide +kernel
def t219 : pT := [[some (.iload 1, 1, 0, 0, 0), some (.invokestatic 1, 3, 217, 1, (-1)), none, none, some (.ifCond .eq 0, 3, 28, 0, 0), none, none, some (.iload 2, 1, 0, 0, 0), some (.invokestatic 1, 3, 210, 1, (-1)), none, none, some (.ifCond .eq 0, 3, 28, 0, 0), none, none, some (.aload 0, 1, 0, 0, 0), some (.getfield 0, 3, 40, 12, 2)],
  [none, none, some (.iconst 100, 2, 0, 0, 0), none, some (.iload 1, 1, 0, 0, 0), some (.imul, 1, 0, 0, 0), some (.iload 2, 1, 0, 0, 0), some (.iadd, 1, 0, 0, 0), some (.iaload, 1, 0, 0, 0), some (.goto 0, 3, 30, 0, 0), none, none, some (.iconst (-2), 2, 0, 0, 0), none, some (.ireturn, 1, 0, 0, 0), none]]
set_option maxRecDepth 100000 in
theorem k219 : pchk 12 1 cX12_was 0 t219 = true := by decide +kernel
def t220 : pT := [[some (.aload 0, 1, 0, 0, 0), some (.iload 1, 1, 0, 0, 0), some (.invokestatic 1, 3, 199, 2, 12), none, none, some (.ifCond .eq 0, 3, 27, 0, 0), none, none, some (.iload 2, 1, 0, 0, 0), some (.invokestatic 1, 3, 217, 1, (-1)), none, none, some (.ifCond .eq 0, 3, 27, 0, 0), none, none, some (.iload 3, 1, 0, 0, 0)],
  [some (.i2l, 1, 0, 0, 0), some (.ldc2_w 0, 1, 0, 0, 0), some (.ldc2_w 0, 3, 0, 0, 500), none, none, some (.invokestatic 1, 3, 166, 3, (-1)), none, none, some (.ifCond .ne 0, 3, 30, 0, 0), none, none, some (.iconst (-2), 2, 0, 0, 0), none, some (.ireturn, 1, 0, 0, 0), some (.iconst 0, 1, 0, 0, 0), some (.istore 4, 2, 0, 0, 0)],
  [none, some (.iconst 0, 1, 0, 0, 0), some (.istore 5, 2, 0, 0, 0), none, some (.iload 5, 2, 0, 0, 0), none, some (.iconst 100, 2, 0, 0, 0), none, some (.if_icmp .ge 0, 3, 89, 0, 0), none, none, some (.aload 0, 1, 0, 0, 0), some (.getfield 0, 3, 40, 12, 2), none, none, some (.iconst 100, 2, 0, 0, 0)],
  [none, some (.iload 2, 1, 0, 0, 0), some (.imul, 1, 0, 0, 0), some (.iload 5, 2, 0, 0, 0), none, some (.iadd, 1, 0, 0, 0), some (.aload 0, 1, 0, 0, 0), some (.iload 1, 1, 0, 0, 0), some (.iload 5, 2, 0, 0, 0), none, some (.invokestatic 1, 3, 209, 3, 12), none, none, some (.iload 3, 1, 0, 0, 0), some (.iadd, 1, 0, 0, 0), some (.iastore, 1, 0, 0, 0)],
  [some (.iload 4, 2, 0, 0, 0), none, some (.aload 0, 1, 0, 0, 0), some (.getfield 0, 3, 40, 12, 2), none, none, some (.iconst 100, 2, 0, 0, 0), none, some (.iload 2, 1, 0, 0, 0), some (.imul, 1, 0, 0, 0), some (.iload 5, 2, 0, 0, 0), none, some (.iadd, 1, 0, 0, 0), some (.iaload, 1, 0, 0, 0), some (.f2d, 3, 0, 0, 0), none],
  [none, some (.istore 4, 2, 0, 0, 0), none, some (.iinc 5 1, 3, 0, 0, 0), none, none, some (.goto 0, 3, 36, 0, 0), none, none, some (.iload 4, 2, 0, 0, 0), none, some (.ireturn, 1, 0, 0, 0), none, none, none, none]]
set_option maxRecDepth 100000 in
theorem k220 : pchk 12 1 cX12_keep 0 t220 = true := by decide +kernel
def t221 : pT := [[some (.iconst 0, 1, 0, 0, 0), some (.istore 3, 1, 0, 0, 0), some (.iconst 0, 1, 0, 0, 0), some (.istore 4, 2, 0, 0, 0), none, some (.iload 4, 2, 0, 0, 0), none, some (.iconst 100, 2, 0, 0, 0), none, some (.if_icmp .ge 0, 3, 55, 0, 0), none, none, some (.aload 0, 1, 0, 0, 0), some (.getfield 0, 3, 41, 12, 2), none, none],
  [some (.iload 4, 2, 0, 0, 0), none, some (.aload 0, 1, 0, 0, 0), some (.iload 1, 1, 0, 0, 0), some (.iload 4, 2, 0, 0, 0), none, some (.invokestatic 1, 3, 209, 3, 12), none, none, some (.iastore, 1, 0, 0, 0), some (.iload 3, 1, 0, 0, 0), some (.aload 0, 1, 0, 0, 0), some (.getfield 0, 3, 40, 12, 2), none, none, some (.iconst 100, 2, 0, 0, 0)],
  [none, some (.iload 2, 1, 0, 0, 0), some (.imul, 1, 0, 0, 0), some (.iload 4, 2, 0, 0, 0), none, some (.iadd, 1, 0, 0, 0), some (.iaload, 1, 0, 0, 0), some (.aload 0, 1, 0, 0, 0), some (.getfield 0, 3, 41, 12, 2), none, none, some (.iload 4, 2, 0, 0, 0), none, some (.iaload, 1, 0, 0, 0), some (.isub, 1, 0, 0, 0), some (.iadd, 1, 0, 0, 0)],
  [some (.istore 3, 1, 0, 0, 0), some (.iinc 4 1, 3, 0, 0, 0), none, none, some (.goto 0, 3, 5, 0, 0), none, none, some (.aload 0, 1, 0, 0, 0), some (.iconst (-1), 1, 0, 0, 0), some (.putfield 0, 3, 43, 12, 0), none, none, some (.iconst 0, 1, 0, 0, 0), some (.istore 4, 2, 0, 0, 0), none, some (.iload 4, 2, 0, 0, 0)],
  [none, some (.iconst 100, 2, 0, 0, 0), none, some (.if_icmp .ge 0, 3, 167, 0, 0), none, none, some (.iconst 1499, 3, 0, 0, 0), none, none, some (.istore 5, 2, 0, 0, 0), none, some (.iconst 0, 1, 0, 0, 0), some (.istore 6, 2, 0, 0, 0), none, some (.iload 6, 2, 0, 0, 0), none],
  [some (.iconst 100, 2, 0, 0, 0), none, some (.if_icmp .ge 0, 3, 124, 0, 0), none, none, some (.iload 5, 2, 0, 0, 0), none, some (.aload 0, 1, 0, 0, 0), some (.getfield 0, 3, 40, 12, 2), none, none, some (.iconst 100, 2, 0, 0, 0), none, some (.iload 2, 1, 0, 0, 0), some (.imul, 1, 0, 0, 0), some (.iload 6, 2, 0, 0, 0)],
  [none, some (.iload 4, 2, 0, 0, 0), none, some (.iadd, 1, 0, 0, 0), some (.iconst 100, 2, 0, 0, 0), none, some (.irem, 1, 0, 0, 0), some (.iadd, 1, 0, 0, 0), some (.iaload, 1, 0, 0, 0), some (.aload 0, 1, 0, 0, 0), some (.getfield 0, 3, 41, 12, 2), none, none, some (.iload 6, 2, 0, 0, 0), none, some (.iaload, 1, 0, 0, 0)],
  [some (.isub, 1, 0, 0, 0), some (.f2i, 3, 0, 0, 0), none, none, some (.istore 5, 2, 0, 0, 0), none, some (.iinc 6 1, 3, 0, 0, 0), none, none, some (.goto 0, 3, 78, 0, 0), none, none, some (.iload 5, 2, 0, 0, 0), none, some (.ifCond .lt 0, 3, 161, 0, 0), none],
  [none, some (.aload 0, 1, 0, 0, 0), some (.getfield 0, 3, 43, 12, 0), none, none, some (.iconst (-1), 1, 0, 0, 0), some (.if_icmp .eq 0, 3, 149, 0, 0), none, none, some (.iload 5, 2, 0, 0, 0), none, some (.aload 0, 1, 0, 0, 0), some (.getfield 0, 3, 44, 12, 0), none, none, some (.if_icmp .gt 0, 3, 149, 0, 0)],
  [none, none, some (.goto 0, 3, 161, 0, 0), none, none, some (.aload 0, 1, 0, 0, 0), some (.iload 4, 2, 0, 0, 0), none, some (.putfield 0, 3, 43, 12, 0), none, none, some (.aload 0, 1, 0, 0, 0), some (.iload 5, 2, 0, 0, 0), none, some (.putfield 0, 3, 44, 12, 0), none],
  [none, some (.iinc 4 1, 3, 0, 0, 0), none, none, some (.goto 0, 3, 63, 0, 0), none, none, some (.aload 0, 1, 0, 0, 0), some (.iload 3, 1, 0, 0, 0), some (.iconst 100, 2, 0, 0, 0), none, some (.aload 0, 1, 0, 0, 0), some (.getfield 0, 3, 44, 12, 0), none, none, some (.imul, 1, 0, 0, 0)],
  [some (.isub, 1, 0, 0, 0), some (.putfield 0, 3, 45, 12, 0), none, none, some (.aload 0, 1, 0, 0, 0), some (.getfield 0, 3, 43, 12, 0), none, none, some (.iconst (-1), 1, 0, 0, 0), some (.if_icmp .eq 0, 3, 192, 0, 0), none, none, some (.iconst 1, 1, 0, 0, 0), some (.goto 0, 3, 193, 0, 0), none, none],
  [some (.iconst 0, 1, 0, 0, 0), some (.ireturn, 1, 0, 0, 3), none, none, none, none, none, none, none, none, none, none, none, none, none, none]]
set_option maxRecDepth 100000 in
theorem k221 : pchk 12 3 cX12_canFile 0 t221 = true := by decide +kernel
def t222 : pT := [[some (.aload 0, 1, 0, 0, 0), some (.iload 1, 1, 0, 0, 0), some (.invokestatic 1, 3, 199, 2, 12), none, none, some (.ifCond .eq 0, 3, 27, 0, 0), none, none, some (.iload 2, 1, 0, 0, 0), some (.invokestatic 1, 3, 217, 1, (-1)), none, none, some (.ifCond .eq 0, 3, 27, 0, 0), none, none, some (.iload 3, 1, 0, 0, 0)],
  [some (.i2l, 1, 0, 0, 0), some (.ldc2_w 0, 1, 0, 0, 0), some (.ldc2_w 0, 3, 0, 0, 2), none, none, some (.invokestatic 1, 3, 166, 3, (-1)), none, none, some (.ifCond .ne 0, 3, 30, 0, 0), none, none, some (.iconst (-2), 2, 0, 0, 0), none, some (.ireturn, 1, 0, 0, 0), some (.aload 0, 1, 0, 0, 0), some (.iload 1, 1, 0, 0, 0)],
  [some (.iload 2, 1, 0, 0, 0), some (.invokestatic 1, 3, 221, 3, 12), none, none, some (.ifCond .ne 0, 3, 41, 0, 0), none, none, some (.iconst (-1), 1, 0, 0, 0), some (.ireturn, 1, 0, 0, 0), some (.iload 3, 1, 0, 0, 0), some (.ifCond .ne 0, 3, 52, 0, 0), none, none, some (.aload 0, 1, 0, 0, 0), some (.getfield 0, 3, 43, 12, 0), none],
  [none, some (.goto 0, 3, 68, 0, 0), none, none, some (.iload 3, 1, 0, 0, 0), some (.iconst 1, 1, 0, 0, 0), some (.if_icmp .ne 0, 3, 64, 0, 0), none, none, some (.aload 0, 1, 0, 0, 0), some (.getfield 0, 3, 44, 12, 0), none, none, some (.goto 0, 3, 68, 0, 0), none, none],
  [some (.aload 0, 1, 0, 0, 0), some (.getfield 0, 3, 45, 12, 0), none, none, some (.ireturn, 1, 0, 0, 0), none, none, none, none, none, none, none, none, none, none, none]]
set_option maxRecDepth 100000 in
theorem k222 : pchk 12 1 cX12_file 0 t222 = true := by decide +kernel
def t223 : pT := [[some (.iconst 0, 1, 0, 0, 0), some (.istore 2, 1, 0, 0, 0), some (.iload 2, 1, 0, 0, 0), some (.aload 0, 1, 0, 0, 0), some (.getfield 0, 3, 11, 12, 0), none, none, some (.if_icmp .ge 0, 3, 28, 0, 0), none, none, some (.aload 0, 1, 0, 0, 0), some (.getfield 0, 3, 23, 12, 2), none, none, some (.iload 2, 1, 0, 0, 0), some (.iaload, 1, 0, 0, 0)],
  [some (.iload 1, 1, 0, 0, 0), some (.if_icmp .ne 0, 3, 22, 0, 0), none, none, some (.iconst 1, 1, 0, 0, 0), some (.ireturn, 1, 0, 0, 3), some (.iinc 2 1, 3, 0, 0, 0), none, none, some (.goto 0, 3, 2, 0, 0), none, none, some (.iconst 0, 1, 0, 0, 0), some (.ireturn, 1, 0, 0, 3), none, none]]
set_option maxRecDepth 100000 in
theorem k223 : pchk 12 3 cX12_hasStep 0 t223 = true := by decide +kernel
def t224 : pT := [[some (.aload 0, 1, 0, 0, 0), some (.getfield 0, 3, 48, 12, 0), none, none, some (.iconst (-1), 1, 0, 0, 0), some (.if_icmp .eq 0, 3, 17, 0, 0), none, none, some (.iload 3, 1, 0, 0, 0), some (.aload 0, 1, 0, 0, 0), some (.getfield 0, 3, 48, 12, 0), none, none, some (.if_icmp .lt 0, 3, 17, 0, 0), none, none],
  [some (.return_, 1, 0, 0, 0), some (.iload 1, 1, 0, 0, 0), some (.aload 0, 1, 0, 0, 0), some (.getfield 0, 3, 10, 12, 0), none, none, some (.if_icmp .ne 0, 3, 63, 0, 0), none, none, some (.aload 0, 1, 0, 0, 0), some (.iload 3, 1, 0, 0, 0), some (.putfield 0, 3, 48, 12, 0), none, none, some (.iconst 0, 1, 0, 0, 0), some (.istore 5, 2, 0, 0, 0)],
  [none, some (.iload 5, 2, 0, 0, 0), none, some (.aload 0, 1, 0, 0, 0), some (.getfield 0, 3, 10, 12, 0), none, none, some (.if_icmp .ge 0, 3, 62, 0, 0), none, none, some (.aload 0, 1, 0, 0, 0), some (.getfield 0, 3, 42, 12, 2), none, none, some (.iload 5, 2, 0, 0, 0), none],
  [some (.aload 0, 1, 0, 0, 0), some (.getfield 0, 3, 47, 12, 2), none, none, some (.iload 5, 2, 0, 0, 0), none, some (.iaload, 1, 0, 0, 0), some (.iastore, 1, 0, 0, 0), some (.iinc 5 1, 3, 0, 0, 0), none, none, some (.goto 0, 3, 33, 0, 0), none, none, some (.return_, 1, 0, 0, 0), some (.aload 0, 1, 0, 0, 0)],
  [some (.getfield 0, 3, 47, 12, 2), none, none, some (.iload 1, 1, 0, 0, 0), some (.iconst (-1), 1, 0, 0, 0), some (.iastore, 1, 0, 0, 0), some (.aload 0, 1, 0, 0, 0), some (.iload 1, 1, 0, 0, 0), some (.invokestatic 1, 3, 223, 2, 12), none, none, some (.ifCond .ne 0, 3, 90, 0, 0), none, none, some (.aload 0, 1, 0, 0, 0), some (.iload 1, 1, 0, 0, 0)],
  [some (.iconst 1, 1, 0, 0, 0), some (.iadd, 1, 0, 0, 0), some (.iload 2, 1, 0, 0, 0), some (.iload 3, 1, 0, 0, 0), some (.iload 4, 2, 0, 0, 0), none, some (.invokestatic 0, 3, 224, 5, 12), none, none, some (.return_, 1, 0, 0, 0), some (.iconst 0, 1, 0, 0, 0), some (.istore 5, 2, 0, 0, 0), none, some (.iload 5, 2, 0, 0, 0), none, some (.iconst 4, 1, 0, 0, 0)],
  [some (.if_icmp .ge 0, 3, 169, 0, 0), none, none, some (.iload 2, 1, 0, 0, 0), some (.iload 5, 2, 0, 0, 0), none, some (.ishr, 1, 0, 0, 0), some (.iconst 1, 1, 0, 0, 0), some (.iand, 1, 0, 0, 0), some (.iconst 1, 1, 0, 0, 0), some (.if_icmp .eq 0, 3, 163, 0, 0), none, none, some (.aload 0, 1, 0, 0, 0), some (.getfield 0, 3, 46, 12, 2), none],
  [none, some (.iconst 4, 1, 0, 0, 0), some (.iload 1, 1, 0, 0, 0), some (.imul, 1, 0, 0, 0), some (.iload 5, 2, 0, 0, 0), none, some (.iadd, 1, 0, 0, 0), some (.iaload, 1, 0, 0, 0), some (.iconst (-1), 1, 0, 0, 0), some (.if_icmp .ne 0, 3, 127, 0, 0), none, none, some (.goto 0, 3, 163, 0, 0), none, none, some (.aload 0, 1, 0, 0, 0)],
  [some (.getfield 0, 3, 47, 12, 2), none, none, some (.iload 1, 1, 0, 0, 0), some (.iload 5, 2, 0, 0, 0), none, some (.iastore, 1, 0, 0, 0), some (.aload 0, 1, 0, 0, 0), some (.iload 1, 1, 0, 0, 0), some (.iconst 1, 1, 0, 0, 0), some (.iadd, 1, 0, 0, 0), some (.iload 2, 1, 0, 0, 0), some (.iconst 1, 1, 0, 0, 0), some (.iload 5, 2, 0, 0, 0), none, some (.ishl, 1, 0, 0, 0)],
  [some (.ior, 1, 0, 0, 0), some (.iload 3, 1, 0, 0, 0), some (.aload 0, 1, 0, 0, 0), some (.getfield 0, 3, 46, 12, 2), none, none, some (.iconst 4, 1, 0, 0, 0), some (.iload 1, 1, 0, 0, 0), some (.imul, 1, 0, 0, 0), some (.iload 5, 2, 0, 0, 0), none, some (.iadd, 1, 0, 0, 0), some (.iaload, 1, 0, 0, 0), some (.iadd, 1, 0, 0, 0), some (.iload 4, 2, 0, 0, 0), none],
  [some (.invokestatic 0, 3, 224, 5, 12), none, none, some (.iinc 5 1, 3, 0, 0, 0), none, none, some (.goto 0, 3, 93, 0, 0), none, none, some (.aload 0, 1, 0, 0, 0), some (.getfield 0, 3, 47, 12, 2), none, none, some (.iload 1, 1, 0, 0, 0), some (.iconst (-1), 1, 0, 0, 0), some (.iastore, 1, 0, 0, 0)],
  [some (.aload 0, 1, 0, 0, 0), some (.iload 1, 1, 0, 0, 0), some (.iconst 1, 1, 0, 0, 0), some (.iadd, 1, 0, 0, 0), some (.iload 2, 1, 0, 0, 0), some (.iload 3, 1, 0, 0, 0), some (.iload 4, 2, 0, 0, 0), none, some (.iadd, 1, 0, 0, 0), some (.iload 4, 2, 0, 0, 0), none, some (.invokestatic 0, 3, 224, 5, 12), none, none, some (.return_, 1, 0, 0, 0), none]]
set_option maxRecDepth 100000 in
theorem k224 : pchk 12 0 cX12_give 0 t224 = true := by decide +kernel
def t225 : pT := [[some (.iload 1, 1, 0, 0, 0), some (.i2l, 1, 0, 0, 0), some (.ldc2_w 0, 1, 0, 0, 0), some (.ldc2_w 0, 3, 0, 0, 99999), none, none, some (.invokestatic 1, 3, 166, 3, (-1)), none, none, some (.ifCond .ne 0, 3, 15, 0, 0), none, none, some (.iconst (-2), 2, 0, 0, 0), none, some (.ireturn, 1, 0, 0, 0), some (.iconst 0, 1, 0, 0, 0)],
  [some (.istore 2, 1, 0, 0, 0), some (.iload 2, 1, 0, 0, 0), some (.aload 0, 1, 0, 0, 0), some (.getfield 0, 3, 10, 12, 0), none, none, some (.if_icmp .ge 0, 3, 79, 0, 0), none, none, some (.iconst 0, 1, 0, 0, 0), some (.istore 3, 1, 0, 0, 0), some (.iload 3, 1, 0, 0, 0), some (.iconst 4, 1, 0, 0, 0), some (.if_icmp .ge 0, 3, 73, 0, 0), none, none],
  [some (.aload 0, 1, 0, 0, 0), some (.getfield 0, 3, 46, 12, 2), none, none, some (.iconst 4, 1, 0, 0, 0), some (.iload 2, 1, 0, 0, 0), some (.imul, 1, 0, 0, 0), some (.iload 3, 1, 0, 0, 0), some (.iadd, 1, 0, 0, 0), some (.aload 0, 1, 0, 0, 0), some (.iload 2, 1, 0, 0, 0), some (.invokestatic 1, 3, 223, 2, 12), none, none, some (.ifCond .eq 0, 3, 65, 0, 0), none],
  [none, some (.aload 0, 1, 0, 0, 0), some (.iload 2, 1, 0, 0, 0), some (.iload 3, 1, 0, 0, 0), some (.invokestatic 1, 3, 221, 3, 12), none, none, some (.ifCond .eq 0, 3, 65, 0, 0), none, none, some (.aload 0, 1, 0, 0, 0), some (.getfield 0, 3, 45, 12, 0), none, none, some (.goto 0, 3, 66, 0, 0), none],
  [none, some (.iconst (-1), 1, 0, 0, 0), some (.iastore, 1, 0, 0, 0), some (.iinc 3 1, 3, 0, 0, 0), none, none, some (.goto 0, 3, 27, 0, 0), none, none, some (.iinc 2 1, 3, 0, 0, 0), none, none, some (.goto 0, 3, 17, 0, 0), none, none, some (.aload 0, 1, 0, 0, 0)],
  [some (.iconst (-1), 1, 0, 0, 0), some (.putfield 0, 3, 48, 12, 0), none, none, some (.aload 0, 1, 0, 0, 0), some (.iconst 0, 1, 0, 0, 0), some (.iconst 0, 1, 0, 0, 0), some (.iconst 0, 1, 0, 0, 0), some (.iload 1, 1, 0, 0, 0), some (.invokestatic 0, 3, 224, 5, 12), none, none, some (.aload 0, 1, 0, 0, 0), some (.getfield 0, 3, 48, 12, 0), none, none],
  [some (.ireturn, 1, 0, 0, 0), none, none, none, none, none, none, none, none, none, none, none, none, none, none, none]]
set_option maxRecDepth 100000 in
theorem k225 : pchk 12 1 cX12_share 0 t225 = true := by decide +kernel
def t226 : pT := [[some (.aload 0, 1, 0, 0, 0), some (.iload 1, 1, 0, 0, 0), some (.invokestatic 1, 3, 199, 2, 12), none, none, some (.ifCond .eq 0, 3, 17, 0, 0), none, none, some (.aload 0, 1, 0, 0, 0), some (.getfield 0, 3, 42, 12, 2), none, none, some (.iload 1, 1, 0, 0, 0), some (.iaload, 1, 0, 0, 0), some (.goto 0, 3, 18, 0, 0), none],
  [none, some (.iconst (-1), 1, 0, 0, 0), some (.ireturn, 1, 0, 0, 0), none, none, none, none, none, none, none, none, none, none, none, none, none]]
set_option maxRecDepth 100000 in
theorem k226 : pchk 12 1 cX12_shared 0 t226 = true := by decide +kernel
def t227 : pT := [[some (.aload 0, 1, 0, 0, 0), some (.invokestatic 0, 3, 175, 1, 12), none, none, some (.iconst 0, 1, 0, 0, 0), some (.istore 1, 1, 0, 0, 0), some (.aload 0, 1, 0, 0, 0), some (.getfield 0, 3, 5, 12, 0), none, none, some (.ifCond .eq 0, 3, 66, 0, 0), none, none, some (.aload 0, 1, 0, 0, 0), some (.getfield 0, 3, 5, 12, 0), none],
  [none, some (.iconst 2, 1, 0, 0, 0), some (.if_icmp .ne 0, 3, 44, 0, 0), none, none, some (.iload 1, 1, 0, 0, 0), some (.iconst 10, 2, 0, 0, 0), none, some (.if_icmp .eq 0, 3, 44, 0, 0), none, none, some (.aload 0, 1, 0, 0, 0), some (.getfield 0, 3, 6, 12, 0), none, none, some (.i2l, 1, 0, 0, 0)],
  [some (.ldc2_w 0, 3, 0, 0, 10), none, none, some (.ldc2_w 0, 3, 0, 0, 200), none, none, some (.invokestatic 1, 3, 166, 3, (-1)), none, none, some (.ifCond .ne 0, 3, 46, 0, 0), none, none, some (.iconst (-1), 1, 0, 0, 0), some (.ireturn, 1, 0, 0, 0), some (.aload 0, 1, 0, 0, 0), some (.getfield 0, 3, 52, 12, 2)],
  [none, none, some (.iload 1, 1, 0, 0, 0), some (.aload 0, 1, 0, 0, 0), some (.getfield 0, 3, 6, 12, 0), none, none, some (.iastore, 1, 0, 0, 0), some (.iinc 1 1, 3, 0, 0, 0), none, none, some (.aload 0, 1, 0, 0, 0), some (.invokestatic 0, 3, 171, 1, 12), none, none, some (.goto 0, 3, 6, 0, 0)],
  [none, none, some (.aload 0, 1, 0, 0, 0), some (.iload 1, 1, 0, 0, 0), some (.putfield 0, 3, 49, 12, 0), none, none, some (.iconst 0, 1, 0, 0, 0), some (.istore 2, 1, 0, 0, 0), some (.iload 2, 1, 0, 0, 0), some (.iload 1, 1, 0, 0, 0), some (.if_icmp .ge 0, 3, 96, 0, 0), none, none, some (.aload 0, 1, 0, 0, 0), some (.getfield 0, 3, 51, 12, 2)],
  [none, none, some (.iload 2, 1, 0, 0, 0), some (.aload 0, 1, 0, 0, 0), some (.getfield 0, 3, 52, 12, 2), none, none, some (.iload 2, 1, 0, 0, 0), some (.iaload, 1, 0, 0, 0), some (.iastore, 1, 0, 0, 0), some (.iinc 2 1, 3, 0, 0, 0), none, none, some (.goto 0, 3, 73, 0, 0), none, none],
  [some (.iload 1, 1, 0, 0, 0), some (.ireturn, 1, 0, 0, 0), none, none, none, none, none, none, none, none, none, none, none, none, none, none]]
set_option maxRecDepth 100000 in
theorem k227 : pchk 12 1 cX12_box 0 t227 = true := by decide +kernel
def t228 : pT := [[some (.iload 1, 1, 0, 0, 0), some (.i2l, 1, 0, 0, 0), some (.ldc2_w 0, 1, 0, 0, 0), some (.aload 0, 1, 0, 0, 0), some (.getfield 0, 3, 49, 12, 0), none, none, some (.i2l, 1, 0, 0, 0), some (.ldc2_w 0, 1, 0, 0, 1), some (.lsub, 1, 0, 0, 0), some (.invokestatic 1, 3, 166, 3, (-1)), none, none, some (.ireturn, 1, 0, 0, 3), none, none]]
set_option maxRecDepth 100000 in
theorem k228 : pchk 12 3 cX12_isWheel 0 t228 = true := by decide +kernel
def t229 : pT := [[some (.aload 0, 1, 0, 0, 0), some (.iload 1, 1, 0, 0, 0), some (.invokestatic 1, 3, 228, 2, 12), none, none, some (.ifCond .eq 0, 3, 17, 0, 0), none, none, some (.aload 0, 1, 0, 0, 0), some (.getfield 0, 3, 51, 12, 2), none, none, some (.iload 1, 1, 0, 0, 0), some (.iaload, 1, 0, 0, 0), some (.goto 0, 3, 19, 0, 0), none],
  [none, some (.iconst (-2), 2, 0, 0, 0), none, some (.ireturn, 1, 0, 0, 0), none, none, none, none, none, none, none, none, none, none, none, none]]
set_option maxRecDepth 100000 in
theorem k229 : pchk 12 1 cX12_teeth 0 t229 = true := by decide +kernel
def t230 : pT := [[some (.lload 0, 1, 0, 0, 0), some (.ldc2_w 0, 1, 0, 0, 0), some (.lcmp, 1, 0, 0, 0), some (.ifCond .ge 0, 3, 11, 0, 0), none, none, some (.lload 0, 1, 0, 0, 0), some (.lneg, 1, 0, 0, 0), some (.goto 0, 3, 12, 0, 0), none, none, some (.lload 0, 1, 0, 0, 0), some (.lstore 4, 2, 0, 0, 0), none, some (.lload 2, 1, 0, 0, 0), some (.lstore 6, 2, 0, 0, 0)],
  [none, some (.lload 6, 2, 0, 0, 0), none, some (.ldc2_w 0, 1, 0, 0, 0), some (.lcmp, 1, 0, 0, 0), some (.ifCond .eq 0, 3, 42, 0, 0), none, none, some (.lload 4, 2, 0, 0, 0), none, some (.lload 6, 2, 0, 0, 0), none, some (.lrem, 1, 0, 0, 0), some (.lstore 8, 2, 0, 0, 0), none, some (.lload 6, 2, 0, 0, 0)],
  [none, some (.lstore 4, 2, 0, 0, 0), none, some (.lload 8, 2, 0, 0, 0), none, some (.lstore 6, 2, 0, 0, 0), none, some (.goto 0, 3, 17, 0, 0), none, none, some (.lload 4, 2, 0, 0, 0), none, some (.lreturn, 1, 0, 0, 0), none, none, none]]
set_option maxRecDepth 100000 in
theorem k230 : pchk 12 2 cX12_common 0 t230 = true := by decide +kernel
def t231 : pT := [[some (.aload 0, 1, 0, 0, 0), some (.getfield 0, 3, 51, 12, 2), none, none, some (.aload 0, 1, 0, 0, 0), some (.getfield 0, 3, 55, 12, 2), none, none, some (.iconst 0, 1, 0, 0, 0), some (.iaload, 1, 0, 0, 0), some (.iaload, 1, 0, 0, 0), some (.i2l, 1, 0, 0, 0), some (.lstore 4, 2, 0, 0, 0), none, some (.aload 0, 1, 0, 0, 0), some (.getfield 0, 3, 51, 12, 2)],
  [none, none, some (.aload 0, 1, 0, 0, 0), some (.getfield 0, 3, 55, 12, 2), none, none, some (.iconst 1, 1, 0, 0, 0), some (.iaload, 1, 0, 0, 0), some (.iaload, 1, 0, 0, 0), some (.i2l, 1, 0, 0, 0), some (.lstore 6, 2, 0, 0, 0), none, some (.iload 1, 1, 0, 0, 0), some (.iconst 4, 1, 0, 0, 0), some (.if_icmp .ne 0, 3, 67, 0, 0), none],
  [none, some (.lload 4, 2, 0, 0, 0), none, some (.aload 0, 1, 0, 0, 0), some (.getfield 0, 3, 51, 12, 2), none, none, some (.aload 0, 1, 0, 0, 0), some (.getfield 0, 3, 55, 12, 2), none, none, some (.iconst 2, 1, 0, 0, 0), some (.iaload, 1, 0, 0, 0), some (.iaload, 1, 0, 0, 0), some (.i2l, 1, 0, 0, 0), some (.lmul, 1, 0, 0, 0)],
  [some (.lstore 4, 2, 0, 0, 0), none, some (.lload 6, 2, 0, 0, 0), none, some (.aload 0, 1, 0, 0, 0), some (.getfield 0, 3, 51, 12, 2), none, none, some (.aload 0, 1, 0, 0, 0), some (.getfield 0, 3, 55, 12, 2), none, none, some (.iconst 3, 1, 0, 0, 0), some (.iaload, 1, 0, 0, 0), some (.iaload, 1, 0, 0, 0), some (.i2l, 1, 0, 0, 0)],
  [some (.lmul, 1, 0, 0, 0), some (.lstore 6, 2, 0, 0, 0), none, some (.lload 4, 2, 0, 0, 0), none, some (.iload 3, 1, 0, 0, 0), some (.i2l, 1, 0, 0, 0), some (.lmul, 1, 0, 0, 0), some (.iload 2, 1, 0, 0, 0), some (.i2l, 1, 0, 0, 0), some (.lload 6, 2, 0, 0, 0), none, some (.lmul, 1, 0, 0, 0), some (.lsub, 1, 0, 0, 0), some (.lstore 8, 2, 0, 0, 0), none],
  [some (.lload 8, 2, 0, 0, 0), none, some (.ldc2_w 0, 1, 0, 0, 0), some (.lcmp, 1, 0, 0, 0), some (.ifCond .ge 0, 3, 93, 0, 0), none, none, some (.lload 8, 2, 0, 0, 0), none, some (.lneg, 1, 0, 0, 0), some (.goto 0, 3, 95, 0, 0), none, none, some (.lload 8, 2, 0, 0, 0), none, some (.lstore 10, 2, 0, 0, 0)],
  [none, some (.aload 0, 1, 0, 0, 0), some (.getfield 0, 3, 59, 12, 1), none, none, some (.ldc2_w 0, 1, 0, 0, 0), some (.lcmp, 1, 0, 0, 0), some (.ifCond .eq 0, 3, 125, 0, 0), none, none, some (.lload 10, 2, 0, 0, 0), none, some (.aload 0, 1, 0, 0, 0), some (.getfield 0, 3, 59, 12, 1), none, none],
  [some (.lmul, 1, 0, 0, 0), some (.aload 0, 1, 0, 0, 0), some (.getfield 0, 3, 58, 12, 1), none, none, some (.lload 6, 2, 0, 0, 0), none, some (.lmul, 1, 0, 0, 0), some (.lcmp, 1, 0, 0, 0), some (.ifCond .lt 0, 3, 125, 0, 0), none, none, some (.return_, 1, 0, 0, 0), some (.aload 0, 1, 0, 0, 0), some (.lload 10, 2, 0, 0, 0), none],
  [some (.putfield 0, 3, 58, 12, 1), none, none, some (.aload 0, 1, 0, 0, 0), some (.lload 6, 2, 0, 0, 0), none, some (.putfield 0, 3, 59, 12, 1), none, none, some (.aload 0, 1, 0, 0, 0), some (.lload 8, 2, 0, 0, 0), none, some (.putfield 0, 3, 56, 12, 1), none, none, some (.aload 0, 1, 0, 0, 0)],
  [some (.lload 6, 2, 0, 0, 0), none, some (.iload 3, 1, 0, 0, 0), some (.i2l, 1, 0, 0, 0), some (.lmul, 1, 0, 0, 0), some (.putfield 0, 3, 57, 12, 1), none, none, some (.aload 0, 1, 0, 0, 0), some (.iload 1, 1, 0, 0, 0), some (.putfield 0, 3, 50, 12, 0), none, none, some (.iconst 0, 1, 0, 0, 0), some (.istore 12, 2, 0, 0, 0), none],
  [some (.iload 12, 2, 0, 0, 0), none, some (.iload 1, 1, 0, 0, 0), some (.if_icmp .ge 0, 3, 205, 0, 0), none, none, some (.aload 0, 1, 0, 0, 0), some (.getfield 0, 3, 53, 12, 2), none, none, some (.iload 12, 2, 0, 0, 0), none, some (.aload 0, 1, 0, 0, 0), some (.getfield 0, 3, 55, 12, 2), none, none],
  [some (.iload 12, 2, 0, 0, 0), none, some (.iaload, 1, 0, 0, 0), some (.iastore, 1, 0, 0, 0), some (.aload 0, 1, 0, 0, 0), some (.getfield 0, 3, 54, 12, 2), none, none, some (.iload 12, 2, 0, 0, 0), none, some (.aload 0, 1, 0, 0, 0), some (.getfield 0, 3, 51, 12, 2), none, none, some (.aload 0, 1, 0, 0, 0), some (.getfield 0, 3, 55, 12, 2)],
  [none, none, some (.iload 12, 2, 0, 0, 0), none, some (.iaload, 1, 0, 0, 0), some (.iaload, 1, 0, 0, 0), some (.iastore, 1, 0, 0, 0), some (.iinc 12 1, 3, 0, 0, 0), none, none, some (.goto 0, 3, 160, 0, 0), none, none, some (.return_, 1, 0, 0, 0), none, none]]
set_option maxRecDepth 100000 in
theorem k231 : pchk 12 0 cX12_tryRow 0 t231 = true := by decide +kernel
def t232 : pT := [[some (.iload 1, 1, 0, 0, 0), some (.iload 2, 1, 0, 0, 0), some (.if_icmp .ne 0, 3, 15, 0, 0), none, none, some (.aload 0, 1, 0, 0, 0), some (.iload 2, 1, 0, 0, 0), some (.iload 4, 2, 0, 0, 0), none, some (.iload 5, 2, 0, 0, 0), none, some (.invokestatic 0, 3, 231, 4, 12), none, none, some (.return_, 1, 0, 0, 0), some (.iconst 0, 1, 0, 0, 0)],
  [some (.istore 6, 2, 0, 0, 0), none, some (.iload 6, 2, 0, 0, 0), none, some (.aload 0, 1, 0, 0, 0), some (.getfield 0, 3, 49, 12, 0), none, none, some (.if_icmp .ge 0, 3, 72, 0, 0), none, none, some (.iload 3, 1, 0, 0, 0), some (.iload 6, 2, 0, 0, 0), none, some (.ishr, 1, 0, 0, 0), some (.iconst 1, 1, 0, 0, 0)],
  [some (.iand, 1, 0, 0, 0), some (.iconst 1, 1, 0, 0, 0), some (.if_icmp .ne 0, 3, 40, 0, 0), none, none, some (.goto 0, 3, 66, 0, 0), none, none, some (.aload 0, 1, 0, 0, 0), some (.getfield 0, 3, 55, 12, 2), none, none, some (.iload 1, 1, 0, 0, 0), some (.iload 6, 2, 0, 0, 0), none, some (.iastore, 1, 0, 0, 0)],
  [some (.aload 0, 1, 0, 0, 0), some (.iload 1, 1, 0, 0, 0), some (.iconst 1, 1, 0, 0, 0), some (.iadd, 1, 0, 0, 0), some (.iload 2, 1, 0, 0, 0), some (.iload 3, 1, 0, 0, 0), some (.iconst 1, 1, 0, 0, 0), some (.iload 6, 2, 0, 0, 0), none, some (.ishl, 1, 0, 0, 0), some (.ior, 1, 0, 0, 0), some (.iload 4, 2, 0, 0, 0), none, some (.iload 5, 2, 0, 0, 0), none, some (.invokestatic 0, 3, 232, 6, 12)],
  [none, none, some (.iinc 6 1, 3, 0, 0, 0), none, none, some (.goto 0, 3, 18, 0, 0), none, none, some (.return_, 1, 0, 0, 0), none, none, none, none, none, none, none]]
set_option maxRecDepth 100000 in
theorem k232 : pchk 12 0 cX12_rows 0 t232 = true := by decide +kernel
def t233 : pT := [[some (.iload 0, 1, 0, 0, 0), some (.i2l, 1, 0, 0, 0), some (.ldc2_w 0, 1, 0, 0, 1), some (.ldc2_w 0, 3, 0, 0, 9999), none, none, some (.invokestatic 1, 3, 166, 3, (-1)), none, none, some (.ireturn, 1, 0, 0, 3), none, none, none, none, none, none]]
set_option maxRecDepth 100000 in
theorem k233 : pchk 12 3 cX12_isRatio 0 t233 = true := by decide +kernel
def t234 : pT := [[some (.iload 1, 1, 0, 0, 0), some (.invokestatic 1, 3, 233, 1, (-1)), none, none, some (.ifCond .eq 0, 3, 27, 0, 0), none, none, some (.iload 2, 1, 0, 0, 0), some (.invokestatic 1, 3, 233, 1, (-1)), none, none, some (.ifCond .eq 0, 3, 27, 0, 0), none, none, some (.iload 3, 1, 0, 0, 0), some (.iconst (-1), 1, 0, 0, 0)],
  [some (.if_icmp .eq 0, 3, 30, 0, 0), none, none, some (.aload 0, 1, 0, 0, 0), some (.iload 3, 1, 0, 0, 0), some (.invokestatic 1, 3, 228, 2, 12), none, none, some (.ifCond .ne 0, 3, 30, 0, 0), none, none, some (.iconst (-2), 2, 0, 0, 0), none, some (.ireturn, 1, 0, 0, 0), some (.iload 3, 1, 0, 0, 0), some (.iconst (-1), 1, 0, 0, 0)],
  [some (.if_icmp .ne 0, 3, 39, 0, 0), none, none, some (.iconst 0, 1, 0, 0, 0), some (.goto 0, 3, 42, 0, 0), none, none, some (.iconst 1, 1, 0, 0, 0), some (.iload 3, 1, 0, 0, 0), some (.ishl, 1, 0, 0, 0), some (.istore 4, 2, 0, 0, 0), none, some (.aload 0, 1, 0, 0, 0), some (.getfield 0, 3, 49, 12, 0), none, none],
  [some (.iload 3, 1, 0, 0, 0), some (.iconst (-1), 1, 0, 0, 0), some (.if_icmp .ne 0, 3, 57, 0, 0), none, none, some (.iconst 0, 1, 0, 0, 0), some (.goto 0, 3, 58, 0, 0), none, none, some (.iconst 1, 1, 0, 0, 0), some (.isub, 1, 0, 0, 0), some (.iconst 2, 1, 0, 0, 0), some (.if_icmp .ge 0, 3, 65, 0, 0), none, none, some (.iconst (-1), 1, 0, 0, 0)],
  [some (.ireturn, 1, 0, 0, 0), some (.aload 0, 1, 0, 0, 0), some (.ldc2_w 0, 1, 0, 0, 0), some (.putfield 0, 3, 59, 12, 1), none, none, some (.aload 0, 1, 0, 0, 0), some (.iconst 0, 1, 0, 0, 0), some (.iconst 2, 1, 0, 0, 0), some (.iload 4, 2, 0, 0, 0), none, some (.iload 1, 1, 0, 0, 0), some (.iload 2, 1, 0, 0, 0), some (.invokestatic 0, 3, 232, 6, 12), none, none],
  [some (.aload 0, 1, 0, 0, 0), some (.iconst 0, 1, 0, 0, 0), some (.iconst 4, 1, 0, 0, 0), some (.iload 4, 2, 0, 0, 0), none, some (.iload 1, 1, 0, 0, 0), some (.iload 2, 1, 0, 0, 0), some (.invokestatic 0, 3, 232, 6, 12), none, none, some (.aload 0, 1, 0, 0, 0), some (.getfield 0, 3, 56, 12, 1), none, none, some (.aload 0, 1, 0, 0, 0), some (.getfield 0, 3, 57, 12, 1)],
  [none, none, some (.invokestatic 2, 3, 230, 2, (-1)), none, none, some (.lstore 5, 2, 0, 0, 0), none, some (.aload 0, 1, 0, 0, 0), some (.dup, 1, 0, 0, 0), some (.getfield 0, 3, 56, 12, 1), none, none, some (.lload 5, 2, 0, 0, 0), none, some (.ldiv, 1, 0, 0, 0), some (.putfield 0, 3, 56, 12, 1)],
  [none, none, some (.aload 0, 1, 0, 0, 0), some (.dup, 1, 0, 0, 0), some (.getfield 0, 3, 57, 12, 1), none, none, some (.lload 5, 2, 0, 0, 0), none, some (.ldiv, 1, 0, 0, 0), some (.putfield 0, 3, 57, 12, 1), none, none, some (.aload 0, 1, 0, 0, 0), some (.getfield 0, 3, 50, 12, 0), none],
  [none, some (.ireturn, 1, 0, 0, 0), none, none, none, none, none, none, none, none, none, none, none, none, none, none]]
set_option maxRecDepth 100000 in
theorem k234 : pchk 12 1 cX12_train 0 t234 = true := by decide +kernel
def t235 : pT := [[some (.iload 1, 1, 0, 0, 0), some (.i2l, 1, 0, 0, 0), some (.ldc2_w 0, 1, 0, 0, 0), some (.aload 0, 1, 0, 0, 0), some (.getfield 0, 3, 50, 12, 0), none, none, some (.i2l, 1, 0, 0, 0), some (.ldc2_w 0, 1, 0, 0, 1), some (.lsub, 1, 0, 0, 0), some (.invokestatic 1, 3, 166, 3, (-1)), none, none, some (.ifCond .eq 0, 3, 25, 0, 0), none, none],
  [some (.aload 0, 1, 0, 0, 0), some (.getfield 0, 3, 53, 12, 2), none, none, some (.iload 1, 1, 0, 0, 0), some (.iaload, 1, 0, 0, 0), some (.goto 0, 3, 26, 0, 0), none, none, some (.iconst (-1), 1, 0, 0, 0), some (.ireturn, 1, 0, 0, 0), none, none, none, none, none]]
set_option maxRecDepth 100000 in
theorem k235 : pchk 12 1 cX12_wheel 0 t235 = true := by decide +kernel
def t236 : pT := [[some (.aload 0, 1, 0, 0, 0), some (.getfield 0, 3, 50, 12, 0), none, none, some (.ifCond .ne 0, 3, 21, 0, 0), none, none, some (.iload 1, 1, 0, 0, 0), some (.ifCond .eq 0, 3, 17, 0, 0), none, none, some (.ldc2_w 0, 3, 0, 0, (-1)), none, none, some (.goto 0, 3, 36, 0, 0), none],
  [none, some (.ldc2_w 0, 1, 0, 0, 0), some (.goto 0, 3, 36, 0, 0), none, none, some (.iload 1, 1, 0, 0, 0), some (.ifCond .eq 0, 3, 32, 0, 0), none, none, some (.aload 0, 1, 0, 0, 0), some (.getfield 0, 3, 57, 12, 1), none, none, some (.goto 0, 3, 36, 0, 0), none, none],
  [some (.aload 0, 1, 0, 0, 0), some (.getfield 0, 3, 56, 12, 1), none, none, some (.lreturn, 1, 0, 0, 0), none, none, none, none, none, none, none, none, none, none, none]]
set_option maxRecDepth 100000 in
theorem k236 : pchk 12 2 cX12_off 0 t236 = true := by decide +kernel
def t237 : pT := [[some (.iload 1, 1, 0, 0, 0), some (.invokestatic 1, 3, 233, 1, (-1)), none, none, some (.ifCond .eq 0, 3, 14, 0, 0), none, none, some (.iload 2, 1, 0, 0, 0), some (.invokestatic 1, 3, 233, 1, (-1)), none, none, some (.ifCond .ne 0, 3, 17, 0, 0), none, none, some (.iconst (-2), 2, 0, 0, 0), none],
  [some (.ireturn, 1, 0, 0, 0), some (.iconst 0, 1, 0, 0, 0), some (.istore 3, 1, 0, 0, 0), some (.iconst 0, 1, 0, 0, 0), some (.istore 4, 2, 0, 0, 0), none, some (.iload 4, 2, 0, 0, 0), none, some (.aload 0, 1, 0, 0, 0), some (.getfield 0, 3, 49, 12, 0), none, none, some (.if_icmp .ge 0, 3, 217, 0, 0), none, none, some (.iconst 0, 1, 0, 0, 0)],
  [some (.istore 5, 2, 0, 0, 0), none, some (.iload 5, 2, 0, 0, 0), none, some (.aload 0, 1, 0, 0, 0), some (.getfield 0, 3, 49, 12, 0), none, none, some (.if_icmp .ge 0, 3, 211, 0, 0), none, none, some (.iload 4, 2, 0, 0, 0), none, some (.iload 5, 2, 0, 0, 0), none, some (.if_icmp .ne 0, 3, 53, 0, 0)],
  [none, none, some (.goto 0, 3, 205, 0, 0), none, none, some (.iload 3, 1, 0, 0, 0), some (.aload 0, 1, 0, 0, 0), some (.getfield 0, 3, 51, 12, 2), none, none, some (.iload 4, 2, 0, 0, 0), none, some (.iaload, 1, 0, 0, 0), some (.i2l, 1, 0, 0, 0), some (.iload 2, 1, 0, 0, 0), some (.i2l, 1, 0, 0, 0)],
  [some (.lmul, 1, 0, 0, 0), some (.aload 0, 1, 0, 0, 0), some (.getfield 0, 3, 51, 12, 2), none, none, some (.iload 5, 2, 0, 0, 0), none, some (.iaload, 1, 0, 0, 0), some (.i2l, 1, 0, 0, 0), some (.iload 1, 1, 0, 0, 0), some (.i2l, 1, 0, 0, 0), some (.lmul, 1, 0, 0, 0), some (.lcmp, 1, 0, 0, 0), some (.ifCond .ne 0, 3, 84, 0, 0), none, none],
  [some (.iconst 1, 1, 0, 0, 0), some (.goto 0, 3, 85, 0, 0), none, none, some (.iconst 0, 1, 0, 0, 0), some (.iadd, 1, 0, 0, 0), some (.istore 3, 1, 0, 0, 0), some (.iconst 0, 1, 0, 0, 0), some (.istore 6, 2, 0, 0, 0), none, some (.iload 6, 2, 0, 0, 0), none, some (.aload 0, 1, 0, 0, 0), some (.getfield 0, 3, 49, 12, 0), none, none],
  [some (.if_icmp .ge 0, 3, 205, 0, 0), none, none, some (.iconst 0, 1, 0, 0, 0), some (.istore 7, 2, 0, 0, 0), none, some (.iload 7, 2, 0, 0, 0), none, some (.aload 0, 1, 0, 0, 0), some (.getfield 0, 3, 49, 12, 0), none, none, some (.if_icmp .ge 0, 3, 199, 0, 0), none, none, some (.iload 6, 2, 0, 0, 0)],
  [none, some (.iload 4, 2, 0, 0, 0), none, some (.if_icmp .eq 0, 3, 193, 0, 0), none, none, some (.iload 6, 2, 0, 0, 0), none, some (.iload 5, 2, 0, 0, 0), none, some (.if_icmp .eq 0, 3, 193, 0, 0), none, none, some (.iload 7, 2, 0, 0, 0), none, some (.iload 4, 2, 0, 0, 0)],
  [none, some (.if_icmp .eq 0, 3, 193, 0, 0), none, none, some (.iload 7, 2, 0, 0, 0), none, some (.iload 5, 2, 0, 0, 0), none, some (.if_icmp .eq 0, 3, 193, 0, 0), none, none, some (.iload 6, 2, 0, 0, 0), none, some (.iload 7, 2, 0, 0, 0), none, some (.if_icmp .eq 0, 3, 193, 0, 0)],
  [none, none, some (.aload 0, 1, 0, 0, 0), some (.getfield 0, 3, 51, 12, 2), none, none, some (.iload 4, 2, 0, 0, 0), none, some (.iaload, 1, 0, 0, 0), some (.i2l, 1, 0, 0, 0), some (.aload 0, 1, 0, 0, 0), some (.getfield 0, 3, 51, 12, 2), none, none, some (.iload 6, 2, 0, 0, 0), none],
  [some (.iaload, 1, 0, 0, 0), some (.i2l, 1, 0, 0, 0), some (.lmul, 1, 0, 0, 0), some (.iload 2, 1, 0, 0, 0), some (.i2l, 1, 0, 0, 0), some (.lmul, 1, 0, 0, 0), some (.aload 0, 1, 0, 0, 0), some (.getfield 0, 3, 51, 12, 2), none, none, some (.iload 5, 2, 0, 0, 0), none, some (.iaload, 1, 0, 0, 0), some (.i2l, 1, 0, 0, 0), some (.aload 0, 1, 0, 0, 0), some (.getfield 0, 3, 51, 12, 2)],
  [none, none, some (.iload 7, 2, 0, 0, 0), none, some (.iaload, 1, 0, 0, 0), some (.i2l, 1, 0, 0, 0), some (.lmul, 1, 0, 0, 0), some (.iload 1, 1, 0, 0, 0), some (.i2l, 1, 0, 0, 0), some (.lmul, 1, 0, 0, 0), some (.lcmp, 1, 0, 0, 0), some (.ifCond .ne 0, 3, 193, 0, 0), none, none, some (.iinc 3 1, 3, 0, 0, 0), none],
  [none, some (.iinc 7 1, 3, 0, 0, 0), none, none, some (.goto 0, 3, 102, 0, 0), none, none, some (.iinc 6 1, 3, 0, 0, 0), none, none, some (.goto 0, 3, 90, 0, 0), none, none, some (.iinc 5 1, 3, 0, 0, 0), none, none],
  [some (.goto 0, 3, 34, 0, 0), none, none, some (.iinc 4 1, 3, 0, 0, 0), none, none, some (.goto 0, 3, 22, 0, 0), none, none, some (.iload 3, 1, 0, 0, 0), some (.ireturn, 1, 0, 0, 0), none, none, none, none, none]]
set_option maxRecDepth 100000 in
theorem k237 : pchk 12 1 cX12_spare 0 t237 = true := by decide +kernel
def t238 : pT := [[some (.iload 2, 1, 0, 0, 0), some (.i2l, 1, 0, 0, 0), some (.ldc2_w 0, 1, 0, 0, 1), some (.ldc2_w 0, 3, 0, 0, 9), none, none, some (.invokestatic 1, 3, 166, 3, (-1)), none, none, some (.ifCond .ne 0, 3, 16, 0, 0), none, none, some (.ldc2_w 0, 3, 0, 0, (-2)), none, none, some (.lreturn, 1, 0, 0, 0)],
  [some (.aload 0, 1, 0, 0, 0), some (.getfield 0, 3, 50, 12, 0), none, none, some (.ifCond .ne 0, 3, 27, 0, 0), none, none, some (.ldc2_w 0, 3, 0, 0, (-4)), none, none, some (.lreturn, 1, 0, 0, 0), some (.iload 1, 1, 0, 0, 0), some (.i2l, 1, 0, 0, 0), some (.ldc2_w 0, 1, 0, 0, 0), some (.aload 0, 1, 0, 0, 0), some (.getfield 0, 3, 50, 12, 0)],
  [none, none, some (.i2l, 1, 0, 0, 0), some (.ldc2_w 0, 1, 0, 0, 1), some (.lsub, 1, 0, 0, 0), some (.invokestatic 1, 3, 166, 3, (-1)), none, none, some (.ifCond .eq 0, 3, 55, 0, 0), none, none, some (.aload 0, 1, 0, 0, 0), some (.getfield 0, 3, 54, 12, 2), none, none, some (.iload 1, 1, 0, 0, 0)],
  [some (.iaload, 1, 0, 0, 0), some (.iload 2, 1, 0, 0, 0), some (.isub, 1, 0, 0, 0), some (.iconst 1, 1, 0, 0, 0), some (.if_icmp .ge 0, 3, 59, 0, 0), none, none, some (.ldc2_w 0, 3, 0, 0, (-2)), none, none, some (.lreturn, 1, 0, 0, 0), some (.ldc2_w 0, 1, 0, 0, 1), some (.lstore 3, 1, 0, 0, 0), some (.ldc2_w 0, 1, 0, 0, 1), some (.lstore 5, 2, 0, 0, 0), none],
  [some (.ldc2_w 0, 1, 0, 0, 1), some (.lstore 7, 2, 0, 0, 0), none, some (.ldc2_w 0, 1, 0, 0, 1), some (.lstore 9, 2, 0, 0, 0), none, some (.iconst 0, 1, 0, 0, 0), some (.istore 11, 2, 0, 0, 0), none, some (.iload 11, 2, 0, 0, 0), none, some (.aload 0, 1, 0, 0, 0), some (.getfield 0, 3, 50, 12, 0), none, none, some (.if_icmp .ge 0, 3, 159, 0, 0)],
  [none, none, some (.aload 0, 1, 0, 0, 0), some (.getfield 0, 3, 54, 12, 2), none, none, some (.iload 11, 2, 0, 0, 0), none, some (.iaload, 1, 0, 0, 0), some (.iload 11, 2, 0, 0, 0), none, some (.iload 1, 1, 0, 0, 0), some (.if_icmp .ne 0, 3, 99, 0, 0), none, none, some (.iload 2, 1, 0, 0, 0)],
  [some (.goto 0, 3, 100, 0, 0), none, none, some (.iconst 0, 1, 0, 0, 0), some (.isub, 1, 0, 0, 0), some (.istore 12, 2, 0, 0, 0), none, some (.iload 11, 2, 0, 0, 0), none, some (.iconst 2, 1, 0, 0, 0), some (.irem, 1, 0, 0, 0), some (.ifCond .ne 0, 3, 132, 0, 0), none, none, some (.lload 3, 1, 0, 0, 0), some (.aload 0, 1, 0, 0, 0)],
  [some (.getfield 0, 3, 54, 12, 2), none, none, some (.iload 11, 2, 0, 0, 0), none, some (.iaload, 1, 0, 0, 0), some (.i2l, 1, 0, 0, 0), some (.lmul, 1, 0, 0, 0), some (.lstore 3, 1, 0, 0, 0), some (.lload 7, 2, 0, 0, 0), none, some (.iload 12, 2, 0, 0, 0), none, some (.i2l, 1, 0, 0, 0), some (.lmul, 1, 0, 0, 0), some (.lstore 7, 2, 0, 0, 0)],
  [none, some (.goto 0, 3, 153, 0, 0), none, none, some (.lload 5, 2, 0, 0, 0), none, some (.aload 0, 1, 0, 0, 0), some (.getfield 0, 3, 54, 12, 2), none, none, some (.iload 11, 2, 0, 0, 0), none, some (.iaload, 1, 0, 0, 0), some (.i2l, 1, 0, 0, 0), some (.lmul, 1, 0, 0, 0), some (.lstore 5, 2, 0, 0, 0)],
  [none, some (.lload 9, 2, 0, 0, 0), none, some (.iload 12, 2, 0, 0, 0), none, some (.i2l, 1, 0, 0, 0), some (.lmul, 1, 0, 0, 0), some (.lstore 9, 2, 0, 0, 0), none, some (.iinc 11 1, 3, 0, 0, 0), none, none, some (.goto 0, 3, 73, 0, 0), none, none, some (.lload 7, 2, 0, 0, 0)],
  [none, some (.lload 5, 2, 0, 0, 0), none, some (.lmul, 1, 0, 0, 0), some (.lload 3, 1, 0, 0, 0), some (.lload 9, 2, 0, 0, 0), none, some (.lmul, 1, 0, 0, 0), some (.lsub, 1, 0, 0, 0), some (.ldc2_w 0, 3, 0, 0, 1000000), none, none, some (.lmul, 1, 0, 0, 0), some (.lload 5, 2, 0, 0, 0), none, some (.lload 9, 2, 0, 0, 0)],
  [none, some (.lmul, 1, 0, 0, 0), some (.ldiv, 1, 0, 0, 0), some (.lreturn, 1, 0, 0, 0), none, none, none, none, none, none, none, none, none, none, none, none]]
set_option maxRecDepth 100000 in
theorem k238 : pchk 12 2 cX12_worn 0 t238 = true := by decide +kernel
def t239 : pT := [[some (.iload 0, 1, 0, 0, 0), some (.i2l, 1, 0, 0, 0), some (.ldc2_w 0, 1, 0, 0, 0), some (.ldc2_w 0, 3, 0, 0, 39), none, none, some (.invokestatic 1, 3, 166, 3, (-1)), none, none, some (.ireturn, 1, 0, 0, 3), none, none, none, none, none, none]]
set_option maxRecDepth 100000 in
theorem k239 : pchk 12 3 cX12_isPart 0 t239 = true := by decide +kernel
def t240 : pT := [[some (.iload 0, 1, 0, 0, 0), some (.i2l, 1, 0, 0, 0), some (.ldc2_w 0, 3, 0, 0, (-99)), none, none, some (.ldc2_w 0, 3, 0, 0, 99), none, none, some (.invokestatic 1, 3, 166, 3, (-1)), none, none, some (.ireturn, 1, 0, 0, 3), none, none, none, none]]
set_option maxRecDepth 100000 in
theorem k240 : pchk 12 3 cX12_isOff 0 t240 = true := by decide +kernel
def t241 : pT := [[some (.iload 1, 1, 0, 0, 0), some (.i2l, 1, 0, 0, 0), some (.aload 0, 1, 0, 0, 0), some (.getfield 0, 3, 62, 12, 0), none, none, some (.i2l, 1, 0, 0, 0), some (.ldc2_w 0, 3, 0, 0, 999), none, none, some (.invokestatic 1, 3, 166, 3, (-1)), none, none, some (.ifCond .eq 0, 3, 39, 0, 0), none, none],
  [some (.iload 2, 1, 0, 0, 0), some (.invokestatic 1, 3, 239, 1, (-1)), none, none, some (.ifCond .eq 0, 3, 39, 0, 0), none, none, some (.aload 0, 1, 0, 0, 0), some (.iload 3, 1, 0, 0, 0), some (.invokestatic 1, 3, 198, 2, 12), none, none, some (.ifCond .eq 0, 3, 39, 0, 0), none, none, some (.iload 4, 2, 0, 0, 0)],
  [none, some (.invokestatic 1, 3, 240, 1, (-1)), none, none, some (.ifCond .ne 0, 3, 42, 0, 0), none, none, some (.iconst (-2), 2, 0, 0, 0), none, some (.ireturn, 1, 0, 0, 0), some (.aload 0, 1, 0, 0, 0), some (.getfield 0, 3, 60, 12, 0), none, none, some (.iconst 16, 2, 0, 0, 0), none],
  [some (.if_icmp .ne 0, 3, 54, 0, 0), none, none, some (.iconst (-3), 2, 0, 0, 0), none, some (.ireturn, 1, 0, 0, 0), some (.aload 0, 1, 0, 0, 0), some (.iload 1, 1, 0, 0, 0), some (.putfield 0, 3, 62, 12, 0), none, none, some (.aload 0, 1, 0, 0, 0), some (.getfield 0, 3, 63, 12, 2), none, none, some (.aload 0, 1, 0, 0, 0)],
  [some (.getfield 0, 3, 60, 12, 0), none, none, some (.iload 2, 1, 0, 0, 0), some (.iastore, 1, 0, 0, 0), some (.aload 0, 1, 0, 0, 0), some (.getfield 0, 3, 64, 12, 2), none, none, some (.aload 0, 1, 0, 0, 0), some (.getfield 0, 3, 60, 12, 0), none, none, some (.iload 3, 1, 0, 0, 0), some (.iastore, 1, 0, 0, 0), some (.aload 0, 1, 0, 0, 0)],
  [some (.getfield 0, 3, 65, 12, 2), none, none, some (.aload 0, 1, 0, 0, 0), some (.getfield 0, 3, 60, 12, 0), none, none, some (.iload 4, 2, 0, 0, 0), none, some (.iastore, 1, 0, 0, 0), some (.aload 0, 1, 0, 0, 0), some (.getfield 0, 3, 66, 12, 2), none, none, some (.aload 0, 1, 0, 0, 0), some (.getfield 0, 3, 60, 12, 0)],
  [none, none, some (.iload 1, 1, 0, 0, 0), some (.iastore, 1, 0, 0, 0), some (.aload 0, 1, 0, 0, 0), some (.dup, 1, 0, 0, 0), some (.getfield 0, 3, 60, 12, 0), none, none, some (.iconst 1, 1, 0, 0, 0), some (.iadd, 1, 0, 0, 0), some (.putfield 0, 3, 60, 12, 0), none, none, some (.aload 0, 1, 0, 0, 0), some (.getfield 0, 3, 60, 12, 0)],
  [none, none, some (.iconst 1, 1, 0, 0, 0), some (.isub, 1, 0, 0, 0), some (.ireturn, 1, 0, 0, 0), none, none, none, none, none, none, none, none, none, none, none]]
set_option maxRecDepth 100000 in
theorem k241 : pchk 12 1 cX12_gauge 0 t241 = true := by decide +kernel
def t242 : pT := [[some (.iload 1, 1, 0, 0, 0), some (.i2l, 1, 0, 0, 0), some (.aload 0, 1, 0, 0, 0), some (.getfield 0, 3, 62, 12, 0), none, none, some (.i2l, 1, 0, 0, 0), some (.ldc2_w 0, 3, 0, 0, 999), none, none, some (.invokestatic 1, 3, 166, 3, (-1)), none, none, some (.ifCond .eq 0, 3, 39, 0, 0), none, none],
  [some (.iload 2, 1, 0, 0, 0), some (.i2l, 1, 0, 0, 0), some (.ldc2_w 0, 1, 0, 0, 0), some (.aload 0, 1, 0, 0, 0), some (.getfield 0, 3, 60, 12, 0), none, none, some (.i2l, 1, 0, 0, 0), some (.ldc2_w 0, 1, 0, 0, 1), some (.lsub, 1, 0, 0, 0), some (.invokestatic 1, 3, 166, 3, (-1)), none, none, some (.ifCond .eq 0, 3, 39, 0, 0), none, none],
  [some (.iload 3, 1, 0, 0, 0), some (.invokestatic 1, 3, 240, 1, (-1)), none, none, some (.ifCond .ne 0, 3, 42, 0, 0), none, none, some (.iconst (-2), 2, 0, 0, 0), none, some (.ireturn, 1, 0, 0, 0), some (.aload 0, 1, 0, 0, 0), some (.getfield 0, 3, 61, 12, 0), none, none, some (.iconst 20, 2, 0, 0, 0), none],
  [some (.if_icmp .ne 0, 3, 54, 0, 0), none, none, some (.iconst (-3), 2, 0, 0, 0), none, some (.ireturn, 1, 0, 0, 0), some (.aload 0, 1, 0, 0, 0), some (.iload 1, 1, 0, 0, 0), some (.putfield 0, 3, 62, 12, 0), none, none, some (.aload 0, 1, 0, 0, 0), some (.getfield 0, 3, 67, 12, 2), none, none, some (.aload 0, 1, 0, 0, 0)],
  [some (.getfield 0, 3, 61, 12, 0), none, none, some (.iload 2, 1, 0, 0, 0), some (.iastore, 1, 0, 0, 0), some (.aload 0, 1, 0, 0, 0), some (.getfield 0, 3, 68, 12, 2), none, none, some (.aload 0, 1, 0, 0, 0), some (.getfield 0, 3, 61, 12, 0), none, none, some (.iload 3, 1, 0, 0, 0), some (.iastore, 1, 0, 0, 0), some (.aload 0, 1, 0, 0, 0)],
  [some (.getfield 0, 3, 69, 12, 2), none, none, some (.aload 0, 1, 0, 0, 0), some (.getfield 0, 3, 61, 12, 0), none, none, some (.iload 1, 1, 0, 0, 0), some (.iastore, 1, 0, 0, 0), some (.aload 0, 1, 0, 0, 0), some (.dup, 1, 0, 0, 0), some (.getfield 0, 3, 61, 12, 0), none, none, some (.iconst 1, 1, 0, 0, 0), some (.iadd, 1, 0, 0, 0)],
  [some (.putfield 0, 3, 61, 12, 0), none, none, some (.iconst 0, 1, 0, 0, 0), some (.istore 4, 2, 0, 0, 0), none, some (.iconst 0, 1, 0, 0, 0), some (.istore 5, 2, 0, 0, 0), none, some (.iload 5, 2, 0, 0, 0), none, some (.aload 0, 1, 0, 0, 0), some (.getfield 0, 3, 61, 12, 0), none, none, some (.if_icmp .ge 0, 3, 141, 0, 0)],
  [none, none, some (.iload 4, 2, 0, 0, 0), none, some (.aload 0, 1, 0, 0, 0), some (.getfield 0, 3, 67, 12, 2), none, none, some (.iload 5, 2, 0, 0, 0), none, some (.iaload, 1, 0, 0, 0), some (.iload 2, 1, 0, 0, 0), some (.if_icmp .ne 0, 3, 131, 0, 0), none, none, some (.iconst 1, 1, 0, 0, 0)],
  [some (.goto 0, 3, 132, 0, 0), none, none, some (.iconst 0, 1, 0, 0, 0), some (.iadd, 1, 0, 0, 0), some (.istore 4, 2, 0, 0, 0), none, some (.iinc 5 1, 3, 0, 0, 0), none, none, some (.goto 0, 3, 105, 0, 0), none, none, some (.iload 4, 2, 0, 0, 0), none, some (.ireturn, 1, 0, 0, 0)]]
set_option maxRecDepth 100000 in
theorem k242 : pchk 12 1 cX12_right 0 t242 = true := by decide +kernel
def t243 : pT := [[some (.aload 0, 1, 0, 0, 0), some (.getfield 0, 3, 65, 12, 2), none, none, some (.iload 1, 1, 0, 0, 0), some (.iaload, 1, 0, 0, 0), some (.istore 3, 1, 0, 0, 0), some (.iconst 0, 1, 0, 0, 0), some (.istore 4, 2, 0, 0, 0), none, some (.iload 4, 2, 0, 0, 0), none, some (.aload 0, 1, 0, 0, 0), some (.getfield 0, 3, 61, 12, 0), none, none],
  [some (.if_icmp .ge 0, 3, 55, 0, 0), none, none, some (.aload 0, 1, 0, 0, 0), some (.getfield 0, 3, 67, 12, 2), none, none, some (.iload 4, 2, 0, 0, 0), none, some (.iaload, 1, 0, 0, 0), some (.iload 1, 1, 0, 0, 0), some (.if_icmp .ne 0, 3, 49, 0, 0), none, none, some (.aload 0, 1, 0, 0, 0), some (.getfield 0, 3, 69, 12, 2)],
  [none, none, some (.iload 4, 2, 0, 0, 0), none, some (.iaload, 1, 0, 0, 0), some (.iload 2, 1, 0, 0, 0), some (.if_icmp .gt 0, 3, 49, 0, 0), none, none, some (.aload 0, 1, 0, 0, 0), some (.getfield 0, 3, 68, 12, 2), none, none, some (.iload 4, 2, 0, 0, 0), none, some (.iaload, 1, 0, 0, 0)],
  [some (.istore 3, 1, 0, 0, 0), some (.iinc 4 1, 3, 0, 0, 0), none, none, some (.goto 0, 3, 10, 0, 0), none, none, some (.iload 3, 1, 0, 0, 0), some (.ireturn, 1, 0, 0, 0), none, none, none, none, none, none, none]]
set_option maxRecDepth 100000 in
theorem k243 : pchk 12 1 cX12_offAsKnown 0 t243 = true := by decide +kernel
def t244 : pT := [[some (.iconst 1, 1, 0, 0, 0), some (.iconst 60, 2, 0, 0, 0), none, some (.aload 0, 1, 0, 0, 0), some (.getfield 0, 3, 10, 12, 0), none, none, some (.imul, 1, 0, 0, 0), some (.iadd, 1, 0, 0, 0), some (.ireturn, 1, 0, 0, 0), none, none, none, none, none, none]]
set_option maxRecDepth 100000 in
theorem k244 : pchk 12 1 cX12_worns 0 t244 = true := by decide +kernel
def t245 : pT := [[some (.iconst 1, 1, 0, 0, 0), some (.iconst 4, 1, 0, 0, 0), some (.aload 0, 1, 0, 0, 0), some (.getfield 0, 3, 11, 12, 0), none, none, some (.imul, 1, 0, 0, 0), some (.iadd, 1, 0, 0, 0), some (.ireturn, 1, 0, 0, 0), none, none, none, none, none, none, none]]
set_option maxRecDepth 100000 in
theorem k245 : pchk 12 1 cX12_dulls 0 t245 = true := by decide +kernel
def t246 : pT := [[some (.iconst 5, 1, 0, 0, 0), some (.aload 0, 1, 0, 0, 0), some (.invokestatic 1, 3, 244, 1, 12), none, none, some (.imul, 1, 0, 0, 0), some (.aload 0, 1, 0, 0, 0), some (.invokestatic 1, 3, 245, 1, 12), none, none, some (.imul, 1, 0, 0, 0), some (.ireturn, 1, 0, 0, 0), none, none, none, none]]
set_option maxRecDepth 100000 in
theorem k246 : pchk 12 1 cX12_causes 0 t246 = true := by decide +kernel
def t247 : pT := [[some (.iload 1, 1, 0, 0, 0), some (.aload 0, 1, 0, 0, 0), some (.invokestatic 1, 3, 245, 1, 12), none, none, some (.idiv, 1, 0, 0, 0), some (.aload 0, 1, 0, 0, 0), some (.invokestatic 1, 3, 244, 1, 12), none, none, some (.idiv, 1, 0, 0, 0), some (.iconst 2, 1, 0, 0, 0), some (.isub, 1, 0, 0, 0), some (.ireturn, 1, 0, 0, 0), none, none]]
set_option maxRecDepth 100000 in
theorem k247 : pchk 12 1 cX12_heatOf 0 t247 = true := by decide +kernel
def t248 : pT := [[some (.iload 1, 1, 0, 0, 0), some (.aload 0, 1, 0, 0, 0), some (.invokestatic 1, 3, 245, 1, 12), none, none, some (.idiv, 1, 0, 0, 0), some (.aload 0, 1, 0, 0, 0), some (.invokestatic 1, 3, 244, 1, 12), none, none, some (.irem, 1, 0, 0, 0), some (.ireturn, 1, 0, 0, 0), none, none, none, none]]
set_option maxRecDepth 100000 in
theorem k248 : pchk 12 1 cX12_wornOf 0 t248 = true := by decide +kernel
def t249 : pT := [[some (.iload 1, 1, 0, 0, 0), some (.aload 0, 1, 0, 0, 0), some (.invokestatic 1, 3, 245, 1, 12), none, none, some (.irem, 1, 0, 0, 0), some (.ireturn, 1, 0, 0, 0), none, none, none, none, none, none, none, none, none]]
set_option maxRecDepth 100000 in
theorem k249 : pchk 12 1 cX12_dullOf 0 t249 = true := by decide +kernel
def t250 : pT := [[some (.aload 0, 1, 0, 0, 0), some (.iload 1, 1, 0, 0, 0), some (.invokestatic 1, 3, 248, 2, 12), none, none, some (.istore 4, 2, 0, 0, 0), none, some (.aload 0, 1, 0, 0, 0), some (.iload 1, 1, 0, 0, 0), some (.invokestatic 1, 3, 249, 2, 12), none, none, some (.istore 5, 2, 0, 0, 0), none, some (.aload 0, 1, 0, 0, 0), some (.iload 1, 1, 0, 0, 0)],
  [some (.invokestatic 1, 3, 247, 2, 12), none, none, some (.iload 2, 1, 0, 0, 0), some (.imul, 1, 0, 0, 0), some (.iconst 5, 1, 0, 0, 0), some (.idiv, 1, 0, 0, 0), some (.istore 6, 2, 0, 0, 0), none, some (.iload 4, 2, 0, 0, 0), none, some (.ifCond .le 0, 3, 72, 0, 0), none, none, some (.iload 4, 2, 0, 0, 0), none],
  [some (.iconst 1, 1, 0, 0, 0), some (.isub, 1, 0, 0, 0), some (.iconst 60, 2, 0, 0, 0), none, some (.idiv, 1, 0, 0, 0), some (.aload 0, 1, 0, 0, 0), some (.getfield 0, 3, 23, 12, 2), none, none, some (.iload 3, 1, 0, 0, 0), some (.iaload, 1, 0, 0, 0), some (.if_icmp .ne 0, 3, 72, 0, 0), none, none, some (.iload 2, 1, 0, 0, 0), some (.iload 4, 2, 0, 0, 0)],
  [none, some (.iconst 1, 1, 0, 0, 0), some (.isub, 1, 0, 0, 0), some (.iconst 60, 2, 0, 0, 0), none, some (.irem, 1, 0, 0, 0), some (.iconst 5, 1, 0, 0, 0), some (.idiv, 1, 0, 0, 0), some (.if_icmp .lt 0, 3, 72, 0, 0), none, none, some (.iload 6, 2, 0, 0, 0), none, some (.iload 4, 2, 0, 0, 0), none, some (.iconst 1, 1, 0, 0, 0)],
  [some (.isub, 1, 0, 0, 0), some (.iconst 5, 1, 0, 0, 0), some (.irem, 1, 0, 0, 0), some (.iconst 1, 1, 0, 0, 0), some (.iadd, 1, 0, 0, 0), some (.iadd, 1, 0, 0, 0), some (.istore 6, 2, 0, 0, 0), none, some (.iload 5, 2, 0, 0, 0), none, some (.ifCond .le 0, 3, 104, 0, 0), none, none, some (.iload 5, 2, 0, 0, 0), none, some (.iconst 1, 1, 0, 0, 0)],
  [some (.isub, 1, 0, 0, 0), some (.iconst 4, 1, 0, 0, 0), some (.idiv, 1, 0, 0, 0), some (.iload 3, 1, 0, 0, 0), some (.if_icmp .ne 0, 3, 104, 0, 0), none, none, some (.iload 6, 2, 0, 0, 0), none, some (.iload 5, 2, 0, 0, 0), none, some (.iconst 1, 1, 0, 0, 0), some (.isub, 1, 0, 0, 0), some (.iconst 4, 1, 0, 0, 0), some (.irem, 1, 0, 0, 0), some (.iconst 1, 1, 0, 0, 0)],
  [some (.iadd, 1, 0, 0, 0), some (.iload 2, 1, 0, 0, 0), some (.imul, 1, 0, 0, 0), some (.iconst 5, 1, 0, 0, 0), some (.idiv, 1, 0, 0, 0), some (.iadd, 1, 0, 0, 0), some (.istore 6, 2, 0, 0, 0), none, some (.iload 6, 2, 0, 0, 0), none, some (.ireturn, 1, 0, 0, 0), none, none, none, none, none]]
set_option maxRecDepth 100000 in
theorem k250 : pchk 12 1 cX12_tellsOf 0 t250 = true := by decide +kernel
def t251 : pT := [[some (.iload 1, 1, 0, 0, 0), some (.i2l, 1, 0, 0, 0), some (.ldc2_w 0, 1, 0, 0, 0), some (.aload 0, 1, 0, 0, 0), some (.invokestatic 1, 3, 246, 1, 12), none, none, some (.i2l, 1, 0, 0, 0), some (.ldc2_w 0, 1, 0, 0, 1), some (.lsub, 1, 0, 0, 0), some (.invokestatic 1, 3, 166, 3, (-1)), none, none, some (.ireturn, 1, 0, 0, 3), none, none]]
set_option maxRecDepth 100000 in
theorem k251 : pchk 12 3 cX12_isCause 0 t251 = true := by decide +kernel
def t252 : pT := [[some (.aload 0, 1, 0, 0, 0), some (.iload 1, 1, 0, 0, 0), some (.invokestatic 1, 3, 251, 2, 12), none, none, some (.ifCond .eq 0, 3, 20, 0, 0), none, none, some (.iload 2, 1, 0, 0, 0), some (.i2l, 1, 0, 0, 0), some (.ldc2_w 0, 1, 0, 0, 0), some (.ldc2_w 0, 3, 0, 0, 5), none, none, some (.invokestatic 1, 3, 166, 3, (-1)), none],
  [none, some (.ifCond .ne 0, 3, 23, 0, 0), none, none, some (.iconst (-9), 2, 0, 0, 0), none, some (.ireturn, 1, 0, 0, 0), some (.aload 0, 1, 0, 0, 0), some (.iload 1, 1, 0, 0, 0), some (.invokestatic 1, 3, 248, 2, 12), none, none, some (.istore 3, 1, 0, 0, 0), some (.aload 0, 1, 0, 0, 0), some (.iload 1, 1, 0, 0, 0), some (.invokestatic 1, 3, 249, 2, 12)],
  [none, none, some (.istore 4, 2, 0, 0, 0), none, some (.iload 2, 1, 0, 0, 0), some (.tableswitch 105 0 4 #[35, 41, 56, 73, 89], 35, 0, 0, 0), none, none, none, none, none, none, none, none, none, none],
  [none, none, none, none, none, none, none, none, none, none, none, none, none, none, none, none],
  [none, none, none, none, none, none, none, none, some (.aload 0, 1, 0, 0, 0), some (.iload 1, 1, 0, 0, 0), some (.invokestatic 1, 3, 247, 2, 12), none, none, some (.ireturn, 1, 0, 0, 0), some (.iload 3, 1, 0, 0, 0), some (.ifCond .ne 0, 3, 86, 0, 0)],
  [none, none, some (.iconst (-1), 1, 0, 0, 0), some (.goto 0, 3, 92, 0, 0), none, none, some (.iload 3, 1, 0, 0, 0), some (.iconst 1, 1, 0, 0, 0), some (.isub, 1, 0, 0, 0), some (.iconst 60, 2, 0, 0, 0), none, some (.idiv, 1, 0, 0, 0), some (.ireturn, 1, 0, 0, 0), some (.iload 3, 1, 0, 0, 0), some (.ifCond .ne 0, 3, 101, 0, 0), none],
  [none, some (.iconst 0, 1, 0, 0, 0), some (.goto 0, 3, 109, 0, 0), none, none, some (.iload 3, 1, 0, 0, 0), some (.iconst 1, 1, 0, 0, 0), some (.isub, 1, 0, 0, 0), some (.iconst 60, 2, 0, 0, 0), none, some (.irem, 1, 0, 0, 0), some (.iconst 5, 1, 0, 0, 0), some (.idiv, 1, 0, 0, 0), some (.ireturn, 1, 0, 0, 0), some (.iload 3, 1, 0, 0, 0), some (.ifCond .ne 0, 3, 118, 0, 0)],
  [none, none, some (.iconst 0, 1, 0, 0, 0), some (.goto 0, 3, 125, 0, 0), none, none, some (.iload 3, 1, 0, 0, 0), some (.iconst 1, 1, 0, 0, 0), some (.isub, 1, 0, 0, 0), some (.iconst 5, 1, 0, 0, 0), some (.irem, 1, 0, 0, 0), some (.iconst 1, 1, 0, 0, 0), some (.iadd, 1, 0, 0, 0), some (.ireturn, 1, 0, 0, 0), some (.iload 4, 2, 0, 0, 0), none],
  [some (.ifCond .ne 0, 3, 135, 0, 0), none, none, some (.iconst (-1), 1, 0, 0, 0), some (.goto 0, 3, 141, 0, 0), none, none, some (.iload 4, 2, 0, 0, 0), none, some (.iconst 1, 1, 0, 0, 0), some (.isub, 1, 0, 0, 0), some (.iconst 4, 1, 0, 0, 0), some (.idiv, 1, 0, 0, 0), some (.ireturn, 1, 0, 0, 0), some (.iload 4, 2, 0, 0, 0), none],
  [some (.ifCond .ne 0, 3, 151, 0, 0), none, none, some (.iconst 0, 1, 0, 0, 0), some (.goto 0, 3, 159, 0, 0), none, none, some (.iload 4, 2, 0, 0, 0), none, some (.iconst 1, 1, 0, 0, 0), some (.isub, 1, 0, 0, 0), some (.iconst 4, 1, 0, 0, 0), some (.irem, 1, 0, 0, 0), some (.iconst 1, 1, 0, 0, 0), some (.iadd, 1, 0, 0, 0), some (.ireturn, 1, 0, 0, 0)]]
set_option maxRecDepth 100000 in
theorem k252 : pchk 12 1 cX12_cause 0 t252 = true := by decide +kernel
def t253 : pT := [[some (.aload 0, 1, 0, 0, 0), some (.iload 1, 1, 0, 0, 0), some (.invokestatic 1, 3, 251, 2, 12), none, none, some (.ifCond .eq 0, 3, 33, 0, 0), none, none, some (.iload 2, 1, 0, 0, 0), some (.invokestatic 1, 3, 239, 1, (-1)), none, none, some (.ifCond .eq 0, 3, 33, 0, 0), none, none, some (.aload 0, 1, 0, 0, 0)],
  [some (.iload 3, 1, 0, 0, 0), some (.invokestatic 1, 3, 198, 2, 12), none, none, some (.ifCond .eq 0, 3, 33, 0, 0), none, none, some (.aload 0, 1, 0, 0, 0), some (.iload 1, 1, 0, 0, 0), some (.iload 2, 1, 0, 0, 0), some (.iload 3, 1, 0, 0, 0), some (.invokestatic 1, 3, 250, 4, 12), none, none, some (.goto 0, 3, 36, 0, 0), none],
  [none, some (.iconst (-9999), 3, 0, 0, 0), none, none, some (.ireturn, 1, 0, 0, 0), none, none, none, none, none, none, none, none, none, none, none]]
set_option maxRecDepth 100000 in
theorem k253 : pchk 12 1 cX12_tells 0 t253 = true := by decide +kernel
def t254 : pT := [[some (.aload 0, 1, 0, 0, 0), some (.getfield 0, 3, 70, 12, 2), none, none, some (.iload 1, 1, 0, 0, 0), some (.iconst 6, 2, 0, 0, 0), none, some (.ishr, 1, 0, 0, 0), some (.laload, 1, 0, 0, 0), some (.iload 1, 1, 0, 0, 0), some (.iconst 63, 2, 0, 0, 0), none, some (.iand, 1, 0, 0, 0), some (.lshr, 1, 0, 0, 0), some (.ldc2_w 0, 1, 0, 0, 1), some (.land, 1, 0, 0, 0)],
  [some (.ldc2_w 0, 1, 0, 0, 1), some (.lcmp, 1, 0, 0, 0), some (.ifCond .ne 0, 3, 25, 0, 0), none, none, some (.iconst 1, 1, 0, 0, 0), some (.goto 0, 3, 26, 0, 0), none, none, some (.iconst 0, 1, 0, 0, 0), some (.ireturn, 1, 0, 0, 3), none, none, none, none, none]]
set_option maxRecDepth 100000 in
theorem k254 : pchk 12 3 cX12_isFit 0 t254 = true := by decide +kernel
def t255 : pT := [[some (.aload 0, 1, 0, 0, 0), some (.iconst 0, 1, 0, 0, 0), some (.putfield 0, 3, 71, 12, 0), none, none, some (.aload 0, 1, 0, 0, 0), some (.iconst (-1), 1, 0, 0, 0), some (.putfield 0, 3, 72, 12, 0), none, none, some (.iconst 0, 1, 0, 0, 0), some (.istore 2, 1, 0, 0, 0), some (.iload 2, 1, 0, 0, 0), some (.aload 0, 1, 0, 0, 0), some (.getfield 0, 3, 70, 12, 2), none],
  [none, some (.arraylength, 1, 0, 0, 0), some (.if_icmp .ge 0, 3, 34, 0, 0), none, none, some (.aload 0, 1, 0, 0, 0), some (.getfield 0, 3, 70, 12, 2), none, none, some (.iload 2, 1, 0, 0, 0), some (.ldc2_w 0, 1, 0, 0, 0), some (.lastore, 1, 0, 0, 0), some (.iinc 2 1, 3, 0, 0, 0), none, none, some (.goto 0, 3, 12, 0, 0)],
  [none, none, some (.iconst 0, 1, 0, 0, 0), some (.istore 2, 1, 0, 0, 0), some (.iload 2, 1, 0, 0, 0), some (.aload 0, 1, 0, 0, 0), some (.invokestatic 1, 3, 246, 1, 12), none, none, some (.if_icmp .ge 0, 3, 168, 0, 0), none, none, some (.iconst 1, 1, 0, 0, 0), some (.istore 3, 1, 0, 0, 0), some (.iconst 0, 1, 0, 0, 0), some (.istore 4, 2, 0, 0, 0)],
  [none, some (.iload 4, 2, 0, 0, 0), none, some (.aload 0, 1, 0, 0, 0), some (.getfield 0, 3, 60, 12, 0), none, none, some (.if_icmp .ge 0, 3, 114, 0, 0), none, none, some (.iload 3, 1, 0, 0, 0), some (.ifCond .eq 0, 3, 114, 0, 0), none, none, some (.aload 0, 1, 0, 0, 0), some (.getfield 0, 3, 66, 12, 2)],
  [none, none, some (.iload 4, 2, 0, 0, 0), none, some (.iaload, 1, 0, 0, 0), some (.iload 1, 1, 0, 0, 0), some (.if_icmp .gt 0, 3, 102, 0, 0), none, none, some (.aload 0, 1, 0, 0, 0), some (.iload 2, 1, 0, 0, 0), some (.aload 0, 1, 0, 0, 0), some (.getfield 0, 3, 63, 12, 2), none, none, some (.iload 4, 2, 0, 0, 0)],
  [none, some (.iaload, 1, 0, 0, 0), some (.aload 0, 1, 0, 0, 0), some (.getfield 0, 3, 64, 12, 2), none, none, some (.iload 4, 2, 0, 0, 0), none, some (.iaload, 1, 0, 0, 0), some (.invokestatic 1, 3, 250, 4, 12), none, none, some (.aload 0, 1, 0, 0, 0), some (.iload 4, 2, 0, 0, 0), none, some (.iload 1, 1, 0, 0, 0)],
  [some (.invokestatic 1, 3, 243, 3, 12), none, none, some (.if_icmp .ne 0, 3, 106, 0, 0), none, none, some (.iconst 1, 1, 0, 0, 0), some (.goto 0, 3, 107, 0, 0), none, none, some (.iconst 0, 1, 0, 0, 0), some (.istore 3, 1, 0, 0, 0), some (.iinc 4 1, 3, 0, 0, 0), none, none, some (.goto 0, 3, 49, 0, 0)],
  [none, none, some (.iload 3, 1, 0, 0, 0), some (.ifCond .ne 0, 3, 121, 0, 0), none, none, some (.goto 0, 3, 162, 0, 0), none, none, some (.aload 0, 1, 0, 0, 0), some (.getfield 0, 3, 72, 12, 0), none, none, some (.iconst (-1), 1, 0, 0, 0), some (.if_icmp .ne 0, 3, 134, 0, 0), none],
  [none, some (.aload 0, 1, 0, 0, 0), some (.iload 2, 1, 0, 0, 0), some (.putfield 0, 3, 72, 12, 0), none, none, some (.aload 0, 1, 0, 0, 0), some (.getfield 0, 3, 70, 12, 2), none, none, some (.iload 2, 1, 0, 0, 0), some (.iconst 6, 2, 0, 0, 0), none, some (.ishr, 1, 0, 0, 0), some (.dup2, 1, 0, 0, 0), some (.laload, 1, 0, 0, 0)],
  [some (.ldc2_w 0, 1, 0, 0, 1), some (.iload 2, 1, 0, 0, 0), some (.iconst 63, 2, 0, 0, 0), none, some (.iand, 1, 0, 0, 0), some (.lshl, 1, 0, 0, 0), some (.lor, 1, 0, 0, 0), some (.lastore, 1, 0, 0, 0), some (.aload 0, 1, 0, 0, 0), some (.dup, 1, 0, 0, 0), some (.getfield 0, 3, 71, 12, 0), none, none, some (.iconst 1, 1, 0, 0, 0), some (.iadd, 1, 0, 0, 0), some (.putfield 0, 3, 71, 12, 0)],
  [none, none, some (.iinc 2 1, 3, 0, 0, 0), none, none, some (.goto 0, 3, 36, 0, 0), none, none, some (.return_, 1, 0, 0, 0), none, none, none, none, none, none, none]]
set_option maxRecDepth 100000 in
theorem k255 : pchk 12 0 cX12_findFit 0 t255 = true := by decide +kernel
def t256 : pT := [[some (.iload 0, 1, 0, 0, 0), some (.i2l, 1, 0, 0, 0), some (.ldc2_w 0, 1, 0, 0, 0), some (.ldc2_w 0, 3, 0, 0, 999), none, none, some (.invokestatic 1, 3, 166, 3, (-1)), none, none, some (.ireturn, 1, 0, 0, 3), none, none, none, none, none, none]]
set_option maxRecDepth 100000 in
theorem k256 : pchk 12 3 cX12_isStage 0 t256 = true := by decide +kernel
def t257 : pT := [[some (.iload 1, 1, 0, 0, 0), some (.invokestatic 1, 3, 256, 1, (-1)), none, none, some (.ifCond .eq 0, 3, 17, 0, 0), none, none, some (.iload 2, 1, 0, 0, 0), some (.i2l, 1, 0, 0, 0), some (.ldc2_w 0, 1, 0, 0, 0), some (.ldc2_w 0, 1, 0, 0, 1), some (.invokestatic 1, 3, 166, 3, (-1)), none, none, some (.ifCond .ne 0, 3, 20, 0, 0), none],
  [none, some (.iconst (-2), 2, 0, 0, 0), none, some (.ireturn, 1, 0, 0, 0), some (.aload 0, 1, 0, 0, 0), some (.iload 1, 1, 0, 0, 0), some (.invokestatic 0, 3, 255, 2, 12), none, none, some (.iload 2, 1, 0, 0, 0), some (.ifCond .ne 0, 3, 36, 0, 0), none, none, some (.aload 0, 1, 0, 0, 0), some (.getfield 0, 3, 71, 12, 0), none],
  [none, some (.goto 0, 3, 40, 0, 0), none, none, some (.aload 0, 1, 0, 0, 0), some (.getfield 0, 3, 72, 12, 0), none, none, some (.ireturn, 1, 0, 0, 0), none, none, none, none, none, none, none]]
set_option maxRecDepth 100000 in
theorem k257 : pchk 12 1 cX12_fit 0 t257 = true := by decide +kernel
def t258 : pT := [[some (.aload 0, 1, 0, 0, 0), some (.getfield 0, 3, 71, 12, 0), none, none, some (.ifCond .ne 0, 3, 11, 0, 0), none, none, some (.iconst (-1), 1, 0, 0, 0), some (.goto 0, 3, 32, 0, 0), none, none, some (.iload 1, 1, 0, 0, 0), some (.aload 0, 1, 0, 0, 0), some (.getfield 0, 3, 71, 12, 0), none, none],
  [some (.if_icmp .ne 0, 3, 23, 0, 0), none, none, some (.iconst 1, 1, 0, 0, 0), some (.goto 0, 3, 32, 0, 0), none, none, some (.iload 1, 1, 0, 0, 0), some (.ifCond .ne 0, 3, 31, 0, 0), none, none, some (.iconst 0, 1, 0, 0, 0), some (.goto 0, 3, 32, 0, 0), none, none, some (.iconst 2, 1, 0, 0, 0)],
  [some (.ireturn, 1, 0, 0, 0), none, none, none, none, none, none, none, none, none, none, none, none, none, none, none]]
set_option maxRecDepth 100000 in
theorem k258 : pchk 12 1 cX12_surely 0 t258 = true := by decide +kernel
def t259 : pT := [[some (.aload 0, 1, 0, 0, 0), some (.iload 1, 1, 0, 0, 0), some (.invokestatic 1, 3, 199, 2, 12), none, none, some (.ifCond .eq 0, 3, 15, 0, 0), none, none, some (.iload 2, 1, 0, 0, 0), some (.invokestatic 1, 3, 256, 1, (-1)), none, none, some (.ifCond .ne 0, 3, 18, 0, 0), none, none, some (.iconst (-2), 2, 0, 0, 0)],
  [none, some (.ireturn, 1, 0, 0, 0), some (.aload 0, 1, 0, 0, 0), some (.iload 2, 1, 0, 0, 0), some (.invokestatic 0, 3, 255, 2, 12), none, none, some (.iconst 0, 1, 0, 0, 0), some (.istore 3, 1, 0, 0, 0), some (.iconst 0, 1, 0, 0, 0), some (.istore 4, 2, 0, 0, 0), none, some (.iload 4, 2, 0, 0, 0), none, some (.aload 0, 1, 0, 0, 0), some (.invokestatic 1, 3, 246, 1, 12)],
  [none, none, some (.if_icmp .ge 0, 3, 84, 0, 0), none, none, some (.iload 3, 1, 0, 0, 0), some (.aload 0, 1, 0, 0, 0), some (.iload 4, 2, 0, 0, 0), none, some (.invokestatic 1, 3, 254, 2, 12), none, none, some (.ifCond .eq 0, 3, 75, 0, 0), none, none, some (.aload 0, 1, 0, 0, 0)],
  [some (.iload 4, 2, 0, 0, 0), none, some (.invokestatic 1, 3, 248, 2, 12), none, none, some (.ifCond .le 0, 3, 75, 0, 0), none, none, some (.aload 0, 1, 0, 0, 0), some (.iload 4, 2, 0, 0, 0), none, some (.invokestatic 1, 3, 248, 2, 12), none, none, some (.iconst 1, 1, 0, 0, 0), some (.isub, 1, 0, 0, 0)],
  [some (.iconst 60, 2, 0, 0, 0), none, some (.idiv, 1, 0, 0, 0), some (.iload 1, 1, 0, 0, 0), some (.if_icmp .ne 0, 3, 75, 0, 0), none, none, some (.iconst 1, 1, 0, 0, 0), some (.goto 0, 3, 76, 0, 0), none, none, some (.iconst 0, 1, 0, 0, 0), some (.iadd, 1, 0, 0, 0), some (.istore 3, 1, 0, 0, 0), some (.iinc 4 1, 3, 0, 0, 0), none],
  [none, some (.goto 0, 3, 28, 0, 0), none, none, some (.aload 0, 1, 0, 0, 0), some (.iload 3, 1, 0, 0, 0), some (.invokestatic 1, 3, 258, 2, 12), none, none, some (.ireturn, 1, 0, 0, 0), none, none, none, none, none, none]]
set_option maxRecDepth 100000 in
theorem k259 : pchk 12 1 cX12_surelyWorn 0 t259 = true := by decide +kernel
def t260 : pT := [[some (.aload 0, 1, 0, 0, 0), some (.iload 1, 1, 0, 0, 0), some (.invokestatic 1, 3, 198, 2, 12), none, none, some (.ifCond .eq 0, 3, 15, 0, 0), none, none, some (.iload 2, 1, 0, 0, 0), some (.invokestatic 1, 3, 256, 1, (-1)), none, none, some (.ifCond .ne 0, 3, 18, 0, 0), none, none, some (.iconst (-2), 2, 0, 0, 0)],
  [none, some (.ireturn, 1, 0, 0, 0), some (.aload 0, 1, 0, 0, 0), some (.iload 2, 1, 0, 0, 0), some (.invokestatic 0, 3, 255, 2, 12), none, none, some (.iconst 0, 1, 0, 0, 0), some (.istore 3, 1, 0, 0, 0), some (.iconst 0, 1, 0, 0, 0), some (.istore 4, 2, 0, 0, 0), none, some (.iload 4, 2, 0, 0, 0), none, some (.aload 0, 1, 0, 0, 0), some (.invokestatic 1, 3, 246, 1, 12)],
  [none, none, some (.if_icmp .ge 0, 3, 83, 0, 0), none, none, some (.iload 3, 1, 0, 0, 0), some (.aload 0, 1, 0, 0, 0), some (.iload 4, 2, 0, 0, 0), none, some (.invokestatic 1, 3, 254, 2, 12), none, none, some (.ifCond .eq 0, 3, 74, 0, 0), none, none, some (.aload 0, 1, 0, 0, 0)],
  [some (.iload 4, 2, 0, 0, 0), none, some (.invokestatic 1, 3, 249, 2, 12), none, none, some (.ifCond .le 0, 3, 74, 0, 0), none, none, some (.aload 0, 1, 0, 0, 0), some (.iload 4, 2, 0, 0, 0), none, some (.invokestatic 1, 3, 249, 2, 12), none, none, some (.iconst 1, 1, 0, 0, 0), some (.isub, 1, 0, 0, 0)],
  [some (.iconst 4, 1, 0, 0, 0), some (.idiv, 1, 0, 0, 0), some (.iload 1, 1, 0, 0, 0), some (.if_icmp .ne 0, 3, 74, 0, 0), none, none, some (.iconst 1, 1, 0, 0, 0), some (.goto 0, 3, 75, 0, 0), none, none, some (.iconst 0, 1, 0, 0, 0), some (.iadd, 1, 0, 0, 0), some (.istore 3, 1, 0, 0, 0), some (.iinc 4 1, 3, 0, 0, 0), none, none],
  [some (.goto 0, 3, 28, 0, 0), none, none, some (.aload 0, 1, 0, 0, 0), some (.iload 3, 1, 0, 0, 0), some (.invokestatic 1, 3, 258, 2, 12), none, none, some (.ireturn, 1, 0, 0, 0), none, none, none, none, none, none, none]]
set_option maxRecDepth 100000 in
theorem k260 : pchk 12 1 cX12_surelyDull 0 t260 = true := by decide +kernel
def t261 : pT := [[some (.iconst 0, 1, 0, 0, 0), some (.istore 3, 1, 0, 0, 0), some (.iload 3, 1, 0, 0, 0), some (.iconst 100, 2, 0, 0, 0), none, some (.if_icmp .ge 0, 3, 21, 0, 0), none, none, some (.aload 0, 1, 0, 0, 0), some (.getfield 0, 3, 73, 12, 2), none, none, some (.iload 3, 1, 0, 0, 0), some (.iconst 0, 1, 0, 0, 0), some (.iastore, 1, 0, 0, 0), some (.iinc 3 1, 3, 0, 0, 0)],
  [none, none, some (.goto 0, 3, 2, 0, 0), none, none, some (.iconst 0, 1, 0, 0, 0), some (.istore 3, 1, 0, 0, 0), some (.iconst 0, 1, 0, 0, 0), some (.istore 4, 2, 0, 0, 0), none, some (.iload 4, 2, 0, 0, 0), none, some (.aload 0, 1, 0, 0, 0), some (.invokestatic 1, 3, 246, 1, 12), none, none],
  [some (.if_icmp .ge 0, 3, 89, 0, 0), none, none, some (.aload 0, 1, 0, 0, 0), some (.iload 4, 2, 0, 0, 0), none, some (.invokestatic 1, 3, 254, 2, 12), none, none, some (.ifCond .ne 0, 3, 47, 0, 0), none, none, some (.goto 0, 3, 83, 0, 0), none, none, some (.aload 0, 1, 0, 0, 0)],
  [some (.iload 4, 2, 0, 0, 0), none, some (.iload 1, 1, 0, 0, 0), some (.iload 2, 1, 0, 0, 0), some (.invokestatic 1, 3, 250, 4, 12), none, none, some (.iconst 50, 2, 0, 0, 0), none, some (.iadd, 1, 0, 0, 0), some (.istore 5, 2, 0, 0, 0), none, some (.aload 0, 1, 0, 0, 0), some (.getfield 0, 3, 73, 12, 2), none, none],
  [some (.iload 5, 2, 0, 0, 0), none, some (.dup2, 1, 0, 0, 0), some (.iaload, 1, 0, 0, 0), some (.iconst 1, 1, 0, 0, 0), some (.iadd, 1, 0, 0, 0), some (.iastore, 1, 0, 0, 0), some (.iload 3, 1, 0, 0, 0), some (.aload 0, 1, 0, 0, 0), some (.getfield 0, 3, 73, 12, 2), none, none, some (.iload 5, 2, 0, 0, 0), none, some (.iaload, 1, 0, 0, 0), some (.f2d, 3, 0, 0, 0)],
  [none, none, some (.istore 3, 1, 0, 0, 0), some (.iinc 4 1, 3, 0, 0, 0), none, none, some (.goto 0, 3, 26, 0, 0), none, none, some (.iload 3, 1, 0, 0, 0), some (.ireturn, 1, 0, 0, 0), none, none, none, none, none]]
set_option maxRecDepth 100000 in
theorem k261 : pchk 12 1 cX12_mostAlike 0 t261 = true := by decide +kernel
def t262 : pT := [[some (.aload 0, 1, 0, 0, 0), some (.iconst 999, 3, 0, 0, 0), none, none, some (.invokestatic 0, 3, 255, 2, 12), none, none, some (.iconst (-1), 1, 0, 0, 0), some (.istore 1, 1, 0, 0, 0), some (.aload 0, 1, 0, 0, 0), some (.getfield 0, 3, 71, 12, 0), none, none, some (.istore 2, 1, 0, 0, 0), some (.iconst 0, 1, 0, 0, 0), some (.istore 3, 1, 0, 0, 0)],
  [some (.iload 3, 1, 0, 0, 0), some (.iconst 20, 2, 0, 0, 0), none, some (.if_icmp .ge 0, 3, 75, 0, 0), none, none, some (.iconst 0, 1, 0, 0, 0), some (.istore 4, 2, 0, 0, 0), none, some (.iload 4, 2, 0, 0, 0), none, some (.aload 0, 1, 0, 0, 0), some (.getfield 0, 3, 11, 12, 0), none, none, some (.if_icmp .ge 0, 3, 69, 0, 0)],
  [none, none, some (.aload 0, 1, 0, 0, 0), some (.iload 3, 1, 0, 0, 0), some (.iload 4, 2, 0, 0, 0), none, some (.invokestatic 1, 3, 261, 3, 12), none, none, some (.istore 5, 2, 0, 0, 0), none, some (.iload 5, 2, 0, 0, 0), none, some (.iload 2, 1, 0, 0, 0), some (.if_icmp .lt 0, 3, 52, 0, 0), none],
  [none, some (.goto 0, 3, 63, 0, 0), none, none, some (.iload 5, 2, 0, 0, 0), none, some (.istore 2, 1, 0, 0, 0), some (.iconst 10, 2, 0, 0, 0), none, some (.iload 3, 1, 0, 0, 0), some (.imul, 1, 0, 0, 0), some (.iload 4, 2, 0, 0, 0), none, some (.iadd, 1, 0, 0, 0), some (.istore 1, 1, 0, 0, 0), some (.iinc 4 1, 3, 0, 0, 0)],
  [none, none, some (.goto 0, 3, 25, 0, 0), none, none, some (.iinc 3 1, 3, 0, 0, 0), none, none, some (.goto 0, 3, 16, 0, 0), none, none, some (.iload 1, 1, 0, 0, 0), some (.ireturn, 1, 0, 0, 0), none, none, none]]
set_option maxRecDepth 100000 in
theorem k262 : pchk 12 1 cX12_next 0 t262 = true := by decide +kernel
def t263 : pT := [[some (.iload 0, 1, 0, 0, 0), some (.i2l, 1, 0, 0, 0), some (.ldc2_w 0, 1, 0, 0, 0), some (.ldc2_w 0, 3, 0, 0, 99), none, none, some (.invokestatic 1, 3, 166, 3, (-1)), none, none, some (.ireturn, 1, 0, 0, 3), none, none, none, none, none, none]]
set_option maxRecDepth 100000 in
theorem k263 : pchk 12 3 cX12_isLimit 0 t263 = true := by decide +kernel
def t264 : pT := [[some (.iload 1, 1, 0, 0, 0), some (.invokestatic 1, 3, 263, 1, (-1)), none, none, some (.ifCond .eq 0, 3, 14, 0, 0), none, none, some (.iload 2, 1, 0, 0, 0), some (.invokestatic 1, 3, 256, 1, (-1)), none, none, some (.ifCond .ne 0, 3, 17, 0, 0), none, none, some (.iconst (-2), 2, 0, 0, 0), none],
  [some (.ireturn, 1, 0, 0, 0), some (.aload 0, 1, 0, 0, 0), some (.iload 2, 1, 0, 0, 0), some (.invokestatic 0, 3, 255, 2, 12), none, none, some (.iconst 0, 1, 0, 0, 0), some (.istore 3, 1, 0, 0, 0), some (.iload 3, 1, 0, 0, 0), some (.iconst 40, 2, 0, 0, 0), none, some (.if_icmp .ge 0, 3, 102, 0, 0), none, none, some (.iconst 0, 1, 0, 0, 0), some (.istore 4, 2, 0, 0, 0)],
  [none, some (.iload 4, 2, 0, 0, 0), none, some (.aload 0, 1, 0, 0, 0), some (.invokestatic 1, 3, 246, 1, 12), none, none, some (.if_icmp .ge 0, 3, 96, 0, 0), none, none, some (.aload 0, 1, 0, 0, 0), some (.iload 4, 2, 0, 0, 0), none, some (.invokestatic 1, 3, 254, 2, 12), none, none],
  [some (.ifCond .ne 0, 3, 54, 0, 0), none, none, some (.goto 0, 3, 90, 0, 0), none, none, some (.iconst 0, 1, 0, 0, 0), some (.istore 5, 2, 0, 0, 0), none, some (.iload 5, 2, 0, 0, 0), none, some (.aload 0, 1, 0, 0, 0), some (.getfield 0, 3, 11, 12, 0), none, none, some (.if_icmp .ge 0, 3, 90, 0, 0)],
  [none, none, some (.aload 0, 1, 0, 0, 0), some (.iload 4, 2, 0, 0, 0), none, some (.iload 3, 1, 0, 0, 0), some (.iload 5, 2, 0, 0, 0), none, some (.invokestatic 1, 3, 250, 4, 12), none, none, some (.f2l, 3, 0, 0, 0), none, none, some (.iload 1, 1, 0, 0, 0), some (.if_icmp .le 0, 3, 84, 0, 0)],
  [none, none, some (.iload 3, 1, 0, 0, 0), some (.ireturn, 1, 0, 0, 0), some (.iinc 5 1, 3, 0, 0, 0), none, none, some (.goto 0, 3, 57, 0, 0), none, none, some (.iinc 4 1, 3, 0, 0, 0), none, none, some (.goto 0, 3, 33, 0, 0), none, none],
  [some (.iinc 3 1, 3, 0, 0, 0), none, none, some (.goto 0, 3, 24, 0, 0), none, none, some (.iconst (-1), 1, 0, 0, 0), some (.ireturn, 1, 0, 0, 0), none, none, none, none, none, none, none, none]]
set_option maxRecDepth 100000 in
theorem k264 : pchk 12 1 cX12_halt 0 t264 = true := by decide +kernel
def t265 : pT := [[some (.iload 1, 1, 0, 0, 0), some (.invokestatic 1, 3, 239, 1, (-1)), none, none, some (.ifCond .eq 0, 3, 21, 0, 0), none, none, some (.iload 2, 1, 0, 0, 0), some (.invokestatic 1, 3, 263, 1, (-1)), none, none, some (.ifCond .eq 0, 3, 21, 0, 0), none, none, some (.iload 3, 1, 0, 0, 0), some (.invokestatic 1, 3, 256, 1, (-1))],
  [none, none, some (.ifCond .ne 0, 3, 24, 0, 0), none, none, some (.iconst (-2), 2, 0, 0, 0), none, some (.ireturn, 1, 0, 0, 0), some (.aload 0, 1, 0, 0, 0), some (.iload 3, 1, 0, 0, 0), some (.invokestatic 0, 3, 255, 2, 12), none, none, some (.aload 0, 1, 0, 0, 0), some (.getfield 0, 3, 72, 12, 0), none],
  [none, some (.iconst (-1), 1, 0, 0, 0), some (.if_icmp .ne 0, 3, 39, 0, 0), none, none, some (.iconst (-1), 1, 0, 0, 0), some (.ireturn, 1, 0, 0, 0), some (.iconst 0, 1, 0, 0, 0), some (.istore 4, 2, 0, 0, 0), none, some (.iconst 0, 1, 0, 0, 0), some (.istore 5, 2, 0, 0, 0), none, some (.iload 5, 2, 0, 0, 0), none, some (.aload 0, 1, 0, 0, 0)],
  [some (.getfield 0, 3, 11, 12, 0), none, none, some (.if_icmp .ge 0, 3, 98, 0, 0), none, none, some (.aload 0, 1, 0, 0, 0), some (.aload 0, 1, 0, 0, 0), some (.getfield 0, 3, 72, 12, 0), none, none, some (.iload 1, 1, 0, 0, 0), some (.iload 5, 2, 0, 0, 0), none, some (.invokestatic 1, 3, 250, 4, 12), none],
  [none, some (.istore 6, 2, 0, 0, 0), none, some (.iload 6, 2, 0, 0, 0), none, some (.iload 2, 1, 0, 0, 0), some (.if_icmp .le 0, 3, 79, 0, 0), none, none, some (.iload 4, 2, 0, 0, 0), none, some (.iconst 1, 1, 0, 0, 0), some (.ior, 1, 0, 0, 0), some (.istore 4, 2, 0, 0, 0), none, some (.iload 6, 2, 0, 0, 0)],
  [none, some (.iload 2, 1, 0, 0, 0), some (.ineg, 1, 0, 0, 0), some (.if_icmp .ge 0, 3, 92, 0, 0), none, none, some (.iload 4, 2, 0, 0, 0), none, some (.iconst 2, 1, 0, 0, 0), some (.ior, 1, 0, 0, 0), some (.istore 4, 2, 0, 0, 0), none, some (.iinc 5 1, 3, 0, 0, 0), none, none, some (.goto 0, 3, 45, 0, 0)],
  [none, none, some (.iload 4, 2, 0, 0, 0), none, some (.ireturn, 1, 0, 0, 0), none, none, none, none, none, none, none, none, none, none, none]]
set_option maxRecDepth 100000 in
theorem k265 : pchk 12 1 cX12_bin 0 t265 = true := by decide +kernel
def t266 : pT := [[some (.iload 1, 1, 0, 0, 0), some (.tableswitch 60 0 4 #[35, 40, 45, 50, 55], 35, 0, 0, 0), none, none, none, none, none, none, none, none, none, none, none, none, none, none],
  [none, none, none, none, none, none, none, none, none, none, none, none, none, none, none, none],
  [none, none, none, none, some (.aload 0, 1, 0, 0, 0), some (.getfield 0, 3, 13, 12, 0), none, none, some (.ireturn, 1, 0, 0, 0), some (.aload 0, 1, 0, 0, 0), some (.getfield 0, 3, 60, 12, 0), none, none, some (.ireturn, 1, 0, 0, 0), some (.aload 0, 1, 0, 0, 0), some (.getfield 0, 3, 61, 12, 0)],
  [none, none, some (.ireturn, 1, 0, 0, 0), some (.aload 0, 1, 0, 0, 0), some (.getfield 0, 3, 1, 12, 0), none, none, some (.ireturn, 1, 0, 0, 0), some (.aload 0, 1, 0, 0, 0), some (.invokestatic 1, 3, 246, 1, 12), none, none, some (.ireturn, 1, 0, 0, 0), some (.iconst (-1), 1, 0, 0, 0), some (.ireturn, 1, 0, 0, 0), none]]
set_option maxRecDepth 100000 in
theorem k266 : pchk 12 1 cX12_count 0 t266 = true := by decide +kernel
def t267 : pT := [[some (.iconst 0, 1, 0, 0, 0), some (.istore 2, 1, 0, 0, 0), some (.aload 0, 1, 0, 0, 0), some (.arraylength, 1, 0, 0, 0), some (.istore 3, 1, 0, 0, 0), some (.iload 2, 1, 0, 0, 0), some (.iload 3, 1, 0, 0, 0), some (.if_icmp .ge 0, 3, 20, 0, 0), none, none, some (.aload 0, 1, 0, 0, 0), some (.iload 2, 1, 0, 0, 0), some (.iload 1, 1, 0, 0, 0), some (.iastore, 1, 0, 0, 0), some (.iinc 2 1, 3, 0, 0, 0), none],
  [none, some (.goto 0, 3, 5, 0, 0), none, none, some (.return_, 1, 0, 0, 0), none, none, none, none, none, none, none, none, none, none, none]]
set_option maxRecDepth 100000 in
theorem k267 : pchk 14 0 cJ7_fill_53178 0 t267 = true := by decide +kernel
end
section
def t268_0 : pT := [[some (.new 0, 3, 11, 11, 0), none, none, some (.dup, 1, 0, 0, 0), some (.invokestatic 0, 3, 117, 1, (-1)), none, none, some (.astore 1, 1, 0, 0, 0), some (.new 0, 3, 12, 74, 0), none, none, some (.dup, 1, 0, 0, 0), some (.invokestatic 0, 3, 185, 1, (-1)), none, none, some (.astore 2, 1, 0, 0, 0)],
  [some (.iconst 0, 1, 0, 0, 0), some (.istore 3, 1, 0, 0, 0), some (.iload 3, 1, 0, 0, 0), some (.aload 0, 1, 0, 0, 0), some (.fastore, 1, 0, 0, 0), some (.iconst 6, 2, 0, 0, 0), none, some (.isub, 1, 0, 0, 0), some (.if_icmp .gt 0, 3, 1294, 0, 0), none, none, some (.aload 0, 1, 0, 0, 0), some (.iload 3, 1, 0, 0, 0), some (.faload, 1, 0, 0, 0), some (.iconst 63, 2, 0, 0, 0), none],
  [some (.iand, 1, 0, 0, 0), some (.tableswitch 1255 0 35 #[159, 222, 245, 258, 281, 304, 327, 350, 363, 396, 429, 452, 475, 498, 531, 574, 617, 640, 663, 676, 699, 742, 765, 805, 838, 872, 925, 968, 1001, 1034, 1077, 1110, 1143, 1156, 1189, 1232], 159, 0, 0, 0), none, none, none, none, none, none, none, none, none, none, none, none, none, none],
  [none, none, none, none, none, none, none, none, none, none, none, none, none, none, none, none],
  [none, none, none, none, none, none, none, none, none, none, none, none, none, none, none, none],
  [none, none, none, none, none, none, none, none, none, none, none, none, none, none, none, none],
  [none, none, none, none, none, none, none, none, none, none, none, none, none, none, none, none],
  [none, none, none, none, none, none, none, none, none, none, none, none, none, none, none, none],
  [none, none, none, none, none, none, none, none, none, none, none, none, none, none, none, none],
  [none, none, none, none, none, none, none, none, none, none, none, none, none, none, none, none],
  [none, none, none, none, none, none, none, none, none, none, none, none, none, none, none, none],
  [none, none, none, none, none, none, none, none, none, none, none, none, none, none, none, none]]
set_option maxRecDepth 100000 in
theorem k268_0 : pchk 13 3 cL_law 0 t268_0 = true := by decide +kernel
end
section
def t268_1 : pT := [[some (.aload 1, 1, 0, 0, 0), some (.aload 0, 1, 0, 0, 0), some (.iload 3, 1, 0, 0, 0), some (.iconst 1, 1, 0, 0, 0), some (.iadd, 1, 0, 0, 0), some (.faload, 1, 0, 0, 0), some (.aload 0, 1, 0, 0, 0), some (.iload 3, 1, 0, 0, 0), some (.iconst 2, 1, 0, 0, 0), some (.iadd, 1, 0, 0, 0), some (.faload, 1, 0, 0, 0), some (.aload 0, 1, 0, 0, 0), some (.iload 3, 1, 0, 0, 0), some (.iconst 3, 1, 0, 0, 0), some (.iadd, 1, 0, 0, 0), some (.faload, 1, 0, 0, 0)],
  [some (.aload 0, 1, 0, 0, 0), some (.iload 3, 1, 0, 0, 0), some (.iconst 4, 1, 0, 0, 0), some (.iadd, 1, 0, 0, 0), some (.faload, 1, 0, 0, 0), some (.aload 0, 1, 0, 0, 0), some (.iload 3, 1, 0, 0, 0), some (.iconst 5, 1, 0, 0, 0), some (.iadd, 1, 0, 0, 0), some (.faload, 1, 0, 0, 0), some (.invokestatic 1, 3, 128, 6, 11), none, none, some (.aload 2, 1, 0, 0, 0), some (.aload 0, 1, 0, 0, 0), some (.iload 3, 1, 0, 0, 0)],
  [some (.iconst 1, 1, 0, 0, 0), some (.iadd, 1, 0, 0, 0), some (.faload, 1, 0, 0, 0), some (.aload 0, 1, 0, 0, 0), some (.iload 3, 1, 0, 0, 0), some (.iconst 2, 1, 0, 0, 0), some (.iadd, 1, 0, 0, 0), some (.faload, 1, 0, 0, 0), some (.aload 0, 1, 0, 0, 0), some (.iload 3, 1, 0, 0, 0), some (.iconst 3, 1, 0, 0, 0), some (.iadd, 1, 0, 0, 0), some (.faload, 1, 0, 0, 0), some (.aload 0, 1, 0, 0, 0), some (.iload 3, 1, 0, 0, 0), some (.iconst 4, 1, 0, 0, 0)],
  [some (.iadd, 1, 0, 0, 0), some (.faload, 1, 0, 0, 0), some (.aload 0, 1, 0, 0, 0), some (.iload 3, 1, 0, 0, 0), some (.iconst 5, 1, 0, 0, 0), some (.iadd, 1, 0, 0, 0), some (.faload, 1, 0, 0, 0), some (.invokestatic 1, 3, 186, 6, 12), none, none, some (.if_icmp .eq 0, 3, 1288, 0, 0), none, none, some (.iconst 0, 1, 0, 0, 0), some (.ireturn, 1, 0, 0, 3), some (.aload 1, 1, 0, 0, 0)],
  [some (.aload 0, 1, 0, 0, 0), some (.iload 3, 1, 0, 0, 0), some (.iconst 1, 1, 0, 0, 0), some (.iadd, 1, 0, 0, 0), some (.faload, 1, 0, 0, 0), some (.invokestatic 1, 3, 129, 2, 11), none, none, some (.aload 2, 1, 0, 0, 0), some (.aload 0, 1, 0, 0, 0), some (.iload 3, 1, 0, 0, 0), some (.iconst 1, 1, 0, 0, 0), some (.iadd, 1, 0, 0, 0), some (.faload, 1, 0, 0, 0), some (.invokestatic 1, 3, 188, 2, 12), none],
  [none, some (.if_icmp .eq 0, 3, 1288, 0, 0), none, none, some (.iconst 0, 1, 0, 0, 0), some (.ireturn, 1, 0, 0, 3), some (.aload 1, 1, 0, 0, 0), some (.invokestatic 1, 3, 130, 1, 11), none, none, some (.aload 2, 1, 0, 0, 0), some (.invokestatic 1, 3, 189, 1, 12), none, none, some (.if_icmp .eq 0, 3, 1288, 0, 0), none],
  [none, some (.iconst 0, 1, 0, 0, 0), some (.ireturn, 1, 0, 0, 3), some (.aload 1, 1, 0, 0, 0), some (.aload 0, 1, 0, 0, 0), some (.iload 3, 1, 0, 0, 0), some (.iconst 1, 1, 0, 0, 0), some (.iadd, 1, 0, 0, 0), some (.faload, 1, 0, 0, 0), some (.invokestatic 1, 3, 131, 2, 11), none, none, some (.aload 2, 1, 0, 0, 0), some (.aload 0, 1, 0, 0, 0), some (.iload 3, 1, 0, 0, 0), some (.iconst 1, 1, 0, 0, 0)],
  [some (.iadd, 1, 0, 0, 0), some (.faload, 1, 0, 0, 0), some (.invokestatic 1, 3, 190, 2, 12), none, none, some (.if_icmp .eq 0, 3, 1288, 0, 0), none, none, some (.iconst 0, 1, 0, 0, 0), some (.ireturn, 1, 0, 0, 3), some (.aload 1, 1, 0, 0, 0), some (.aload 0, 1, 0, 0, 0), some (.iload 3, 1, 0, 0, 0), some (.iconst 1, 1, 0, 0, 0), some (.iadd, 1, 0, 0, 0), some (.faload, 1, 0, 0, 0)],
  [some (.invokestatic 1, 3, 132, 2, 11), none, none, some (.aload 2, 1, 0, 0, 0), some (.aload 0, 1, 0, 0, 0), some (.iload 3, 1, 0, 0, 0), some (.iconst 1, 1, 0, 0, 0), some (.iadd, 1, 0, 0, 0), some (.faload, 1, 0, 0, 0), some (.invokestatic 1, 3, 191, 2, 12), none, none, some (.if_icmp .eq 0, 3, 1288, 0, 0), none, none, some (.iconst 0, 1, 0, 0, 0)],
  [some (.ireturn, 1, 0, 0, 3), some (.aload 1, 1, 0, 0, 0), some (.aload 0, 1, 0, 0, 0), some (.iload 3, 1, 0, 0, 0), some (.iconst 1, 1, 0, 0, 0), some (.iadd, 1, 0, 0, 0), some (.faload, 1, 0, 0, 0), some (.invokestatic 1, 3, 134, 2, 11), none, none, some (.aload 2, 1, 0, 0, 0), some (.aload 0, 1, 0, 0, 0), some (.iload 3, 1, 0, 0, 0), some (.iconst 1, 1, 0, 0, 0), some (.iadd, 1, 0, 0, 0), some (.faload, 1, 0, 0, 0)],
  [some (.invokestatic 1, 3, 200, 2, 12), none, none, some (.if_icmp .eq 0, 3, 1288, 0, 0), none, none, some (.iconst 0, 1, 0, 0, 0), some (.ireturn, 1, 0, 0, 3), some (.aload 1, 1, 0, 0, 0), some (.aload 0, 1, 0, 0, 0), some (.iload 3, 1, 0, 0, 0), some (.iconst 1, 1, 0, 0, 0), some (.iadd, 1, 0, 0, 0), some (.faload, 1, 0, 0, 0), some (.invokestatic 1, 3, 135, 2, 11), none],
  [none, some (.aload 2, 1, 0, 0, 0), some (.aload 0, 1, 0, 0, 0), some (.iload 3, 1, 0, 0, 0), some (.iconst 1, 1, 0, 0, 0), some (.iadd, 1, 0, 0, 0), some (.faload, 1, 0, 0, 0), some (.invokestatic 1, 3, 201, 2, 12), none, none, some (.if_icmp .eq 0, 3, 1288, 0, 0), none, none, some (.iconst 0, 1, 0, 0, 0), some (.ireturn, 1, 0, 0, 3), some (.aload 1, 1, 0, 0, 0)]]
set_option maxRecDepth 100000 in
theorem k268_1 : pchk 13 3 cL_law 192 t268_1 = true := by decide +kernel
end
section
def t268_2 : pT := [[some (.invokestatic 1, 3, 136, 1, 11), none, none, some (.aload 2, 1, 0, 0, 0), some (.invokestatic 1, 3, 203, 1, 12), none, none, some (.if_icmp .eq 0, 3, 1288, 0, 0), none, none, some (.iconst 0, 1, 0, 0, 0), some (.ireturn, 1, 0, 0, 3), some (.aload 1, 1, 0, 0, 0), some (.aload 0, 1, 0, 0, 0), some (.iload 3, 1, 0, 0, 0), some (.iconst 1, 1, 0, 0, 0)],
  [some (.iadd, 1, 0, 0, 0), some (.faload, 1, 0, 0, 0), some (.aload 0, 1, 0, 0, 0), some (.iload 3, 1, 0, 0, 0), some (.iconst 2, 1, 0, 0, 0), some (.iadd, 1, 0, 0, 0), some (.faload, 1, 0, 0, 0), some (.invokestatic 1, 3, 137, 3, 11), none, none, some (.aload 2, 1, 0, 0, 0), some (.aload 0, 1, 0, 0, 0), some (.iload 3, 1, 0, 0, 0), some (.iconst 1, 1, 0, 0, 0), some (.iadd, 1, 0, 0, 0), some (.faload, 1, 0, 0, 0)],
  [some (.aload 0, 1, 0, 0, 0), some (.iload 3, 1, 0, 0, 0), some (.iconst 2, 1, 0, 0, 0), some (.iadd, 1, 0, 0, 0), some (.faload, 1, 0, 0, 0), some (.invokestatic 1, 3, 211, 3, 12), none, none, some (.if_icmp .eq 0, 3, 1288, 0, 0), none, none, some (.iconst 0, 1, 0, 0, 0), some (.ireturn, 1, 0, 0, 3), some (.aload 1, 1, 0, 0, 0), some (.aload 0, 1, 0, 0, 0), some (.iload 3, 1, 0, 0, 0)],
  [some (.iconst 1, 1, 0, 0, 0), some (.iadd, 1, 0, 0, 0), some (.faload, 1, 0, 0, 0), some (.aload 0, 1, 0, 0, 0), some (.iload 3, 1, 0, 0, 0), some (.iconst 2, 1, 0, 0, 0), some (.iadd, 1, 0, 0, 0), some (.faload, 1, 0, 0, 0), some (.invokestatic 1, 3, 138, 3, 11), none, none, some (.aload 2, 1, 0, 0, 0), some (.aload 0, 1, 0, 0, 0), some (.iload 3, 1, 0, 0, 0), some (.iconst 1, 1, 0, 0, 0), some (.iadd, 1, 0, 0, 0)],
  [some (.faload, 1, 0, 0, 0), some (.aload 0, 1, 0, 0, 0), some (.iload 3, 1, 0, 0, 0), some (.iconst 2, 1, 0, 0, 0), some (.iadd, 1, 0, 0, 0), some (.faload, 1, 0, 0, 0), some (.invokestatic 1, 3, 214, 3, 12), none, none, some (.if_icmp .eq 0, 3, 1288, 0, 0), none, none, some (.iconst 0, 1, 0, 0, 0), some (.ireturn, 1, 0, 0, 3), some (.aload 1, 1, 0, 0, 0), some (.aload 0, 1, 0, 0, 0)],
  [some (.iload 3, 1, 0, 0, 0), some (.iconst 1, 1, 0, 0, 0), some (.iadd, 1, 0, 0, 0), some (.faload, 1, 0, 0, 0), some (.invokestatic 1, 3, 139, 2, 11), none, none, some (.aload 2, 1, 0, 0, 0), some (.aload 0, 1, 0, 0, 0), some (.iload 3, 1, 0, 0, 0), some (.iconst 1, 1, 0, 0, 0), some (.iadd, 1, 0, 0, 0), some (.faload, 1, 0, 0, 0), some (.invokestatic 1, 3, 215, 2, 12), none, none],
  [some (.if_icmp .eq 0, 3, 1288, 0, 0), none, none, some (.iconst 0, 1, 0, 0, 0), some (.ireturn, 1, 0, 0, 3), some (.aload 1, 1, 0, 0, 0), some (.aload 0, 1, 0, 0, 0), some (.iload 3, 1, 0, 0, 0), some (.iconst 1, 1, 0, 0, 0), some (.iadd, 1, 0, 0, 0), some (.faload, 1, 0, 0, 0), some (.invokestatic 1, 3, 140, 2, 11), none, none, some (.aload 2, 1, 0, 0, 0), some (.aload 0, 1, 0, 0, 0)],
  [some (.iload 3, 1, 0, 0, 0), some (.iconst 1, 1, 0, 0, 0), some (.iadd, 1, 0, 0, 0), some (.faload, 1, 0, 0, 0), some (.invokestatic 1, 3, 216, 2, 12), none, none, some (.if_icmp .eq 0, 3, 1288, 0, 0), none, none, some (.iconst 0, 1, 0, 0, 0), some (.ireturn, 1, 0, 0, 3), some (.aload 1, 1, 0, 0, 0), some (.aload 0, 1, 0, 0, 0), some (.iload 3, 1, 0, 0, 0), some (.iconst 1, 1, 0, 0, 0)],
  [some (.iadd, 1, 0, 0, 0), some (.faload, 1, 0, 0, 0), some (.invokestatic 1, 3, 141, 2, 11), none, none, some (.aload 2, 1, 0, 0, 0), some (.aload 0, 1, 0, 0, 0), some (.iload 3, 1, 0, 0, 0), some (.iconst 1, 1, 0, 0, 0), some (.iadd, 1, 0, 0, 0), some (.faload, 1, 0, 0, 0), some (.invokestatic 1, 3, 218, 2, 12), none, none, some (.if_icmp .eq 0, 3, 1288, 0, 0), none],
  [none, some (.iconst 0, 1, 0, 0, 0), some (.ireturn, 1, 0, 0, 3), some (.aload 1, 1, 0, 0, 0), some (.aload 0, 1, 0, 0, 0), some (.iload 3, 1, 0, 0, 0), some (.iconst 1, 1, 0, 0, 0), some (.iadd, 1, 0, 0, 0), some (.faload, 1, 0, 0, 0), some (.aload 0, 1, 0, 0, 0), some (.iload 3, 1, 0, 0, 0), some (.iconst 2, 1, 0, 0, 0), some (.iadd, 1, 0, 0, 0), some (.faload, 1, 0, 0, 0), some (.invokestatic 1, 3, 142, 3, 11), none],
  [none, some (.aload 2, 1, 0, 0, 0), some (.aload 0, 1, 0, 0, 0), some (.iload 3, 1, 0, 0, 0), some (.iconst 1, 1, 0, 0, 0), some (.iadd, 1, 0, 0, 0), some (.faload, 1, 0, 0, 0), some (.aload 0, 1, 0, 0, 0), some (.iload 3, 1, 0, 0, 0), some (.iconst 2, 1, 0, 0, 0), some (.iadd, 1, 0, 0, 0), some (.faload, 1, 0, 0, 0), some (.invokestatic 1, 3, 219, 3, 12), none, none, some (.if_icmp .eq 0, 3, 1288, 0, 0)],
  [none, none, some (.iconst 0, 1, 0, 0, 0), some (.ireturn, 1, 0, 0, 3), some (.aload 1, 1, 0, 0, 0), some (.aload 0, 1, 0, 0, 0), some (.iload 3, 1, 0, 0, 0), some (.iconst 1, 1, 0, 0, 0), some (.iadd, 1, 0, 0, 0), some (.faload, 1, 0, 0, 0), some (.aload 0, 1, 0, 0, 0), some (.iload 3, 1, 0, 0, 0), some (.iconst 2, 1, 0, 0, 0), some (.iadd, 1, 0, 0, 0), some (.faload, 1, 0, 0, 0), some (.aload 0, 1, 0, 0, 0)]]
set_option maxRecDepth 100000 in
theorem k268_2 : pchk 13 3 cL_law 384 t268_2 = true := by decide +kernel
end
section
def t268_3 : pT := [[some (.iload 3, 1, 0, 0, 0), some (.iconst 3, 1, 0, 0, 0), some (.iadd, 1, 0, 0, 0), some (.faload, 1, 0, 0, 0), some (.invokestatic 1, 3, 143, 4, 11), none, none, some (.aload 2, 1, 0, 0, 0), some (.aload 0, 1, 0, 0, 0), some (.iload 3, 1, 0, 0, 0), some (.iconst 1, 1, 0, 0, 0), some (.iadd, 1, 0, 0, 0), some (.faload, 1, 0, 0, 0), some (.aload 0, 1, 0, 0, 0), some (.iload 3, 1, 0, 0, 0), some (.iconst 2, 1, 0, 0, 0)],
  [some (.iadd, 1, 0, 0, 0), some (.faload, 1, 0, 0, 0), some (.aload 0, 1, 0, 0, 0), some (.iload 3, 1, 0, 0, 0), some (.iconst 3, 1, 0, 0, 0), some (.iadd, 1, 0, 0, 0), some (.faload, 1, 0, 0, 0), some (.invokestatic 1, 3, 220, 4, 12), none, none, some (.if_icmp .eq 0, 3, 1288, 0, 0), none, none, some (.iconst 0, 1, 0, 0, 0), some (.ireturn, 1, 0, 0, 3), some (.aload 1, 1, 0, 0, 0)],
  [some (.aload 0, 1, 0, 0, 0), some (.iload 3, 1, 0, 0, 0), some (.iconst 1, 1, 0, 0, 0), some (.iadd, 1, 0, 0, 0), some (.faload, 1, 0, 0, 0), some (.aload 0, 1, 0, 0, 0), some (.iload 3, 1, 0, 0, 0), some (.iconst 2, 1, 0, 0, 0), some (.iadd, 1, 0, 0, 0), some (.faload, 1, 0, 0, 0), some (.aload 0, 1, 0, 0, 0), some (.iload 3, 1, 0, 0, 0), some (.iconst 3, 1, 0, 0, 0), some (.iadd, 1, 0, 0, 0), some (.faload, 1, 0, 0, 0), some (.invokestatic 1, 3, 144, 4, 11)],
  [none, none, some (.aload 2, 1, 0, 0, 0), some (.aload 0, 1, 0, 0, 0), some (.iload 3, 1, 0, 0, 0), some (.iconst 1, 1, 0, 0, 0), some (.iadd, 1, 0, 0, 0), some (.faload, 1, 0, 0, 0), some (.aload 0, 1, 0, 0, 0), some (.iload 3, 1, 0, 0, 0), some (.iconst 2, 1, 0, 0, 0), some (.iadd, 1, 0, 0, 0), some (.faload, 1, 0, 0, 0), some (.aload 0, 1, 0, 0, 0), some (.iload 3, 1, 0, 0, 0), some (.iconst 3, 1, 0, 0, 0)],
  [some (.iadd, 1, 0, 0, 0), some (.faload, 1, 0, 0, 0), some (.invokestatic 1, 3, 222, 4, 12), none, none, some (.if_icmp .eq 0, 3, 1288, 0, 0), none, none, some (.iconst 0, 1, 0, 0, 0), some (.ireturn, 1, 0, 0, 3), some (.aload 1, 1, 0, 0, 0), some (.aload 0, 1, 0, 0, 0), some (.iload 3, 1, 0, 0, 0), some (.iconst 1, 1, 0, 0, 0), some (.iadd, 1, 0, 0, 0), some (.faload, 1, 0, 0, 0)],
  [some (.invokestatic 1, 3, 145, 2, 11), none, none, some (.aload 2, 1, 0, 0, 0), some (.aload 0, 1, 0, 0, 0), some (.iload 3, 1, 0, 0, 0), some (.iconst 1, 1, 0, 0, 0), some (.iadd, 1, 0, 0, 0), some (.faload, 1, 0, 0, 0), some (.invokestatic 1, 3, 225, 2, 12), none, none, some (.if_icmp .eq 0, 3, 1288, 0, 0), none, none, some (.iconst 0, 1, 0, 0, 0)],
  [some (.ireturn, 1, 0, 0, 3), some (.aload 1, 1, 0, 0, 0), some (.aload 0, 1, 0, 0, 0), some (.iload 3, 1, 0, 0, 0), some (.iconst 1, 1, 0, 0, 0), some (.iadd, 1, 0, 0, 0), some (.faload, 1, 0, 0, 0), some (.invokestatic 1, 3, 146, 2, 11), none, none, some (.aload 2, 1, 0, 0, 0), some (.aload 0, 1, 0, 0, 0), some (.iload 3, 1, 0, 0, 0), some (.iconst 1, 1, 0, 0, 0), some (.iadd, 1, 0, 0, 0), some (.faload, 1, 0, 0, 0)],
  [some (.invokestatic 1, 3, 226, 2, 12), none, none, some (.if_icmp .eq 0, 3, 1288, 0, 0), none, none, some (.iconst 0, 1, 0, 0, 0), some (.ireturn, 1, 0, 0, 3), some (.aload 1, 1, 0, 0, 0), some (.invokestatic 1, 3, 147, 1, 11), none, none, some (.aload 2, 1, 0, 0, 0), some (.invokestatic 1, 3, 227, 1, 12), none, none],
  [some (.if_icmp .eq 0, 3, 1288, 0, 0), none, none, some (.iconst 0, 1, 0, 0, 0), some (.ireturn, 1, 0, 0, 3), some (.aload 1, 1, 0, 0, 0), some (.aload 0, 1, 0, 0, 0), some (.iload 3, 1, 0, 0, 0), some (.iconst 1, 1, 0, 0, 0), some (.iadd, 1, 0, 0, 0), some (.faload, 1, 0, 0, 0), some (.invokestatic 1, 3, 148, 2, 11), none, none, some (.aload 2, 1, 0, 0, 0), some (.aload 0, 1, 0, 0, 0)],
  [some (.iload 3, 1, 0, 0, 0), some (.iconst 1, 1, 0, 0, 0), some (.iadd, 1, 0, 0, 0), some (.faload, 1, 0, 0, 0), some (.invokestatic 1, 3, 229, 2, 12), none, none, some (.if_icmp .eq 0, 3, 1288, 0, 0), none, none, some (.iconst 0, 1, 0, 0, 0), some (.ireturn, 1, 0, 0, 3), some (.aload 1, 1, 0, 0, 0), some (.aload 0, 1, 0, 0, 0), some (.iload 3, 1, 0, 0, 0), some (.iconst 1, 1, 0, 0, 0)],
  [some (.iadd, 1, 0, 0, 0), some (.faload, 1, 0, 0, 0), some (.aload 0, 1, 0, 0, 0), some (.iload 3, 1, 0, 0, 0), some (.iconst 2, 1, 0, 0, 0), some (.iadd, 1, 0, 0, 0), some (.faload, 1, 0, 0, 0), some (.aload 0, 1, 0, 0, 0), some (.iload 3, 1, 0, 0, 0), some (.iconst 3, 1, 0, 0, 0), some (.iadd, 1, 0, 0, 0), some (.faload, 1, 0, 0, 0), some (.invokestatic 1, 3, 149, 4, 11), none, none, some (.aload 2, 1, 0, 0, 0)],
  [some (.aload 0, 1, 0, 0, 0), some (.iload 3, 1, 0, 0, 0), some (.iconst 1, 1, 0, 0, 0), some (.iadd, 1, 0, 0, 0), some (.faload, 1, 0, 0, 0), some (.aload 0, 1, 0, 0, 0), some (.iload 3, 1, 0, 0, 0), some (.iconst 2, 1, 0, 0, 0), some (.iadd, 1, 0, 0, 0), some (.faload, 1, 0, 0, 0), some (.aload 0, 1, 0, 0, 0), some (.iload 3, 1, 0, 0, 0), some (.iconst 3, 1, 0, 0, 0), some (.iadd, 1, 0, 0, 0), some (.faload, 1, 0, 0, 0), some (.invokestatic 1, 3, 234, 4, 12)]]
set_option maxRecDepth 100000 in
theorem k268_3 : pchk 13 3 cL_law 576 t268_3 = true := by decide +kernel
end
section
def t268_4 : pT := [[none, none, some (.if_icmp .eq 0, 3, 1288, 0, 0), none, none, some (.iconst 0, 1, 0, 0, 0), some (.ireturn, 1, 0, 0, 3), some (.aload 1, 1, 0, 0, 0), some (.aload 0, 1, 0, 0, 0), some (.iload 3, 1, 0, 0, 0), some (.iconst 1, 1, 0, 0, 0), some (.iadd, 1, 0, 0, 0), some (.faload, 1, 0, 0, 0), some (.invokestatic 1, 3, 151, 2, 11), none, none],
  [some (.aload 2, 1, 0, 0, 0), some (.aload 0, 1, 0, 0, 0), some (.iload 3, 1, 0, 0, 0), some (.iconst 1, 1, 0, 0, 0), some (.iadd, 1, 0, 0, 0), some (.faload, 1, 0, 0, 0), some (.invokestatic 1, 3, 235, 2, 12), none, none, some (.if_icmp .eq 0, 3, 1288, 0, 0), none, none, some (.iconst 0, 1, 0, 0, 0), some (.ireturn, 1, 0, 0, 3), some (.aload 1, 1, 0, 0, 0), some (.aload 0, 1, 0, 0, 0)],
  [some (.iload 3, 1, 0, 0, 0), some (.iconst 1, 1, 0, 0, 0), some (.iadd, 1, 0, 0, 0), some (.faload, 1, 0, 0, 0), some (.ifCond .eq 0, 3, 811, 0, 0), none, none, some (.iconst 1, 1, 0, 0, 0), some (.goto 0, 3, 812, 0, 0), none, none, some (.iconst 0, 1, 0, 0, 0), some (.invokestatic 2, 3, 152, 2, 11), none, none, some (.aload 2, 1, 0, 0, 0)],
  [some (.aload 0, 1, 0, 0, 0), some (.iload 3, 1, 0, 0, 0), some (.iconst 1, 1, 0, 0, 0), some (.iadd, 1, 0, 0, 0), some (.faload, 1, 0, 0, 0), some (.ifCond .eq 0, 3, 828, 0, 0), none, none, some (.iconst 1, 1, 0, 0, 0), some (.goto 0, 3, 829, 0, 0), none, none, some (.iconst 0, 1, 0, 0, 0), some (.invokestatic 2, 3, 236, 2, 12), none, none],
  [some (.lcmp, 1, 0, 0, 0), some (.ifCond .eq 0, 3, 1288, 0, 0), none, none, some (.iconst 0, 1, 0, 0, 0), some (.ireturn, 1, 0, 0, 3), some (.aload 1, 1, 0, 0, 0), some (.aload 0, 1, 0, 0, 0), some (.iload 3, 1, 0, 0, 0), some (.iconst 1, 1, 0, 0, 0), some (.iadd, 1, 0, 0, 0), some (.faload, 1, 0, 0, 0), some (.aload 0, 1, 0, 0, 0), some (.iload 3, 1, 0, 0, 0), some (.iconst 2, 1, 0, 0, 0), some (.iadd, 1, 0, 0, 0)],
  [some (.faload, 1, 0, 0, 0), some (.invokestatic 1, 3, 153, 3, 11), none, none, some (.aload 2, 1, 0, 0, 0), some (.aload 0, 1, 0, 0, 0), some (.iload 3, 1, 0, 0, 0), some (.iconst 1, 1, 0, 0, 0), some (.iadd, 1, 0, 0, 0), some (.faload, 1, 0, 0, 0), some (.aload 0, 1, 0, 0, 0), some (.iload 3, 1, 0, 0, 0), some (.iconst 2, 1, 0, 0, 0), some (.iadd, 1, 0, 0, 0), some (.faload, 1, 0, 0, 0), some (.invokestatic 1, 3, 237, 3, 12)],
  [none, none, some (.if_icmp .eq 0, 3, 1288, 0, 0), none, none, some (.iconst 0, 1, 0, 0, 0), some (.ireturn, 1, 0, 0, 3), some (.aload 1, 1, 0, 0, 0), some (.aload 0, 1, 0, 0, 0), some (.iload 3, 1, 0, 0, 0), some (.iconst 1, 1, 0, 0, 0), some (.iadd, 1, 0, 0, 0), some (.faload, 1, 0, 0, 0), some (.aload 0, 1, 0, 0, 0), some (.iload 3, 1, 0, 0, 0), some (.iconst 2, 1, 0, 0, 0)],
  [some (.iadd, 1, 0, 0, 0), some (.faload, 1, 0, 0, 0), some (.invokestatic 2, 3, 154, 3, 11), none, none, some (.aload 2, 1, 0, 0, 0), some (.aload 0, 1, 0, 0, 0), some (.iload 3, 1, 0, 0, 0), some (.iconst 1, 1, 0, 0, 0), some (.iadd, 1, 0, 0, 0), some (.faload, 1, 0, 0, 0), some (.aload 0, 1, 0, 0, 0), some (.iload 3, 1, 0, 0, 0), some (.iconst 2, 1, 0, 0, 0), some (.iadd, 1, 0, 0, 0), some (.faload, 1, 0, 0, 0)],
  [some (.invokestatic 2, 3, 238, 3, 12), none, none, some (.lcmp, 1, 0, 0, 0), some (.ifCond .eq 0, 3, 1288, 0, 0), none, none, some (.iconst 0, 1, 0, 0, 0), some (.ireturn, 1, 0, 0, 3), some (.aload 1, 1, 0, 0, 0), some (.aload 0, 1, 0, 0, 0), some (.iload 3, 1, 0, 0, 0), some (.iconst 1, 1, 0, 0, 0), some (.iadd, 1, 0, 0, 0), some (.faload, 1, 0, 0, 0), some (.aload 0, 1, 0, 0, 0)],
  [some (.iload 3, 1, 0, 0, 0), some (.iconst 2, 1, 0, 0, 0), some (.iadd, 1, 0, 0, 0), some (.faload, 1, 0, 0, 0), some (.aload 0, 1, 0, 0, 0), some (.iload 3, 1, 0, 0, 0), some (.iconst 3, 1, 0, 0, 0), some (.iadd, 1, 0, 0, 0), some (.faload, 1, 0, 0, 0), some (.aload 0, 1, 0, 0, 0), some (.iload 3, 1, 0, 0, 0), some (.iconst 4, 1, 0, 0, 0), some (.iadd, 1, 0, 0, 0), some (.faload, 1, 0, 0, 0), some (.invokestatic 1, 3, 155, 5, 11), none],
  [none, some (.aload 2, 1, 0, 0, 0), some (.aload 0, 1, 0, 0, 0), some (.iload 3, 1, 0, 0, 0), some (.iconst 1, 1, 0, 0, 0), some (.iadd, 1, 0, 0, 0), some (.faload, 1, 0, 0, 0), some (.aload 0, 1, 0, 0, 0), some (.iload 3, 1, 0, 0, 0), some (.iconst 2, 1, 0, 0, 0), some (.iadd, 1, 0, 0, 0), some (.faload, 1, 0, 0, 0), some (.aload 0, 1, 0, 0, 0), some (.iload 3, 1, 0, 0, 0), some (.iconst 3, 1, 0, 0, 0), some (.iadd, 1, 0, 0, 0)],
  [some (.faload, 1, 0, 0, 0), some (.aload 0, 1, 0, 0, 0), some (.iload 3, 1, 0, 0, 0), some (.iconst 4, 1, 0, 0, 0), some (.iadd, 1, 0, 0, 0), some (.faload, 1, 0, 0, 0), some (.invokestatic 1, 3, 241, 5, 12), none, none, some (.if_icmp .eq 0, 3, 1288, 0, 0), none, none, some (.iconst 0, 1, 0, 0, 0), some (.ireturn, 1, 0, 0, 3), some (.aload 1, 1, 0, 0, 0), some (.aload 0, 1, 0, 0, 0)]]
set_option maxRecDepth 100000 in
theorem k268_4 : pchk 13 3 cL_law 768 t268_4 = true := by decide +kernel
end
section
def t268_5 : pT := [[some (.iload 3, 1, 0, 0, 0), some (.iconst 1, 1, 0, 0, 0), some (.iadd, 1, 0, 0, 0), some (.faload, 1, 0, 0, 0), some (.aload 0, 1, 0, 0, 0), some (.iload 3, 1, 0, 0, 0), some (.iconst 2, 1, 0, 0, 0), some (.iadd, 1, 0, 0, 0), some (.faload, 1, 0, 0, 0), some (.aload 0, 1, 0, 0, 0), some (.iload 3, 1, 0, 0, 0), some (.iconst 3, 1, 0, 0, 0), some (.iadd, 1, 0, 0, 0), some (.faload, 1, 0, 0, 0), some (.invokestatic 1, 3, 156, 4, 11), none],
  [none, some (.aload 2, 1, 0, 0, 0), some (.aload 0, 1, 0, 0, 0), some (.iload 3, 1, 0, 0, 0), some (.iconst 1, 1, 0, 0, 0), some (.iadd, 1, 0, 0, 0), some (.faload, 1, 0, 0, 0), some (.aload 0, 1, 0, 0, 0), some (.iload 3, 1, 0, 0, 0), some (.iconst 2, 1, 0, 0, 0), some (.iadd, 1, 0, 0, 0), some (.faload, 1, 0, 0, 0), some (.aload 0, 1, 0, 0, 0), some (.iload 3, 1, 0, 0, 0), some (.iconst 3, 1, 0, 0, 0), some (.iadd, 1, 0, 0, 0)],
  [some (.faload, 1, 0, 0, 0), some (.invokestatic 1, 3, 242, 4, 12), none, none, some (.if_icmp .eq 0, 3, 1288, 0, 0), none, none, some (.iconst 0, 1, 0, 0, 0), some (.ireturn, 1, 0, 0, 3), some (.aload 1, 1, 0, 0, 0), some (.aload 0, 1, 0, 0, 0), some (.iload 3, 1, 0, 0, 0), some (.iconst 1, 1, 0, 0, 0), some (.iadd, 1, 0, 0, 0), some (.faload, 1, 0, 0, 0), some (.aload 0, 1, 0, 0, 0)],
  [some (.iload 3, 1, 0, 0, 0), some (.iconst 2, 1, 0, 0, 0), some (.iadd, 1, 0, 0, 0), some (.faload, 1, 0, 0, 0), some (.invokestatic 1, 3, 157, 3, 11), none, none, some (.aload 2, 1, 0, 0, 0), some (.aload 0, 1, 0, 0, 0), some (.iload 3, 1, 0, 0, 0), some (.iconst 1, 1, 0, 0, 0), some (.iadd, 1, 0, 0, 0), some (.faload, 1, 0, 0, 0), some (.aload 0, 1, 0, 0, 0), some (.iload 3, 1, 0, 0, 0), some (.iconst 2, 1, 0, 0, 0)],
  [some (.iadd, 1, 0, 0, 0), some (.faload, 1, 0, 0, 0), some (.invokestatic 1, 3, 257, 3, 12), none, none, some (.if_icmp .eq 0, 3, 1288, 0, 0), none, none, some (.iconst 0, 1, 0, 0, 0), some (.ireturn, 1, 0, 0, 3), some (.aload 1, 1, 0, 0, 0), some (.aload 0, 1, 0, 0, 0), some (.iload 3, 1, 0, 0, 0), some (.iconst 1, 1, 0, 0, 0), some (.iadd, 1, 0, 0, 0), some (.faload, 1, 0, 0, 0)],
  [some (.aload 0, 1, 0, 0, 0), some (.iload 3, 1, 0, 0, 0), some (.iconst 2, 1, 0, 0, 0), some (.iadd, 1, 0, 0, 0), some (.faload, 1, 0, 0, 0), some (.invokestatic 1, 3, 158, 3, 11), none, none, some (.aload 2, 1, 0, 0, 0), some (.aload 0, 1, 0, 0, 0), some (.iload 3, 1, 0, 0, 0), some (.iconst 1, 1, 0, 0, 0), some (.iadd, 1, 0, 0, 0), some (.faload, 1, 0, 0, 0), some (.aload 0, 1, 0, 0, 0), some (.iload 3, 1, 0, 0, 0)],
  [some (.iconst 2, 1, 0, 0, 0), some (.iadd, 1, 0, 0, 0), some (.faload, 1, 0, 0, 0), some (.invokestatic 1, 3, 252, 3, 12), none, none, some (.if_icmp .eq 0, 3, 1288, 0, 0), none, none, some (.iconst 0, 1, 0, 0, 0), some (.ireturn, 1, 0, 0, 3), some (.aload 1, 1, 0, 0, 0), some (.aload 0, 1, 0, 0, 0), some (.iload 3, 1, 0, 0, 0), some (.iconst 1, 1, 0, 0, 0), some (.iadd, 1, 0, 0, 0)],
  [some (.faload, 1, 0, 0, 0), some (.aload 0, 1, 0, 0, 0), some (.iload 3, 1, 0, 0, 0), some (.iconst 2, 1, 0, 0, 0), some (.iadd, 1, 0, 0, 0), some (.faload, 1, 0, 0, 0), some (.aload 0, 1, 0, 0, 0), some (.iload 3, 1, 0, 0, 0), some (.iconst 3, 1, 0, 0, 0), some (.iadd, 1, 0, 0, 0), some (.faload, 1, 0, 0, 0), some (.invokestatic 1, 3, 159, 4, 11), none, none, some (.aload 2, 1, 0, 0, 0), some (.aload 0, 1, 0, 0, 0)],
  [some (.iload 3, 1, 0, 0, 0), some (.iconst 1, 1, 0, 0, 0), some (.iadd, 1, 0, 0, 0), some (.faload, 1, 0, 0, 0), some (.aload 0, 1, 0, 0, 0), some (.iload 3, 1, 0, 0, 0), some (.iconst 2, 1, 0, 0, 0), some (.iadd, 1, 0, 0, 0), some (.faload, 1, 0, 0, 0), some (.aload 0, 1, 0, 0, 0), some (.iload 3, 1, 0, 0, 0), some (.iconst 3, 1, 0, 0, 0), some (.iadd, 1, 0, 0, 0), some (.faload, 1, 0, 0, 0), some (.invokestatic 1, 3, 253, 4, 12), none],
  [none, some (.if_icmp .eq 0, 3, 1288, 0, 0), none, none, some (.iconst 0, 1, 0, 0, 0), some (.ireturn, 1, 0, 0, 3), some (.aload 1, 1, 0, 0, 0), some (.aload 0, 1, 0, 0, 0), some (.iload 3, 1, 0, 0, 0), some (.iconst 1, 1, 0, 0, 0), some (.iadd, 1, 0, 0, 0), some (.faload, 1, 0, 0, 0), some (.aload 0, 1, 0, 0, 0), some (.iload 3, 1, 0, 0, 0), some (.iconst 2, 1, 0, 0, 0), some (.iadd, 1, 0, 0, 0)],
  [some (.faload, 1, 0, 0, 0), some (.invokestatic 1, 3, 160, 3, 11), none, none, some (.aload 2, 1, 0, 0, 0), some (.aload 0, 1, 0, 0, 0), some (.iload 3, 1, 0, 0, 0), some (.iconst 1, 1, 0, 0, 0), some (.iadd, 1, 0, 0, 0), some (.faload, 1, 0, 0, 0), some (.aload 0, 1, 0, 0, 0), some (.iload 3, 1, 0, 0, 0), some (.iconst 2, 1, 0, 0, 0), some (.iadd, 1, 0, 0, 0), some (.faload, 1, 0, 0, 0), some (.invokestatic 1, 3, 259, 3, 12)],
  [none, none, some (.if_icmp .eq 0, 3, 1288, 0, 0), none, none, some (.iconst 0, 1, 0, 0, 0), some (.ireturn, 1, 0, 0, 3), some (.aload 1, 1, 0, 0, 0), some (.aload 0, 1, 0, 0, 0), some (.iload 3, 1, 0, 0, 0), some (.iconst 1, 1, 0, 0, 0), some (.iadd, 1, 0, 0, 0), some (.faload, 1, 0, 0, 0), some (.aload 0, 1, 0, 0, 0), some (.iload 3, 1, 0, 0, 0), some (.iconst 2, 1, 0, 0, 0)]]
set_option maxRecDepth 100000 in
theorem k268_5 : pchk 13 3 cL_law 960 t268_5 = true := by decide +kernel
end
section
def t268_6 : pT := [[some (.iadd, 1, 0, 0, 0), some (.faload, 1, 0, 0, 0), some (.invokestatic 1, 3, 161, 3, 11), none, none, some (.aload 2, 1, 0, 0, 0), some (.aload 0, 1, 0, 0, 0), some (.iload 3, 1, 0, 0, 0), some (.iconst 1, 1, 0, 0, 0), some (.iadd, 1, 0, 0, 0), some (.faload, 1, 0, 0, 0), some (.aload 0, 1, 0, 0, 0), some (.iload 3, 1, 0, 0, 0), some (.iconst 2, 1, 0, 0, 0), some (.iadd, 1, 0, 0, 0), some (.faload, 1, 0, 0, 0)],
  [some (.invokestatic 1, 3, 260, 3, 12), none, none, some (.if_icmp .eq 0, 3, 1288, 0, 0), none, none, some (.iconst 0, 1, 0, 0, 0), some (.ireturn, 1, 0, 0, 3), some (.aload 1, 1, 0, 0, 0), some (.invokestatic 1, 3, 162, 1, 11), none, none, some (.aload 2, 1, 0, 0, 0), some (.invokestatic 1, 3, 262, 1, 12), none, none],
  [some (.if_icmp .eq 0, 3, 1288, 0, 0), none, none, some (.iconst 0, 1, 0, 0, 0), some (.ireturn, 1, 0, 0, 3), some (.aload 1, 1, 0, 0, 0), some (.aload 0, 1, 0, 0, 0), some (.iload 3, 1, 0, 0, 0), some (.iconst 1, 1, 0, 0, 0), some (.iadd, 1, 0, 0, 0), some (.faload, 1, 0, 0, 0), some (.aload 0, 1, 0, 0, 0), some (.iload 3, 1, 0, 0, 0), some (.iconst 2, 1, 0, 0, 0), some (.iadd, 1, 0, 0, 0), some (.faload, 1, 0, 0, 0)],
  [some (.invokestatic 1, 3, 163, 3, 11), none, none, some (.aload 2, 1, 0, 0, 0), some (.aload 0, 1, 0, 0, 0), some (.iload 3, 1, 0, 0, 0), some (.iconst 1, 1, 0, 0, 0), some (.iadd, 1, 0, 0, 0), some (.faload, 1, 0, 0, 0), some (.aload 0, 1, 0, 0, 0), some (.iload 3, 1, 0, 0, 0), some (.iconst 2, 1, 0, 0, 0), some (.iadd, 1, 0, 0, 0), some (.faload, 1, 0, 0, 0), some (.invokestatic 1, 3, 264, 3, 12), none],
  [none, some (.if_icmp .eq 0, 3, 1288, 0, 0), none, none, some (.iconst 0, 1, 0, 0, 0), some (.ireturn, 1, 0, 0, 3), some (.aload 1, 1, 0, 0, 0), some (.aload 0, 1, 0, 0, 0), some (.iload 3, 1, 0, 0, 0), some (.iconst 1, 1, 0, 0, 0), some (.iadd, 1, 0, 0, 0), some (.faload, 1, 0, 0, 0), some (.aload 0, 1, 0, 0, 0), some (.iload 3, 1, 0, 0, 0), some (.iconst 2, 1, 0, 0, 0), some (.iadd, 1, 0, 0, 0)],
  [some (.faload, 1, 0, 0, 0), some (.aload 0, 1, 0, 0, 0), some (.iload 3, 1, 0, 0, 0), some (.iconst 3, 1, 0, 0, 0), some (.iadd, 1, 0, 0, 0), some (.faload, 1, 0, 0, 0), some (.invokestatic 1, 3, 164, 4, 11), none, none, some (.aload 2, 1, 0, 0, 0), some (.aload 0, 1, 0, 0, 0), some (.iload 3, 1, 0, 0, 0), some (.iconst 1, 1, 0, 0, 0), some (.iadd, 1, 0, 0, 0), some (.faload, 1, 0, 0, 0), some (.aload 0, 1, 0, 0, 0)],
  [some (.iload 3, 1, 0, 0, 0), some (.iconst 2, 1, 0, 0, 0), some (.iadd, 1, 0, 0, 0), some (.faload, 1, 0, 0, 0), some (.aload 0, 1, 0, 0, 0), some (.iload 3, 1, 0, 0, 0), some (.iconst 3, 1, 0, 0, 0), some (.iadd, 1, 0, 0, 0), some (.faload, 1, 0, 0, 0), some (.invokestatic 1, 3, 265, 4, 12), none, none, some (.if_icmp .eq 0, 3, 1288, 0, 0), none, none, some (.iconst 0, 1, 0, 0, 0)],
  [some (.ireturn, 1, 0, 0, 3), some (.aload 1, 1, 0, 0, 0), some (.aload 0, 1, 0, 0, 0), some (.iload 3, 1, 0, 0, 0), some (.iconst 1, 1, 0, 0, 0), some (.iadd, 1, 0, 0, 0), some (.faload, 1, 0, 0, 0), some (.invokestatic 1, 3, 165, 2, 11), none, none, some (.aload 2, 1, 0, 0, 0), some (.aload 0, 1, 0, 0, 0), some (.iload 3, 1, 0, 0, 0), some (.iconst 1, 1, 0, 0, 0), some (.iadd, 1, 0, 0, 0), some (.faload, 1, 0, 0, 0)],
  [some (.invokestatic 1, 3, 266, 2, 12), none, none, some (.if_icmp .eq 0, 3, 1288, 0, 0), none, none, some (.iconst 0, 1, 0, 0, 0), some (.ireturn, 1, 0, 0, 3), some (.iinc 3 6, 3, 0, 0, 0), none, none, some (.goto 0, 3, 18, 0, 0), none, none, some (.iconst 1, 1, 0, 0, 0), some (.ireturn, 1, 0, 0, 3)]]
set_option maxRecDepth 100000 in
theorem k268_6 : pchk 13 3 cL_law 1152 t268_6 = true := by decide +kernel
end
section
/-- a method: its code, how many locals, what it answers (0 none, 1 an int, 2 a long) -/
abbrev pM : Type := pT × Nat × Nat
theorem pchk_app {K rt : Nat} {cc : ByteArray} : ∀ {a b : pT} {pc pc2 : Nat}, pchk K rt cc pc a = true → pchk K rt cc pc2 b = true → pc2 = pc + 16 * a.length → pchk K rt cc pc (a ++ b) = true := by
  intro a
  induction a with
  | nil => intro b pc pc2 _ h e; subst e; exact h
  | cons r a ih =>
    intro b pc pc2 h1 h2 e
    unfold pchk at h1
    rw [Bool.and_eq_true] at h1
    show pchk K rt cc pc (r :: (a ++ b)) = true
    unfold pchk
    rw [Bool.and_eq_true]
    exact ⟨h1.1, ih h1.2 h2 (by rw [e, List.length_cons]; omega)⟩
def t268 : pT := t268_0 ++ (t268_1 ++ (t268_2 ++ (t268_3 ++ (t268_4 ++ (t268_5 ++ (t268_6))))))
theorem k268 : pchk 13 3 cL_law 0 t268 = true := (pchk_app k268_0 (pchk_app k268_1 (pchk_app k268_2 (pchk_app k268_3 (pchk_app k268_4 (pchk_app k268_5 k268_6 rfl) rfl) rfl) rfl) rfl) rfl)
def pmtT : List (List pM) := [[(t1, 2, 0), (t2, 2, 1), (t3, 3, 1), (t4, 2, 1), (t5, 4, 3), (t6, 2, 0), (t7, 2, 0), (t8, 4, 1), (t9, 7, 1), (t10, 3, 0), (t11, 2, 0), (t12, 2, 1), (t13, 6, 1), (t14, 5, 1), (t15, 2, 3), (t16, 3, 3)],
  [(t17, 5, 1), (t18, 3, 0), (t19, 1, 0), (t20, 5, 0), (t21, 7, 0), (t22, 9, 1), (t23, 10, 0), (t24, 2, 1), (t25, 4, 1), (t26, 4, 1), (t27, 2, 1), (t28, 5, 1), (t29, 5, 3), (t30, 8, 3), (t31, 1, 0), (t32, 1, 0)],
  [(t33, 5, 1), (t34, 6, 1), (t35, 3, 0), (t36, 5, 1), (t37, 3, 0), (t38, 3, 1), (t39, 5, 0), (t40, 6, 0), (t41, 7, 1), (t42, 3, 0), (t43, 2, 0), (t44, 3, 0), (t45, 4, 1), (t46, 2, 1), (t47, 6, 1), (t48, 3, 1)],
  [(t49, 3, 1), (t50, 3, 1), (t51, 8, 0), (t52, 7, 1), (t53, 2, 1), (t54, 6, 0), (t55, 3, 3), (t56, 1, 0), (t57, 1, 0), (t58, 2, 0), (t59, 4, 1), (t60, 5, 0), (t61, 4, 0), (t62, 2, 1), (t63, 2, 1), (t64, 5, 1)],
  [(t65, 1, 1), (t66, 1, 1), (t67, 1, 1), (t68, 2, 0), (t69, 2, 3), (t70, 2, 3), (t71, 1, 3), (t72, 4, 3), (t73, 3, 3), (t74, 3, 3), (t75, 3, 3), (t76, 1, 3), (t77, 2, 3), (t78, 2, 3), (t79, 3, 3), (t80, 3, 3)],
  [(t81, 1, 3), (t82, 2, 0), (t83, 2, 0), (t84, 4, 1), (t85, 5, 1), (t86, 4, 1), (t87, 7, 0), (t88, 4, 3), (t89, 6, 0), (t90, 7, 3), (t91, 7, 1), (t92, 5, 1), (t93, 5, 3), (t94, 6, 1), (t95, 5, 1), (t96, 6, 1)],
  [(t97, 1, 0), (t98, 3, 0), (t99, 2, 1), (t100, 1, 0), (t101, 2, 0), (t102, 1, 0), (t103, 1, 0), (t104, 1, 3), (t105, 1, 3), (t106, 1, 3), (t107, 1, 0), (t108, 4, 1), (t109, 6, 1), (t110, 9, 0), (t111, 11, 2), (t112, 3, 1)],
  [(t113, 5, 0), (t114, 5, 0), (t115, 8, 0), (t116, 14, 2), (t117, 1, 0), (t118, 6, 3), (t119, 2, 3), (t120, 2, 3), (t121, 2, 3), (t122, 1, 3), (t123, 1, 3), (t124, 1, 3), (t125, 1, 3), (t126, 1, 3), (t127, 1, 3), (t128, 6, 1)],
  [(t129, 2, 1), (t130, 2, 1), (t131, 2, 1), (t132, 2, 1), (t133, 3, 1), (t134, 2, 1), (t135, 2, 1), (t136, 2, 1), (t137, 3, 1), (t138, 3, 1), (t139, 4, 1), (t140, 2, 1), (t141, 3, 1), (t142, 3, 1), (t143, 4, 1), (t144, 4, 1)],
  [(t145, 2, 1), (t146, 2, 1), (t147, 2, 1), (t148, 2, 1), (t149, 5, 1), (t150, 2, 3), (t151, 2, 1), (t152, 2, 2), (t153, 3, 1), (t154, 3, 2), (t155, 5, 1), (t156, 5, 1), (t157, 3, 1), (t158, 3, 1), (t159, 4, 1), (t160, 3, 1)],
  [(t161, 3, 1), (t162, 1, 1), (t163, 3, 1), (t164, 4, 1), (t165, 2, 1), (t166, 6, 3), (t167, 2, 3), (t168, 2, 1), (t169, 1, 3), (t170, 1, 3), (t171, 2, 0), (t172, 4, 3), (t173, 3, 3), (t174, 3, 3), (t175, 1, 0), (t176, 4, 2)],
  [(t177, 2, 1), (t178, 3, 3), (t179, 1, 3), (t180, 1, 3), (t181, 2, 3), (t182, 3, 3), (t183, 1, 3), (t184, 2, 3), (t185, 1, 0), (t186, 6, 1), (t187, 3, 0), (t188, 2, 1), (t189, 2, 1), (t190, 2, 1), (t191, 2, 1), (t192, 2, 1)],
  [(t193, 3, 3), (t194, 6, 1), (t195, 3, 3), (t196, 8, 0), (t197, 2, 0), (t198, 2, 3), (t199, 2, 3), (t200, 2, 1), (t201, 5, 1), (t202, 6, 3), (t203, 10, 1), (t204, 2, 1), (t205, 2, 1), (t206, 2, 1), (t207, 2, 1), (t208, 6, 1)],
  [(t209, 5, 1), (t210, 1, 3), (t211, 3, 1), (t212, 2, 3), (t213, 3, 3), (t214, 3, 1), (t215, 4, 1), (t216, 5, 1), (t217, 1, 3), (t218, 5, 1), (t219, 3, 1), (t220, 6, 1), (t221, 7, 3), (t222, 4, 1), (t223, 3, 3), (t224, 6, 0)],
  [(t225, 4, 1), (t226, 2, 1), (t227, 3, 1), (t228, 2, 3), (t229, 2, 1), (t230, 10, 2), (t231, 13, 0), (t232, 7, 0), (t233, 1, 3), (t234, 7, 1), (t235, 2, 1), (t236, 2, 2), (t237, 8, 1), (t238, 13, 2), (t239, 1, 3), (t240, 1, 3)],
  [(t241, 5, 1), (t242, 6, 1), (t243, 5, 1), (t244, 1, 1), (t245, 1, 1), (t246, 1, 1), (t247, 2, 1), (t248, 2, 1), (t249, 2, 1), (t250, 7, 1), (t251, 2, 3), (t252, 5, 1), (t253, 4, 1), (t254, 2, 3), (t255, 5, 0), (t256, 1, 3)],
  [(t257, 3, 1), (t258, 2, 1), (t259, 5, 1), (t260, 5, 1), (t261, 6, 1), (t262, 6, 1), (t263, 1, 3), (t264, 6, 1), (t265, 7, 1), (t266, 2, 1), (t267, 4, 0), (t268, 4, 3)]]
def pMT (M : Nat) : Option pM := bif Nat.ble 1 M then pn2 pmtT (M - 1) else none
end
section
def ycT : List (List (Nat × Int)) := [[(11, 11), (9, 6), (102, 800), (6, 12), (101, 6), (100, 6), (100, 6), (100, 6), (100, 7), (100, 7), (100, 7), (100, 7), (7, 5), (6, 12), (101, 6), (100, 6)], [(100, 6), (100, 6), (100, 7), (100, 7), (100, 7), (100, 7), (8, 11), (100, 7), (100, 7), (100, 7), (100, 7), (100, 7), (100, 7), (100, 7), (103, 8), (100, 7)], [(100, 7), (100, 7), (100, 7), (100, 7), (100, 7), (100, 7), (100, 7), (1, 5), (100, 7), (100, 7), (100, 7), (5, 10), (103, 4), (100, 100), (100, 100), (100, 100)], [(100, 100), (100, 6), (100, 100), (103, 6), (100, 4), (100, 4), (100, 4), (100, 4), (100, 4), (100, 4), (103, 6), (100, 4), (100, 4), (100, 4), (100, 4), (100, 4)], [(100, 4), (103, 6), (100, 4), (100, 4), (100, 4), (100, 4), (100, 4), (100, 4), (100, 6), (10, 16), (100, 10), (100, 10), (100, 4), (100, 4), (100, 4), (100, 4)], [(3, 14), (100, 16), (100, 16), (100, 16), (100, 16), (100, 20), (100, 20), (100, 20), (100, 16), (100, 16), (100, 16), (0, 7), (2, 16), (100, 1015), (100, 1015), (100, 1015)], [(100, 1015), (100, 1015), (100, 1015), (100, 1015), (100, 6), (100, 6), (100, 6), (4, 9), (100, 25), (100, 125), (100, 125), (100, 1625), (100, 40), (12, 74), (102, 800), (101, 6)], [(100, 6), (100, 6), (100, 6), (100, 7), (100, 7), (100, 7), (100, 7), (100, 6), (100, 6), (100, 6), (100, 7), (100, 7), (100, 7), (100, 7), (103, 24), (100, 7)], [(100, 7), (100, 7), (100, 7), (100, 7), (100, 7), (100, 7), (100, 7), (100, 7), (100, 7), (100, 7), (100, 7), (100, 7), (100, 7), (100, 7), (100, 7), (100, 7)], [(100, 7), (100, 7), (100, 7), (100, 7), (100, 7), (100, 7), (100, 7), (100, 7), (100, 7), (100, 7), (100, 7), (100, 400), (100, 100), (100, 6), (100, 24), (100, 6)], [(100, 10), (100, 10), (100, 4), (100, 4), (100, 4), (100, 16), (100, 16), (100, 16), (100, 16), (100, 20), (100, 20), (100, 20), (101, 818), (100, 100)]]
def ycR : List (List (List (Option Nat))) := [[[some 1, some 3, some 12, some 22, some 39, some 43, some 73, some 80, some 91, some 92, some 103], [some 2], [], [none, none, none, none, some 4, some 5, some 6, some 7, some 8, some 9, some 10, some 11], [], [], [], [], [], [], [], [], [some 1, some 13], [none, none, none, none, some 14, some 15, some 16, some 17, some 18, some 19, some 20, some 21], [], []], [[], [], [], [], [], [], [some 3, some 23, none, none, some 24, some 25, some 26, some 27, some 28, some 29, some 30], [], [], [], [], [], [], [], [], []], [[], [], [], [], [], [], [], [some 3, some 22, some 40, some 41, some 42], [], [], [], [some 3, some 39, some 44, some 49, some 50, some 51, some 58, some 65, some 72], [], [], [], []], [[], [], [], [], [], [], [], [], [], [], [], [], [], [], [], []], [[], [], [], [], [], [], [], [], [], [some 74, none, some 75, some 76, some 77, none, none, none, some 78, some 79], [], [], [], [], [], []], [[none, none, none, some 81, some 82, some 83, some 84, some 85, some 86, some 87, none, some 88, some 89, some 90], [], [], [], [], [], [], [], [], [], [], [some 3], [some 3, some 80, none, none, none, none, some 93, some 94, some 95, some 96, some 97, some 98, some 99, some 100, some 101, some 102], [], [], []], [[], [], [], [], [], [], [], [some 3, some 92, some 104, some 105, some 106, some 107, some 108], [], [], [], [], [], [some 110, none, none, none, none, none, none, none, none, none, none, none, none, none, none, none, none, none, none, some 111, some 112, some 113, some 114, some 115, some 116, some 117, some 118, some 119, some 120, some 121, some 122, some 123, some 124, some 125, none, some 126, some 151, some 152, some 153, some 154, some 155, some 156, some 157, none, none, none, some 158, some 159, none, none, none, some 160, some 161, some 162, some 163, some 164, none, none, none, none, none, none, none, some 165, some 166, some 167, some 168, some 169, some 170, some 171, some 172, none, none, some 173], [], []], [[], [], [], [], [], [], [], [], [], [], [], [], [], [], [], []], [[], [], [], [], [], [], [], [], [], [], [], [], [], [], [], []], [[], [], [], [], [], [], [], [], [], [], [], [], [], [], [], []], [[], [], [], [], [], [], [], [], [], [], [], [], [], []]]
/-- the layout behind both constructors -/
def Yc : pY := ((174, 13851), (fun i => (pn2 ycT i).getD (999, 0)), (fun i j => bif Nat.beq ((pn2 ycT i).getD (999, 0)).1 103 then (if (j : Int) < ((pn2 ycT i).getD (999, 0)).2 then some (i + 1 + j) else none) else (match pn2 ycR i with
  | some l => (pn l j).getD none
  | none => none)))
end
section
def pnx (Y : pY) (G : pG) (pc : Nat) (loc stk : List pV) : Option pO := some (.inl (pc, loc, stk, Y, G))
/-- one step of the pure machine -/
def pstep (Y : pY) (G : pG) (e : pE) (pc : Nat) (loc stk : List pV) : Option pO :=
  match e with
  | (o, len, a, b, c) => match o with
    | .iconst x => pnx Y G (pc + len) loc (pI x :: stk)
    | .ldc2_w _ => pnx Y G (pc + len) loc (pL c :: stk)
    | .ldc _ => pnx Y G (pc + len) loc (pR a :: stk)
    | .iload i => k_oi (pn loc i) none (fun x => pnx Y G (pc + len) loc (pI x :: stk))
    | .lload i => k_ol (pn loc i) none (fun x => pnx Y G (pc + len) loc (pL x :: stk))
    | .aload i => k_or (pn loc i) none (fun x => pnx Y G (pc + len) loc (pR x :: stk))
    | .istore i => k_i stk none (fun x st => bif Nat.blt i loc.length then pnx Y G (pc + len) (plst loc i (pI x)) st else none)
    | .lstore i => k_l stk none (fun x st => bif Nat.blt (i + 1) loc.length then pnx Y G (pc + len) (plst2 loc i (pL x)) st else none)
    | .astore i => k_r stk none (fun x st => bif Nat.blt i loc.length then pnx Y G (pc + len) (plst loc i (pR x)) st else none)
    | .iinc i k => k_oi (pn loc i) none (fun x => pnx Y G (pc + len) (plst loc i (pI (w32 (x + k)))) stk)
    | .iadd => k_ii stk none (fun x y st => pnx Y G (pc + len) loc (pI (w32 (x + y)) :: st))
    | .isub => k_ii stk none (fun x y st => pnx Y G (pc + len) loc (pI (w32 (x - y)) :: st))
    | .imul => k_ii stk none (fun x y st => pnx Y G (pc + len) loc (pI (w32 (x * y)) :: st))
    | .iand => k_ii stk none (fun x y st => pnx Y G (pc + len) loc (pI (pand x y) :: st))
    | .ior => k_ii stk none (fun x y st => pnx Y G (pc + len) loc (pI (por x y) :: st))
    | .ixor => k_ii stk none (fun x y st => pnx Y G (pc + len) loc (pI (pxor x y) :: st))
    | .ishl => k_ii stk none (fun x y st => pnx Y G (pc + len) loc (pI (pshl x y) :: st))
    | .ishr => k_ii stk none (fun x y st => pnx Y G (pc + len) loc (pI (pshr x y) :: st))
    | .iushr => k_ii stk none (fun x y st => pnx Y G (pc + len) loc (pI (push' x y) :: st))
    | .idiv => k_ii stk none (fun x y st => if y = 0 then none else pnx Y G (pc + len) loc (pI (pdiv x y) :: st))
    | .irem => k_ii stk none (fun x y st => if y = 0 then none else pnx Y G (pc + len) loc (pI (prem x y) :: st))
    | .ineg => k_i stk none (fun x st => pnx Y G (pc + len) loc (pI (w32 (-x)) :: st))
    | .ladd => k_ll stk none (fun x y st => pnx Y G (pc + len) loc (pL (w64 (x + y)) :: st))
    | .lsub => k_ll stk none (fun x y st => pnx Y G (pc + len) loc (pL (w64 (x - y)) :: st))
    | .lmul => k_ll stk none (fun x y st => pnx Y G (pc + len) loc (pL (w64 (x * y)) :: st))
    | .land => k_ll stk none (fun x y st => pnx Y G (pc + len) loc (pL (pland x y) :: st))
    | .lor => k_ll stk none (fun x y st => pnx Y G (pc + len) loc (pL (plor x y) :: st))
    | .ldiv => k_ll stk none (fun x y st => if y = 0 then none else pnx Y G (pc + len) loc (pL (pldiv x y) :: st))
    | .lrem => k_ll stk none (fun x y st => if y = 0 then none else pnx Y G (pc + len) loc (pL (plrem x y) :: st))
    | .lneg => k_l stk none (fun x st => pnx Y G (pc + len) loc (pL (w64 (-x)) :: st))
    | .lshl => k_li stk none (fun x y st => pnx Y G (pc + len) loc (pL (plshl x y) :: st))
    | .lshr => k_li stk none (fun x y st => pnx Y G (pc + len) loc (pL (plshr x y) :: st))
    | .lcmp => k_ll stk none (fun x y st => pnx Y G (pc + len) loc (pI (plcmp x y) :: st))
    | .i2l => k_i stk none (fun x st => pnx Y G (pc + len) loc (pL x :: st))
    | .l2i => k_l stk none (fun x st => pnx Y G (pc + len) loc (pI (w32 x) :: st))
    | .i2b => k_i stk none (fun x st => pnx Y G (pc + len) loc (pI (w8 x) :: st))
    | .dup => k_d stk none (fun v st => pnx Y G (pc + len) loc (v :: v :: st))
    | .dup2 => k_d2 stk none (fun v w st => pnx Y G (pc + len) loc (v :: w :: v :: w :: st))
    | .goto _ => pnx Y G a loc stk
    | .ifCond cc _ => k_i stk none (fun x st => bif pcc cc x 0 then pnx Y G a loc st else pnx Y G (pc + len) loc st)
    | .if_icmp cc _ => k_ii stk none (fun x y st => bif pcc cc x y then pnx Y G a loc st else pnx Y G (pc + len) loc st)
    | .tableswitch dflt lo hi offs => k_i stk none (fun x st => if x < lo ∨ hi < x then pnx Y G ((pc : Int) + dflt).toNat loc st else k_op (pn offs.toList (x - lo).toNat) none (fun off => pnx Y G ((pc : Int) + off).toNat loc st))
    | .lookupswitch dflt ps => k_i stk none (fun x st => pnx Y G ((pc : Int) + plks ps.toList dflt x).toNat loc st)
    | .getfield _ => k_r stk none (fun r st => bif Nat.beq (Y.2.1 r).1 b then (match c with
        | 1 => pnx Y G (pc + len) loc (pL (G r a) :: st)
        | 2 => k_op (Y.2.2 r a) none (fun q => pnx Y G (pc + len) loc (pR q :: st))
        | _ => pnx Y G (pc + len) loc (pI (G r a) :: st)) else none)
    | .putfield _ => match c with
        | 0 => k_ri stk none (fun r x st => bif Nat.beq (Y.2.1 r).1 b then pnx Y (pset G r a x) (pc + len) loc st else none)
        | 1 => k_rl stk none (fun r x st => bif Nat.beq (Y.2.1 r).1 b then pnx Y (pset G r a x) (pc + len) loc st else none)
        | 3 => k_ri stk none (fun r x st => bif Nat.beq (Y.2.1 r).1 b then (if x = 0 ∨ x = 1 then pnx Y (pset G r a x) (pc + len) loc st else none) else none)
        | _ => k_rr stk none (fun r q st => bif Nat.beq (Y.2.1 r).1 b && Nat.ble q 498 then pnx (prf Y r a q) G (pc + len) loc st else none)
    | .iaload => k_ri stk none (fun r i st => bif Nat.beq (Y.2.1 r).1 100 then (if 0 ≤ i ∧ i < (Y.2.1 r).2 then pnx Y G (pc + len) loc (pI (G r i.toNat) :: st) else none) else none)
    | .laload => k_ri stk none (fun r i st => bif Nat.beq (Y.2.1 r).1 101 then (if 0 ≤ i ∧ i < (Y.2.1 r).2 then pnx Y G (pc + len) loc (pL (G r i.toNat) :: st) else none) else none)
    | .baload => k_ri stk none (fun r i st => bif Nat.beq (Y.2.1 r).1 102 then (if 0 ≤ i ∧ i < (Y.2.1 r).2 then pnx Y G (pc + len) loc (pI (G r i.toNat) :: st) else none) else none)
    | .aaload => k_ri stk none (fun r i st => bif Nat.beq (Y.2.1 r).1 103 then (if 0 ≤ i ∧ i < (Y.2.1 r).2 then k_op (Y.2.2 r i.toNat) none (fun q => pnx Y G (pc + len) loc (pR q :: st)) else none) else none)
    | .iastore => k_rii stk none (fun r i x st => bif Nat.beq (Y.2.1 r).1 100 then (if 0 ≤ i ∧ i < (Y.2.1 r).2 then pnx Y (pset G r i.toNat x) (pc + len) loc st else none) else none)
    | .bastore => k_rii stk none (fun r i x st => bif Nat.beq (Y.2.1 r).1 102 then (if 0 ≤ i ∧ i < (Y.2.1 r).2 then pnx Y (pset G r i.toNat (w8 x)) (pc + len) loc st else none) else none)
    | .lastore => k_ril stk none (fun r i x st => bif Nat.beq (Y.2.1 r).1 101 then (if 0 ≤ i ∧ i < (Y.2.1 r).2 then pnx Y (pset G r i.toNat x) (pc + len) loc st else none) else none)
    | .arraylength => k_r stk none (fun r st => bif Nat.ble 100 (Y.2.1 r).1 && Nat.ble (Y.2.1 r).1 103 then pnx Y G (pc + len) loc (pI (Y.2.1 r).2 :: st) else none)
    | .invokestatic _ => k_op (ppop b stk []) none (fun q => bif Nat.ble (pcat q.2) 8 && (c == -1 || precv Y c q.1) then some (.inr (.inl (a, q.1, q.2))) else none)
    | .pop => k_r stk none (fun _ st => bif Nat.ble (pcat st) 8 then pnx Y G (pc + len) loc st else none)
    | .f2d => k_ii stk none (fun x y st => bif Nat.ble (pcat st) 8 then pnx Y G (pc + len) loc (pI (pmx x y) :: st) else none)
    | .f2i => k_ii stk none (fun x y st => bif Nat.ble (pcat st) 8 then pnx Y G (pc + len) loc (pI (pmn x y) :: st) else none)
    | .f2l => k_i stk none (fun x st => bif Nat.ble (pcat st) 8 then pnx Y G (pc + len) loc (pI (if 0 < x then x else w32 (-x)) :: st) else none)
    | .d2f => k_l stk none (fun x st => bif Nat.ble (pcat st) 8 then pnx Y G (pc + len) loc (pL (if 0 < x then x else w64 (-x)) :: st) else none)
    | .d2i => k_ll stk none (fun x y st => bif Nat.ble (pcat st) 8 then pnx Y G (pc + len) loc (pL (pmx x y) :: st) else none)
    | .d2l => k_cp stk none (fun a0 sp a1 dp n st => bif Nat.ble (pcat st) 8 then (bif (Nat.beq (Y.2.1 a0).1 100 && Nat.beq (Y.2.1 a1).1 100) || (Nat.beq (Y.2.1 a0).1 101 && Nat.beq (Y.2.1 a1).1 101) then (if 0 ≤ sp ∧ 0 ≤ dp ∧ 0 ≤ n ∧ sp + n ≤ (Y.2.1 a0).2 ∧ dp + n ≤ (Y.2.1 a1).2 then pnx Y (pcpy G a0 sp.toNat a1 dp.toNat n.toNat) (pc + len) loc st else none) else none) else none)
    | .faload => k_ri stk none (fun r i st => bif Nat.beq r 499 then (if 0 ≤ i ∧ i < G 498 0 then pnx Y G (pc + len) loc (pI (G 499 i.toNat) :: st) else none) else none)
    | .fastore => k_r stk none (fun r st => bif Nat.beq r 499 then pnx Y G (pc + len) loc (pI (G 498 0) :: st) else none)
    | .daload => k_r stk none (fun r st => bif Nat.ble (pcat st) 8 && Nat.ble 500 r then k_op (pn pstr (r - 500)) none (fun s => pnx Y G (pc + len) loc (pI s.length :: st)) else none)
    | .dastore => k_ri stk none (fun r i st => bif Nat.ble (pcat st) 8 && Nat.ble 500 r then k_op (pn pstr (r - 500)) none (fun s => if 0 ≤ i then k_op (pn s i.toNat) none (fun ch => pnx Y G (pc + len) loc (pI ch :: st)) else none) else none)
    | .new _ => bif Nat.ble Y.1.1 497 then pnx (pnw Y a b) (pz G Y.1.1) (pc + len) loc (pR Y.1.1 :: stk) else none
    | .newarray _ => k_i stk none (fun x st => if Y.1.1 ≤ 497 ∧ 0 ≤ x ∧ x ≤ 100000 then pnx (pnw Y a x) (pz G Y.1.1) (pc + len) loc (pR Y.1.1 :: st) else none)
    | .multianewarray _ _ => k_ii stk none (fun x y st => if (Y.1.1 : Int) + x ≤ 497 ∧ 0 ≤ x ∧ x ≤ 100000 ∧ 0 ≤ y ∧ y ≤ 100000 then pnx (pmn2 Y x.toNat y.toNat) (pz2 G Y.1.1 x.toNat) (pc + len) loc (pR Y.1.1 :: st) else none)
    | .ireturn => match stk with
      | [.inl x] => bif c == 3 then (if x = 0 ∨ x = 1 then some (.inr (.inr (some (pI x)))) else none) else some (.inr (.inr (some (pI x))))
      | _ => none
    | .lreturn => match stk with
      | [.inr (.inl x)] => some (.inr (.inr (some (pL x))))
      | _ => none
    | .return_ => match stk with
      | [] => some (.inr (.inr none))
      | _ => none
    | _ => none
/-- depth of calls left, steps left, method, pc, locals, stack, layout, memory -/
def pexec (MT : Nat → Option pM) : Nat → Nat → Nat → Nat → List pV → List pV → pY → pG → Option (Option pV × pY × pG)
  | 0, _, _, _, _, _, _, _ => none
  | f + 1, d, M, pc, loc, stk, Y, G => match MT M with
    | none => none
    | some mi => match plook mi.1 pc with
      | none => none
      | some e => match pstep Y G e pc loc stk with
        | none => none
        | some (.inl (pc', loc', stk', Y', G')) => pexec MT f d M pc' loc' stk' Y' G'
        | some (.inr (.inl (m, as, st))) => match d with
          | 0 => none
          | d' + 1 => match MT m with
            | none => none
            | some mc => bif Nat.ble (pcat as) mc.2.1 then (match pexec MT f d' m 0 (pent as mc.2.1) [] Y G with
              | none => none
              | some (r, Y', G') => pexec MT f d M (pc + 3) loc (r.toList ++ st) Y' G') else none
        | some (.inr (.inr r)) => some (r, Y, G)
theorem pexec_mono (MT : Nat → Option pM) : ∀ (f d M pc : Nat) (loc stk : List pV) (Y : pY) (G : pG) (r : Option pV × pY × pG), pexec MT f d M pc loc stk Y G = some r → pexec MT (f + 1) d M pc loc stk Y G = some r := by
  intro f
  induction f with
  | zero => intro d M pc loc stk Y G r h; exact absurd h (by simp [pexec])
  | succ f ih =>
    intro d M pc loc stk Y G r h
    rw [pexec] at h ⊢
    cases hM : MT M with
    | none => rw [hM] at h; exact absurd h (by simp)
    | some mi =>
      rw [hM] at h
      dsimp only at h ⊢
      cases hl : plook mi.1 pc with
      | none => rw [hl] at h; exact absurd h (by simp)
      | some e =>
        rw [hl] at h
        dsimp only at h ⊢
        rcases hs : pstep Y G e pc loc stk with _ | (⟨pc', loc', stk', Y', G'⟩ | ⟨m, as, st⟩ | r')
        · rw [hs] at h; exact absurd h (by simp)
        · rw [hs] at h
          exact ih _ _ _ _ _ _ _ _ h
        · rw [hs] at h
          dsimp only at h ⊢
          cases d with
          | zero => exact absurd h (by simp)
          | succ d' =>
            dsimp only at h ⊢
            cases hm : MT m with
            | none => rw [hm] at h; exact absurd h (by simp)
            | some mc =>
              rw [hm] at h
              dsimp only at h ⊢
              cases hk : Nat.ble (pcat as) mc.2.1 with
              | false => rw [hk] at h; cases h
              | true =>
              rw [hk] at h
              dsimp only [cond_true] at h ⊢
              cases hc : pexec MT f d' m 0 (pent as mc.2.1) [] Y G with
              | none => rw [hc] at h; exact absurd h (by simp)
              | some q =>
                obtain ⟨r1, Y1, G1⟩ := q
                rw [hc] at h
                rw [ih _ _ _ _ _ _ _ _ hc]
                exact ih _ _ _ _ _ _ _ _ h
        · rw [hs] at h
          exact h
theorem pexec_le (MT : Nat → Option pM) {f g d M pc : Nat} {loc stk : List pV} {Y : pY} {G : pG} {r : Option pV × pY × pG} (hfg : f ≤ g) (h : pexec MT f d M pc loc stk Y G = some r) : pexec MT g d M pc loc stk Y G = some r := by
  induction hfg with
  | refl => exact h
  | step _ ih => exact pexec_mono MT _ _ _ _ _ _ _ _ _ ih
/-- more depth does no harm -/
theorem pexec_deep (MT : Nat → Option pM) : ∀ (f d M pc : Nat) (loc stk : List pV) (Y : pY) (G : pG) (r : Option pV × pY × pG), pexec MT f d M pc loc stk Y G = some r → pexec MT f (d + 1) M pc loc stk Y G = some r := by
  intro f
  induction f with
  | zero => intro d M pc loc stk Y G r h; exact absurd h (by simp [pexec])
  | succ f ih =>
    intro d M pc loc stk Y G r h
    rw [pexec] at h ⊢
    cases hM : MT M with
    | none => rw [hM] at h; exact absurd h (by simp)
    | some mi =>
      rw [hM] at h
      dsimp only at h ⊢
      cases hl : plook mi.1 pc with
      | none => rw [hl] at h; exact absurd h (by simp)
      | some e =>
        rw [hl] at h
        dsimp only at h ⊢
        rcases hs : pstep Y G e pc loc stk with _ | (⟨pc', loc', stk', Y', G'⟩ | ⟨m, as, st⟩ | r')
        · rw [hs] at h; exact absurd h (by simp)
        · rw [hs] at h
          exact ih _ _ _ _ _ _ _ _ h
        · rw [hs] at h
          dsimp only at h ⊢
          cases d with
          | zero => exact absurd h (by simp)
          | succ d' =>
            dsimp only at h ⊢
            cases hm : MT m with
            | none => rw [hm] at h; exact absurd h (by simp)
            | some mc =>
              rw [hm] at h
              dsimp only at h ⊢
              cases hk : Nat.ble (pcat as) mc.2.1 with
              | false => rw [hk] at h; cases h
              | true =>
              rw [hk] at h
              dsimp only [cond_true] at h ⊢
              cases hc : pexec MT f d' m 0 (pent as mc.2.1) [] Y G with
              | none => rw [hc] at h; exact absurd h (by simp)
              | some q =>
                obtain ⟨r1, Y1, G1⟩ := q
                rw [hc] at h
                rw [ih _ _ _ _ _ _ _ _ hc]
                exact ih _ _ _ _ _ _ _ _ h
        · rw [hs] at h
          exact h
end
section
/-- from here the method ends, with R -/
def pEnds (MT : Nat → Option pM) (d M : Nat) (Y : pY) (R : Option pV → pG → Prop) (pc : Nat) (loc stk : List pV) (G : pG) : Prop := ∃ (f : Nat) (r : Option pV) (G' : pG), pexec MT f d M pc loc stk Y G = some (r, Y, G') ∧ R r G'
/-- the method m, called with these, answers r and leaves G' -/
def pRuns (MT : Nat → Option pM) (d m : Nat) (as : List pV) (Y : pY) (G : pG) (r : Option pV) (G' : pG) : Prop := ∃ (mc : pM) (f : Nat), MT m = some mc ∧ Nat.ble (pcat as) mc.2.1 = true ∧ pexec MT f d m 0 (pent as mc.2.1) [] Y G = some (r, Y, G')
def pC0 (MT : Nat → Option pM) (d m : Nat) (as : List pV) (Y : pY) (G : pG) (Q : pG → Prop) : Prop := ∃ (d' : Nat) (G' : pG), d' < d ∧ pRuns MT d' m as Y G none G' ∧ Q G'
def pC1 (MT : Nat → Option pM) (d m : Nat) (as : List pV) (Y : pY) (G : pG) (Q : Int → pG → Prop) : Prop := ∃ (d' : Nat) (r : Int) (G' : pG), d' < d ∧ pRuns MT d' m as Y G (some (pI r)) G' ∧ Q r G'
def pC2 (MT : Nat → Option pM) (d m : Nat) (as : List pV) (Y : pY) (G : pG) (Q : Int → pG → Prop) : Prop := ∃ (d' : Nat) (r : Int) (G' : pG), d' < d ∧ pRuns MT d' m as Y G (some (pL r)) G' ∧ Q r G'
def pcP (cc : ClassFile.Cond) (x y : Int) : Prop := match cc with
  | .eq => x = y
  | .ne => ¬ x = y
  | .lt => x < y
  | .ge => y ≤ x
  | .gt => y < x
  | .le => x ≤ y
def pcN (cc : ClassFile.Cond) (x y : Int) : Prop := match cc with
  | .eq => ¬ x = y
  | .ne => x = y
  | .lt => y ≤ x
  | .ge => x < y
  | .gt => x ≤ y
  | .le => y < x
def ptw (x : Int) (pc : Nat) (go : Nat → Prop) : Int → List Int → Prop
  | _, [] => False
  | lo, o :: os => (x = lo → go ((pc : Int) + o).toNat) ∧ (¬ x = lo → ptw x pc go (lo + 1) os)
def plw (x : Int) (pc : Nat) (d : Int) (go : Nat → Prop) : List (Int × Int) → Prop
  | [] => go ((pc : Int) + d).toNat
  | (k, o) :: r => (x = k → go ((pc : Int) + o).toNat) ∧ (¬ x = k → plw x pc d go r)
/-- what must hold for a step, 'go' being what must hold behind it -/
def pw1 (MT : Nat → Option pM) (d M : Nat) (Y : pY) (R : Option pV → pG → Prop) (go : Nat → List pV → List pV → pG → Prop) (e : pE) (pc : Nat) (loc stk : List pV) (G : pG) : Prop :=
  match e with
  | (o, len, a, b, c) => match o with
    | .iconst x => go (pc + len) loc (pI x :: stk) G
    | .ldc2_w _ => go (pc + len) loc (pL c :: stk) G
    | .ldc _ => go (pc + len) loc (pR a :: stk) G
    | .iload i => k_oi (pn loc i) False (fun x => go (pc + len) loc (pI x :: stk) G)
    | .lload i => k_ol (pn loc i) False (fun x => go (pc + len) loc (pL x :: stk) G)
    | .aload i => k_or (pn loc i) False (fun x => go (pc + len) loc (pR x :: stk) G)
    | .istore i => k_i stk False (fun x st => bif Nat.blt i loc.length then ∀ v : Int, v = x → go (pc + len) (plst loc i (pI v)) st G else False)
    | .lstore i => k_l stk False (fun x st => bif Nat.blt (i + 1) loc.length then ∀ v : Int, v = x → go (pc + len) (plst2 loc i (pL v)) st G else False)
    | .astore i => k_r stk False (fun x st => bif Nat.blt i loc.length then go (pc + len) (plst loc i (pR x)) st G else False)
    | .iinc i k => k_oi (pn loc i) False (fun x => ∀ v : Int, v = w32 (x + k) → go (pc + len) (plst loc i (pI v)) stk G)
    | .iadd => k_ii stk False (fun x y st => go (pc + len) loc (pI (w32 (x + y)) :: st) G)
    | .isub => k_ii stk False (fun x y st => go (pc + len) loc (pI (w32 (x - y)) :: st) G)
    | .imul => k_ii stk False (fun x y st => go (pc + len) loc (pI (w32 (x * y)) :: st) G)
    | .iand => k_ii stk False (fun x y st => go (pc + len) loc (pI (pand x y) :: st) G)
    | .ior => k_ii stk False (fun x y st => go (pc + len) loc (pI (por x y) :: st) G)
    | .ixor => k_ii stk False (fun x y st => go (pc + len) loc (pI (pxor x y) :: st) G)
    | .ishl => k_ii stk False (fun x y st => go (pc + len) loc (pI (pshl x y) :: st) G)
    | .ishr => k_ii stk False (fun x y st => go (pc + len) loc (pI (pshr x y) :: st) G)
    | .iushr => k_ii stk False (fun x y st => go (pc + len) loc (pI (push' x y) :: st) G)
    | .idiv => k_ii stk False (fun x y st => ¬ y = 0 ∧ go (pc + len) loc (pI (pdiv x y) :: st) G)
    | .irem => k_ii stk False (fun x y st => ¬ y = 0 ∧ go (pc + len) loc (pI (prem x y) :: st) G)
    | .ineg => k_i stk False (fun x st => go (pc + len) loc (pI (w32 (-x)) :: st) G)
    | .ladd => k_ll stk False (fun x y st => go (pc + len) loc (pL (w64 (x + y)) :: st) G)
    | .lsub => k_ll stk False (fun x y st => go (pc + len) loc (pL (w64 (x - y)) :: st) G)
    | .lmul => k_ll stk False (fun x y st => go (pc + len) loc (pL (w64 (x * y)) :: st) G)
    | .land => k_ll stk False (fun x y st => go (pc + len) loc (pL (pland x y) :: st) G)
    | .lor => k_ll stk False (fun x y st => go (pc + len) loc (pL (plor x y) :: st) G)
    | .ldiv => k_ll stk False (fun x y st => ¬ y = 0 ∧ go (pc + len) loc (pL (pldiv x y) :: st) G)
    | .lrem => k_ll stk False (fun x y st => ¬ y = 0 ∧ go (pc + len) loc (pL (plrem x y) :: st) G)
    | .lneg => k_l stk False (fun x st => go (pc + len) loc (pL (w64 (-x)) :: st) G)
    | .lshl => k_li stk False (fun x y st => go (pc + len) loc (pL (plshl x y) :: st) G)
    | .lshr => k_li stk False (fun x y st => go (pc + len) loc (pL (plshr x y) :: st) G)
    | .lcmp => k_ll stk False (fun x y st => go (pc + len) loc (pI (plcmp x y) :: st) G)
    | .i2l => k_i stk False (fun x st => go (pc + len) loc (pL x :: st) G)
    | .l2i => k_l stk False (fun x st => go (pc + len) loc (pI (w32 x) :: st) G)
    | .i2b => k_i stk False (fun x st => go (pc + len) loc (pI (w8 x) :: st) G)
    | .dup => k_d stk False (fun v st => go (pc + len) loc (v :: v :: st) G)
    | .dup2 => k_d2 stk False (fun v w st => go (pc + len) loc (v :: w :: v :: w :: st) G)
    | .goto _ => go a loc stk G
    | .ifCond cc _ => k_i stk False (fun x st => (pcP cc x 0 → go a loc st G) ∧ (pcN cc x 0 → go (pc + len) loc st G))
    | .if_icmp cc _ => k_ii stk False (fun x y st => (pcP cc x y → go a loc st G) ∧ (pcN cc x y → go (pc + len) loc st G))
    | .tableswitch dflt lo hi offs => k_i stk False (fun x st => (x < lo ∨ hi < x → go ((pc : Int) + dflt).toNat loc st G) ∧ (¬ (x < lo ∨ hi < x) → ptw x pc (fun q => go q loc st G) lo offs.toList))
    | .lookupswitch dflt ps => k_i stk False (fun x st => plw x pc dflt (fun q => go q loc st G) ps.toList)
    | .getfield _ => k_r stk False (fun r st => bif Nat.beq (Y.2.1 r).1 b then (match c with
        | 1 => go (pc + len) loc (pL (G r a) :: st) G
        | 2 => k_op (Y.2.2 r a) False (fun q => go (pc + len) loc (pR q :: st) G)
        | _ => go (pc + len) loc (pI (G r a) :: st) G) else False)
    | .putfield _ => match c with
        | 0 => k_ri stk False (fun r x st => bif Nat.beq (Y.2.1 r).1 b then go (pc + len) loc st (pset G r a x) else False)
        | 1 => k_rl stk False (fun r x st => bif Nat.beq (Y.2.1 r).1 b then go (pc + len) loc st (pset G r a x) else False)
        | 3 => k_ri stk False (fun r x st => bif Nat.beq (Y.2.1 r).1 b then (x = 0 ∨ x = 1) ∧ go (pc + len) loc st (pset G r a x) else False)
        | _ => False
    | .iaload => k_ri stk False (fun r i st => bif Nat.beq (Y.2.1 r).1 100 then 0 ≤ i ∧ i < (Y.2.1 r).2 ∧ go (pc + len) loc (pI (G r i.toNat) :: st) G else False)
    | .laload => k_ri stk False (fun r i st => bif Nat.beq (Y.2.1 r).1 101 then 0 ≤ i ∧ i < (Y.2.1 r).2 ∧ go (pc + len) loc (pL (G r i.toNat) :: st) G else False)
    | .baload => k_ri stk False (fun r i st => bif Nat.beq (Y.2.1 r).1 102 then 0 ≤ i ∧ i < (Y.2.1 r).2 ∧ go (pc + len) loc (pI (G r i.toNat) :: st) G else False)
    | .aaload => k_ri stk False (fun r i st => bif Nat.beq (Y.2.1 r).1 103 then 0 ≤ i ∧ i < (Y.2.1 r).2 ∧ ∃ q, Y.2.2 r i.toNat = some q ∧ go (pc + len) loc (pR q :: st) G else False)
    | .iastore => k_rii stk False (fun r i x st => bif Nat.beq (Y.2.1 r).1 100 then 0 ≤ i ∧ i < (Y.2.1 r).2 ∧ go (pc + len) loc st (pset G r i.toNat x) else False)
    | .bastore => k_rii stk False (fun r i x st => bif Nat.beq (Y.2.1 r).1 102 then 0 ≤ i ∧ i < (Y.2.1 r).2 ∧ go (pc + len) loc st (pset G r i.toNat (w8 x)) else False)
    | .lastore => k_ril stk False (fun r i x st => bif Nat.beq (Y.2.1 r).1 101 then 0 ≤ i ∧ i < (Y.2.1 r).2 ∧ go (pc + len) loc st (pset G r i.toNat x) else False)
    | .arraylength => k_r stk False (fun r st => bif Nat.ble 100 (Y.2.1 r).1 && Nat.ble (Y.2.1 r).1 103 then go (pc + len) loc (pI (Y.2.1 r).2 :: st) G else False)
    | .invokestatic rc => k_op (ppop b stk []) False (fun q => bif Nat.ble (pcat q.2) 8 && (c == -1 || precv Y c q.1) then (match rc with
        | 0 => pC0 MT d a q.1 Y G (fun G' => go (pc + 3) loc q.2 G')
        | 1 => pC1 MT d a q.1 Y G (fun r G' => go (pc + 3) loc (pI r :: q.2) G')
        | _ => pC2 MT d a q.1 Y G (fun r G' => go (pc + 3) loc (pL r :: q.2) G')) else False)
    | .f2d => k_ii stk False (fun x y st => bif Nat.ble (pcat st) 8 then go (pc + len) loc (pI (pmx x y) :: st) G else False)
    | .f2i => k_ii stk False (fun x y st => bif Nat.ble (pcat st) 8 then go (pc + len) loc (pI (pmn x y) :: st) G else False)
    | .f2l => k_i stk False (fun x st => bif Nat.ble (pcat st) 8 then go (pc + len) loc (pI (if 0 < x then x else w32 (-x)) :: st) G else False)
    | .d2f => k_l stk False (fun x st => bif Nat.ble (pcat st) 8 then go (pc + len) loc (pL (if 0 < x then x else w64 (-x)) :: st) G else False)
    | .d2i => k_ll stk False (fun x y st => bif Nat.ble (pcat st) 8 then go (pc + len) loc (pL (pmx x y) :: st) G else False)
    | .d2l => k_cp stk False (fun a0 sp a1 dp n st => bif Nat.ble (pcat st) 8 then (bif (Nat.beq (Y.2.1 a0).1 100 && Nat.beq (Y.2.1 a1).1 100) || (Nat.beq (Y.2.1 a0).1 101 && Nat.beq (Y.2.1 a1).1 101) then (0 ≤ sp ∧ 0 ≤ dp ∧ 0 ≤ n ∧ sp + n ≤ (Y.2.1 a0).2 ∧ dp + n ≤ (Y.2.1 a1).2) ∧ go (pc + len) loc st (pcpy G a0 sp.toNat a1 dp.toNat n.toNat) else False) else False)
    | .faload => k_ri stk False (fun r i st => bif Nat.beq r 499 then 0 ≤ i ∧ i < G 498 0 ∧ go (pc + len) loc (pI (G 499 i.toNat) :: st) G else False)
    | .fastore => k_r stk False (fun r st => bif Nat.beq r 499 then go (pc + len) loc (pI (G 498 0) :: st) G else False)
    | .daload => k_r stk False (fun r st => bif Nat.ble (pcat st) 8 && Nat.ble 500 r then k_op (pn pstr (r - 500)) False (fun s => go (pc + len) loc (pI s.length :: st) G) else False)
    | .dastore => k_ri stk False (fun r i st => bif Nat.ble (pcat st) 8 && Nat.ble 500 r then k_op (pn pstr (r - 500)) False (fun s => 0 ≤ i ∧ ∃ ch, pn s i.toNat = some ch ∧ go (pc + len) loc (pI ch :: st) G) else False)
    | .ireturn => match stk with
      | [.inl x] => bif c == 3 then (x = 0 ∨ x = 1) ∧ R (some (pI x)) G else R (some (pI x)) G
      | _ => False
    | .lreturn => match stk with
      | [.inr (.inl x)] => R (some (pL x)) G
      | _ => False
    | .return_ => match stk with
      | [] => R none G
      | _ => False
    | _ => False
/-- locals that are dead are forgotten -/
def pmk : List Bool → List pV → List pV
  | true :: m, v :: l => v :: pmk m l
  | false :: m, _ :: l => pU :: pmk m l
  | [], l => l
  | _ :: _, [] => []
def pcut : List (Nat × List Bool) → Nat → Option (List Bool)
  | [], _ => none
  | (a, m) :: l, n => bif Nat.beq a n then some m else pcut l n
/-- n steps of it, but not through the places cs -/
def pwp (MT : Nat → Option pM) (d M : Nat) (t : pT) (cs : List (Nat × List Bool)) (Y : pY) (R : Option pV → pG → Prop) : Nat → Nat → List pV → List pV → pG → Prop
  | 0, pc, loc, stk, G => pEnds MT d M Y R pc loc stk G
  | n + 1, pc, loc, stk, G => k_op (plook t pc) False (fun e => pw1 MT d M Y R (fun pc' loc' stk' G' => k_op (pcut cs pc') (pwp MT d M t cs Y R n pc' loc' stk' G') (fun m => pEnds MT d M Y R pc' (pmk m loc') stk' G')) e pc loc stk G)
theorem pRuns.deep {MT : Nat → Option pM} {d d' m : Nat} {as : List pV} {Y : pY} {G G' : pG} {r : Option pV} (h : pRuns MT d m as Y G r G') (hd : d ≤ d') : pRuns MT d' m as Y G r G' := by
  induction hd with
  | refl => exact h
  | step _ ih =>
    obtain ⟨mc, f, h1, h0, h2⟩ := ih
    exact ⟨mc, f, h1, h0, pexec_deep MT _ _ _ _ _ _ _ _ _ h2⟩
/-- a step on -/
theorem pEnds.nx {MT : Nat → Option pM} {d M : Nat} {Y : pY} {R : Option pV → pG → Prop} {mi : pM} (hM : MT M = some mi) {e : pE} {pc pc' : Nat} {loc loc' stk stk' : List pV} {G G' : pG} (he : plook mi.1 pc = some e) (hs : pstep Y G e pc loc stk = some (.inl (pc', loc', stk', Y, G'))) (h : pEnds MT d M Y R pc' loc' stk' G') : pEnds MT d M Y R pc loc stk G := by
  obtain ⟨f, r, G2, h1, h2⟩ := h
  refine ⟨f + 1, r, G2, ?_, h2⟩
  rw [pexec, hM]
  dsimp only
  rw [he]
  dsimp only
  rw [hs]
  exact h1
theorem pEnds.ret {MT : Nat → Option pM} {d M : Nat} {Y : pY} {R : Option pV → pG → Prop} {mi : pM} (hM : MT M = some mi) {e : pE} {pc : Nat} {loc stk : List pV} {G : pG} {r : Option pV} (he : plook mi.1 pc = some e) (hs : pstep Y G e pc loc stk = some (.inr (.inr r))) (h : R r G) : pEnds MT d M Y R pc loc stk G := by
  refine ⟨1, r, G, ?_, h⟩
  rw [pexec, hM]
  dsimp only
  rw [he]
  dsimp only
  rw [hs]
theorem pEnds.call {MT : Nat → Option pM} {d M : Nat} {Y : pY} {R : Option pV → pG → Prop} {mi : pM} (hM : MT M = some mi) {e : pE} {pc m : Nat} {loc stk as st : List pV} {G G' : pG} {r : Option pV} (he : plook mi.1 pc = some e) (hs : pstep Y G e pc loc stk = some (.inr (.inl (m, as, st)))) {d' : Nat} (hd : d' < d) (hr : pRuns MT d' m as Y G r G') (h : pEnds MT d M Y R (pc + 3) loc (r.toList ++ st) G') : pEnds MT d M Y R pc loc stk G := by
  obtain ⟨f, r2, G2, h1, h2⟩ := h
  obtain ⟨d1, rfl⟩ : ∃ d1, d = d1 + 1 := ⟨d - 1, by omega⟩
  obtain ⟨mc, f3, h3, h0, h4⟩ := hr.deep (show d' ≤ d1 by omega)
  refine ⟨f + f3 + 1, r2, G2, ?_, h2⟩
  rw [pexec, hM]
  dsimp only
  rw [he]
  dsimp only
  rw [hs]
  dsimp only
  rw [h3]
  dsimp only
  rw [h0]
  dsimp only [cond_true]
  rw [pexec_le MT (show f3 ≤ f + f3 by omega) h4]
  exact pexec_le MT (show f ≤ f + f3 by omega) h1
theorem k_i_f {stk : List pV} {k : Int → List pV → Prop} (h : k_i stk False k) : ∃ x st, stk = .inl x :: st ∧ k x st := by
  unfold k_i at h; split at h
  · exact ⟨_, _, rfl, h⟩
  · exact h.elim
theorem k_l_f {stk : List pV} {k : Int → List pV → Prop} (h : k_l stk False k) : ∃ x st, stk = .inr (.inl x) :: st ∧ k x st := by
  unfold k_l at h; split at h
  · exact ⟨_, _, rfl, h⟩
  · exact h.elim
theorem k_r_f {stk : List pV} {k : Nat → List pV → Prop} (h : k_r stk False k) : ∃ x st, stk = .inr (.inr (some x)) :: st ∧ k x st := by
  unfold k_r at h; split at h
  · exact ⟨_, _, rfl, h⟩
  · exact h.elim
theorem k_ii_f {stk : List pV} {k : Int → Int → List pV → Prop} (h : k_ii stk False k) : ∃ x y st, stk = .inl y :: .inl x :: st ∧ k x y st := by
  unfold k_ii at h; split at h
  · exact ⟨_, _, _, rfl, h⟩
  · exact h.elim
theorem k_ll_f {stk : List pV} {k : Int → Int → List pV → Prop} (h : k_ll stk False k) : ∃ x y st, stk = .inr (.inl y) :: .inr (.inl x) :: st ∧ k x y st := by
  unfold k_ll at h; split at h
  · exact ⟨_, _, _, rfl, h⟩
  · exact h.elim
theorem k_li_f {stk : List pV} {k : Int → Int → List pV → Prop} (h : k_li stk False k) : ∃ x y st, stk = .inl y :: .inr (.inl x) :: st ∧ k x y st := by
  unfold k_li at h; split at h
  · exact ⟨_, _, _, rfl, h⟩
  · exact h.elim
theorem k_ri_f {stk : List pV} {k : Nat → Int → List pV → Prop} (h : k_ri stk False k) : ∃ x y st, stk = .inl y :: .inr (.inr (some x)) :: st ∧ k x y st := by
  unfold k_ri at h; split at h
  · exact ⟨_, _, _, rfl, h⟩
  · exact h.elim
theorem k_rl_f {stk : List pV} {k : Nat → Int → List pV → Prop} (h : k_rl stk False k) : ∃ x y st, stk = .inr (.inl y) :: .inr (.inr (some x)) :: st ∧ k x y st := by
  unfold k_rl at h; split at h
  · exact ⟨_, _, _, rfl, h⟩
  · exact h.elim
theorem k_rii_f {stk : List pV} {k : Nat → Int → Int → List pV → Prop} (h : k_rii stk False k) : ∃ x y v st, stk = .inl v :: .inl y :: .inr (.inr (some x)) :: st ∧ k x y v st := by
  unfold k_rii at h; split at h
  · exact ⟨_, _, _, _, rfl, h⟩
  · exact h.elim
theorem k_ril_f {stk : List pV} {k : Nat → Int → Int → List pV → Prop} (h : k_ril stk False k) : ∃ x y v st, stk = .inr (.inl v) :: .inl y :: .inr (.inr (some x)) :: st ∧ k x y v st := by
  unfold k_ril at h; split at h
  · exact ⟨_, _, _, _, rfl, h⟩
  · exact h.elim
theorem k_cp_f {stk : List pV} {k : Nat → Int → Nat → Int → Int → List pV → Prop} (h : k_cp stk False k) : ∃ a0 sp a dp n st, stk = .inl n :: .inl dp :: .inr (.inr (some a)) :: .inl sp :: .inr (.inr (some a0)) :: st ∧ k a0 sp a dp n st := by
  unfold k_cp at h; split at h
  · exact ⟨_, _, _, _, _, _, rfl, h⟩
  · exact h.elim
theorem k_op_f {β : Type} {o : Option β} {k : β → Prop} (h : k_op o False k) : ∃ x, o = some x ∧ k x := by
  unfold k_op at h; split at h
  · exact ⟨_, rfl, h⟩
  · exact h.elim
theorem k_oi_f {o : Option pV} {k : Int → Prop} (h : k_oi o False k) : ∃ x, o = some (.inl x) ∧ k x := by
  unfold k_oi at h; split at h
  · exact ⟨_, rfl, h⟩
  · exact h.elim
theorem k_ol_f {o : Option pV} {k : Int → Prop} (h : k_ol o False k) : ∃ x, o = some (.inr (.inl x)) ∧ k x := by
  unfold k_ol at h; split at h
  · exact ⟨_, rfl, h⟩
  · exact h.elim
theorem k_or_f {o : Option pV} {k : Nat → Prop} (h : k_or o False k) : ∃ x, o = some (.inr (.inr (some x))) ∧ k x := by
  unfold k_or at h; split at h
  · exact ⟨_, rfl, h⟩
  · exact h.elim
theorem bif_f {b : Bool} {P : Prop} (h : bif b then P else False) : b = true ∧ P := by
  cases b
  · exact h.elim
  · exact ⟨rfl, h⟩
theorem pcP_t {cc : ClassFile.Cond} {x y : Int} : pcc cc x y = true ↔ pcP cc x y := by
  cases cc <;> simp [pcc, pcP]
theorem pcN_f {cc : ClassFile.Cond} {x y : Int} : pcc cc x y = false ↔ pcN cc x y := by
  cases cc <;> simp [pcc, pcN]
end
section
theorem ptw_at {x : Int} {pc : Nat} {go : Nat → Prop} : ∀ {os : List Int} {lo : Int}, ptw x pc go lo os → lo ≤ x → ∃ off, pn os (x - lo).toNat = some off ∧ go ((pc : Int) + off).toNat := by
  intro os
  induction os with
  | nil => intro lo h _; exact h.elim
  | cons o os ih =>
    intro lo h hx
    by_cases e : x = lo
    · subst e
      refine ⟨o, ?_, h.1 rfl⟩
      rw [Int.sub_self]
      rfl
    · obtain ⟨off, h1, h2⟩ := ih (h.2 e) (by omega)
      refine ⟨off, ?_, h2⟩
      rw [show (x - lo).toNat = (x - (lo + 1)).toNat + 1 by omega]
      exact h1
theorem plw_at {x : Int} {pc : Nat} {d : Int} {go : Nat → Prop} : ∀ {ps : List (Int × Int)}, plw x pc d go ps → go ((pc : Int) + plks ps d x).toNat := by
  intro ps
  induction ps with
  | nil => intro h; exact h
  | cons p ps ih =>
    intro h
    obtain ⟨k, o⟩ := p
    unfold plks
    by_cases e : x = k
    · rw [if_pos e]; exact h.1 e
    · rw [if_neg e]; exact ih (h.2 e)
set_option maxHeartbeats 4000000 in
set_option maxRecDepth 20000 in
theorem pw1_sound {MT : Nat → Option pM} {d M : Nat} {Y : pY} {R : Option pV → pG → Prop} {go : Nat → List pV → List pV → pG → Prop} {mi : pM} (hM : MT M = some mi) (hgo : ∀ pc loc stk G, go pc loc stk G → pEnds MT d M Y R pc loc stk G) {e : pE} {pc : Nat} {loc stk : List pV} {G : pG} (he : plook mi.1 pc = some e) (h : pw1 MT d M Y R go e pc loc stk G) : pEnds MT d M Y R pc loc stk G := by
  obtain ⟨o, len, a, b, c⟩ := e
  cases o
  case iconst x => exact pEnds.nx hM he rfl (hgo _ _ _ _ h)
  case ldc2_w x => exact pEnds.nx hM he rfl (hgo _ _ _ _ h)
  case ldc x => exact pEnds.nx hM he rfl (hgo _ _ _ _ h)
  case goto x => exact pEnds.nx hM he rfl (hgo _ _ _ _ h)
  case iload i =>
    obtain ⟨x, hx, h⟩ := k_oi_f h
    exact pEnds.nx hM he (by simp only [pstep, hx, k_oi, pnx]) (hgo _ _ _ _ h)
  case lload i =>
    obtain ⟨x, hx, h⟩ := k_ol_f h
    exact pEnds.nx hM he (by simp only [pstep, hx, k_ol, pnx]) (hgo _ _ _ _ h)
  case aload i =>
    obtain ⟨x, hx, h⟩ := k_or_f h
    exact pEnds.nx hM he (by simp only [pstep, hx, k_or, pnx]) (hgo _ _ _ _ h)
  case istore i =>
    obtain ⟨x, st, rfl, h⟩ := k_i_f h
    obtain ⟨hb, h⟩ := bif_f h
    exact pEnds.nx hM he (by simp only [pstep, k_i, hb, cond_true, pnx]) (hgo _ _ _ _ (h x rfl))
  case lstore i =>
    obtain ⟨x, st, rfl, h⟩ := k_l_f h
    obtain ⟨hb, h⟩ := bif_f h
    exact pEnds.nx hM he (by simp only [pstep, k_l, hb, cond_true, pnx]) (hgo _ _ _ _ (h x rfl))
  case astore i =>
    obtain ⟨x, st, rfl, h⟩ := k_r_f h
    obtain ⟨hb, h⟩ := bif_f h
    exact pEnds.nx hM he (by simp only [pstep, k_r, hb, cond_true, pnx]) (hgo _ _ _ _ h)
  case iinc i k =>
    obtain ⟨x, hx, h⟩ := k_oi_f h
    exact pEnds.nx hM he (by simp only [pstep, hx, k_oi, pnx]) (hgo _ _ _ _ (h _ rfl))
  case iadd =>
    obtain ⟨x, y, st, rfl, h⟩ := k_ii_f h
    exact pEnds.nx hM he rfl (hgo _ _ _ _ h)
  case isub =>
    obtain ⟨x, y, st, rfl, h⟩ := k_ii_f h
    exact pEnds.nx hM he rfl (hgo _ _ _ _ h)
  case imul =>
    obtain ⟨x, y, st, rfl, h⟩ := k_ii_f h
    exact pEnds.nx hM he rfl (hgo _ _ _ _ h)
  case iand =>
    obtain ⟨x, y, st, rfl, h⟩ := k_ii_f h
    exact pEnds.nx hM he rfl (hgo _ _ _ _ h)
  case ior =>
    obtain ⟨x, y, st, rfl, h⟩ := k_ii_f h
    exact pEnds.nx hM he rfl (hgo _ _ _ _ h)
  case ixor =>
    obtain ⟨x, y, st, rfl, h⟩ := k_ii_f h
    exact pEnds.nx hM he rfl (hgo _ _ _ _ h)
  case ishl =>
    obtain ⟨x, y, st, rfl, h⟩ := k_ii_f h
    exact pEnds.nx hM he rfl (hgo _ _ _ _ h)
  case ishr =>
    obtain ⟨x, y, st, rfl, h⟩ := k_ii_f h
    exact pEnds.nx hM he rfl (hgo _ _ _ _ h)
  case iushr =>
    obtain ⟨x, y, st, rfl, h⟩ := k_ii_f h
    exact pEnds.nx hM he rfl (hgo _ _ _ _ h)
  case ladd =>
    obtain ⟨x, y, st, rfl, h⟩ := k_ll_f h
    exact pEnds.nx hM he rfl (hgo _ _ _ _ h)
  case lsub =>
    obtain ⟨x, y, st, rfl, h⟩ := k_ll_f h
    exact pEnds.nx hM he rfl (hgo _ _ _ _ h)
  case lmul =>
    obtain ⟨x, y, st, rfl, h⟩ := k_ll_f h
    exact pEnds.nx hM he rfl (hgo _ _ _ _ h)
  case land =>
    obtain ⟨x, y, st, rfl, h⟩ := k_ll_f h
    exact pEnds.nx hM he rfl (hgo _ _ _ _ h)
  case lor =>
    obtain ⟨x, y, st, rfl, h⟩ := k_ll_f h
    exact pEnds.nx hM he rfl (hgo _ _ _ _ h)
  case lcmp =>
    obtain ⟨x, y, st, rfl, h⟩ := k_ll_f h
    exact pEnds.nx hM he rfl (hgo _ _ _ _ h)
  case lshl =>
    obtain ⟨x, y, st, rfl, h⟩ := k_li_f h
    exact pEnds.nx hM he rfl (hgo _ _ _ _ h)
  case lshr =>
    obtain ⟨x, y, st, rfl, h⟩ := k_li_f h
    exact pEnds.nx hM he rfl (hgo _ _ _ _ h)
  case idiv =>
    obtain ⟨x, y, st, rfl, h1, h⟩ := k_ii_f h
    exact pEnds.nx hM he (if_neg h1) (hgo _ _ _ _ h)
  case irem =>
    obtain ⟨x, y, st, rfl, h1, h⟩ := k_ii_f h
    exact pEnds.nx hM he (if_neg h1) (hgo _ _ _ _ h)
  case ldiv =>
    obtain ⟨x, y, st, rfl, h1, h⟩ := k_ll_f h
    exact pEnds.nx hM he (if_neg h1) (hgo _ _ _ _ h)
  case lrem =>
    obtain ⟨x, y, st, rfl, h1, h⟩ := k_ll_f h
    exact pEnds.nx hM he (if_neg h1) (hgo _ _ _ _ h)
  case ineg =>
    obtain ⟨x, st, rfl, h⟩ := k_i_f h
    exact pEnds.nx hM he rfl (hgo _ _ _ _ h)
  case i2l =>
    obtain ⟨x, st, rfl, h⟩ := k_i_f h
    exact pEnds.nx hM he rfl (hgo _ _ _ _ h)
  case i2b =>
    obtain ⟨x, st, rfl, h⟩ := k_i_f h
    exact pEnds.nx hM he rfl (hgo _ _ _ _ h)
  case lneg =>
    obtain ⟨x, st, rfl, h⟩ := k_l_f h
    exact pEnds.nx hM he rfl (hgo _ _ _ _ h)
  case l2i =>
    obtain ⟨x, st, rfl, h⟩ := k_l_f h
    exact pEnds.nx hM he rfl (hgo _ _ _ _ h)
  case dup =>
    rcases stk with _ | ⟨x | x | x, st⟩
    · exact h.elim
    · exact pEnds.nx hM he rfl (hgo _ _ _ _ h)
    · exact h.elim
    · exact pEnds.nx hM he rfl (hgo _ _ _ _ h)
  case dup2 =>
    rcases stk with _ | ⟨x | x | x, _ | ⟨y | y | y, st⟩⟩ <;> first | exact False.elim h | exact pEnds.nx hM he rfl (hgo _ _ _ _ h)
  case ifCond cc off =>
    obtain ⟨x, st, rfl, h1, h2⟩ := k_i_f h
    cases hc : pcc cc x 0 with
    | true => exact pEnds.nx hM he (by simp only [pstep, k_i, hc, cond_true, pnx]) (hgo _ _ _ _ (h1 (pcP_t.mp hc)))
    | false => exact pEnds.nx hM he (by simp only [pstep, k_i, hc, cond_false, pnx]) (hgo _ _ _ _ (h2 (pcN_f.mp hc)))
  case if_icmp cc off =>
    obtain ⟨x, y, st, rfl, h1, h2⟩ := k_ii_f h
    cases hc : pcc cc x y with
    | true => exact pEnds.nx hM he (by simp only [pstep, k_ii, hc, cond_true, pnx]) (hgo _ _ _ _ (h1 (pcP_t.mp hc)))
    | false => exact pEnds.nx hM he (by simp only [pstep, k_ii, hc, cond_false, pnx]) (hgo _ _ _ _ (h2 (pcN_f.mp hc)))
  case tableswitch dflt lo hi offs =>
    obtain ⟨x, st, rfl, h1, h2⟩ := k_i_f h
    by_cases hx : x < lo ∨ hi < x
    · exact pEnds.nx hM he (if_pos hx) (hgo _ _ _ _ (h1 hx))
    · obtain ⟨off, ho, hq⟩ := ptw_at (h2 hx) (by omega)
      exact pEnds.nx hM he (by simp only [pstep, k_i, if_neg hx, ho, k_op, pnx]) (hgo _ _ _ _ hq)
  case lookupswitch dflt ps =>
    obtain ⟨x, st, rfl, h⟩ := k_i_f h
    exact pEnds.nx hM he rfl (hgo _ _ _ _ (plw_at h))
  case getfield i =>
    obtain ⟨r, st, rfl, h⟩ := k_r_f h
    obtain ⟨hb, h⟩ := bif_f h
    split at h
    · exact pEnds.nx hM he (by simp only [pstep, k_r, hb, cond_true, pnx]) (hgo _ _ _ _ h)
    · obtain ⟨q, hq, h⟩ := k_op_f h
      exact pEnds.nx hM he (by simp only [pstep, k_r, hb, cond_true, hq, k_op, pnx]) (hgo _ _ _ _ h)
    · rename_i n1 n2
      refine pEnds.nx hM he ?_ (hgo _ _ _ _ h)
      simp only [pstep, k_r, hb, cond_true]
      rfl
  case putfield i =>
    unfold pw1 at h
    dsimp only at h
    split at h
    · obtain ⟨r, x, st, rfl, h⟩ := k_ri_f h
      obtain ⟨hb, h⟩ := bif_f h
      exact pEnds.nx hM he (by simp only [pstep, k_ri, hb, cond_true, pnx]) (hgo _ _ _ _ h)
    · obtain ⟨r, x, st, rfl, h⟩ := k_rl_f h
      obtain ⟨hb, h⟩ := bif_f h
      exact pEnds.nx hM he (by simp only [pstep, k_rl, hb, cond_true, pnx]) (hgo _ _ _ _ h)
    · obtain ⟨r, x, st, rfl, h⟩ := k_ri_f h
      obtain ⟨hb, hx, h⟩ := bif_f h
      exact pEnds.nx hM he (by simp only [pstep, k_ri, hb, cond_true, if_pos hx, pnx]) (hgo _ _ _ _ h)
    · exact h.elim
  case iaload =>
    obtain ⟨r, i, st, rfl, h⟩ := k_ri_f h
    obtain ⟨hb, h1, h2, h⟩ := bif_f h
    exact pEnds.nx hM he (by simp only [pstep, k_ri, hb, cond_true, if_pos (And.intro h1 h2), pnx]) (hgo _ _ _ _ h)
  case faload =>
    obtain ⟨r, i, st, rfl, h⟩ := k_ri_f h
    obtain ⟨hb, h1, h2, h⟩ := bif_f h
    exact pEnds.nx hM he (by simp only [pstep, k_ri, hb, cond_true, if_pos (And.intro h1 h2), pnx]) (hgo _ _ _ _ h)
  case fastore =>
    obtain ⟨r, st, rfl, h⟩ := k_r_f h
    obtain ⟨hb, h⟩ := bif_f h
    exact pEnds.nx hM he (by simp only [pstep, k_r, hb, cond_true, pnx]) (hgo _ _ _ _ h)
  case laload =>
    obtain ⟨r, i, st, rfl, h⟩ := k_ri_f h
    obtain ⟨hb, h1, h2, h⟩ := bif_f h
    exact pEnds.nx hM he (by simp only [pstep, k_ri, hb, cond_true, if_pos (And.intro h1 h2), pnx]) (hgo _ _ _ _ h)
  case baload =>
    obtain ⟨r, i, st, rfl, h⟩ := k_ri_f h
    obtain ⟨hb, h1, h2, h⟩ := bif_f h
    exact pEnds.nx hM he (by simp only [pstep, k_ri, hb, cond_true, if_pos (And.intro h1 h2), pnx]) (hgo _ _ _ _ h)
  case aaload =>
    obtain ⟨r, i, st, rfl, h⟩ := k_ri_f h
    obtain ⟨hb, h1, h2, q, hq, h⟩ := bif_f h
    exact pEnds.nx hM he (by simp only [pstep, k_ri, hb, cond_true, if_pos (And.intro h1 h2), hq, k_op, pnx]) (hgo _ _ _ _ h)
  case iastore =>
    obtain ⟨r, i, x, st, rfl, h⟩ := k_rii_f h
    obtain ⟨hb, h1, h2, h⟩ := bif_f h
    exact pEnds.nx hM he (by simp only [pstep, k_rii, hb, cond_true, if_pos (And.intro h1 h2), pnx]) (hgo _ _ _ _ h)
  case bastore =>
    obtain ⟨r, i, x, st, rfl, h⟩ := k_rii_f h
    obtain ⟨hb, h1, h2, h⟩ := bif_f h
    exact pEnds.nx hM he (by simp only [pstep, k_rii, hb, cond_true, if_pos (And.intro h1 h2), pnx]) (hgo _ _ _ _ h)
  case lastore =>
    obtain ⟨r, i, x, st, rfl, h⟩ := k_ril_f h
    obtain ⟨hb, h1, h2, h⟩ := bif_f h
    exact pEnds.nx hM he (by simp only [pstep, k_ril, hb, cond_true, if_pos (And.intro h1 h2), pnx]) (hgo _ _ _ _ h)
  case arraylength =>
    obtain ⟨r, st, rfl, h⟩ := k_r_f h
    obtain ⟨hb, h⟩ := bif_f h
    exact pEnds.nx hM he (by simp only [pstep, k_r, hb, cond_true, pnx]) (hgo _ _ _ _ h)
  case invokestatic rc =>
    obtain ⟨⟨as, st⟩, hq, h⟩ := k_op_f h
    obtain ⟨hb, h⟩ := bif_f h
    have hs : pstep Y G (Instr.invokestatic rc, len, a, b, c) pc loc stk = some (.inr (.inl (a, as, st))) := by simp only [pstep, hq, k_op, hb, cond_true]
    split at h
    · obtain ⟨d', G', hd, hr, h⟩ := h
      exact pEnds.call hM he hs hd hr (hgo _ _ _ _ h)
    · obtain ⟨d', r, G', hd, hr, h⟩ := h
      exact pEnds.call hM he hs hd hr (hgo _ _ _ _ h)
    · obtain ⟨d', r, G', hd, hr, h⟩ := h
      exact pEnds.call hM he hs hd hr (hgo _ _ _ _ h)
  case f2d =>
    obtain ⟨x, y, st, rfl, h⟩ := k_ii_f h
    obtain ⟨hb, h⟩ := bif_f h
    exact pEnds.nx hM he (by simp only [pstep, k_ii, hb, cond_true, pnx]) (hgo _ _ _ _ h)
  case f2i =>
    obtain ⟨x, y, st, rfl, h⟩ := k_ii_f h
    obtain ⟨hb, h⟩ := bif_f h
    exact pEnds.nx hM he (by simp only [pstep, k_ii, hb, cond_true, pnx]) (hgo _ _ _ _ h)
  case d2i =>
    obtain ⟨x, y, st, rfl, h⟩ := k_ll_f h
    obtain ⟨hb, h⟩ := bif_f h
    exact pEnds.nx hM he (by simp only [pstep, k_ll, hb, cond_true, pnx]) (hgo _ _ _ _ h)
  case f2l =>
    obtain ⟨x, st, rfl, h⟩ := k_i_f h
    obtain ⟨hb, h⟩ := bif_f h
    exact pEnds.nx hM he (by simp only [pstep, k_i, hb, cond_true, pnx]) (hgo _ _ _ _ h)
  case d2f =>
    obtain ⟨x, st, rfl, h⟩ := k_l_f h
    obtain ⟨hb, h⟩ := bif_f h
    exact pEnds.nx hM he (by simp only [pstep, k_l, hb, cond_true, pnx]) (hgo _ _ _ _ h)
  case d2l =>
    obtain ⟨a0, sp, a1, dp, n, st, rfl, h⟩ := k_cp_f h
    obtain ⟨hb, h⟩ := bif_f h
    obtain ⟨hb2, hx, h⟩ := bif_f h
    exact pEnds.nx hM he (by simp only [pstep, k_cp, hb, hb2, cond_true, if_pos hx, pnx]) (hgo _ _ _ _ h)
  case daload =>
    obtain ⟨r, st, rfl, h⟩ := k_r_f h
    obtain ⟨hb, h⟩ := bif_f h
    obtain ⟨s, hq, h⟩ := k_op_f (o := pn pstr (r - 500)) h
    exact pEnds.nx hM he (by simp only [pstep, k_r, hb, cond_true, hq, k_op, pnx]) (hgo _ _ _ _ h)
  case dastore =>
    obtain ⟨r, i, st, rfl, h⟩ := k_ri_f h
    obtain ⟨hb, h⟩ := bif_f h
    obtain ⟨s, hq, h1, ch, hc, h⟩ := k_op_f (o := pn pstr (r - 500)) h
    exact pEnds.nx hM he (by simp only [pstep, k_ri, hb, cond_true, hq, k_op, if_pos h1, hc, pnx]) (hgo _ _ _ _ h)
  case ireturn =>
    unfold pw1 at h
    dsimp only at h
    split at h
    · rename_i x
      cases hc : (c == 3) with
      | true =>
        rw [hc] at h
        exact pEnds.ret hM he (by simp only [pstep, hc, cond_true, if_pos h.1]) h.2
      | false =>
        rw [hc] at h
        exact pEnds.ret hM he (by simp only [pstep, hc, cond_false]) h
    · exact h.elim
  case lreturn =>
    unfold pw1 at h
    dsimp only at h
    split at h
    · exact pEnds.ret hM he rfl h
    · exact h.elim
  case return_ =>
    unfold pw1 at h
    dsimp only at h
    split at h
    · exact pEnds.ret hM he rfl h
    · exact h.elim
  all_goals exact False.elim h
/-- the second knows what the first knows -/
def ple : List pV → List pV → Prop
  | [], [] => True
  | a :: l, b :: l' => (a = pU ∨ a = b) ∧ ple l l'
  | _, _ => False
theorem ple_refl : ∀ l : List pV, ple l l
  | [] => trivial
  | _ :: l => ⟨Or.inr rfl, ple_refl l⟩
theorem ple_mk : ∀ (m : List Bool) (l : List pV), ple (pmk m l) l
  | [], l => by unfold pmk; exact ple_refl l
  | true :: m, v :: l => ⟨Or.inr rfl, ple_mk m l⟩
  | false :: m, v :: l => ⟨Or.inl rfl, ple_mk m l⟩
  | true :: _, [] => trivial
  | false :: _, [] => trivial
theorem ple_pn : ∀ {l l' : List pV} (i : Nat), ple l l' → pn l i = none ∨ pn l i = some pU ∨ pn l' i = pn l i
  | [], [], i, _ => Or.inl rfl
  | a :: l, b :: l', 0, h => by
    rcases h.1 with e | e
    · subst e; exact Or.inr (Or.inl rfl)
    · subst e; exact Or.inr (Or.inr rfl)
  | a :: l, b :: l', i + 1, h => ple_pn (l := l) (l' := l') i h.2
theorem ple_lst (v : pV) : ∀ {l l' : List pV} (i : Nat), ple l l' → ple (plst l i v) (plst l' i v)
  | [], [], i, _ => trivial
  | a :: l, b :: l', 0, h => ⟨Or.inr rfl, h.2⟩
  | a :: l, b :: l', 1, h => by
    have h0 := ple_lst v 0 h.2
    rcases a with x | x | x <;> rcases b with y | y | y <;> first | exact ⟨Or.inl rfl, h0⟩ | exact ⟨h.1, h0⟩ | (rcases h.1 with e | e <;> first | exact ⟨Or.inl e, h0⟩ | cases e)
  | a :: l, b :: l', i + 2, h => by
    have h0 := ple_lst v (i + 1) h.2
    rcases a with x | x | x <;> rcases b with y | y | y <;> exact ⟨h.1, h0⟩
theorem ple_len : ∀ {l l' : List pV}, ple l l' → l.length = l'.length
  | [], [], _ => rfl
  | _ :: l, _ :: l', h => by rw [List.length_cons, List.length_cons, ple_len h.2]
theorem ple_lst2 (v : pV) {l l' : List pV} (i : Nat) (h : ple l l') : ple (plst2 l i v) (plst2 l' i v) := ple_lst v i (ple_lst pU (i + 1) h)
/-- what the first step comes to, the second comes to -/
def prel (o o' : Option pO) : Prop := ∀ r, o = some r → match r with
  | .inl (pc, l, stk, Y, G) => ∃ l', o' = some (.inl (pc, l', stk, Y, G)) ∧ ple l l'
  | .inr x => o' = some (.inr x)
theorem prel_n {o : Option pO} : prel none o := fun _ h => by cases h
theorem prel_x {Y : pY} {G : pG} {pc : Nat} {l l' stk : List pV} (h : ple l l') : prel (pnx Y G pc l stk) (pnx Y G pc l' stk) := fun r e => by cases e; exact ⟨l', rfl, h⟩
theorem prel_s {x : (Nat × List pV × List pV) ⊕ Option pV} : prel (some (.inr x)) (some (.inr x)) := fun r e => by cases e; rfl
theorem prel_if {c : Prop} [Decidable c] {a b a' b' : Option pO} (h1 : prel a a') (h2 : prel b b') : prel (if c then a else b) (if c then a' else b') := by split <;> assumption
theorem prel_bif {c : Bool} {a b a' b' : Option pO} (h1 : prel a a') (h2 : prel b b') : prel (bif c then a else b) (bif c then a' else b') := by cases c <;> assumption
theorem prel_op {β : Type} {o : Option β} {k k' : β → Option pO} (h : ∀ b, prel (k b) (k' b)) : prel (k_op o none k) (k_op o none k') := by cases o <;> first | exact prel_n | exact h _
theorem prel_i {stk : List pV} {k k' : Int → List pV → Option pO} (h : ∀ x0 x1, prel (k x0 x1) (k' x0 x1)) : prel (k_i stk none k) (k_i stk none k') := by
  unfold k_i; split
  · exact h _ _
  · exact prel_n
theorem prel_l {stk : List pV} {k k' : Int → List pV → Option pO} (h : ∀ x0 x1, prel (k x0 x1) (k' x0 x1)) : prel (k_l stk none k) (k_l stk none k') := by
  unfold k_l; split
  · exact h _ _
  · exact prel_n
theorem prel_r {stk : List pV} {k k' : Nat → List pV → Option pO} (h : ∀ x0 x1, prel (k x0 x1) (k' x0 x1)) : prel (k_r stk none k) (k_r stk none k') := by
  unfold k_r; split
  · exact h _ _
  · exact prel_n
theorem prel_ii {stk : List pV} {k k' : Int → Int → List pV → Option pO} (h : ∀ x0 x1 x2, prel (k x0 x1 x2) (k' x0 x1 x2)) : prel (k_ii stk none k) (k_ii stk none k') := by
  unfold k_ii; split
  · exact h _ _ _
  · exact prel_n
theorem prel_ll {stk : List pV} {k k' : Int → Int → List pV → Option pO} (h : ∀ x0 x1 x2, prel (k x0 x1 x2) (k' x0 x1 x2)) : prel (k_ll stk none k) (k_ll stk none k') := by
  unfold k_ll; split
  · exact h _ _ _
  · exact prel_n
theorem prel_li {stk : List pV} {k k' : Int → Int → List pV → Option pO} (h : ∀ x0 x1 x2, prel (k x0 x1 x2) (k' x0 x1 x2)) : prel (k_li stk none k) (k_li stk none k') := by
  unfold k_li; split
  · exact h _ _ _
  · exact prel_n
theorem prel_ri {stk : List pV} {k k' : Nat → Int → List pV → Option pO} (h : ∀ x0 x1 x2, prel (k x0 x1 x2) (k' x0 x1 x2)) : prel (k_ri stk none k) (k_ri stk none k') := by
  unfold k_ri; split
  · exact h _ _ _
  · exact prel_n
theorem prel_rl {stk : List pV} {k k' : Nat → Int → List pV → Option pO} (h : ∀ x0 x1 x2, prel (k x0 x1 x2) (k' x0 x1 x2)) : prel (k_rl stk none k) (k_rl stk none k') := by
  unfold k_rl; split
  · exact h _ _ _
  · exact prel_n
theorem prel_rr {stk : List pV} {k k' : Nat → Nat → List pV → Option pO} (h : ∀ x0 x1 x2, prel (k x0 x1 x2) (k' x0 x1 x2)) : prel (k_rr stk none k) (k_rr stk none k') := by
  unfold k_rr; split
  · exact h _ _ _
  · exact prel_n
theorem prel_rii {stk : List pV} {k k' : Nat → Int → Int → List pV → Option pO} (h : ∀ x0 x1 x2 x3, prel (k x0 x1 x2 x3) (k' x0 x1 x2 x3)) : prel (k_rii stk none k) (k_rii stk none k') := by
  unfold k_rii; split
  · exact h _ _ _ _
  · exact prel_n
theorem prel_ril {stk : List pV} {k k' : Nat → Int → Int → List pV → Option pO} (h : ∀ x0 x1 x2 x3, prel (k x0 x1 x2 x3) (k' x0 x1 x2 x3)) : prel (k_ril stk none k) (k_ril stk none k') := by
  unfold k_ril; split
  · exact h _ _ _ _
  · exact prel_n
theorem prel_cp {stk : List pV} {k k' : Nat → Int → Nat → Int → Int → List pV → Option pO} (h : ∀ x0 x1 x2 x3 x4 x5, prel (k x0 x1 x2 x3 x4 x5) (k' x0 x1 x2 x3 x4 x5)) : prel (k_cp stk none k) (k_cp stk none k') := by
  unfold k_cp; split
  · exact h _ _ _ _ _ _
  · exact prel_n
theorem prel_d {stk : List pV} {k k' : pV → List pV → Option pO} (h : ∀ v st, prel (k v st) (k' v st)) : prel (k_d stk none k) (k_d stk none k') := by
  unfold k_d k_c1; split
  · split
    · exact prel_n
    · exact h _ _
  · exact prel_n
theorem prel_d2 {stk : List pV} {k k' : pV → pV → List pV → Option pO} (h : ∀ v w st, prel (k v w st) (k' v w st)) : prel (k_d2 stk none k) (k_d2 stk none k') := by
  unfold k_d2 k_c1; split
  · split
    · exact prel_n
    · split
      · exact prel_n
      · exact h _ _ _
  · exact prel_n
theorem prel_oi {l l' : List pV} {i : Nat} {k k' : Int → Option pO} (hl : ple l l') (h : ∀ x, prel (k x) (k' x)) : prel (k_oi (pn l i) none k) (k_oi (pn l' i) none k') := by
  rcases ple_pn i hl with e | e | e
  · rw [e]; exact prel_n
  · rw [e]; exact prel_n
  · rw [e]; unfold k_oi; split
    · exact h _
    · exact prel_n
theorem prel_ol {l l' : List pV} {i : Nat} {k k' : Int → Option pO} (hl : ple l l') (h : ∀ x, prel (k x) (k' x)) : prel (k_ol (pn l i) none k) (k_ol (pn l' i) none k') := by
  rcases ple_pn i hl with e | e | e
  · rw [e]; exact prel_n
  · rw [e]; exact prel_n
  · rw [e]; unfold k_ol; split
    · exact h _
    · exact prel_n
theorem prel_or {l l' : List pV} {i : Nat} {k k' : Nat → Option pO} (hl : ple l l') (h : ∀ x, prel (k x) (k' x)) : prel (k_or (pn l i) none k) (k_or (pn l' i) none k') := by
  rcases ple_pn i hl with e | e | e
  · rw [e]; exact prel_n
  · rw [e]; exact prel_n
  · rw [e]; unfold k_or; split
    · exact h _
    · exact prel_n
set_option maxHeartbeats 4000000 in
set_option maxRecDepth 20000 in
theorem prel_step {Y : pY} {G : pG} {e : pE} {pc : Nat} {l l' stk : List pV} (hl : ple l l') : prel (pstep Y G e pc l stk) (pstep Y G e pc l' stk) := by
  obtain ⟨o, len, a, b, c⟩ := e
  cases o
  case iconst x => exact prel_x hl
  case ldc2_w x => exact prel_x hl
  case ldc x => exact prel_x hl
  case goto x => exact prel_x hl
  case new x => exact prel_bif (prel_x hl) prel_n
  case faload => exact prel_ri (fun _ _ _ => prel_bif (prel_if (prel_x hl) prel_n) prel_n)
  case fastore => exact prel_r (fun _ _ => prel_bif (prel_x hl) prel_n)
  case iload i => exact prel_oi hl (fun _ => prel_x hl)
  case lload i => exact prel_ol hl (fun _ => prel_x hl)
  case aload i => exact prel_or hl (fun _ => prel_x hl)
  case istore i => exact prel_i (fun _ _ => by rw [ple_len hl]; exact prel_bif (prel_x (ple_lst _ i hl)) prel_n)
  case lstore i => exact prel_l (fun _ _ => by rw [ple_len hl]; exact prel_bif (prel_x (ple_lst2 _ i hl)) prel_n)
  case astore i => exact prel_r (fun _ _ => by rw [ple_len hl]; exact prel_bif (prel_x (ple_lst _ i hl)) prel_n)
  case iinc i k => exact prel_oi hl (fun _ => prel_x (ple_lst _ i hl))
  case iadd => exact prel_ii (fun _ _ _ => prel_x hl)
  case isub => exact prel_ii (fun _ _ _ => prel_x hl)
  case imul => exact prel_ii (fun _ _ _ => prel_x hl)
  case iand => exact prel_ii (fun _ _ _ => prel_x hl)
  case ior => exact prel_ii (fun _ _ _ => prel_x hl)
  case ixor => exact prel_ii (fun _ _ _ => prel_x hl)
  case ishl => exact prel_ii (fun _ _ _ => prel_x hl)
  case ishr => exact prel_ii (fun _ _ _ => prel_x hl)
  case iushr => exact prel_ii (fun _ _ _ => prel_x hl)
  case ladd => exact prel_ll (fun _ _ _ => prel_x hl)
  case lsub => exact prel_ll (fun _ _ _ => prel_x hl)
  case lmul => exact prel_ll (fun _ _ _ => prel_x hl)
  case land => exact prel_ll (fun _ _ _ => prel_x hl)
  case lor => exact prel_ll (fun _ _ _ => prel_x hl)
  case lcmp => exact prel_ll (fun _ _ _ => prel_x hl)
  case lshl => exact prel_li (fun _ _ _ => prel_x hl)
  case lshr => exact prel_li (fun _ _ _ => prel_x hl)
  case idiv => exact prel_ii (fun _ _ _ => prel_if prel_n (prel_x hl))
  case irem => exact prel_ii (fun _ _ _ => prel_if prel_n (prel_x hl))
  case ldiv => exact prel_ll (fun _ _ _ => prel_if prel_n (prel_x hl))
  case lrem => exact prel_ll (fun _ _ _ => prel_if prel_n (prel_x hl))
  case ineg => exact prel_i (fun _ _ => prel_x hl)
  case i2l => exact prel_i (fun _ _ => prel_x hl)
  case i2b => exact prel_i (fun _ _ => prel_x hl)
  case lneg => exact prel_l (fun _ _ => prel_x hl)
  case l2i => exact prel_l (fun _ _ => prel_x hl)
  case dup => exact prel_d (fun _ _ => prel_x hl)
  case dup2 => exact prel_d2 (fun _ _ _ => prel_x hl)
  case ifCond cc off => exact prel_i (fun _ _ => prel_bif (prel_x hl) (prel_x hl))
  case if_icmp cc off => exact prel_ii (fun _ _ _ => prel_bif (prel_x hl) (prel_x hl))
  case tableswitch dflt lo hi offs => exact prel_i (fun _ _ => prel_if (prel_x hl) (prel_op (fun _ => prel_x hl)))
  case lookupswitch dflt ps => exact prel_i (fun _ _ => prel_x hl)
  case getfield i => exact prel_r (fun _ _ => prel_bif (by
    split
    · exact prel_x hl
    · exact prel_op (fun _ => prel_x hl)
    · exact prel_x hl) prel_n)
  case putfield i =>
    unfold pstep
    dsimp only
    split
    · exact prel_ri (fun _ _ _ => prel_bif (prel_x hl) prel_n)
    · exact prel_rl (fun _ _ _ => prel_bif (prel_x hl) prel_n)
    · exact prel_ri (fun _ _ _ => prel_bif (prel_if (prel_x hl) prel_n) prel_n)
    · exact prel_rr (fun _ _ _ => prel_bif (prel_x hl) prel_n)
  case iaload => exact prel_ri (fun _ _ _ => prel_bif (prel_if (prel_x hl) prel_n) prel_n)
  case laload => exact prel_ri (fun _ _ _ => prel_bif (prel_if (prel_x hl) prel_n) prel_n)
  case baload => exact prel_ri (fun _ _ _ => prel_bif (prel_if (prel_x hl) prel_n) prel_n)
  case aaload => exact prel_ri (fun _ _ _ => prel_bif (prel_if (prel_op (fun _ => prel_x hl)) prel_n) prel_n)
  case iastore => exact prel_rii (fun _ _ _ _ => prel_bif (prel_if (prel_x hl) prel_n) prel_n)
  case bastore => exact prel_rii (fun _ _ _ _ => prel_bif (prel_if (prel_x hl) prel_n) prel_n)
  case lastore => exact prel_ril (fun _ _ _ _ => prel_bif (prel_if (prel_x hl) prel_n) prel_n)
  case arraylength => exact prel_r (fun _ _ => prel_bif (prel_x hl) prel_n)
  case invokestatic rc => exact prel_op (fun _ => prel_bif prel_s prel_n)
  case pop => exact prel_r (fun _ _ => prel_bif (prel_x hl) prel_n)
  case f2d => exact prel_ii (fun _ _ _ => prel_bif (prel_x hl) prel_n)
  case f2i => exact prel_ii (fun _ _ _ => prel_bif (prel_x hl) prel_n)
  case d2i => exact prel_ll (fun _ _ _ => prel_bif (prel_x hl) prel_n)
  case f2l => exact prel_i (fun _ _ => prel_bif (prel_x hl) prel_n)
  case d2f => exact prel_l (fun _ _ => prel_bif (prel_x hl) prel_n)
  case d2l => exact prel_cp (fun _ _ _ _ _ _ => prel_bif (prel_bif (prel_if (prel_x hl) prel_n) prel_n) prel_n)
  case daload => exact prel_r (fun _ _ => prel_bif (prel_op (fun _ => prel_x hl)) prel_n)
  case dastore => exact prel_ri (fun _ _ _ => prel_bif (prel_op (fun _ => prel_if (prel_op (fun _ => prel_x hl)) prel_n)) prel_n)
  case newarray t => exact prel_i (fun _ _ => prel_if (prel_x hl) prel_n)
  case multianewarray i n => exact prel_ii (fun _ _ _ => prel_if (prel_x hl) prel_n)
  case ireturn =>
    unfold pstep
    dsimp only
    split
    · exact prel_bif (prel_if prel_s prel_n) prel_s
    · exact prel_n
  case lreturn =>
    unfold pstep
    dsimp only
    split
    · exact prel_s
    · exact prel_n
  case return_ =>
    unfold pstep
    dsimp only
    split
    · exact prel_s
    · exact prel_n
  all_goals exact prel_n
theorem pexec_more (MT : Nat → Option pM) : ∀ (f d M pc : Nat) (l l' stk : List pV) (Y : pY) (G : pG) (r : Option pV × pY × pG), ple l l' → pexec MT f d M pc l stk Y G = some r → pexec MT f d M pc l' stk Y G = some r := by
  intro f
  induction f with
  | zero => intro d M pc l l' stk Y G r _ h; exact absurd h (by simp [pexec])
  | succ f ih =>
    intro d M pc l l' stk Y G r hl h
    rw [pexec] at h ⊢
    cases hM : MT M with
    | none => rw [hM] at h; exact absurd h (by simp)
    | some mi =>
      rw [hM] at h
      dsimp only at h ⊢
      cases hk : plook mi.1 pc with
      | none => rw [hk] at h; exact absurd h (by simp)
      | some e =>
        rw [hk] at h
        dsimp only at h ⊢
        have hp := prel_step (Y := Y) (G := G) (e := e) (pc := pc) (stk := stk) hl
        rcases hs : pstep Y G e pc l stk with _ | (⟨pc', loc', stk', Y', G'⟩ | ⟨m, as, st⟩ | r')
        · rw [hs] at h; exact absurd h (by simp)
        · rw [hs] at h
          obtain ⟨l2, h2, h3⟩ := hp _ hs
          rw [h2]
          exact ih _ _ _ _ _ _ _ _ _ h3 h
        · rw [hs] at h
          have h2 : pstep Y G e pc l' stk = some (.inr (.inl (m, as, st))) := hp _ hs
          rw [h2]
          dsimp only at h ⊢
          cases d with
          | zero => exact absurd h (by simp)
          | succ d' =>
            dsimp only at h ⊢
            cases hm : MT m with
            | none => rw [hm] at h; exact absurd h (by simp)
            | some mc =>
              rw [hm] at h
              dsimp only at h ⊢
              cases hk2 : Nat.ble (pcat as) mc.2.1 with
              | false => rw [hk2] at h; cases h
              | true =>
              rw [hk2] at h
              dsimp only [cond_true] at h ⊢
              cases hc : pexec MT f d' m 0 (pent as mc.2.1) [] Y G with
              | none => rw [hc] at h; exact absurd h (by simp)
              | some q =>
                obtain ⟨r1, Y1, G1⟩ := q
                rw [hc] at h
                exact ih _ _ _ _ _ _ _ _ _ hl h
        · rw [hs] at h
          have h2 : pstep Y G e pc l' stk = some (.inr (.inr r')) := hp _ hs
          rw [h2]
          exact h
theorem pEnds.more {MT : Nat → Option pM} {d M : Nat} {Y : pY} {R : Option pV → pG → Prop} {pc : Nat} {l l' stk : List pV} {G : pG} (hl : ple l l') (h : pEnds MT d M Y R pc l stk G) : pEnds MT d M Y R pc l' stk G := by
  obtain ⟨f, r, G', h1, h2⟩ := h
  exact ⟨f, r, G', pexec_more MT _ _ _ _ _ _ _ _ _ _ hl h1, h2⟩
theorem pwp_ok {MT : Nat → Option pM} {d M : Nat} {cs : List (Nat × List Bool)} {Y : pY} {R : Option pV → pG → Prop} {mi : pM} (hM : MT M = some mi) : ∀ (n pc : Nat) (loc stk : List pV) (G : pG), pwp MT d M mi.1 cs Y R n pc loc stk G → pEnds MT d M Y R pc loc stk G := by
  intro n
  induction n with
  | zero => intro pc loc stk G h; exact h
  | succ n ih =>
    intro pc loc stk G h
    obtain ⟨e, he, h⟩ := k_op_f h
    refine pw1_sound hM (fun pc' loc' stk' G' hg => ?_) he h
    cases hc : pcut cs pc' with
    | some m => rw [hc] at hg; exact pEnds.more (ple_mk m loc') hg
    | none => rw [hc] at hg; exact ih _ _ _ _ hg
/-- n steps of a method with the code t, not through the places cs -/
theorem pwp_go {MT : Nat → Option pM} {d M : Nat} (t : pT) (cs : List (Nat × List Bool)) (n : Nat) {Y : pY} {R : Option pV → pG → Prop} {mL rc : Nat} (hM : MT M = some (t, mL, rc)) {pc : Nat} {loc stk : List pV} {G : pG} (h : pwp MT d M t cs Y R n pc loc stk G) : pEnds MT d M Y R pc loc stk G := pwp_ok (mi := (t, mL, rc)) hM n pc loc stk G h

theorem pRuns.of {MT : Nat → Option pM} {d m : Nat} {as : List pV} {Y : pY} {G G' : pG} {r : Option pV} {mi : pM} (hM : MT m = some mi) (hk : Nat.ble (pcat as) mi.2.1 = true) (h : pEnds MT d m Y (fun r' g => r' = r ∧ g = G') 0 (pent as mi.2.1) [] G) : pRuns MT d m as Y G r G' := by
  obtain ⟨f, r1, G1, h1, rfl, rfl⟩ := h
  exact ⟨mi, f, hM, hk, h1⟩
end
section
/-! SIM: the kit's machine does what the pure machine does. -/
/-- same addresses, place by place -/
def aS (ws ws' : va_W) : Prop := ∀ (a q : Nat) (e : va_E), ws[a]? = some (q, e) → ∃ e', ws'[a]? = some (q, e')
theorem aS.rf (ws : va_W) : aS ws ws := fun _ _ e h => ⟨e, h⟩
theorem aS.tr {w1 w2 w3 : va_W} (h : aS w1 w2) (h2 : aS w2 w3) : aS w1 w3 := fun a q e he => by
  obtain ⟨e1, h1⟩ := h a q e he
  exact h2 a q e1 h1
theorem aS.set {ws : va_W} {i a : Nat} {e e' : va_E} (h : ws[i]? = some (a, e)) : aS ws (ws.set i (a, e')) := fun b q x hb => by
  have hl := (List.getElem?_eq_some_iff.mp h).1
  by_cases hbi : b = i
  · subst hbi
    rw [h] at hb
    cases hb
    exact ⟨e', List.getElem?_set_self hl⟩
  · exact ⟨x, by rw [List.getElem?_set_ne (Ne.symm hbi)]; exact hb⟩
theorem aS.app (ws w2 : va_W) : aS ws (ws ++ w2) := fun b q x hb => ⟨x, by rw [List.getElem?_append_left (List.getElem?_eq_some_iff.mp hb).1]; exact hb⟩
/-- values; sx: the addresses of what lies outside the world (the script, the strings) -/
def vR (ws : va_W) (sx : Nat → Option Nat) (v : pV) (w : Value) : Prop := match v with
  | .inl x => ∃ y : Int32, w = .int y ∧ y.toInt = x
  | .inr (.inl x) => ∃ y : Int64, w = .long y ∧ y.toInt = x
  | .inr (.inr (some a)) => ∃ q : Nat, w = .ref q ∧ ((∃ e, ws[a]? = some (q, e)) ∨ (499 ≤ a ∧ sx a = some q))
  | .inr (.inr none) => False
theorem vR.mv {ws ws' : va_W} {sx : Nat → Option Nat} {v : pV} {w : Value} (hs : aS ws ws') (h : vR ws sx v w) : vR ws' sx v w := by
  rcases v with x | x | _ | a
  · exact h
  · exact h
  · exact h
  · obtain ⟨q, h1, h2⟩ := h
    refine ⟨q, h1, ?_⟩
    rcases h2 with ⟨e, h2⟩ | h2
    · exact Or.inl (hs a q e h2)
    · exact Or.inr h2
def sR (ws : va_W) (sx : Nat → Option Nat) : List pV → List Value → Prop
  | [], [] => True
  | v :: l, w :: m => vR ws sx v w ∧ sR ws sx l m
  | _, _ => False
theorem sR.mv {ws ws' : va_W} {sx : Nat → Option Nat} (hs : aS ws ws') : ∀ {l : List pV} {m : List Value}, sR ws sx l m → sR ws' sx l m
  | [], [], _ => trivial
  | _ :: _, _ :: _, h => ⟨h.1.mv hs, sR.mv hs h.2⟩
theorem sR_n {ws : va_W} {sx : Nat → Option Nat} {m : List Value} (h : sR ws sx [] m) : m = [] := by
  cases m with
  | nil => rfl
  | cons _ _ => exact h.elim
theorem sR_c {ws : va_W} {sx : Nat → Option Nat} {v : pV} {l : List pV} {m : List Value} (h : sR ws sx (v :: l) m) : ∃ w m', m = w :: m' ∧ vR ws sx v w ∧ sR ws sx l m' := by
  cases m with
  | nil => exact h.elim
  | cons w m => exact ⟨w, m, rfl, h.1, h.2⟩
theorem sR_i {ws : va_W} {sx : Nat → Option Nat} {x : Int} {l : List pV} {m : List Value} (h : sR ws sx (.inl x :: l) m) : ∃ (y : Int32) (m' : List Value), m = .int y :: m' ∧ y.toInt = x ∧ sR ws sx l m' := by
  obtain ⟨w, m', rfl, ⟨y, rfl, h1⟩, h2⟩ := sR_c h
  exact ⟨y, m', rfl, h1, h2⟩
theorem sR_l {ws : va_W} {sx : Nat → Option Nat} {x : Int} {l : List pV} {m : List Value} (h : sR ws sx (.inr (.inl x) :: l) m) : ∃ (y : Int64) (m' : List Value), m = .long y :: m' ∧ y.toInt = x ∧ sR ws sx l m' := by
  obtain ⟨w, m', rfl, ⟨y, rfl, h1⟩, h2⟩ := sR_c h
  exact ⟨y, m', rfl, h1, h2⟩
theorem sR_r {ws : va_W} {sx : Nat → Option Nat} {a : Nat} {l : List pV} {m : List Value} (h : sR ws sx (.inr (.inr (some a)) :: l) m) : ∃ (q : Nat) (m' : List Value), m = .ref q :: m' ∧ ((∃ e, ws[a]? = some (q, e)) ∨ (499 ≤ a ∧ sx a = some q)) ∧ sR ws sx l m' := by
  obtain ⟨w, m', rfl, ⟨y, rfl, h1⟩, h2⟩ := sR_c h
  exact ⟨y, m', rfl, h1, h2⟩
theorem sR.cat {ws : va_W} {sx : Nat → Option Nat} : ∀ {l : List pV} {m : List Value}, sR ws sx l m → (m.map fun v => v.category).sum = pcat l
  | [], [], _ => rfl
  | v :: l, w :: m, h => by
    have ih := sR.cat h.2
    rw [List.map_cons, List.sum_cons, ih]
    rcases v with x | x | _ | a
    · obtain ⟨y, rfl, -⟩ := h.1; rfl
    · obtain ⟨y, rfl, -⟩ := h.1; rfl
    · exact h.1.elim
    · obtain ⟨y, rfl, -⟩ := h.1; rfl
/-- locals -/
def lR (ws : va_W) (sx : Nat → Option Nat) (nL : Nat) (loc : List pV) (ls : Array Slot) : Prop := ls.size = nL ∧ lv_wf ls ∧ loc.length ≤ nL ∧ ∀ (i : Nat) (v : pV), pn loc i = some v → v = pU ∨ ∃ w, ls[i]? = some (.val w) ∧ vR ws sx v w
theorem lR.mv {ws ws' : va_W} {sx : Nat → Option Nat} {nL : Nat} {loc : List pV} {ls : Array Slot} (hs : aS ws ws') (h : lR ws sx nL loc ls) : lR ws' sx nL loc ls := ⟨h.1, h.2.1, h.2.2.1, fun i v hv => by
  rcases h.2.2.2 i v hv with e | ⟨w, h1, h2⟩
  · exact Or.inl e
  · exact Or.inr ⟨w, h1, h2.mv hs⟩⟩
theorem lR.at {ws : va_W} {sx : Nat → Option Nat} {nL : Nat} {loc : List pV} {ls : Array Slot} (h : lR ws sx nL loc ls) {i : Nat} {v : pV} (hv : pn loc i = some v) (hu : v ≠ pU) : ∃ w, ls[i]? = some (.val w) ∧ vR ws sx v w := by
  rcases h.2.2.2 i v hv with e | h
  · exact absurd e hu
  · exact h
theorem pn_lt {α : Type} : ∀ {l : List α} {i : Nat} {a : α}, pn l i = some a → i < l.length
  | [], _, _, h => by cases h
  | _ :: l, 0, _, _ => by rw [List.length_cons]; omega
  | _ :: l, i + 1, a, h => by
    have := pn_lt (l := l) (i := i) h
    rw [List.length_cons]; omega
theorem plst_len (v : pV) : ∀ (l : List pV) (i : Nat), (plst l i v).length = l.length
  | [], _ => rfl
  | _ :: _, 0 => rfl
  | a :: l, 1 => by
    have h0 := plst_len v l 0
    rcases a with x | x | x <;> simp only [plst, List.length_cons, h0]
  | a :: l, i + 2 => by
    have h0 := plst_len v l (i + 1)
    rcases a with x | x | x <;> simp only [plst, List.length_cons, h0]
/-- what stands behind a store -/
theorem plst_at (v : pV) : ∀ (l : List pV) (i j : Nat) (w : pV), pn (plst l i v) j = some w → (j = i ∧ w = v) ∨ w = pU ∨ (j ≠ i ∧ pn l j = some w ∧ (j + 1 = i → ∀ x, w ≠ pL x))
  | [], _, _, _, h => by cases h
  | a :: l, 0, 0, w, h => by cases h; exact Or.inl ⟨rfl, rfl⟩
  | a :: l, 0, j + 1, w, h => Or.inr (Or.inr ⟨by omega, h, fun e => by omega⟩)
  | a :: l, 1, 0, w, h => by
    rcases a with x | x | x
    · cases h; exact Or.inr (Or.inr ⟨by omega, rfl, fun _ y e => by cases e⟩)
    · cases h; exact Or.inr (Or.inl rfl)
    · cases h; exact Or.inr (Or.inr ⟨by omega, rfl, fun _ y e => by cases e⟩)
  | a :: l, 1, j + 1, w, h => by
    have h2 : pn (plst l 0 v) j = some w := by rcases a with x | x | x <;> exact h
    rcases plst_at v l 0 j w h2 with ⟨e, e2⟩ | e | ⟨e, e2, e3⟩
    · exact Or.inl ⟨by omega, e2⟩
    · exact Or.inr (Or.inl e)
    · exact Or.inr (Or.inr ⟨by omega, e2, fun q => by omega⟩)
  | a :: l, i + 2, 0, w, h => by
    have h2 : some a = some w := by rcases a with x | x | x <;> exact h
    exact Or.inr (Or.inr ⟨by omega, h2, fun q => by omega⟩)
  | a :: l, i + 2, j + 1, w, h => by
    have h2 : pn (plst l (i + 1) v) j = some w := by rcases a with x | x | x <;> exact h
    rcases plst_at v l (i + 1) j w h2 with ⟨e, e2⟩ | e | ⟨e, e2, e3⟩
    · exact Or.inl ⟨by omega, e2⟩
    · exact Or.inr (Or.inl e)
    · exact Or.inr (Or.inr ⟨by omega, e2, fun q => e3 (by omega)⟩)
theorem vR.cat1 {ws : va_W} {sx : Nat → Option Nat} {v : pV} {w : Value} (h : vR ws sx v w) (hv : ∀ x, v ≠ pL x) : w.category = 1 := by
  rcases v with x | x | _ | a
  · obtain ⟨y, rfl, -⟩ := h; rfl
  · exact absurd rfl (hv x)
  · exact h.elim
  · obtain ⟨y, rfl, -⟩ := h; rfl
/-- a store of one word -/
theorem lR.st1 {ws : va_W} {sx : Nat → Option Nat} {nL : Nat} {loc : List pV} {ls ls' : Array Slot} {i : Nat} {v : pV} {w : Value} (h : lR ws sx nL loc ls) (hi : i < loc.length) (hc : w.category = 1) (hs : storeLocals ls i w = some ls') (hv : vR ws sx v w) : lR ws sx nL (plst loc i v) ls' := by
  obtain ⟨h1, h2, h3, h4⟩ := h
  have hb : ∀ l, lv_has ls nL l → lv_has ls' nL ((i, w) :: l.filter (fun q => !(q.1 == i) && !(q.1 + 1 == i && q.2.category == 2))) := fun l hl => by
    obtain ⟨l2, e2, h2⟩ := lv_store1 (v := w) hl (show i < nL by omega) hc
    rw [hs] at e2
    cases e2
    exact h2
  have h0 := hb [] ⟨h1, h2, fun _ hq => by cases hq⟩
  refine ⟨h0.1, h0.2.1, by rw [plst_len]; exact h3, fun j u hu => ?_⟩
  rcases plst_at v loc i j u hu with ⟨e, e2⟩ | e | ⟨e, e2, e3⟩
  · subst e; subst e2
    exact Or.inr ⟨w, h0.2.2 (j, w) List.mem_cons_self, hv⟩
  · exact Or.inl e
  · rcases h4 j u e2 with e4 | ⟨w2, g1, g2⟩
    · exact Or.inl e4
    · refine Or.inr ⟨w2, ?_, g2⟩
      refine (hb [(j, w2)] ⟨h1, h2, fun q hq => by rw [List.mem_singleton.mp hq]; exact g1⟩).2.2 (j, w2) (List.mem_cons_of_mem _ (List.mem_filter.mpr ⟨List.mem_singleton.mpr rfl, ?_⟩))
      by_cases hj : j + 1 = i
      · have := g2.cat1 (e3 hj)
        simp [e, this]
      · simp [e, hj]
/-- a store of two words -/
theorem lR.st2 {ws : va_W} {sx : Nat → Option Nat} {nL : Nat} {loc : List pV} {ls ls' : Array Slot} {i : Nat} {v : pV} {w : Value} (h : lR ws sx nL loc ls) (hi : i + 1 < loc.length) (hc : w.category = 2) (hs : storeLocals ls i w = some ls') (hv : vR ws sx v w) : lR ws sx nL (plst2 loc i v) ls' := by
  obtain ⟨h1, h2, h3, h4⟩ := h
  have hb : ∀ l, lv_has ls nL l → lv_has ls' nL ((i, w) :: l.filter (fun q => !(q.1 == i) && (!(q.1 == i + 1) && !(q.1 + 1 == i && q.2.category == 2)))) := fun l hl => by
    obtain ⟨l2, e2, h2⟩ := lv_store2 (v := w) hl (show i + 1 < nL by omega) hc
    rw [hs] at e2
    cases e2
    exact h2
  have h0 := hb [] ⟨h1, h2, fun _ hq => by cases hq⟩
  refine ⟨h0.1, h0.2.1, by unfold plst2; rw [plst_len, plst_len]; exact h3, fun j u hu => ?_⟩
  unfold plst2 at hu
  rcases plst_at v _ i j u hu with ⟨e, e2⟩ | e | ⟨e, e2, e3⟩
  · subst e; subst e2
    exact Or.inr ⟨w, h0.2.2 (j, w) List.mem_cons_self, hv⟩
  · exact Or.inl e
  · rcases plst_at pU loc (i + 1) j u e2 with ⟨f, f2⟩ | f | ⟨f, f2, f3⟩
    · exact Or.inl f2
    · exact Or.inl f
    · rcases h4 j u f2 with e4 | ⟨w2, g1, g2⟩
      · exact Or.inl e4
      · refine Or.inr ⟨w2, ?_, g2⟩
        refine (hb [(j, w2)] ⟨h1, h2, fun q hq => by rw [List.mem_singleton.mp hq]; exact g1⟩).2.2 (j, w2) (List.mem_cons_of_mem _ (List.mem_filter.mpr ⟨List.mem_singleton.mpr rfl, ?_⟩))
        by_cases hj : j + 1 = i
        · have := g2.cat1 (e3 hj)
          simp [e, f, this]
        · simp [e, f, hj]

theorem k_i_s {stk : List pV} {k : Int → List pV → Option pO} {z : pO} (h : k_i stk none k = some z) : ∃ (x : Int) (st : List pV), stk = .inl x :: st ∧ k x st = some z := by
  unfold k_i at h; split at h
  · exact ⟨_, _, rfl, h⟩
  · cases h
theorem k_l_s {stk : List pV} {k : Int → List pV → Option pO} {z : pO} (h : k_l stk none k = some z) : ∃ (x : Int) (st : List pV), stk = .inr (.inl x) :: st ∧ k x st = some z := by
  unfold k_l at h; split at h
  · exact ⟨_, _, rfl, h⟩
  · cases h
theorem k_r_s {stk : List pV} {k : Nat → List pV → Option pO} {z : pO} (h : k_r stk none k = some z) : ∃ (x : Nat) (st : List pV), stk = .inr (.inr (some x)) :: st ∧ k x st = some z := by
  unfold k_r at h; split at h
  · exact ⟨_, _, rfl, h⟩
  · cases h
theorem k_ii_s {stk : List pV} {k : Int → Int → List pV → Option pO} {z : pO} (h : k_ii stk none k = some z) : ∃ (x : Int) (y : Int) (st : List pV), stk = .inl y :: .inl x :: st ∧ k x y st = some z := by
  unfold k_ii at h; split at h
  · exact ⟨_, _, _, rfl, h⟩
  · cases h
theorem k_ll_s {stk : List pV} {k : Int → Int → List pV → Option pO} {z : pO} (h : k_ll stk none k = some z) : ∃ (x : Int) (y : Int) (st : List pV), stk = .inr (.inl y) :: .inr (.inl x) :: st ∧ k x y st = some z := by
  unfold k_ll at h; split at h
  · exact ⟨_, _, _, rfl, h⟩
  · cases h
theorem k_li_s {stk : List pV} {k : Int → Int → List pV → Option pO} {z : pO} (h : k_li stk none k = some z) : ∃ (x : Int) (y : Int) (st : List pV), stk = .inl y :: .inr (.inl x) :: st ∧ k x y st = some z := by
  unfold k_li at h; split at h
  · exact ⟨_, _, _, rfl, h⟩
  · cases h
theorem k_ri_s {stk : List pV} {k : Nat → Int → List pV → Option pO} {z : pO} (h : k_ri stk none k = some z) : ∃ (x : Nat) (y : Int) (st : List pV), stk = .inl y :: .inr (.inr (some x)) :: st ∧ k x y st = some z := by
  unfold k_ri at h; split at h
  · exact ⟨_, _, _, rfl, h⟩
  · cases h
theorem k_rl_s {stk : List pV} {k : Nat → Int → List pV → Option pO} {z : pO} (h : k_rl stk none k = some z) : ∃ (x : Nat) (y : Int) (st : List pV), stk = .inr (.inl y) :: .inr (.inr (some x)) :: st ∧ k x y st = some z := by
  unfold k_rl at h; split at h
  · exact ⟨_, _, _, rfl, h⟩
  · cases h
theorem k_rr_s {stk : List pV} {k : Nat → Nat → List pV → Option pO} {z : pO} (h : k_rr stk none k = some z) : ∃ (x : Nat) (y : Nat) (st : List pV), stk = .inr (.inr (some y)) :: .inr (.inr (some x)) :: st ∧ k x y st = some z := by
  unfold k_rr at h; split at h
  · exact ⟨_, _, _, rfl, h⟩
  · cases h
theorem k_rii_s {stk : List pV} {k : Nat → Int → Int → List pV → Option pO} {z : pO} (h : k_rii stk none k = some z) : ∃ (x : Nat) (y : Int) (v : Int) (st : List pV), stk = .inl v :: .inl y :: .inr (.inr (some x)) :: st ∧ k x y v st = some z := by
  unfold k_rii at h; split at h
  · exact ⟨_, _, _, _, rfl, h⟩
  · cases h
theorem k_ril_s {stk : List pV} {k : Nat → Int → Int → List pV → Option pO} {z : pO} (h : k_ril stk none k = some z) : ∃ (x : Nat) (y : Int) (v : Int) (st : List pV), stk = .inr (.inl v) :: .inl y :: .inr (.inr (some x)) :: st ∧ k x y v st = some z := by
  unfold k_ril at h; split at h
  · exact ⟨_, _, _, _, rfl, h⟩
  · cases h
theorem k_oi_s {o : Option pV} {k : Int → Option pO} {z : pO} (h : k_oi o none k = some z) : ∃ x, o = some (.inl x) ∧ k x = some z := by
  unfold k_oi at h; split at h
  · exact ⟨_, rfl, h⟩
  · cases h
theorem k_ol_s {o : Option pV} {k : Int → Option pO} {z : pO} (h : k_ol o none k = some z) : ∃ x, o = some (.inr (.inl x)) ∧ k x = some z := by
  unfold k_ol at h; split at h
  · exact ⟨_, rfl, h⟩
  · cases h
theorem k_or_s {o : Option pV} {k : Nat → Option pO} {z : pO} (h : k_or o none k = some z) : ∃ x, o = some (.inr (.inr (some x))) ∧ k x = some z := by
  unfold k_or at h; split at h
  · exact ⟨_, rfl, h⟩
  · cases h
theorem k_op_s {β γ : Type} {o : Option β} {k : β → Option γ} {z : γ} (h : k_op o none k = some z) : ∃ x, o = some x ∧ k x = some z := by
  unfold k_op at h; split at h
  · exact ⟨_, rfl, h⟩
  · cases h
theorem bif_s {γ : Type} {b : Bool} {a : Option γ} {z : γ} (h : (bif b then a else none) = some z) : b = true ∧ a = some z := by
  cases b
  · cases h
  · exact ⟨rfl, h⟩
theorem if_s {γ : Type} {b : Prop} [Decidable b] {a : Option γ} {z : γ} (h : (if b then a else none) = some z) : b ∧ a = some z := by
  by_cases hb : b
  · rw [if_pos hb] at h; exact ⟨hb, h⟩
  · rw [if_neg hb] at h; cases h
theorem ifn_s {γ : Type} {b : Prop} [Decidable b] {a : Option γ} {z : γ} (h : (if b then none else a) = some z) : ¬ b ∧ a = some z := by
  by_cases hb : b
  · rw [if_pos hb] at h; cases h
  · rw [if_neg hb] at h; exact ⟨hb, h⟩
theorem pnx_s {Y : pY} {G : pG} {pc : Nat} {loc stk : List pV} {z : pO} (h : pnx Y G pc loc stk = some z) : z = .inl (pc, loc, stk, Y, G) := (Option.some.inj h).symm
theorem k_d_s {stk : List pV} {k : pV → List pV → Option pO} {z : pO} (h : k_d stk none k = some z) : ∃ v st, stk = v :: st ∧ (∀ x, v ≠ pL x) ∧ k v st = some z := by
  unfold k_d k_c1 at h; split at h
  · rename_i v st
    rcases v with x | x | x
    · exact ⟨_, _, rfl, (fun _ e => by cases e), h⟩
    · cases h
    · exact ⟨_, _, rfl, (fun _ e => by cases e), h⟩
  · cases h
theorem k_d2_s {stk : List pV} {k : pV → pV → List pV → Option pO} {z : pO} (h : k_d2 stk none k = some z) : ∃ v w st, stk = v :: w :: st ∧ (∀ x, v ≠ pL x) ∧ (∀ x, w ≠ pL x) ∧ k v w st = some z := by
  unfold k_d2 k_c1 at h; split at h
  · rename_i v w st
    rcases v with x | x | x
    · rcases w with y | y | y
      · exact ⟨_, _, _, rfl, (fun _ e => by cases e), (fun _ e => by cases e), h⟩
      · cases h
      · exact ⟨_, _, _, rfl, (fun _ e => by cases e), (fun _ e => by cases e), h⟩
    · cases h
    · rcases w with y | y | y
      · exact ⟨_, _, _, rfl, (fun _ e => by cases e), (fun _ e => by cases e), h⟩
      · cases h
      · exact ⟨_, _, _, rfl, (fun _ e => by cases e), (fun _ e => by cases e), h⟩
  · cases h
theorem w32_add (a b : Int32) : (a + b).toInt = w32 (a.toInt + b.toInt) := by simp [w32, Int32.ofInt_add]
theorem w32_sub (a b : Int32) : (a - b).toInt = w32 (a.toInt - b.toInt) := by simp [w32, Int32.ofInt_sub]
theorem w32_mul (a b : Int32) : (a * b).toInt = w32 (a.toInt * b.toInt) := by simp [w32, Int32.ofInt_mul]
theorem w32_neg (a : Int32) : (-a).toInt = w32 (-a.toInt) := by simp [w32, Int32.ofInt_neg]
theorem w64_add (a b : Int64) : (a + b).toInt = w64 (a.toInt + b.toInt) := by simp [w64, Int64.ofInt_add]
theorem w64_sub (a b : Int64) : (a - b).toInt = w64 (a.toInt - b.toInt) := by simp [w64, Int64.ofInt_sub]
theorem w64_mul (a b : Int64) : (a * b).toInt = w64 (a.toInt * b.toInt) := by simp [w64, Int64.ofInt_mul]
theorem w64_neg (a : Int64) : (-a).toInt = w64 (-a.toInt) := by simp [w64, Int64.ofInt_neg]
theorem w32_of (z : Int) (a : Int32) : w32 (a.toInt + z) = (a + Int32.ofInt z).toInt := by simp [w32, Int32.ofInt_add]
theorem w32_l2i (a : Int64) : a.toInt32.toInt = w32 a.toInt := by
  unfold w32
  rw [Int32.toInt_ofInt, Int64.toInt_toInt32]
end
section
def pwl (q : Nat × Nat) (c : Cond) : Cond := match q with
  | (0, _) => c
  | (ci + 1, k) => u_lay (pown ci) (pfT ci) k
def pLy_1 : List (Nat × Nat) := [(0, 0), (0, 0), (0, 0), (0, 0), (0, 0), (0, 0), (0, 0), (0, 0), (0, 0), (0, 0), (0, 0), (0, 0), (0, 0), (0, 0), (0, 0), (0, 0), (0, 0), (0, 0), (0, 0), (0, 0), (0, 0), (0, 0), (0, 0), (0, 0), (0, 0), (0, 0), (0, 0), (0, 0), (0, 0), (0, 0), (0, 0), (0, 0), (0, 0), (0, 0), (0, 0), (0, 0), (0, 0), (0, 0), (0, 0), (0, 0), (0, 0), (0, 0), (0, 0), (0, 0), (0, 0), (0, 0), (0, 0), (0, 0), (0, 0), (10, 0), (0, 0), (10, 1), (0, 0), (10, 2), (0, 0), (10, 3), (0, 0), (10, 4), (0, 0), (10, 5), (0, 0), (0, 0), (0, 0), (0, 0), (0, 0), (0, 0), (0, 0), (0, 0), (0, 0), (0, 0), (0, 0), (0, 0), (0, 0), (0, 0), (0, 0), (0, 0), (0, 0), (0, 0), (0, 0), (0, 0), (0, 0), (0, 0), (0, 0), (0, 0), (0, 0), (0, 0), (0, 0), (0, 0), (0, 0), (0, 0), (0, 0), (0, 0), (0, 0), (0, 0), (0, 0), (0, 0), (0, 0), (0, 0), (0, 0), (0, 0), (0, 0), (0, 0), (0, 0), (0, 0), (0, 0), (0, 0), (0, 0), (0, 0), (0, 0), (0, 0), (0, 0), (0, 0), (0, 0), (7, 0), (0, 0), (7, 1), (0, 0), (7, 2), (0, 0), (7, 3), (0, 0), (7, 4), (0, 0), (7, 5), (0, 0), (7, 6), (0, 0), (7, 7), (0, 0), (7, 8), (0, 0), (7, 9), (0, 0), (7, 10), (0, 0), (7, 11), (0, 0), (0, 0), (0, 0), (0, 0), (0, 0), (0, 0), (0, 0), (0, 0), (0, 0), (0, 0), (0, 0), (0, 0), (0, 0), (0, 0), (0, 0), (0, 0), (0, 0), (0, 0), (0, 0), (0, 0), (8, 0), (0, 0), (8, 1), (0, 0), (8, 2), (0, 0), (8, 3), (0, 0), (8, 4), (0, 0), (0, 0), (0, 0), (0, 0), (0, 0), (0, 0), (0, 0), (0, 0), (0, 0), (0, 0), (0, 0), (0, 0), (0, 0), (0, 0), (0, 0), (0, 0), (0, 0), (0, 0), (0, 0), (0, 0), (0, 0), (0, 0), (0, 0), (0, 0), (0, 0), (9, 0), (0, 0), (9, 1), (0, 0), (9, 2), (0, 0), (9, 3), (0, 0), (9, 4), (0, 0), (9, 5), (0, 0), (9, 6), (0, 0), (9, 7), (0, 0), (9, 8), (0, 0), (9, 9), (0, 0), (9, 10), (0, 0), (0, 0), (0, 0), (0, 0), (0, 0), (0, 0), (0, 0), (0, 0), (0, 0), (0, 0), (0, 0), (0, 0), (0, 0), (0, 0), (0, 0), (0, 0), (2, 0), (0, 0), (2, 1), (0, 0), (2, 2), (0, 0), (2, 3), (0, 0), (2, 4), (0, 0), (0, 0), (0, 0), (0, 0)]
set_option maxRecDepth 100000 in
theorem pLy_ok_1 : tables_1_1 = List.zipWith pwl pLy_1 tables_1_1 := rfl
def pLy_2 : List (Nat × Nat) := [(0, 0), (0, 0), (0, 0), (0, 0), (0, 0), (0, 0), (0, 0), (0, 0), (0, 0), (0, 0), (0, 0), (0, 0), (0, 0), (0, 0), (0, 0), (0, 0), (0, 0), (0, 0), (0, 0), (0, 0), (0, 0), (0, 0), (0, 0), (0, 0), (0, 0), (0, 0), (0, 0), (0, 0), (6, 0), (0, 0), (6, 1), (0, 0), (6, 2), (0, 0), (6, 3), (0, 0), (6, 4), (0, 0), (6, 5), (0, 0), (6, 6), (0, 0), (6, 7), (0, 0), (6, 8), (0, 0), (6, 9), (0, 0), (0, 0), (0, 0), (0, 0), (0, 0), (0, 0), (0, 0), (0, 0), (0, 0), (0, 0), (0, 0), (0, 0), (0, 0), (0, 0), (0, 0), (0, 0), (0, 0), (0, 0), (0, 0), (0, 0), (0, 0), (0, 0), (0, 0), (0, 0), (0, 0), (0, 0), (0, 0), (0, 0), (0, 0), (0, 0), (0, 0), (0, 0), (11, 0), (0, 0), (11, 1), (0, 0), (11, 2), (0, 0), (11, 3), (0, 0), (11, 4), (0, 0), (11, 5), (0, 0), (11, 6), (0, 0), (11, 7), (0, 0), (11, 8), (0, 0), (11, 9), (0, 0), (11, 10), (0, 0), (11, 11), (0, 0), (11, 12), (0, 0), (11, 13), (0, 0), (11, 14), (0, 0), (11, 15), (0, 0), (0, 0), (0, 0), (0, 0), (0, 0), (0, 0), (0, 0), (0, 0), (0, 0), (0, 0), (0, 0), (0, 0), (0, 0), (0, 0), (0, 0), (0, 0), (0, 0), (0, 0), (0, 0), (0, 0), (0, 0), (0, 0), (0, 0), (0, 0), (0, 0), (0, 0), (0, 0), (0, 0), (0, 0), (4, 0), (0, 0), (4, 1), (0, 0), (4, 2), (0, 0), (4, 3), (0, 0), (4, 4), (0, 0), (4, 5), (0, 0), (4, 6), (0, 0), (4, 7), (0, 0), (4, 8), (0, 0), (4, 9), (0, 0), (4, 10), (0, 0), (4, 11), (0, 0), (4, 12), (0, 0), (4, 13), (0, 0), (0, 0), (0, 0), (0, 0), (0, 0), (0, 0), (0, 0), (0, 0), (0, 0), (0, 0), (0, 0), (0, 0), (0, 0), (0, 0), (0, 0), (0, 0), (0, 0), (0, 0), (0, 0), (0, 0), (0, 0), (1, 0), (0, 0), (1, 1), (0, 0), (1, 2), (0, 0), (1, 3), (0, 0), (1, 4), (0, 0), (1, 5), (0, 0), (1, 6), (0, 0), (0, 0), (0, 0), (0, 0), (0, 0), (0, 0), (0, 0), (0, 0), (0, 0), (0, 0), (0, 0), (0, 0), (0, 0), (0, 0), (0, 0), (0, 0), (0, 0), (0, 0), (0, 0), (0, 0), (0, 0), (0, 0), (0, 0), (0, 0), (0, 0), (0, 0), (0, 0), (0, 0), (0, 0), (0, 0), (0, 0), (0, 0), (0, 0), (0, 0), (0, 0), (3, 0), (0, 0), (3, 1), (0, 0), (3, 2)]
set_option maxRecDepth 100000 in
theorem pLy_ok_2 : tables_1_2 = List.zipWith pwl pLy_2 tables_1_2 := rfl
def pLy_3 : List (Nat × Nat) := [(0, 0), (3, 3), (0, 0), (3, 4), (0, 0), (3, 5), (0, 0), (3, 6), (0, 0), (3, 7), (0, 0), (3, 8), (0, 0), (3, 9), (0, 0), (3, 10), (0, 0), (3, 11), (0, 0), (3, 12), (0, 0), (3, 13), (0, 0), (3, 14), (0, 0), (3, 15), (0, 0), (0, 0), (0, 0), (0, 0), (0, 0), (0, 0), (0, 0), (0, 0), (0, 0), (0, 0), (0, 0), (0, 0), (0, 0), (0, 0), (0, 0), (0, 0), (0, 0), (5, 0), (0, 0), (5, 1), (0, 0), (5, 2), (0, 0), (5, 3), (0, 0), (5, 4), (0, 0), (5, 5), (0, 0), (5, 6), (0, 0), (5, 7), (0, 0), (5, 8), (0, 0), (0, 0), (0, 0), (0, 0), (0, 0), (0, 0), (0, 0), (0, 0), (0, 0), (0, 0), (0, 0), (0, 0), (0, 0), (12, 0), (0, 0), (12, 1), (0, 0), (12, 2), (0, 0), (12, 3), (0, 0), (12, 4), (0, 0), (12, 5), (0, 0), (12, 6), (0, 0), (12, 7), (0, 0), (12, 8), (0, 0), (12, 9), (0, 0), (12, 10), (0, 0), (0, 0), (0, 0), (0, 0), (0, 0), (0, 0), (0, 0), (0, 0), (0, 0), (0, 0), (0, 0), (0, 0), (0, 0), (0, 0), (0, 0), (0, 0), (0, 0), (0, 0), (0, 0), (0, 0), (0, 0), (0, 0), (0, 0), (0, 0), (0, 0), (0, 0), (0, 0), (0, 0), (0, 0), (0, 0), (0, 0), (0, 0), (0, 0), (0, 0), (0, 0), (0, 0), (0, 0), (0, 0), (0, 0), (0, 0), (0, 0), (0, 0), (0, 0), (0, 0), (0, 0), (0, 0), (0, 0), (0, 0), (0, 0), (0, 0), (0, 0), (0, 0), (0, 0), (0, 0), (0, 0), (0, 0), (0, 0), (0, 0), (0, 0), (0, 0), (0, 0), (0, 0), (0, 0), (0, 0), (0, 0), (0, 0), (0, 0), (0, 0), (0, 0), (0, 0), (0, 0), (0, 0), (0, 0), (0, 0), (0, 0), (0, 0), (0, 0), (0, 0), (0, 0), (0, 0), (0, 0), (0, 0), (0, 0), (0, 0), (0, 0), (0, 0), (0, 0), (0, 0), (0, 0), (0, 0), (0, 0), (0, 0), (0, 0), (0, 0), (0, 0), (0, 0), (0, 0), (0, 0), (0, 0), (0, 0), (0, 0), (0, 0), (0, 0), (0, 0), (0, 0), (0, 0), (0, 0), (0, 0), (0, 0), (0, 0), (0, 0), (0, 0), (0, 0), (0, 0), (0, 0), (0, 0), (0, 0), (0, 0), (0, 0), (0, 0), (0, 0), (0, 0), (0, 0), (0, 0), (0, 0), (0, 0), (0, 0), (0, 0), (0, 0), (0, 0), (0, 0), (0, 0), (0, 0), (0, 0), (0, 0), (0, 0), (0, 0), (0, 0), (0, 0), (0, 0), (0, 0), (0, 0), (0, 0), (0, 0), (0, 0), (0, 0)]
set_option maxRecDepth 100000 in
theorem pLy_ok_3 : tables_1_3 = List.zipWith pwl pLy_3 tables_1_3 := rfl
def pLy_6 : List (Nat × Nat) := [(0, 0), (0, 0), (0, 0), (0, 0), (0, 0), (0, 0), (0, 0), (0, 0), (0, 0), (0, 0), (0, 0), (0, 0), (0, 0), (0, 0), (0, 0), (0, 0), (0, 0), (0, 0), (0, 0), (0, 0), (0, 0), (0, 0), (0, 0), (0, 0), (0, 0), (0, 0), (0, 0), (0, 0), (0, 0), (0, 0), (0, 0), (0, 0), (0, 0), (0, 0), (0, 0), (0, 0), (0, 0), (0, 0), (0, 0), (0, 0), (0, 0), (0, 0), (0, 0), (0, 0), (0, 0), (0, 0), (0, 0), (0, 0), (0, 0), (0, 0), (0, 0), (0, 0), (0, 0), (0, 0), (0, 0), (0, 0), (0, 0), (0, 0), (0, 0), (0, 0), (0, 0), (0, 0), (0, 0), (0, 0), (0, 0), (0, 0), (0, 0), (0, 0), (0, 0), (0, 0), (0, 0), (0, 0), (0, 0), (0, 0), (0, 0), (0, 0), (0, 0), (0, 0), (0, 0), (0, 0), (0, 0), (0, 0), (0, 0), (0, 0), (0, 0), (0, 0), (0, 0), (0, 0), (0, 0), (0, 0), (0, 0), (0, 0), (0, 0), (0, 0), (0, 0), (0, 0), (0, 0), (0, 0), (0, 0), (0, 0), (0, 0), (0, 0), (0, 0), (0, 0), (0, 0), (0, 0), (0, 0), (0, 0), (0, 0), (0, 0), (0, 0), (0, 0), (0, 0), (0, 0), (0, 0), (0, 0), (0, 0), (0, 0), (0, 0), (0, 0), (0, 0), (0, 0), (0, 0), (0, 0), (0, 0), (0, 0), (0, 0), (0, 0), (0, 0), (0, 0), (0, 0), (0, 0), (0, 0), (0, 0), (0, 0), (0, 0), (0, 0), (0, 0), (0, 0), (0, 0), (0, 0), (0, 0), (0, 0), (0, 0), (0, 0), (0, 0), (0, 0), (0, 0), (0, 0), (0, 0), (13, 0), (0, 0), (13, 1), (0, 0), (13, 2), (0, 0), (13, 3), (0, 0), (13, 4), (0, 0), (13, 5), (0, 0), (13, 6), (0, 0), (13, 7), (0, 0), (13, 8), (0, 0), (13, 9), (0, 0), (13, 10), (0, 0), (13, 11), (0, 0), (13, 12), (0, 0), (13, 13), (0, 0), (13, 14), (0, 0), (13, 15), (0, 0), (13, 16), (0, 0), (13, 17), (0, 0), (13, 18), (0, 0), (13, 19), (0, 0), (13, 20), (0, 0), (13, 21), (0, 0), (13, 22), (0, 0), (13, 23), (0, 0), (13, 24), (0, 0), (13, 25), (0, 0), (13, 26), (0, 0), (13, 27), (0, 0), (13, 28), (0, 0), (13, 29), (0, 0), (13, 30), (0, 0), (13, 31), (0, 0), (13, 32), (0, 0), (13, 33), (0, 0), (13, 34), (0, 0), (13, 35), (0, 0), (13, 36), (0, 0), (13, 37), (0, 0), (13, 38), (0, 0), (13, 39), (0, 0), (13, 40), (0, 0), (13, 41), (0, 0), (13, 42), (0, 0), (13, 43), (0, 0), (13, 44), (0, 0)]
set_option maxRecDepth 100000 in
theorem pLy_ok_6 : tables_1_6 = List.zipWith pwl pLy_6 tables_1_6 := rfl
def pLy_7 : List (Nat × Nat) := [(13, 45), (0, 0), (13, 46), (0, 0), (13, 47), (0, 0), (13, 48), (0, 0), (13, 49), (0, 0), (13, 50), (0, 0), (13, 51), (0, 0), (13, 52), (0, 0), (13, 53), (0, 0), (13, 54), (0, 0), (13, 55), (0, 0), (13, 56), (0, 0), (13, 57), (0, 0), (13, 58), (0, 0), (13, 59), (0, 0), (13, 60), (0, 0), (13, 61), (0, 0), (13, 62), (0, 0), (13, 63), (0, 0), (13, 64), (0, 0), (13, 65), (0, 0), (13, 66), (0, 0), (13, 67), (0, 0), (13, 68), (0, 0), (13, 69), (0, 0), (13, 70), (0, 0), (13, 71), (0, 0), (13, 72), (0, 0), (13, 73), (0, 0), (0, 0), (0, 0), (0, 0), (0, 0), (0, 0), (0, 0), (0, 0), (0, 0), (0, 0), (0, 0), (0, 0), (0, 0), (0, 0), (0, 0), (0, 0), (0, 0), (0, 0), (0, 0), (0, 0), (0, 0), (0, 0), (0, 0), (0, 0), (0, 0), (0, 0), (0, 0), (0, 0), (0, 0), (0, 0), (0, 0), (0, 0), (0, 0), (0, 0), (0, 0), (0, 0), (0, 0), (0, 0), (0, 0), (0, 0), (0, 0), (0, 0), (0, 0), (0, 0), (0, 0), (0, 0), (0, 0), (0, 0), (0, 0), (0, 0), (0, 0), (0, 0), (0, 0), (0, 0), (0, 0), (0, 0), (0, 0), (0, 0), (0, 0), (0, 0), (0, 0), (0, 0), (0, 0), (0, 0), (0, 0), (0, 0), (0, 0), (0, 0), (0, 0), (0, 0), (0, 0), (0, 0), (0, 0), (0, 0), (0, 0), (0, 0), (0, 0), (0, 0), (0, 0), (0, 0), (0, 0), (0, 0), (0, 0), (0, 0), (0, 0), (0, 0), (0, 0), (0, 0), (0, 0), (0, 0), (0, 0), (0, 0), (0, 0), (0, 0), (0, 0), (0, 0), (0, 0), (0, 0), (0, 0), (0, 0), (0, 0), (0, 0), (0, 0), (0, 0), (0, 0), (0, 0), (0, 0), (0, 0), (0, 0), (0, 0), (0, 0), (0, 0), (0, 0), (0, 0), (0, 0), (0, 0), (0, 0), (0, 0), (0, 0), (0, 0), (0, 0), (0, 0), (0, 0), (0, 0), (0, 0), (0, 0), (0, 0), (0, 0), (0, 0), (0, 0), (0, 0), (0, 0), (0, 0), (0, 0), (0, 0), (0, 0), (0, 0), (0, 0), (0, 0), (0, 0), (0, 0), (0, 0), (0, 0), (0, 0), (0, 0), (0, 0), (0, 0), (0, 0), (0, 0), (0, 0), (0, 0), (0, 0), (0, 0), (0, 0), (0, 0), (0, 0), (0, 0), (0, 0), (0, 0), (0, 0), (0, 0), (0, 0), (0, 0), (0, 0), (0, 0), (0, 0), (0, 0), (0, 0), (0, 0), (0, 0), (0, 0), (0, 0), (0, 0), (0, 0), (0, 0), (0, 0), (0, 0), (0, 0), (0, 0), (0, 0), (0, 0), (0, 0), (0, 0)]
set_option maxRecDepth 100000 in
theorem pLy_ok_7 : tables_1_7 = List.zipWith pwl pLy_7 tables_1_7 := rfl
/-- the words that stand at any point -/
def lw_use : List Cond := lw_tbl.filter goodWord
theorem use_mem {w : Cond} (h : w ∈ lw_tbl) (hg : goodWord w = true) : w ∈ lw_use := List.mem_filter.mpr ⟨h, hg⟩
theorem pD_use {q : pWd} (hq : q ∈ pDall) (ht : q.1 ≤ 12) (hn : q.1 ≠ 3) : pwd q .tt ∈ lw_use := by
  refine use_mem (pD_mem hq ht) ?_
  obtain ⟨t, a, b, x, y⟩ := q
  have ht : t ≤ 12 := ht
  have hn : t ≠ 3 := hn
  rcases t with _ | _ | _ | _ | _ | _ | _ | _ | _ | _ | _ | _ | _ | t
  all_goals first | rfl | omega
theorem zipl {D : List (Nat × Nat)} {l : List Cond} (h : l = List.zipWith pwl D l) (hl : D.length = l.length) {ci k : Nat} (hq : (ci + 1, k) ∈ D) : u_lay (pown ci) (pfT ci) k ∈ l := by
  obtain ⟨j, hj⟩ := List.getElem?_of_mem hq
  have hlt : j < l.length := by rw [← hl]; exact (List.getElem?_eq_some_iff.mp hj).1
  have h2 : l[j]? = some l[j] := List.getElem?_eq_getElem hlt
  have h3 : (List.zipWith pwl D l)[j]? = some (pwl (ci + 1, k) l[j]) := by
    rw [List.getElem?_zipWith, hj, h2]
  rw [← h, h2] at h3
  have h4 := Option.some.inj h3
  rw [show u_lay (pown ci) (pfT ci) k = pwl (ci + 1, k) l[j] from rfl, ← h4]
  exact List.getElem_mem hlt
def pLyA : List (Nat × Nat) := pLy_1 ++ (pLy_2 ++ (pLy_3 ++ (pLy_6 ++ (pLy_7))))
theorem pLy_mem {ci k : Nat} (hq : (ci + 1, k) ∈ pLyA) : u_lay (pown ci) (pfT ci) k ∈ tables_1 := by
  unfold pLyA at hq
  unfold tables_1
  rcases List.mem_append.mp hq with hq | hq
  · have h := zipl pLy_ok_1 (by decide +kernel) hq
    exact (List.mem_append_left _ h)
  rcases List.mem_append.mp hq with hq | hq
  · have h := zipl pLy_ok_2 (by decide +kernel) hq
    exact (List.mem_append_right _ (List.mem_append_left _ h))
  rcases List.mem_append.mp hq with hq | hq
  · have h := zipl pLy_ok_3 (by decide +kernel) hq
    exact (List.mem_append_right _ (List.mem_append_right _ (List.mem_append_left _ h)))
  rcases List.mem_append.mp hq with hq | hq
  · have h := zipl pLy_ok_6 (by decide +kernel) hq
    exact (List.mem_append_right _ (List.mem_append_right _ (List.mem_append_right _ (List.mem_append_right _ (List.mem_append_right _ (List.mem_append_left _ h))))))
  have h := zipl pLy_ok_7 (by decide +kernel) hq
  exact (List.mem_append_right _ (List.mem_append_right _ (List.mem_append_right _ (List.mem_append_right _ (List.mem_append_right _ (List.mem_append_right _ (List.mem_append_left _ h)))))))
theorem pLy_all : ∀ ci, ci < 13 → ∀ k, k < pfN ci → (ci + 1, k) ∈ pLyA := by decide +kernel
theorem pin {ci : Nat} (hc : ci < 13) : ∀ w ∈ u_ws (pown ci) (pfT ci) (pfN ci), w ∈ lw_use := by
  intro w hw
  unfold u_ws at hw
  obtain ⟨k, hk, rfl⟩ := List.mem_map.mp hw
  refine use_mem (List.mem_append_right _ (pLy_mem (pLy_all ci hc k (List.mem_range.mp hk)))) ?_
  unfold u_lay
  split <;> rfl
theorem pcl_at : ∀ ci, ci < 13 → pcl[ci]? = some (pown ci, pfT ci, pfN ci)
  | 0, _ => rfl | 1, _ => rfl | 2, _ => rfl | 3, _ => rfl | 4, _ => rfl | 5, _ => rfl | 6, _ => rfl | 7, _ => rfl | 8, _ => rfl | 9, _ => rfl | 10, _ => rfl | 11, _ => rfl | 12, _ => rfl
  | n + 13, h => by omega
theorem pfY_ok : ∀ ci, ci < 13 → ∀ k, k < pfN ci → parseFieldDescriptor (pfT ci k).2.2.1 = some (pfY ci k)
  | 0, _ => tyX0_ok | 1, _ => tyX1_ok | 2, _ => tyX2_ok | 3, _ => tyX3_ok | 4, _ => tyX4_ok | 5, _ => tyX5_ok | 6, _ => tyX6_ok | 7, _ => tyX7_ok | 8, _ => tyX8_ok | 9, _ => tyX9_ok | 10, _ => tyX10_ok | 11, _ => tyX11_ok | 12, _ => tyX12_ok
  | n + 13, h => by omega
theorem pfNm : ∀ ci, ci < 13 → ∀ a, a < pfN ci → ∀ b, b < pfN ci → a ≠ b → (pfT ci a).2.1 ≠ (pfT ci b).2.1
  | 0, _ => nmX0 | 1, _ => nmX1 | 2, _ => nmX2 | 3, _ => nmX3 | 4, _ => nmX4 | 5, _ => nmX5 | 6, _ => nmX6 | 7, _ => nmX7 | 8, _ => nmX8 | 9, _ => nmX9 | 10, _ => nmX10 | 11, _ => nmX11 | 12, _ => nmX12
  | n + 13, h => by omega
/-- fields that hold numbers are not final -/
theorem pfin : ∀ ci, ci < 13 → ∀ k, k < pfN ci → (pfk ci k = 2 ∨ (pfT ci k).2.2.2 = false) := by decide +kernel
theorem lkF_in {K i ci k : Nat} (h : lkf lkF K i = some (ci, k)) : Cond.fieldLink (pown K) i (pfT ci k).1 (pfT ci k).2.1 (pfT ci k).2.2.1 ∈ lw_use := by
  obtain ⟨⟨t, a, b, x, y⟩, h1, h2, h3⟩ := pfm lkF_eq (lkf_mem h)
  have h2 : t = 0 := h2
  subst h2
  cases h3
  exact pD_use h1 (Nat.le_of_ble_eq_true rfl) (fun e => by cases e)
theorem lkF_bd : ∀ q ∈ lkF, q.2.2.1 < 13 ∧ q.2.2.2 < pfN q.2.2.1 := by decide +kernel
theorem lkL_in {K i : Nat} {v : Int} (h : lkf lkL K i = some v) : Cond.constantLong (pown K) i (Int64.ofInt v) ∈ lw_use := by
  obtain ⟨⟨t, a, b, x, y⟩, h1, h2, h3⟩ := pfm lkL_eq (lkf_mem h)
  have h2 : t = 11 := h2
  subst h2
  cases h3
  exact pD_use h1 (Nat.le_of_ble_eq_true rfl) (fun e => by cases e)
theorem lkL_bd : ∀ q ∈ lkL, (Int64.ofInt q.2.2).toInt = q.2.2 := by decide +kernel
theorem lkM_in {K i M : Nat} (h : lkf lkM K i = some M) : Cond.methodLink (pown K) i (pyn M) ∈ lw_use := by
  obtain ⟨⟨t, a, b, x, y⟩, h1, h2, h3⟩ := pfm lkM_eq (lkf_mem h)
  have h2 : t = 1 := h2
  subst h2
  cases h3
  exact pD_use h1 (Nat.le_of_ble_eq_true rfl) (fun e => by cases e)
theorem lkJ_in {K i J : Nat} (h : lkf lkJ K i = some J) : Cond.methodLink (pown K) i (pjn J) ∈ lw_use := by
  obtain ⟨⟨t, a, b, x, y⟩, h1, h2, h3⟩ := pfm lkJ_eq (lkf_mem h)
  have h2 : t = 2 := h2
  subst h2
  cases h3
  exact pD_use h1 (Nat.le_of_ble_eq_true rfl) (fun e => by cases e)
theorem lkC_in {K i ci : Nat} (h : lkf lkC K i = some ci) : Cond.classLink (pown K) i (pown ci) ∈ lw_use := by
  obtain ⟨⟨t, a, b, x, y⟩, h1, h2, h3⟩ := pfm lkC_eq (lkf_mem h)
  have h2 : t = 4 := h2
  subst h2
  cases h3
  exact pD_use h1 (Nat.le_of_ble_eq_true rfl) (fun e => by cases e)
theorem lkC_bd : ∀ q ∈ lkC, q.2.2 < 13 := by decide +kernel
theorem lkA_in {K i z : Nat} (h : lkf lkA K i = some z) : Cond.classLink (pown K) i "[[I" ∈ lw_use := by
  obtain ⟨⟨t, a, b, x, y⟩, h1, h2, h3⟩ := pfm lkA_eq (lkf_mem h)
  have h2 : t = 5 := h2
  subst h2
  cases h3
  exact pD_use h1 (Nat.le_of_ble_eq_true rfl) (fun e => by cases e)
theorem w1_in {t a : Nat} {L : List Nat} (e : pDall.filterMap (fun q => bif Nat.beq q.1 t then some q.2.1 else none) = L) (ha : a ∈ L) (ht : t = 6 ∨ t = 7 ∨ t = 8 ∨ t = 9 ∨ t = 10) : pwd (t, a, 0, 0, 0) .tt ∈ lw_use := by
  obtain ⟨⟨t', a', b, x, y⟩, h1, h2, h3⟩ := pfm e ha
  have h2 : t' = t := h2
  have h3 : a' = a := h3
  subst h2; subst h3
  have := pD_use h1 (show t' ≤ 12 by omega) (show t' ≠ 3 by omega)
  rcases ht with rfl | rfl | rfl | rfl | rfl <;> exact this
theorem lk12_in {ci n : Nat} (h : (ci, n) ∈ lk12) : Cond.instantiable (pown ci) n ∈ lw_use := by
  obtain ⟨⟨t, a, b, x, y⟩, h1, h2, h3⟩ := pfm lk12_eq h
  have h2 : t = 12 := h2
  subst h2
  cases h3
  exact pD_use h1 (Nat.le_of_ble_eq_true rfl) (fun e => by cases e)
theorem lk12_all : ∀ ci, ci < 13 → (ci, pfN ci) ∈ lk12 := by decide +kernel
theorem lk7_all : ∀ ci, ci < 15 → ci ∈ lk7 := by decide +kernel
/-- of every method that is called: the words that it needs -/
def pmwB (M : Nat) : Bool := match pmw M with
  | none => true
  | some w => pmem lk6 M && Nat.blt w.1 15 && !(Nat.beq w.1 13) && Nat.ble w.2.1 40 && (match w.2.2.1 with
    | none => true
    | some .int => true
    | some .long => true
    | some .boolean => true
    | _ => false) && (bif w.2.2.2.2 then pmem lk8 M else pmem lk9 M && (bif pini M then (match w.2.2.1 with
    | none => true
    | _ => false) else pmem lk10 M))
theorem pmwB_all : (List.range 268).all pmwB = true := by decide +kernel
theorem pmem_mem {n : Nat} : ∀ {l : List Nat}, pmem l n = true → n ∈ l
  | [], h => by cases h
  | a :: l, h => by
    unfold pmem at h
    rw [Bool.or_eq_true] at h
    rcases h with h | h
    · rw [Nat.eq_of_beq_eq_true h]; exact List.mem_cons_self
    · exact List.mem_cons_of_mem _ (pmem_mem h)
theorem pmw_lt {M : Nat} {w : pMW} (h : pmw M = some w) : 1 ≤ M ∧ M < 268 := by
  unfold pmw at h
  obtain ⟨h1, -⟩ := bif_s h
  rw [Bool.and_eq_true] at h1
  exact ⟨Nat.le_of_ble_eq_true h1.1, Nat.lt_succ_of_le (Nat.le_of_ble_eq_true h1.2)⟩
theorem pmw_at {M : Nat} {w : pMW} (h : pmw M = some w) : pn2 pmwT (M - 1) = some w := (bif_s h).2
theorem pmw_ml {M : Nat} {w : pMW} (h : pmw M = some w) : pml M = w.2.1 := by
  unfold pml; rw [pmw_at h]
theorem pmw_mr {M : Nat} {w : pMW} (h : pmw M = some w) : pmr M = w.2.2.1 := by
  unfold pmr; rw [pmw_at h]
theorem pmw_bd {M : Nat} {w : pMW} (h : pmw M = some w) : M ∈ lk6 ∧ w.1 < 15 ∧ w.1 ≠ 13 ∧ w.2.1 ≤ 40 ∧ (w.2.2.1 = none ∨ w.2.2.1 = some .int ∨ w.2.2.1 = some .long ∨ w.2.2.1 = some .boolean) ∧ (w.2.2.2.2 = true → M ∈ lk8) ∧ (w.2.2.2.2 = false → M ∈ lk9 ∧ (pini M = true → w.2.2.1 = none) ∧ (pini M = false → M ∈ lk10)) := by
  have h1 := List.all_eq_true.mp pmwB_all M (List.mem_range.mpr (pmw_lt h).2)
  unfold pmwB at h1
  rw [h] at h1
  dsimp only at h1
  obtain ⟨K, mL, r, n, st⟩ := w
  dsimp only at h1 ⊢
  simp only [Bool.and_eq_true, Bool.not_eq_true'] at h1
  obtain ⟨⟨⟨⟨⟨a1, a2⟩, a3⟩, a4⟩, a5⟩, a6⟩ := h1
  refine ⟨pmem_mem a1, by simpa [Nat.blt_eq] using a2, (fun e => by subst e; cases a3), Nat.le_of_ble_eq_true a4, ?_, fun e => ?_, fun e => ?_⟩
  · split at a5
    · exact Or.inl rfl
    · exact Or.inr (Or.inl rfl)
    · exact Or.inr (Or.inr (Or.inl rfl))
    · exact Or.inr (Or.inr (Or.inr rfl))
    · cases a5
  · subst e; exact pmem_mem a6
  · subst e
    simp only [cond_false, Bool.and_eq_true] at a6
    refine ⟨pmem_mem a6.1, fun e2 => ?_, fun e2 => ?_⟩
    · have a7 := a6.2
      rw [e2, cond_true] at a7
      split at a7
      · rfl
      · cases a7
    · have a7 := a6.2
      rw [e2, cond_false] at a7
      exact pmem_mem a7
theorem pyn_cls : (pynT.map (fun r => r.map (fun y => y.cls))) = (pmwT.map (fun r => r.map (fun w => pown w.1))) := rfl
end
section
/-- a field -/
def fR (ws : va_W) (kd : Int) (o : Option Value) (x : Int) (r : Option Nat) : Prop :=
  if kd = 1 then ∃ y : Int64, o = some (.long y) ∧ y.toInt = x
  else if kd = 2 then ∀ a, r = some a → ∃ (q : Nat) (e : va_E), o = some (.ref q) ∧ ws[a]? = some (q, e)
  else ∃ y : Int32, o = some (.int y) ∧ y.toInt = x
/-- a cell -/
def cR (ws : va_W) (tys : List (ClassId × FieldType)) (kl : Nat × Int) (g : Nat → Int) (rf : Nat → Option Nat) (e : va_E) : Prop := match e with
  | .inr (ci, fs) => ci = kl.1 ∧ ci < 13 ∧ fs.length = pfN ci ∧ ∀ k, k < pfN ci → fR ws (pfk ci k) fs[k]? (g k) (rf k)
  | .inl (cA, n, x) => (n : Int) = kl.2 ∧ n ≤ 100000 ∧ match x with
    | .inl f => ((kl.1 = 100 ∧ ∃ t : Nat, tys[t]? = some (cA, FieldType.int)) ∨ (kl.1 = 102 ∧ ∃ t : Nat, tys[t]? = some (cA, FieldType.byte))) ∧ ∀ j, j < n → (f j).toInt = g j
    | .inr (.inl f) => kl.1 = 101 ∧ (∃ t : Nat, tys[t]? = some (cA, FieldType.long)) ∧ ∀ j, j < n → (f j).toInt = g j
    | .inr (.inr (.inr (.inr f))) => kl.1 = 103 ∧ (∃ t : Nat, tys[t]? = some (cA, FieldType.array FieldType.int)) ∧ ∀ j, j < n → ∀ a, rf j = some a → ∃ (q : Nat) (e : va_E), f j = some q ∧ ws[a]? = some (q, e)
    | _ => False
/-- tables of array classes grow -/
def tS (tys tys' : List (ClassId × FieldType)) : Prop := ∀ (t : Nat) (q : ClassId × FieldType), tys[t]? = some q → tys'[t]? = some q
theorem tS.rf (tys : List (ClassId × FieldType)) : tS tys tys := fun _ _ h => h
theorem tS.app (tys t2 : List (ClassId × FieldType)) : tS tys (tys ++ t2) := fun t q h => by rw [List.getElem?_append_left (List.getElem?_eq_some_iff.mp h).1]; exact h
theorem fR.mv {ws ws' : va_W} {kd x : Int} {o : Option Value} {r : Option Nat} (hs : aS ws ws') (h : fR ws kd o x r) : fR ws' kd o x r := by
  unfold fR at h ⊢
  split
  · rw [if_pos (by assumption)] at h; exact h
  · rw [if_neg (by assumption)] at h
    split
    · rw [if_pos (by assumption)] at h
      intro a ha
      obtain ⟨q, e, h1, h2⟩ := h a ha
      obtain ⟨e', h3⟩ := hs a q e h2
      exact ⟨q, e', h1, h3⟩
    · rw [if_neg (by assumption)] at h; exact h
theorem cR.mv {ws ws' : va_W} {tys tys' : List (ClassId × FieldType)} {kl : Nat × Int} {g : Nat → Int} {rf : Nat → Option Nat} {e : va_E} (hs : aS ws ws') (ht : tS tys tys') (h : cR ws tys kl g rf e) : cR ws' tys' kl g rf e := by
  rcases e with ⟨cA, n, f | f | f | f | f⟩ | ⟨ci, fs⟩
  · obtain ⟨h1, h2, h3, h4⟩ := h
    refine ⟨h1, h2, ?_, h4⟩
    rcases h3 with ⟨a, t, b⟩ | ⟨a, t, b⟩
    · exact Or.inl ⟨a, t, ht t _ b⟩
    · exact Or.inr ⟨a, t, ht t _ b⟩
  · obtain ⟨h1, h2, h3, ⟨t, h4⟩, h5⟩ := h
    exact ⟨h1, h2, h3, ⟨t, ht t _ h4⟩, h5⟩
  · exact h.2.2.elim
  · exact h.2.2.elim
  · obtain ⟨h1, h2, h3, ⟨t, h4⟩, h5⟩ := h
    refine ⟨h1, h2, h3, ⟨t, ht t _ h4⟩, fun j hj a ha => ?_⟩
    obtain ⟨q, e, h6, h7⟩ := h5 j hj a ha
    obtain ⟨e', h8⟩ := hs a q e h7
    exact ⟨q, e', h6, h8⟩
  · obtain ⟨h1, h2, h3, h4⟩ := h
    exact ⟨h1, h2, h3, fun k hk => (h4 k hk).mv hs⟩
/-- a world -/
def wR (tys : List (ClassId × FieldType)) (Y : pY) (G : pG) (ws : va_W) : Prop := ws.length = Y.1.1 ∧ Y.1.1 ≤ 498 ∧ (∀ i, Y.1.1 ≤ i → (Y.2.1 i).1 = 999) ∧ ∀ (i : Nat) (q : Nat × va_E), ws[i]? = some q → cR ws tys (Y.2.1 i) (G i) (Y.2.2 i) q.2
theorem wR.cell {tys : List (ClassId × FieldType)} {Y : pY} {G : pG} {ws : va_W} {sx : Nat → Option Nat} {r q : Nat} (h : wR tys Y G ws) (hv : (∃ e, ws[r]? = some (q, e)) ∨ (499 ≤ r ∧ sx r = some q)) (hk : (Y.2.1 r).1 ≠ 999) : ∃ e, ws[r]? = some (q, e) ∧ cR ws tys (Y.2.1 r) (G r) (Y.2.2 r) e := by
  rcases hv with ⟨e, he⟩ | ⟨h1, -⟩
  · exact ⟨e, he, h.2.2.2 r (q, e) he⟩
  · exact absurd (h.2.2.1 r (by have := h.2.1; omega)) hk
theorem wR.put {tys : List (ClassId × FieldType)} {Y : pY} {G G' : pG} {ws : va_W} {i a : Nat} {e e' : va_E} (h : wR tys Y G ws) (hi : ws[i]? = some (a, e)) (hG : ∀ j, j ≠ i → G' j = G j) (he : cR ws tys (Y.2.1 i) (G' i) (Y.2.2 i) e') : wR tys Y G' (ws.set i (a, e')) := by
  obtain ⟨h1, h2, h3, h4⟩ := h
  have hl := (List.getElem?_eq_some_iff.mp hi).1
  have hs : aS ws (ws.set i (a, e')) := aS.set hi
  refine ⟨by rw [List.length_set]; exact h1, h2, h3, fun j q hq => ?_⟩
  by_cases hj : j = i
  · subst hj
    rw [List.getElem?_set_self hl] at hq
    cases hq
    exact he.mv hs (tS.rf _)
  · rw [List.getElem?_set_ne (Ne.symm hj)] at hq
    rw [hG j hj]
    exact (h4 j q hq).mv hs (tS.rf _)
theorem cR_o {ws : va_W} {tys : List (ClassId × FieldType)} {kl : Nat × Int} {g : Nat → Int} {rf : Nat → Option Nat} {e : va_E} (h : cR ws tys kl g rf e) (hk : kl.1 < 13) : ∃ fs, e = .inr (kl.1, fs) ∧ fs.length = pfN kl.1 ∧ ∀ k, k < pfN kl.1 → fR ws (pfk kl.1 k) fs[k]? (g k) (rf k) := by
  rcases e with ⟨cA, n, f | f | f | f | f⟩ | ⟨ci, fs⟩
  · obtain ⟨-, -, h3, -⟩ := h; rcases h3 with ⟨a, -⟩ | ⟨a, -⟩ <;> omega
  · obtain ⟨-, -, h3, -⟩ := h; omega
  · exact h.2.2.elim
  · exact h.2.2.elim
  · obtain ⟨-, -, h3, -⟩ := h; omega
  · obtain ⟨rfl, h2, h3, h4⟩ := h
    exact ⟨fs, rfl, h3, h4⟩
theorem cR_i {ws : va_W} {tys : List (ClassId × FieldType)} {kl : Nat × Int} {g : Nat → Int} {rf : Nat → Option Nat} {e : va_E} (h : cR ws tys kl g rf e) (hk : kl.1 = 100) : ∃ (cA : ClassId) (n : Nat) (f : _) (t : Nat), e = .inl (cA, n, .inl f) ∧ (n : Int) = kl.2 ∧ n ≤ 100000 ∧ tys[t]? = some (cA, FieldType.int) ∧ ∀ j, j < n → (f j).toInt = g j := by
  rcases e with ⟨cA, n, f | f | f | f | f⟩ | ⟨ci, fs⟩
  · obtain ⟨h1, h2, h3, h4⟩ := h
    rcases h3 with ⟨a, t, ht⟩ | ⟨a, -⟩
    · exact ⟨cA, n, f, t, rfl, h1, h2, ht, h4⟩
    · omega
  · obtain ⟨-, -, h3, -⟩ := h; omega
  · exact h.2.2.elim
  · exact h.2.2.elim
  · obtain ⟨-, -, h3, -⟩ := h; omega
  · obtain ⟨h1, h2, -⟩ := h; omega
theorem cR_b {ws : va_W} {tys : List (ClassId × FieldType)} {kl : Nat × Int} {g : Nat → Int} {rf : Nat → Option Nat} {e : va_E} (h : cR ws tys kl g rf e) (hk : kl.1 = 102) : ∃ (cA : ClassId) (n : Nat) (f : _) (t : Nat), e = .inl (cA, n, .inl f) ∧ (n : Int) = kl.2 ∧ n ≤ 100000 ∧ tys[t]? = some (cA, FieldType.byte) ∧ ∀ j, j < n → (f j).toInt = g j := by
  rcases e with ⟨cA, n, f | f | f | f | f⟩ | ⟨ci, fs⟩
  · obtain ⟨h1, h2, h3, h4⟩ := h
    rcases h3 with ⟨a, -⟩ | ⟨a, t, ht⟩
    · omega
    · exact ⟨cA, n, f, t, rfl, h1, h2, ht, h4⟩
  · obtain ⟨-, -, h3, -⟩ := h; omega
  · exact h.2.2.elim
  · exact h.2.2.elim
  · obtain ⟨-, -, h3, -⟩ := h; omega
  · obtain ⟨h1, h2, -⟩ := h; omega
theorem cR_l {ws : va_W} {tys : List (ClassId × FieldType)} {kl : Nat × Int} {g : Nat → Int} {rf : Nat → Option Nat} {e : va_E} (h : cR ws tys kl g rf e) (hk : kl.1 = 101) : ∃ (cA : ClassId) (n : Nat) (f : _) (t : Nat), e = .inl (cA, n, .inr (.inl f)) ∧ (n : Int) = kl.2 ∧ n ≤ 100000 ∧ tys[t]? = some (cA, FieldType.long) ∧ ∀ j, j < n → (f j).toInt = g j := by
  rcases e with ⟨cA, n, f | f | f | f | f⟩ | ⟨ci, fs⟩
  · obtain ⟨-, -, h3, -⟩ := h; rcases h3 with ⟨a, -⟩ | ⟨a, -⟩ <;> omega
  · obtain ⟨h1, h2, h3, ⟨t, ht⟩, h4⟩ := h
    exact ⟨cA, n, f, t, rfl, h1, h2, ht, h4⟩
  · exact h.2.2.elim
  · exact h.2.2.elim
  · obtain ⟨-, -, h3, -⟩ := h; omega
  · obtain ⟨h1, h2, -⟩ := h; omega
theorem cR_q {ws : va_W} {tys : List (ClassId × FieldType)} {kl : Nat × Int} {g : Nat → Int} {rf : Nat → Option Nat} {e : va_E} (h : cR ws tys kl g rf e) (hk : kl.1 = 103) : ∃ (cA : ClassId) (n : Nat) (f : _) (t : Nat), e = .inl (cA, n, .inr (.inr (.inr (.inr f)))) ∧ (n : Int) = kl.2 ∧ n ≤ 100000 ∧ tys[t]? = some (cA, FieldType.array FieldType.int) ∧ ∀ j, j < n → ∀ a, rf j = some a → ∃ (q : Nat) (e : va_E), f j = some q ∧ ws[a]? = some (q, e) := by
  rcases e with ⟨cA, n, f | f | f | f | f⟩ | ⟨ci, fs⟩
  · obtain ⟨-, -, h3, -⟩ := h; rcases h3 with ⟨a, -⟩ | ⟨a, -⟩ <;> omega
  · obtain ⟨-, -, h3, -⟩ := h; omega
  · exact h.2.2.elim
  · exact h.2.2.elim
  · obtain ⟨h1, h2, h3, ⟨t, ht⟩, h4⟩ := h
    exact ⟨cA, n, f, t, rfl, h1, h2, ht, h4⟩
  · obtain ⟨h1, h2, -⟩ := h; omega
/-- an index within a row -/
theorem i32_in {i : Int32} {n : Nat} (h1 : 0 ≤ i.toInt) (h2 : i.toInt < (n : Int)) : vp_in i n := vp_in_iff.mpr ⟨h1, h2⟩
theorem i32_cl {i : Int32} : i.toNatClampNeg = i.toInt.toNat := rfl
/-- a world at a point of a method's run -/
def pWl (D : va_G) (A : Nat → Prop) (s : State) (tys : List (ClassId × FieldType)) (Y : pY) (G : pG) (ws : va_W) (H : Heap) (locs : List Loc) : Prop := wR tys Y G ws ∧ va_P D pcl ws H ∧ va_D A ws ∧ va_K D pcl tys s ∧ va_S A s.heap H locs
/-- strings -/
def pstx : List String := ["tool", "step", "after", "meet", "idle"]
def pstL : List Nat := [4, 4, 5, 4, 4]
def pstB : List (List Int32) := [[116, 111, 111, 108], [115, 116, 101, 112], [97, 102, 116, 101, 114], [109, 101, 101, 116], [105, 100, 108, 101]]
def pStr (sx : Nat → Option Nat) (A : Nat → Prop) (U : State) : Prop := (∀ q ∈ lkS, ∃ a, sx (500 + q.2.2) = some a ∧ vk_R (pown q.1) q.2.1 (pstx.getD q.2.2 "") a U) ∧ (∀ i, 505 ≤ i → sx i = none) ∧ ∃ adV, vk_S 5 pstL pstB (fun i => (sx (500 + i)).getD 0) adV A U U.heap
/-- what holds all through a method's run: the machine, its code, the words, the room for d calls more -/
def pCx (p : Program) (R : Room) (s : State) (m : MethodId) (args : Array Value) (c : Code) (sx : Nat → Option Nat) (A : Nat → Prop) (K nL d : Nat) (cc : ByteArray) : Prop :=
  p.tables.exec = Jvm.exec ∧ c.code = cc ∧ c.maxLocals = nL ∧ s.vm.findClass (pown K) = some m.cls ∧ (∀ w ∈ lw_use, w.before args s = true) ∧ (∀ q ∈ lkN, va_Nw (.methodLinkNest (pown q.1) q.2.1 (pyn q.2.2) "DiscLathe") s) ∧ (Cond.arrayOver (.array .int)).before #[] s = true ∧ pStr sx A s ∧ (∀ q, s.heap.size ≤ q → A q) ∧ d + 8 ≤ R.frames ∧ 200 * (d + 2) ≤ R.locals
/-- new int[n][k], as a row -/
def pMNA : Prop := ∀ (p : Program) (l : Launch) (e : Env) (R : Room) (s : State) (m : MethodId) (args : Array Value) (below : List Frame) (meth : Method) (c : Code) (H : Heap) (locs : List Loc) (cells slots : Nat) (Q : State → Prop) (cc : ByteArray) (pc : Nat) (ls : Array Slot) (rest : List Value) (D : va_G) (A : Nat → Prop) (tys : List (ClassId × FieldType)) (ws : va_W) (own : String) (index : Nat) (n k : Int32),
  p.tables.exec = Jvm.exec → c.code = cc → s.vm.findClass own = some m.cls → (Cond.classLink own index "[[I").before args s = true → (Cond.arrayOver (.array .int)).before #[] s = true → (Cond.arrayClass .int).before args s = true → va_K D pcl tys s → va_P D pcl ws H → va_D A ws → va_S A s.heap H locs → (∀ q, s.heap.size ≤ q → A q) → 0 ≤ n.toInt → 0 ≤ k.toInt → n.toInt ≤ 100000 → k.toInt ≤ 100000 → cells + 1 + n.toInt.toNat ≤ R.cells → slots + n.toInt.toNat + n.toInt.toNat * k.toInt.toNat ≤ R.slots → decode cc pc = .ok (.multianewarray index 2, 4) →
  (∀ (q : Nat) (r : Nat → Nat) (cA cy : ClassId) (H1 : Heap), va_K D pcl (tys ++ [(cA, .array .int), (cy, .int)]) s → va_P D pcl (ws ++ ((q, .inl (cA, n.toInt.toNat, .inr (.inr (.inr (.inr (fun i => if i < n.toInt.toNat then some (r i) else none)))))) :: (List.range n.toInt.toNat).map (fun i => (r i, .inl (cy, k.toInt.toNat, .inl (fun _ => 0)))))) H1 → va_D A (ws ++ ((q, .inl (cA, n.toInt.toNat, .inr (.inr (.inr (.inr (fun i => if i < n.toInt.toNat then some (r i) else none)))))) :: (List.range n.toInt.toNat).map (fun i => (r i, .inl (cy, k.toInt.toNat, .inl (fun _ => 0)))))) → va_S A s.heap H1 locs → W p l e R s m args below meth c H1 locs (cells + 1 + n.toInt.toNat) (slots + n.toInt.toNat + n.toInt.toNat * k.toInt.toNat) Q (F0 m (pc + 4) ls (.ref q :: rest))) →
  W p l e R s m args below meth c H locs cells slots Q (F0 m pc ls (.int k :: .int n :: rest))
/-- String.length and charAt of a constant, as rows -/
def pSLN : Prop := ∀ (p : Program) (l : Launch) (e : Env) (R : Room) (s : State) (m : MethodId) (args : Array Value) (below : List Frame) (meth : Method) (c : Code) (H : Heap) (locs : List Loc) (cells slots : Nat) (Q : State → Prop) (cc : ByteArray) (pc : Nat) (ls : Array Slot) (rest : List Value) (sx : Nat → Option Nat) (A : Nat → Prop) (K nL d index i a : Nat), pCx p R s m args c sx A K nL d cc → ls.size = nL → va_S A s.heap H locs → Cond.methodLink (pown K) index yJ0_length_8abf5 ∈ lw_use → i < 5 → sx (500 + i) = some a → (rest.map fun v => v.category).sum ≤ 8 → cells ≤ R.cells → slots ≤ R.slots → decode cc pc = .ok (.invokevirtual index, 3) → W p l e R s m args below meth c H locs cells slots Q (F0 m (pc + 3) ls (.int (Int32.ofNat (pstL.getD i 0)) :: rest)) → W p l e R s m args below meth c H locs cells slots Q (F0 m pc ls (.ref a :: rest))
def pSCH : Prop := ∀ (p : Program) (l : Launch) (e : Env) (R : Room) (s : State) (m : MethodId) (args : Array Value) (below : List Frame) (meth : Method) (c : Code) (H : Heap) (locs : List Loc) (cells slots : Nat) (Q : State → Prop) (cc : ByteArray) (pc : Nat) (ls : Array Slot) (rest : List Value) (sx : Nat → Option Nat) (A : Nat → Prop) (K nL d index i a : Nat) (j : Int32), pCx p R s m args c sx A K nL d cc → ls.size = nL → va_S A s.heap H locs → Cond.methodLink (pown K) index yJ0_charAt_5068e ∈ lw_use → i < 5 → sx (500 + i) = some a → 0 ≤ j.toInt → j.toInt.toNat < pstL.getD i 0 → (rest.map fun v => v.category).sum ≤ 8 → cells ≤ R.cells → slots ≤ R.slots → decode cc pc = .ok (.invokevirtual index, 3) → W p l e R s m args below meth c H locs cells slots Q (F0 m (pc + 3) ls (.int ((pstB.getD i []).getD j.toInt.toNat 0) :: rest)) → W p l e R s m args below meth c H locs cells slots Q (F0 m pc ls (.int j :: .ref a :: rest))
def pLDC : Prop := ∀ (p : Program) (l : Launch) (e : Env) (R : Room) (s : State) (m : MethodId) (args : Array Value) (below : List Frame) (meth : Method) (c : Code) (H : Heap) (locs : List Loc) (cells slots : Nat) (Q : State → Prop) (cc : ByteArray) (pc : Nat) (ls : Array Slot) (rest : List Value) (own tx : String) (index a : Nat), p.tables.exec = Jvm.exec → c.code = cc → s.vm.findClass own = some m.cls → vk_R own index tx a s → decode cc pc = .ok (.ldc index, 2) → W p l e R s m args below meth c H locs cells slots Q (F0 m (pc + 2) ls (.ref a :: rest)) → W p l e R s m args below meth c H locs cells slots Q (F0 m pc ls rest)
def pRows : Prop := pMNA ∧ pSLN ∧ pSCH ∧ pLDC
end
section
/-- all is well from here on: at any state of the machine that stands for this point, it comes to Q -/
def pKK (p : Program) (l : Launch) (e : Env) (R : Room) (s : State) (m : MethodId) (args : Array Value) (below : List Frame) (meth : Method) (c : Code) (Q : State → Prop) (D : va_G) (A : Nat → Prop) (sx : Nat → Option Nat) (nL n0 s0 : Nat) (ws0 : va_W) (pc : Nat) (loc stk : List pV) (Y : pY) (G : pG) : Prop :=
  ∀ (H : Heap) (locs : List Loc) (ws : va_W) (tys : List (ClassId × FieldType)) (ls : Array Slot) (st : List Value) (cells slots : Nat), pWl D A s tys Y G ws H locs → aS ws0 ws → lR ws sx nL loc ls → sR ws sx stk st → Y.1.1 = n0 + cells → Y.1.2 = s0 + slots → W p l e R s m args below meth c H locs cells slots Q (F0 m pc ls st)
theorem i64_l (a : Int32) : a.toInt64.toInt = a.toInt := by simp
theorem lcmp_r (a b : Int64) : (lg_cmp a b).toInt = plcmp a.toInt b.toInt := by
  unfold lg_cmp plcmp
  by_cases h : a > b
  · have h2 : a.toInt > b.toInt := by have := Int64.lt_iff_toInt_lt.mp h; omega
    rw [if_pos h, if_pos h2]; rfl
  · have h2 : ¬ a.toInt > b.toInt := fun q => h (Int64.lt_iff_toInt_lt.mpr q)
    rw [if_neg h, if_neg h2]
    by_cases h3 : a = b
    · rw [if_pos h3, if_pos (by rw [h3])]; rfl
    · rw [if_neg h3, if_neg (fun q => h3 (Int64.toInt_inj.mp q))]; rfl
theorem ne0_32 {a : Int32} (h : ¬ a.toInt = 0) : ¬ a = 0 := fun e => h (by rw [e]; rfl)
theorem ne0_64 {a : Int64} (h : ¬ a.toInt = 0) : ¬ a = 0 := fun e => h (by rw [e]; rfl)
theorem ptgt_s {pc : Nat} {off : Int} {k : Nat → Option pE} {z : pE} (h : ptgt pc off k = some z) : ∃ t : Nat, (pc : Int) + off = (t : Int) ∧ k t = some z := by
  unfold ptgt at h
  obtain ⟨h1, h2⟩ := bif_s h
  exact ⟨_, (of_decide_eq_true h1).symm, h2⟩
theorem pnneg_s {x : Int} (h : pnneg x = true) : x = (x.toNat : Int) := by
  cases x with
  | ofNat n => rfl
  | negSucc n => cases h

theorem ss_iadd {p : Program} {l : Launch} {e : Env} {R : Room} {s : State} {m : MethodId} {args : Array Value} {below : List Frame} {meth : Method} {c : Code} {Q : State → Prop} {D : va_G} {A : Nat → Prop} {sx : Nat → Option Nat} {cc : ByteArray} {nL K rt d n0 s0 : Nat} {ws0 : va_W} (hX : pCx p R s m args c sx A K nL d cc) {pc len : Nat} {e0 : pE} (hd : decode cc pc = .ok (.iadd, len)) (hp : ptr K rt pc (.iadd) len = some e0) {Y Y' : pY} {G G' : pG} {pc' : Nat} {loc loc' stk stk' : List pV} (hs : pstep Y G e0 pc loc stk = some (.inl (pc', loc', stk', Y', G'))) (kk : pKK p l e R s m args below meth c Q D A sx nL n0 s0 ws0 pc' loc' stk' Y' G') : pKK p l e R s m args below meth c Q D A sx nL n0 s0 ws0 pc loc stk Y G := by
  obtain ⟨hx, hb, hml, hown, hts, hnest, hao, hstr, hAA, hfr, hlo⟩ := hX
  intro H locs ws tys ls st cells slots hW hA hl hst hc1 hc2
  obtain ⟨hlen, hp⟩ := bif_s hp
  have hlen : len = 1 := Nat.eq_of_beq_eq_true hlen
  subst hlen
  cases hp
  obtain ⟨x, y, stk0, rfl, hs⟩ := k_ii_s hs
  cases pnx_s hs
  obtain ⟨b1, st1, rfl, rfl, h1⟩ := sR_i hst
  obtain ⟨a1, st2, rfl, rfl, h2⟩ := sR_i h1
  exact lv_iadd hx hb hd (kk H locs ws tys ls _ cells slots hW hA hl ⟨⟨_, rfl, w32_add _ _⟩, h2⟩ hc1 hc2)

theorem ss_isub {p : Program} {l : Launch} {e : Env} {R : Room} {s : State} {m : MethodId} {args : Array Value} {below : List Frame} {meth : Method} {c : Code} {Q : State → Prop} {D : va_G} {A : Nat → Prop} {sx : Nat → Option Nat} {cc : ByteArray} {nL K rt d n0 s0 : Nat} {ws0 : va_W} (hX : pCx p R s m args c sx A K nL d cc) {pc len : Nat} {e0 : pE} (hd : decode cc pc = .ok (.isub, len)) (hp : ptr K rt pc (.isub) len = some e0) {Y Y' : pY} {G G' : pG} {pc' : Nat} {loc loc' stk stk' : List pV} (hs : pstep Y G e0 pc loc stk = some (.inl (pc', loc', stk', Y', G'))) (kk : pKK p l e R s m args below meth c Q D A sx nL n0 s0 ws0 pc' loc' stk' Y' G') : pKK p l e R s m args below meth c Q D A sx nL n0 s0 ws0 pc loc stk Y G := by
  obtain ⟨hx, hb, hml, hown, hts, hnest, hao, hstr, hAA, hfr, hlo⟩ := hX
  intro H locs ws tys ls st cells slots hW hA hl hst hc1 hc2
  obtain ⟨hlen, hp⟩ := bif_s hp
  have hlen : len = 1 := Nat.eq_of_beq_eq_true hlen
  subst hlen
  cases hp
  obtain ⟨x, y, stk0, rfl, hs⟩ := k_ii_s hs
  cases pnx_s hs
  obtain ⟨b1, st1, rfl, rfl, h1⟩ := sR_i hst
  obtain ⟨a1, st2, rfl, rfl, h2⟩ := sR_i h1
  exact lv_isub hx hb hd (kk H locs ws tys ls _ cells slots hW hA hl ⟨⟨_, rfl, w32_sub _ _⟩, h2⟩ hc1 hc2)

theorem ss_imul {p : Program} {l : Launch} {e : Env} {R : Room} {s : State} {m : MethodId} {args : Array Value} {below : List Frame} {meth : Method} {c : Code} {Q : State → Prop} {D : va_G} {A : Nat → Prop} {sx : Nat → Option Nat} {cc : ByteArray} {nL K rt d n0 s0 : Nat} {ws0 : va_W} (hX : pCx p R s m args c sx A K nL d cc) {pc len : Nat} {e0 : pE} (hd : decode cc pc = .ok (.imul, len)) (hp : ptr K rt pc (.imul) len = some e0) {Y Y' : pY} {G G' : pG} {pc' : Nat} {loc loc' stk stk' : List pV} (hs : pstep Y G e0 pc loc stk = some (.inl (pc', loc', stk', Y', G'))) (kk : pKK p l e R s m args below meth c Q D A sx nL n0 s0 ws0 pc' loc' stk' Y' G') : pKK p l e R s m args below meth c Q D A sx nL n0 s0 ws0 pc loc stk Y G := by
  obtain ⟨hx, hb, hml, hown, hts, hnest, hao, hstr, hAA, hfr, hlo⟩ := hX
  intro H locs ws tys ls st cells slots hW hA hl hst hc1 hc2
  obtain ⟨hlen, hp⟩ := bif_s hp
  have hlen : len = 1 := Nat.eq_of_beq_eq_true hlen
  subst hlen
  cases hp
  obtain ⟨x, y, stk0, rfl, hs⟩ := k_ii_s hs
  cases pnx_s hs
  obtain ⟨b1, st1, rfl, rfl, h1⟩ := sR_i hst
  obtain ⟨a1, st2, rfl, rfl, h2⟩ := sR_i h1
  exact lv_imul hx hb hd (kk H locs ws tys ls _ cells slots hW hA hl ⟨⟨_, rfl, w32_mul _ _⟩, h2⟩ hc1 hc2)

theorem ss_iand {p : Program} {l : Launch} {e : Env} {R : Room} {s : State} {m : MethodId} {args : Array Value} {below : List Frame} {meth : Method} {c : Code} {Q : State → Prop} {D : va_G} {A : Nat → Prop} {sx : Nat → Option Nat} {cc : ByteArray} {nL K rt d n0 s0 : Nat} {ws0 : va_W} (hX : pCx p R s m args c sx A K nL d cc) {pc len : Nat} {e0 : pE} (hd : decode cc pc = .ok (.iand, len)) (hp : ptr K rt pc (.iand) len = some e0) {Y Y' : pY} {G G' : pG} {pc' : Nat} {loc loc' stk stk' : List pV} (hs : pstep Y G e0 pc loc stk = some (.inl (pc', loc', stk', Y', G'))) (kk : pKK p l e R s m args below meth c Q D A sx nL n0 s0 ws0 pc' loc' stk' Y' G') : pKK p l e R s m args below meth c Q D A sx nL n0 s0 ws0 pc loc stk Y G := by
  obtain ⟨hx, hb, hml, hown, hts, hnest, hao, hstr, hAA, hfr, hlo⟩ := hX
  intro H locs ws tys ls st cells slots hW hA hl hst hc1 hc2
  obtain ⟨hlen, hp⟩ := bif_s hp
  have hlen : len = 1 := Nat.eq_of_beq_eq_true hlen
  subst hlen
  cases hp
  obtain ⟨x, y, stk0, rfl, hs⟩ := k_ii_s hs
  cases pnx_s hs
  obtain ⟨b1, st1, rfl, rfl, h1⟩ := sR_i hst
  obtain ⟨a1, st2, rfl, rfl, h2⟩ := sR_i h1
  exact lv_iand hx hb hd (kk H locs ws tys ls _ cells slots hW hA hl ⟨⟨_, rfl, by simp [pand]⟩, h2⟩ hc1 hc2)

theorem ss_ior {p : Program} {l : Launch} {e : Env} {R : Room} {s : State} {m : MethodId} {args : Array Value} {below : List Frame} {meth : Method} {c : Code} {Q : State → Prop} {D : va_G} {A : Nat → Prop} {sx : Nat → Option Nat} {cc : ByteArray} {nL K rt d n0 s0 : Nat} {ws0 : va_W} (hX : pCx p R s m args c sx A K nL d cc) {pc len : Nat} {e0 : pE} (hd : decode cc pc = .ok (.ior, len)) (hp : ptr K rt pc (.ior) len = some e0) {Y Y' : pY} {G G' : pG} {pc' : Nat} {loc loc' stk stk' : List pV} (hs : pstep Y G e0 pc loc stk = some (.inl (pc', loc', stk', Y', G'))) (kk : pKK p l e R s m args below meth c Q D A sx nL n0 s0 ws0 pc' loc' stk' Y' G') : pKK p l e R s m args below meth c Q D A sx nL n0 s0 ws0 pc loc stk Y G := by
  obtain ⟨hx, hb, hml, hown, hts, hnest, hao, hstr, hAA, hfr, hlo⟩ := hX
  intro H locs ws tys ls st cells slots hW hA hl hst hc1 hc2
  obtain ⟨hlen, hp⟩ := bif_s hp
  have hlen : len = 1 := Nat.eq_of_beq_eq_true hlen
  subst hlen
  cases hp
  obtain ⟨x, y, stk0, rfl, hs⟩ := k_ii_s hs
  cases pnx_s hs
  obtain ⟨b1, st1, rfl, rfl, h1⟩ := sR_i hst
  obtain ⟨a1, st2, rfl, rfl, h2⟩ := sR_i h1
  exact lv_ior hx hb hd (kk H locs ws tys ls _ cells slots hW hA hl ⟨⟨_, rfl, by simp [por]⟩, h2⟩ hc1 hc2)

theorem ss_ixor {p : Program} {l : Launch} {e : Env} {R : Room} {s : State} {m : MethodId} {args : Array Value} {below : List Frame} {meth : Method} {c : Code} {Q : State → Prop} {D : va_G} {A : Nat → Prop} {sx : Nat → Option Nat} {cc : ByteArray} {nL K rt d n0 s0 : Nat} {ws0 : va_W} (hX : pCx p R s m args c sx A K nL d cc) {pc len : Nat} {e0 : pE} (hd : decode cc pc = .ok (.ixor, len)) (hp : ptr K rt pc (.ixor) len = some e0) {Y Y' : pY} {G G' : pG} {pc' : Nat} {loc loc' stk stk' : List pV} (hs : pstep Y G e0 pc loc stk = some (.inl (pc', loc', stk', Y', G'))) (kk : pKK p l e R s m args below meth c Q D A sx nL n0 s0 ws0 pc' loc' stk' Y' G') : pKK p l e R s m args below meth c Q D A sx nL n0 s0 ws0 pc loc stk Y G := by
  obtain ⟨hx, hb, hml, hown, hts, hnest, hao, hstr, hAA, hfr, hlo⟩ := hX
  intro H locs ws tys ls st cells slots hW hA hl hst hc1 hc2
  obtain ⟨hlen, hp⟩ := bif_s hp
  have hlen : len = 1 := Nat.eq_of_beq_eq_true hlen
  subst hlen
  cases hp
  obtain ⟨x, y, stk0, rfl, hs⟩ := k_ii_s hs
  cases pnx_s hs
  obtain ⟨b1, st1, rfl, rfl, h1⟩ := sR_i hst
  obtain ⟨a1, st2, rfl, rfl, h2⟩ := sR_i h1
  exact lv_ixor hx hb hd (kk H locs ws tys ls _ cells slots hW hA hl ⟨⟨_, rfl, by simp [pxor]⟩, h2⟩ hc1 hc2)

theorem ss_ishl {p : Program} {l : Launch} {e : Env} {R : Room} {s : State} {m : MethodId} {args : Array Value} {below : List Frame} {meth : Method} {c : Code} {Q : State → Prop} {D : va_G} {A : Nat → Prop} {sx : Nat → Option Nat} {cc : ByteArray} {nL K rt d n0 s0 : Nat} {ws0 : va_W} (hX : pCx p R s m args c sx A K nL d cc) {pc len : Nat} {e0 : pE} (hd : decode cc pc = .ok (.ishl, len)) (hp : ptr K rt pc (.ishl) len = some e0) {Y Y' : pY} {G G' : pG} {pc' : Nat} {loc loc' stk stk' : List pV} (hs : pstep Y G e0 pc loc stk = some (.inl (pc', loc', stk', Y', G'))) (kk : pKK p l e R s m args below meth c Q D A sx nL n0 s0 ws0 pc' loc' stk' Y' G') : pKK p l e R s m args below meth c Q D A sx nL n0 s0 ws0 pc loc stk Y G := by
  obtain ⟨hx, hb, hml, hown, hts, hnest, hao, hstr, hAA, hfr, hlo⟩ := hX
  intro H locs ws tys ls st cells slots hW hA hl hst hc1 hc2
  obtain ⟨hlen, hp⟩ := bif_s hp
  have hlen : len = 1 := Nat.eq_of_beq_eq_true hlen
  subst hlen
  cases hp
  obtain ⟨x, y, stk0, rfl, hs⟩ := k_ii_s hs
  cases pnx_s hs
  obtain ⟨b1, st1, rfl, rfl, h1⟩ := sR_i hst
  obtain ⟨a1, st2, rfl, rfl, h2⟩ := sR_i h1
  exact lv_ishl hx hb hd (kk H locs ws tys ls _ cells slots hW hA hl ⟨⟨_, rfl, by simp [pshl]⟩, h2⟩ hc1 hc2)

theorem ss_ishr {p : Program} {l : Launch} {e : Env} {R : Room} {s : State} {m : MethodId} {args : Array Value} {below : List Frame} {meth : Method} {c : Code} {Q : State → Prop} {D : va_G} {A : Nat → Prop} {sx : Nat → Option Nat} {cc : ByteArray} {nL K rt d n0 s0 : Nat} {ws0 : va_W} (hX : pCx p R s m args c sx A K nL d cc) {pc len : Nat} {e0 : pE} (hd : decode cc pc = .ok (.ishr, len)) (hp : ptr K rt pc (.ishr) len = some e0) {Y Y' : pY} {G G' : pG} {pc' : Nat} {loc loc' stk stk' : List pV} (hs : pstep Y G e0 pc loc stk = some (.inl (pc', loc', stk', Y', G'))) (kk : pKK p l e R s m args below meth c Q D A sx nL n0 s0 ws0 pc' loc' stk' Y' G') : pKK p l e R s m args below meth c Q D A sx nL n0 s0 ws0 pc loc stk Y G := by
  obtain ⟨hx, hb, hml, hown, hts, hnest, hao, hstr, hAA, hfr, hlo⟩ := hX
  intro H locs ws tys ls st cells slots hW hA hl hst hc1 hc2
  obtain ⟨hlen, hp⟩ := bif_s hp
  have hlen : len = 1 := Nat.eq_of_beq_eq_true hlen
  subst hlen
  cases hp
  obtain ⟨x, y, stk0, rfl, hs⟩ := k_ii_s hs
  cases pnx_s hs
  obtain ⟨b1, st1, rfl, rfl, h1⟩ := sR_i hst
  obtain ⟨a1, st2, rfl, rfl, h2⟩ := sR_i h1
  exact lv_ishr hx hb hd (kk H locs ws tys ls _ cells slots hW hA hl ⟨⟨_, rfl, by simp [pshr]⟩, h2⟩ hc1 hc2)

theorem ss_iushr {p : Program} {l : Launch} {e : Env} {R : Room} {s : State} {m : MethodId} {args : Array Value} {below : List Frame} {meth : Method} {c : Code} {Q : State → Prop} {D : va_G} {A : Nat → Prop} {sx : Nat → Option Nat} {cc : ByteArray} {nL K rt d n0 s0 : Nat} {ws0 : va_W} (hX : pCx p R s m args c sx A K nL d cc) {pc len : Nat} {e0 : pE} (hd : decode cc pc = .ok (.iushr, len)) (hp : ptr K rt pc (.iushr) len = some e0) {Y Y' : pY} {G G' : pG} {pc' : Nat} {loc loc' stk stk' : List pV} (hs : pstep Y G e0 pc loc stk = some (.inl (pc', loc', stk', Y', G'))) (kk : pKK p l e R s m args below meth c Q D A sx nL n0 s0 ws0 pc' loc' stk' Y' G') : pKK p l e R s m args below meth c Q D A sx nL n0 s0 ws0 pc loc stk Y G := by
  obtain ⟨hx, hb, hml, hown, hts, hnest, hao, hstr, hAA, hfr, hlo⟩ := hX
  intro H locs ws tys ls st cells slots hW hA hl hst hc1 hc2
  obtain ⟨hlen, hp⟩ := bif_s hp
  have hlen : len = 1 := Nat.eq_of_beq_eq_true hlen
  subst hlen
  cases hp
  obtain ⟨x, y, stk0, rfl, hs⟩ := k_ii_s hs
  cases pnx_s hs
  obtain ⟨b1, st1, rfl, rfl, h1⟩ := sR_i hst
  obtain ⟨a1, st2, rfl, rfl, h2⟩ := sR_i h1
  exact lv_iushr hx hb hd rfl (kk H locs ws tys ls _ cells slots hW hA hl ⟨⟨_, rfl, by simp [push']⟩, h2⟩ hc1 hc2)

theorem ss_idiv {p : Program} {l : Launch} {e : Env} {R : Room} {s : State} {m : MethodId} {args : Array Value} {below : List Frame} {meth : Method} {c : Code} {Q : State → Prop} {D : va_G} {A : Nat → Prop} {sx : Nat → Option Nat} {cc : ByteArray} {nL K rt d n0 s0 : Nat} {ws0 : va_W} (hX : pCx p R s m args c sx A K nL d cc) {pc len : Nat} {e0 : pE} (hd : decode cc pc = .ok (.idiv, len)) (hp : ptr K rt pc (.idiv) len = some e0) {Y Y' : pY} {G G' : pG} {pc' : Nat} {loc loc' stk stk' : List pV} (hs : pstep Y G e0 pc loc stk = some (.inl (pc', loc', stk', Y', G'))) (kk : pKK p l e R s m args below meth c Q D A sx nL n0 s0 ws0 pc' loc' stk' Y' G') : pKK p l e R s m args below meth c Q D A sx nL n0 s0 ws0 pc loc stk Y G := by
  obtain ⟨hx, hb, hml, hown, hts, hnest, hao, hstr, hAA, hfr, hlo⟩ := hX
  intro H locs ws tys ls st cells slots hW hA hl hst hc1 hc2
  obtain ⟨hlen, hp⟩ := bif_s hp
  have hlen : len = 1 := Nat.eq_of_beq_eq_true hlen
  subst hlen
  cases hp
  obtain ⟨x, y, stk0, rfl, hs⟩ := k_ii_s hs
  obtain ⟨hne, hs⟩ := ifn_s hs
  cases pnx_s hs
  obtain ⟨b1, st1, rfl, rfl, h1⟩ := sR_i hst
  obtain ⟨a1, st2, rfl, rfl, h2⟩ := sR_i h1
  exact lv_idiv hx hb hd (ne0_32 hne) (kk H locs ws tys ls _ cells slots hW hA hl ⟨⟨_, rfl, by simp [pdiv]⟩, h2⟩ hc1 hc2)

theorem ss_irem {p : Program} {l : Launch} {e : Env} {R : Room} {s : State} {m : MethodId} {args : Array Value} {below : List Frame} {meth : Method} {c : Code} {Q : State → Prop} {D : va_G} {A : Nat → Prop} {sx : Nat → Option Nat} {cc : ByteArray} {nL K rt d n0 s0 : Nat} {ws0 : va_W} (hX : pCx p R s m args c sx A K nL d cc) {pc len : Nat} {e0 : pE} (hd : decode cc pc = .ok (.irem, len)) (hp : ptr K rt pc (.irem) len = some e0) {Y Y' : pY} {G G' : pG} {pc' : Nat} {loc loc' stk stk' : List pV} (hs : pstep Y G e0 pc loc stk = some (.inl (pc', loc', stk', Y', G'))) (kk : pKK p l e R s m args below meth c Q D A sx nL n0 s0 ws0 pc' loc' stk' Y' G') : pKK p l e R s m args below meth c Q D A sx nL n0 s0 ws0 pc loc stk Y G := by
  obtain ⟨hx, hb, hml, hown, hts, hnest, hao, hstr, hAA, hfr, hlo⟩ := hX
  intro H locs ws tys ls st cells slots hW hA hl hst hc1 hc2
  obtain ⟨hlen, hp⟩ := bif_s hp
  have hlen : len = 1 := Nat.eq_of_beq_eq_true hlen
  subst hlen
  cases hp
  obtain ⟨x, y, stk0, rfl, hs⟩ := k_ii_s hs
  obtain ⟨hne, hs⟩ := ifn_s hs
  cases pnx_s hs
  obtain ⟨b1, st1, rfl, rfl, h1⟩ := sR_i hst
  obtain ⟨a1, st2, rfl, rfl, h2⟩ := sR_i h1
  exact lv_irem hx hb hd (ne0_32 hne) (kk H locs ws tys ls _ cells slots hW hA hl ⟨⟨_, rfl, by simp [prem]⟩, h2⟩ hc1 hc2)

theorem ss_ldiv {p : Program} {l : Launch} {e : Env} {R : Room} {s : State} {m : MethodId} {args : Array Value} {below : List Frame} {meth : Method} {c : Code} {Q : State → Prop} {D : va_G} {A : Nat → Prop} {sx : Nat → Option Nat} {cc : ByteArray} {nL K rt d n0 s0 : Nat} {ws0 : va_W} (hX : pCx p R s m args c sx A K nL d cc) {pc len : Nat} {e0 : pE} (hd : decode cc pc = .ok (.ldiv, len)) (hp : ptr K rt pc (.ldiv) len = some e0) {Y Y' : pY} {G G' : pG} {pc' : Nat} {loc loc' stk stk' : List pV} (hs : pstep Y G e0 pc loc stk = some (.inl (pc', loc', stk', Y', G'))) (kk : pKK p l e R s m args below meth c Q D A sx nL n0 s0 ws0 pc' loc' stk' Y' G') : pKK p l e R s m args below meth c Q D A sx nL n0 s0 ws0 pc loc stk Y G := by
  obtain ⟨hx, hb, hml, hown, hts, hnest, hao, hstr, hAA, hfr, hlo⟩ := hX
  intro H locs ws tys ls st cells slots hW hA hl hst hc1 hc2
  obtain ⟨hlen, hp⟩ := bif_s hp
  have hlen : len = 1 := Nat.eq_of_beq_eq_true hlen
  subst hlen
  cases hp
  obtain ⟨x, y, stk0, rfl, hs⟩ := k_ll_s hs
  obtain ⟨hne, hs⟩ := ifn_s hs
  cases pnx_s hs
  obtain ⟨b1, st1, rfl, rfl, h1⟩ := sR_l hst
  obtain ⟨a1, st2, rfl, rfl, h2⟩ := sR_l h1
  exact lv_ldiv hx hb hd (ne0_64 hne) (kk H locs ws tys ls _ cells slots hW hA hl ⟨⟨_, rfl, by simp [pldiv]⟩, h2⟩ hc1 hc2)

theorem ss_lrem {p : Program} {l : Launch} {e : Env} {R : Room} {s : State} {m : MethodId} {args : Array Value} {below : List Frame} {meth : Method} {c : Code} {Q : State → Prop} {D : va_G} {A : Nat → Prop} {sx : Nat → Option Nat} {cc : ByteArray} {nL K rt d n0 s0 : Nat} {ws0 : va_W} (hX : pCx p R s m args c sx A K nL d cc) {pc len : Nat} {e0 : pE} (hd : decode cc pc = .ok (.lrem, len)) (hp : ptr K rt pc (.lrem) len = some e0) {Y Y' : pY} {G G' : pG} {pc' : Nat} {loc loc' stk stk' : List pV} (hs : pstep Y G e0 pc loc stk = some (.inl (pc', loc', stk', Y', G'))) (kk : pKK p l e R s m args below meth c Q D A sx nL n0 s0 ws0 pc' loc' stk' Y' G') : pKK p l e R s m args below meth c Q D A sx nL n0 s0 ws0 pc loc stk Y G := by
  obtain ⟨hx, hb, hml, hown, hts, hnest, hao, hstr, hAA, hfr, hlo⟩ := hX
  intro H locs ws tys ls st cells slots hW hA hl hst hc1 hc2
  obtain ⟨hlen, hp⟩ := bif_s hp
  have hlen : len = 1 := Nat.eq_of_beq_eq_true hlen
  subst hlen
  cases hp
  obtain ⟨x, y, stk0, rfl, hs⟩ := k_ll_s hs
  obtain ⟨hne, hs⟩ := ifn_s hs
  cases pnx_s hs
  obtain ⟨b1, st1, rfl, rfl, h1⟩ := sR_l hst
  obtain ⟨a1, st2, rfl, rfl, h2⟩ := sR_l h1
  exact lv_lrem hx hb hd (ne0_64 hne) (kk H locs ws tys ls _ cells slots hW hA hl ⟨⟨_, rfl, by simp [plrem]⟩, h2⟩ hc1 hc2)

theorem ss_ladd {p : Program} {l : Launch} {e : Env} {R : Room} {s : State} {m : MethodId} {args : Array Value} {below : List Frame} {meth : Method} {c : Code} {Q : State → Prop} {D : va_G} {A : Nat → Prop} {sx : Nat → Option Nat} {cc : ByteArray} {nL K rt d n0 s0 : Nat} {ws0 : va_W} (hX : pCx p R s m args c sx A K nL d cc) {pc len : Nat} {e0 : pE} (hd : decode cc pc = .ok (.ladd, len)) (hp : ptr K rt pc (.ladd) len = some e0) {Y Y' : pY} {G G' : pG} {pc' : Nat} {loc loc' stk stk' : List pV} (hs : pstep Y G e0 pc loc stk = some (.inl (pc', loc', stk', Y', G'))) (kk : pKK p l e R s m args below meth c Q D A sx nL n0 s0 ws0 pc' loc' stk' Y' G') : pKK p l e R s m args below meth c Q D A sx nL n0 s0 ws0 pc loc stk Y G := by
  obtain ⟨hx, hb, hml, hown, hts, hnest, hao, hstr, hAA, hfr, hlo⟩ := hX
  intro H locs ws tys ls st cells slots hW hA hl hst hc1 hc2
  obtain ⟨hlen, hp⟩ := bif_s hp
  have hlen : len = 1 := Nat.eq_of_beq_eq_true hlen
  subst hlen
  cases hp
  obtain ⟨x, y, stk0, rfl, hs⟩ := k_ll_s hs
  cases pnx_s hs
  obtain ⟨b1, st1, rfl, rfl, h1⟩ := sR_l hst
  obtain ⟨a1, st2, rfl, rfl, h2⟩ := sR_l h1
  exact lv_ladd hx hb hd (kk H locs ws tys ls _ cells slots hW hA hl ⟨⟨_, rfl, w64_add _ _⟩, h2⟩ hc1 hc2)

theorem ss_lsub {p : Program} {l : Launch} {e : Env} {R : Room} {s : State} {m : MethodId} {args : Array Value} {below : List Frame} {meth : Method} {c : Code} {Q : State → Prop} {D : va_G} {A : Nat → Prop} {sx : Nat → Option Nat} {cc : ByteArray} {nL K rt d n0 s0 : Nat} {ws0 : va_W} (hX : pCx p R s m args c sx A K nL d cc) {pc len : Nat} {e0 : pE} (hd : decode cc pc = .ok (.lsub, len)) (hp : ptr K rt pc (.lsub) len = some e0) {Y Y' : pY} {G G' : pG} {pc' : Nat} {loc loc' stk stk' : List pV} (hs : pstep Y G e0 pc loc stk = some (.inl (pc', loc', stk', Y', G'))) (kk : pKK p l e R s m args below meth c Q D A sx nL n0 s0 ws0 pc' loc' stk' Y' G') : pKK p l e R s m args below meth c Q D A sx nL n0 s0 ws0 pc loc stk Y G := by
  obtain ⟨hx, hb, hml, hown, hts, hnest, hao, hstr, hAA, hfr, hlo⟩ := hX
  intro H locs ws tys ls st cells slots hW hA hl hst hc1 hc2
  obtain ⟨hlen, hp⟩ := bif_s hp
  have hlen : len = 1 := Nat.eq_of_beq_eq_true hlen
  subst hlen
  cases hp
  obtain ⟨x, y, stk0, rfl, hs⟩ := k_ll_s hs
  cases pnx_s hs
  obtain ⟨b1, st1, rfl, rfl, h1⟩ := sR_l hst
  obtain ⟨a1, st2, rfl, rfl, h2⟩ := sR_l h1
  exact lv_lsub hx hb hd (kk H locs ws tys ls _ cells slots hW hA hl ⟨⟨_, rfl, w64_sub _ _⟩, h2⟩ hc1 hc2)

theorem ss_lmul {p : Program} {l : Launch} {e : Env} {R : Room} {s : State} {m : MethodId} {args : Array Value} {below : List Frame} {meth : Method} {c : Code} {Q : State → Prop} {D : va_G} {A : Nat → Prop} {sx : Nat → Option Nat} {cc : ByteArray} {nL K rt d n0 s0 : Nat} {ws0 : va_W} (hX : pCx p R s m args c sx A K nL d cc) {pc len : Nat} {e0 : pE} (hd : decode cc pc = .ok (.lmul, len)) (hp : ptr K rt pc (.lmul) len = some e0) {Y Y' : pY} {G G' : pG} {pc' : Nat} {loc loc' stk stk' : List pV} (hs : pstep Y G e0 pc loc stk = some (.inl (pc', loc', stk', Y', G'))) (kk : pKK p l e R s m args below meth c Q D A sx nL n0 s0 ws0 pc' loc' stk' Y' G') : pKK p l e R s m args below meth c Q D A sx nL n0 s0 ws0 pc loc stk Y G := by
  obtain ⟨hx, hb, hml, hown, hts, hnest, hao, hstr, hAA, hfr, hlo⟩ := hX
  intro H locs ws tys ls st cells slots hW hA hl hst hc1 hc2
  obtain ⟨hlen, hp⟩ := bif_s hp
  have hlen : len = 1 := Nat.eq_of_beq_eq_true hlen
  subst hlen
  cases hp
  obtain ⟨x, y, stk0, rfl, hs⟩ := k_ll_s hs
  cases pnx_s hs
  obtain ⟨b1, st1, rfl, rfl, h1⟩ := sR_l hst
  obtain ⟨a1, st2, rfl, rfl, h2⟩ := sR_l h1
  exact lv_lmul hx hb hd (kk H locs ws tys ls _ cells slots hW hA hl ⟨⟨_, rfl, w64_mul _ _⟩, h2⟩ hc1 hc2)

theorem ss_land {p : Program} {l : Launch} {e : Env} {R : Room} {s : State} {m : MethodId} {args : Array Value} {below : List Frame} {meth : Method} {c : Code} {Q : State → Prop} {D : va_G} {A : Nat → Prop} {sx : Nat → Option Nat} {cc : ByteArray} {nL K rt d n0 s0 : Nat} {ws0 : va_W} (hX : pCx p R s m args c sx A K nL d cc) {pc len : Nat} {e0 : pE} (hd : decode cc pc = .ok (.land, len)) (hp : ptr K rt pc (.land) len = some e0) {Y Y' : pY} {G G' : pG} {pc' : Nat} {loc loc' stk stk' : List pV} (hs : pstep Y G e0 pc loc stk = some (.inl (pc', loc', stk', Y', G'))) (kk : pKK p l e R s m args below meth c Q D A sx nL n0 s0 ws0 pc' loc' stk' Y' G') : pKK p l e R s m args below meth c Q D A sx nL n0 s0 ws0 pc loc stk Y G := by
  obtain ⟨hx, hb, hml, hown, hts, hnest, hao, hstr, hAA, hfr, hlo⟩ := hX
  intro H locs ws tys ls st cells slots hW hA hl hst hc1 hc2
  obtain ⟨hlen, hp⟩ := bif_s hp
  have hlen : len = 1 := Nat.eq_of_beq_eq_true hlen
  subst hlen
  cases hp
  obtain ⟨x, y, stk0, rfl, hs⟩ := k_ll_s hs
  cases pnx_s hs
  obtain ⟨b1, st1, rfl, rfl, h1⟩ := sR_l hst
  obtain ⟨a1, st2, rfl, rfl, h2⟩ := sR_l h1
  exact lv_land hx hb hd (kk H locs ws tys ls _ cells slots hW hA hl ⟨⟨_, rfl, by simp [pland]⟩, h2⟩ hc1 hc2)

theorem ss_lor {p : Program} {l : Launch} {e : Env} {R : Room} {s : State} {m : MethodId} {args : Array Value} {below : List Frame} {meth : Method} {c : Code} {Q : State → Prop} {D : va_G} {A : Nat → Prop} {sx : Nat → Option Nat} {cc : ByteArray} {nL K rt d n0 s0 : Nat} {ws0 : va_W} (hX : pCx p R s m args c sx A K nL d cc) {pc len : Nat} {e0 : pE} (hd : decode cc pc = .ok (.lor, len)) (hp : ptr K rt pc (.lor) len = some e0) {Y Y' : pY} {G G' : pG} {pc' : Nat} {loc loc' stk stk' : List pV} (hs : pstep Y G e0 pc loc stk = some (.inl (pc', loc', stk', Y', G'))) (kk : pKK p l e R s m args below meth c Q D A sx nL n0 s0 ws0 pc' loc' stk' Y' G') : pKK p l e R s m args below meth c Q D A sx nL n0 s0 ws0 pc loc stk Y G := by
  obtain ⟨hx, hb, hml, hown, hts, hnest, hao, hstr, hAA, hfr, hlo⟩ := hX
  intro H locs ws tys ls st cells slots hW hA hl hst hc1 hc2
  obtain ⟨hlen, hp⟩ := bif_s hp
  have hlen : len = 1 := Nat.eq_of_beq_eq_true hlen
  subst hlen
  cases hp
  obtain ⟨x, y, stk0, rfl, hs⟩ := k_ll_s hs
  cases pnx_s hs
  obtain ⟨b1, st1, rfl, rfl, h1⟩ := sR_l hst
  obtain ⟨a1, st2, rfl, rfl, h2⟩ := sR_l h1
  exact lv_lor hx hb hd (kk H locs ws tys ls _ cells slots hW hA hl ⟨⟨_, rfl, by simp [plor]⟩, h2⟩ hc1 hc2)

theorem ss_lshl {p : Program} {l : Launch} {e : Env} {R : Room} {s : State} {m : MethodId} {args : Array Value} {below : List Frame} {meth : Method} {c : Code} {Q : State → Prop} {D : va_G} {A : Nat → Prop} {sx : Nat → Option Nat} {cc : ByteArray} {nL K rt d n0 s0 : Nat} {ws0 : va_W} (hX : pCx p R s m args c sx A K nL d cc) {pc len : Nat} {e0 : pE} (hd : decode cc pc = .ok (.lshl, len)) (hp : ptr K rt pc (.lshl) len = some e0) {Y Y' : pY} {G G' : pG} {pc' : Nat} {loc loc' stk stk' : List pV} (hs : pstep Y G e0 pc loc stk = some (.inl (pc', loc', stk', Y', G'))) (kk : pKK p l e R s m args below meth c Q D A sx nL n0 s0 ws0 pc' loc' stk' Y' G') : pKK p l e R s m args below meth c Q D A sx nL n0 s0 ws0 pc loc stk Y G := by
  obtain ⟨hx, hb, hml, hown, hts, hnest, hao, hstr, hAA, hfr, hlo⟩ := hX
  intro H locs ws tys ls st cells slots hW hA hl hst hc1 hc2
  obtain ⟨hlen, hp⟩ := bif_s hp
  have hlen : len = 1 := Nat.eq_of_beq_eq_true hlen
  subst hlen
  cases hp
  obtain ⟨x, y, stk0, rfl, hs⟩ := k_li_s hs
  cases pnx_s hs
  obtain ⟨b1, st1, rfl, rfl, h1⟩ := sR_i hst
  obtain ⟨a1, st2, rfl, rfl, h2⟩ := sR_l h1
  exact lv_lshl hx hb hd rfl (kk H locs ws tys ls _ cells slots hW hA hl ⟨⟨_, rfl, by simp [plshl]⟩, h2⟩ hc1 hc2)

theorem ss_lshr {p : Program} {l : Launch} {e : Env} {R : Room} {s : State} {m : MethodId} {args : Array Value} {below : List Frame} {meth : Method} {c : Code} {Q : State → Prop} {D : va_G} {A : Nat → Prop} {sx : Nat → Option Nat} {cc : ByteArray} {nL K rt d n0 s0 : Nat} {ws0 : va_W} (hX : pCx p R s m args c sx A K nL d cc) {pc len : Nat} {e0 : pE} (hd : decode cc pc = .ok (.lshr, len)) (hp : ptr K rt pc (.lshr) len = some e0) {Y Y' : pY} {G G' : pG} {pc' : Nat} {loc loc' stk stk' : List pV} (hs : pstep Y G e0 pc loc stk = some (.inl (pc', loc', stk', Y', G'))) (kk : pKK p l e R s m args below meth c Q D A sx nL n0 s0 ws0 pc' loc' stk' Y' G') : pKK p l e R s m args below meth c Q D A sx nL n0 s0 ws0 pc loc stk Y G := by
  obtain ⟨hx, hb, hml, hown, hts, hnest, hao, hstr, hAA, hfr, hlo⟩ := hX
  intro H locs ws tys ls st cells slots hW hA hl hst hc1 hc2
  obtain ⟨hlen, hp⟩ := bif_s hp
  have hlen : len = 1 := Nat.eq_of_beq_eq_true hlen
  subst hlen
  cases hp
  obtain ⟨x, y, stk0, rfl, hs⟩ := k_li_s hs
  cases pnx_s hs
  obtain ⟨b1, st1, rfl, rfl, h1⟩ := sR_i hst
  obtain ⟨a1, st2, rfl, rfl, h2⟩ := sR_l h1
  exact lv_lshr hx hb hd rfl (kk H locs ws tys ls _ cells slots hW hA hl ⟨⟨_, rfl, by simp [plshr]⟩, h2⟩ hc1 hc2)

theorem ss_lcmp {p : Program} {l : Launch} {e : Env} {R : Room} {s : State} {m : MethodId} {args : Array Value} {below : List Frame} {meth : Method} {c : Code} {Q : State → Prop} {D : va_G} {A : Nat → Prop} {sx : Nat → Option Nat} {cc : ByteArray} {nL K rt d n0 s0 : Nat} {ws0 : va_W} (hX : pCx p R s m args c sx A K nL d cc) {pc len : Nat} {e0 : pE} (hd : decode cc pc = .ok (.lcmp, len)) (hp : ptr K rt pc (.lcmp) len = some e0) {Y Y' : pY} {G G' : pG} {pc' : Nat} {loc loc' stk stk' : List pV} (hs : pstep Y G e0 pc loc stk = some (.inl (pc', loc', stk', Y', G'))) (kk : pKK p l e R s m args below meth c Q D A sx nL n0 s0 ws0 pc' loc' stk' Y' G') : pKK p l e R s m args below meth c Q D A sx nL n0 s0 ws0 pc loc stk Y G := by
  obtain ⟨hx, hb, hml, hown, hts, hnest, hao, hstr, hAA, hfr, hlo⟩ := hX
  intro H locs ws tys ls st cells slots hW hA hl hst hc1 hc2
  obtain ⟨hlen, hp⟩ := bif_s hp
  have hlen : len = 1 := Nat.eq_of_beq_eq_true hlen
  subst hlen
  cases hp
  obtain ⟨x, y, stk0, rfl, hs⟩ := k_ll_s hs
  cases pnx_s hs
  obtain ⟨b1, st1, rfl, rfl, h1⟩ := sR_l hst
  obtain ⟨a1, st2, rfl, rfl, h2⟩ := sR_l h1
  exact W.lcmp hx hb hd (kk H locs ws tys ls _ cells slots hW hA hl ⟨⟨_, rfl, lcmp_r _ _⟩, h2⟩ hc1 hc2)

theorem ss_ineg {p : Program} {l : Launch} {e : Env} {R : Room} {s : State} {m : MethodId} {args : Array Value} {below : List Frame} {meth : Method} {c : Code} {Q : State → Prop} {D : va_G} {A : Nat → Prop} {sx : Nat → Option Nat} {cc : ByteArray} {nL K rt d n0 s0 : Nat} {ws0 : va_W} (hX : pCx p R s m args c sx A K nL d cc) {pc len : Nat} {e0 : pE} (hd : decode cc pc = .ok (.ineg, len)) (hp : ptr K rt pc (.ineg) len = some e0) {Y Y' : pY} {G G' : pG} {pc' : Nat} {loc loc' stk stk' : List pV} (hs : pstep Y G e0 pc loc stk = some (.inl (pc', loc', stk', Y', G'))) (kk : pKK p l e R s m args below meth c Q D A sx nL n0 s0 ws0 pc' loc' stk' Y' G') : pKK p l e R s m args below meth c Q D A sx nL n0 s0 ws0 pc loc stk Y G := by
  obtain ⟨hx, hb, hml, hown, hts, hnest, hao, hstr, hAA, hfr, hlo⟩ := hX
  intro H locs ws tys ls st cells slots hW hA hl hst hc1 hc2
  obtain ⟨hlen, hp⟩ := bif_s hp
  have hlen : len = 1 := Nat.eq_of_beq_eq_true hlen
  subst hlen
  cases hp
  obtain ⟨x, stk0, rfl, hs⟩ := k_i_s hs
  cases pnx_s hs
  obtain ⟨b1, st1, rfl, rfl, h1⟩ := sR_i hst
  exact lv_ineg hx hb hd (kk H locs ws tys ls _ cells slots hW hA hl ⟨⟨_, rfl, w32_neg _⟩, h1⟩ hc1 hc2)

theorem ss_lneg {p : Program} {l : Launch} {e : Env} {R : Room} {s : State} {m : MethodId} {args : Array Value} {below : List Frame} {meth : Method} {c : Code} {Q : State → Prop} {D : va_G} {A : Nat → Prop} {sx : Nat → Option Nat} {cc : ByteArray} {nL K rt d n0 s0 : Nat} {ws0 : va_W} (hX : pCx p R s m args c sx A K nL d cc) {pc len : Nat} {e0 : pE} (hd : decode cc pc = .ok (.lneg, len)) (hp : ptr K rt pc (.lneg) len = some e0) {Y Y' : pY} {G G' : pG} {pc' : Nat} {loc loc' stk stk' : List pV} (hs : pstep Y G e0 pc loc stk = some (.inl (pc', loc', stk', Y', G'))) (kk : pKK p l e R s m args below meth c Q D A sx nL n0 s0 ws0 pc' loc' stk' Y' G') : pKK p l e R s m args below meth c Q D A sx nL n0 s0 ws0 pc loc stk Y G := by
  obtain ⟨hx, hb, hml, hown, hts, hnest, hao, hstr, hAA, hfr, hlo⟩ := hX
  intro H locs ws tys ls st cells slots hW hA hl hst hc1 hc2
  obtain ⟨hlen, hp⟩ := bif_s hp
  have hlen : len = 1 := Nat.eq_of_beq_eq_true hlen
  subst hlen
  cases hp
  obtain ⟨x, stk0, rfl, hs⟩ := k_l_s hs
  cases pnx_s hs
  obtain ⟨b1, st1, rfl, rfl, h1⟩ := sR_l hst
  exact lv_lneg hx hb hd (kk H locs ws tys ls _ cells slots hW hA hl ⟨⟨_, rfl, w64_neg _⟩, h1⟩ hc1 hc2)

theorem ss_i2l {p : Program} {l : Launch} {e : Env} {R : Room} {s : State} {m : MethodId} {args : Array Value} {below : List Frame} {meth : Method} {c : Code} {Q : State → Prop} {D : va_G} {A : Nat → Prop} {sx : Nat → Option Nat} {cc : ByteArray} {nL K rt d n0 s0 : Nat} {ws0 : va_W} (hX : pCx p R s m args c sx A K nL d cc) {pc len : Nat} {e0 : pE} (hd : decode cc pc = .ok (.i2l, len)) (hp : ptr K rt pc (.i2l) len = some e0) {Y Y' : pY} {G G' : pG} {pc' : Nat} {loc loc' stk stk' : List pV} (hs : pstep Y G e0 pc loc stk = some (.inl (pc', loc', stk', Y', G'))) (kk : pKK p l e R s m args below meth c Q D A sx nL n0 s0 ws0 pc' loc' stk' Y' G') : pKK p l e R s m args below meth c Q D A sx nL n0 s0 ws0 pc loc stk Y G := by
  obtain ⟨hx, hb, hml, hown, hts, hnest, hao, hstr, hAA, hfr, hlo⟩ := hX
  intro H locs ws tys ls st cells slots hW hA hl hst hc1 hc2
  obtain ⟨hlen, hp⟩ := bif_s hp
  have hlen : len = 1 := Nat.eq_of_beq_eq_true hlen
  subst hlen
  cases hp
  obtain ⟨x, stk0, rfl, hs⟩ := k_i_s hs
  cases pnx_s hs
  obtain ⟨b1, st1, rfl, rfl, h1⟩ := sR_i hst
  exact lv_i2l hx hb hd rfl (kk H locs ws tys ls _ cells slots hW hA hl ⟨⟨_, rfl, i64_l _⟩, h1⟩ hc1 hc2)

theorem ss_l2i {p : Program} {l : Launch} {e : Env} {R : Room} {s : State} {m : MethodId} {args : Array Value} {below : List Frame} {meth : Method} {c : Code} {Q : State → Prop} {D : va_G} {A : Nat → Prop} {sx : Nat → Option Nat} {cc : ByteArray} {nL K rt d n0 s0 : Nat} {ws0 : va_W} (hX : pCx p R s m args c sx A K nL d cc) {pc len : Nat} {e0 : pE} (hd : decode cc pc = .ok (.l2i, len)) (hp : ptr K rt pc (.l2i) len = some e0) {Y Y' : pY} {G G' : pG} {pc' : Nat} {loc loc' stk stk' : List pV} (hs : pstep Y G e0 pc loc stk = some (.inl (pc', loc', stk', Y', G'))) (kk : pKK p l e R s m args below meth c Q D A sx nL n0 s0 ws0 pc' loc' stk' Y' G') : pKK p l e R s m args below meth c Q D A sx nL n0 s0 ws0 pc loc stk Y G := by
  obtain ⟨hx, hb, hml, hown, hts, hnest, hao, hstr, hAA, hfr, hlo⟩ := hX
  intro H locs ws tys ls st cells slots hW hA hl hst hc1 hc2
  obtain ⟨hlen, hp⟩ := bif_s hp
  have hlen : len = 1 := Nat.eq_of_beq_eq_true hlen
  subst hlen
  cases hp
  obtain ⟨x, stk0, rfl, hs⟩ := k_l_s hs
  cases pnx_s hs
  obtain ⟨b1, st1, rfl, rfl, h1⟩ := sR_l hst
  exact lv_l2i hx hb hd rfl (kk H locs ws tys ls _ cells slots hW hA hl ⟨⟨_, rfl, w32_l2i _⟩, h1⟩ hc1 hc2)

theorem ss_i2b {p : Program} {l : Launch} {e : Env} {R : Room} {s : State} {m : MethodId} {args : Array Value} {below : List Frame} {meth : Method} {c : Code} {Q : State → Prop} {D : va_G} {A : Nat → Prop} {sx : Nat → Option Nat} {cc : ByteArray} {nL K rt d n0 s0 : Nat} {ws0 : va_W} (hX : pCx p R s m args c sx A K nL d cc) {pc len : Nat} {e0 : pE} (hd : decode cc pc = .ok (.i2b, len)) (hp : ptr K rt pc (.i2b) len = some e0) {Y Y' : pY} {G G' : pG} {pc' : Nat} {loc loc' stk stk' : List pV} (hs : pstep Y G e0 pc loc stk = some (.inl (pc', loc', stk', Y', G'))) (kk : pKK p l e R s m args below meth c Q D A sx nL n0 s0 ws0 pc' loc' stk' Y' G') : pKK p l e R s m args below meth c Q D A sx nL n0 s0 ws0 pc loc stk Y G := by
  obtain ⟨hx, hb, hml, hown, hts, hnest, hao, hstr, hAA, hfr, hlo⟩ := hX
  intro H locs ws tys ls st cells slots hW hA hl hst hc1 hc2
  obtain ⟨hlen, hp⟩ := bif_s hp
  have hlen : len = 1 := Nat.eq_of_beq_eq_true hlen
  subst hlen
  cases hp
  obtain ⟨x, stk0, rfl, hs⟩ := k_i_s hs
  cases pnx_s hs
  obtain ⟨b1, st1, rfl, rfl, h1⟩ := sR_i hst
  exact lv_i2b hx hb hd rfl (kk H locs ws tys ls _ cells slots hW hA hl ⟨⟨_, rfl, by simp [w8]⟩, h1⟩ hc1 hc2)

theorem ss_iconst {p : Program} {l : Launch} {e : Env} {R : Room} {s : State} {m : MethodId} {args : Array Value} {below : List Frame} {meth : Method} {c : Code} {Q : State → Prop} {D : va_G} {A : Nat → Prop} {sx : Nat → Option Nat} {cc : ByteArray} {nL K rt d n0 s0 : Nat} {ws0 : va_W} (hX : pCx p R s m args c sx A K nL d cc) {pc len : Nat} {e0 : pE} {n : Int} (hd : decode cc pc = .ok (.iconst n, len)) (hp : ptr K rt pc (.iconst n) len = some e0) {Y Y' : pY} {G G' : pG} {pc' : Nat} {loc loc' stk stk' : List pV} (hs : pstep Y G e0 pc loc stk = some (.inl (pc', loc', stk', Y', G'))) (kk : pKK p l e R s m args below meth c Q D A sx nL n0 s0 ws0 pc' loc' stk' Y' G') : pKK p l e R s m args below meth c Q D A sx nL n0 s0 ws0 pc loc stk Y G := by
  obtain ⟨hx, hb, hml, hown, hts, hnest, hao, hstr, hAA, hfr, hlo⟩ := hX
  intro H locs ws tys ls st cells slots hW hA hl hst hc1 hc2
  obtain ⟨hlen, hp⟩ := bif_s hp
  have hlen : len = 1 := Nat.eq_of_beq_eq_true hlen
  subst hlen
  obtain ⟨h0, hp⟩ := bif_s hp
  cases hp
  cases pnx_s hs
  exact lv_iconst hx hb hd rfl (kk H locs ws tys ls _ cells slots hW hA hl ⟨⟨_, rfl, eq_of_beq h0⟩, hst⟩ hc1 hc2)

theorem ss_bipush {p : Program} {l : Launch} {e : Env} {R : Room} {s : State} {m : MethodId} {args : Array Value} {below : List Frame} {meth : Method} {c : Code} {Q : State → Prop} {D : va_G} {A : Nat → Prop} {sx : Nat → Option Nat} {cc : ByteArray} {nL K rt d n0 s0 : Nat} {ws0 : va_W} (hX : pCx p R s m args c sx A K nL d cc) {pc len : Nat} {e0 : pE} {n : Int} (hd : decode cc pc = .ok (.bipush n, len)) (hp : ptr K rt pc (.bipush n) len = some e0) {Y Y' : pY} {G G' : pG} {pc' : Nat} {loc loc' stk stk' : List pV} (hs : pstep Y G e0 pc loc stk = some (.inl (pc', loc', stk', Y', G'))) (kk : pKK p l e R s m args below meth c Q D A sx nL n0 s0 ws0 pc' loc' stk' Y' G') : pKK p l e R s m args below meth c Q D A sx nL n0 s0 ws0 pc loc stk Y G := by
  obtain ⟨hx, hb, hml, hown, hts, hnest, hao, hstr, hAA, hfr, hlo⟩ := hX
  intro H locs ws tys ls st cells slots hW hA hl hst hc1 hc2
  obtain ⟨hlen, hp⟩ := bif_s hp
  have hlen : len = 2 := Nat.eq_of_beq_eq_true hlen
  subst hlen
  obtain ⟨h0, hp⟩ := bif_s hp
  cases hp
  cases pnx_s hs
  exact lv_bipush hx hb hd rfl (kk H locs ws tys ls _ cells slots hW hA hl ⟨⟨_, rfl, eq_of_beq h0⟩, hst⟩ hc1 hc2)

theorem ss_sipush {p : Program} {l : Launch} {e : Env} {R : Room} {s : State} {m : MethodId} {args : Array Value} {below : List Frame} {meth : Method} {c : Code} {Q : State → Prop} {D : va_G} {A : Nat → Prop} {sx : Nat → Option Nat} {cc : ByteArray} {nL K rt d n0 s0 : Nat} {ws0 : va_W} (hX : pCx p R s m args c sx A K nL d cc) {pc len : Nat} {e0 : pE} {n : Int} (hd : decode cc pc = .ok (.sipush n, len)) (hp : ptr K rt pc (.sipush n) len = some e0) {Y Y' : pY} {G G' : pG} {pc' : Nat} {loc loc' stk stk' : List pV} (hs : pstep Y G e0 pc loc stk = some (.inl (pc', loc', stk', Y', G'))) (kk : pKK p l e R s m args below meth c Q D A sx nL n0 s0 ws0 pc' loc' stk' Y' G') : pKK p l e R s m args below meth c Q D A sx nL n0 s0 ws0 pc loc stk Y G := by
  obtain ⟨hx, hb, hml, hown, hts, hnest, hao, hstr, hAA, hfr, hlo⟩ := hX
  intro H locs ws tys ls st cells slots hW hA hl hst hc1 hc2
  obtain ⟨hlen, hp⟩ := bif_s hp
  have hlen : len = 3 := Nat.eq_of_beq_eq_true hlen
  subst hlen
  obtain ⟨h0, hp⟩ := bif_s hp
  cases hp
  cases pnx_s hs
  exact lv_sipush hx hb hd rfl (kk H locs ws tys ls _ cells slots hW hA hl ⟨⟨_, rfl, eq_of_beq h0⟩, hst⟩ hc1 hc2)

theorem ss_lconst {p : Program} {l : Launch} {e : Env} {R : Room} {s : State} {m : MethodId} {args : Array Value} {below : List Frame} {meth : Method} {c : Code} {Q : State → Prop} {D : va_G} {A : Nat → Prop} {sx : Nat → Option Nat} {cc : ByteArray} {nL K rt d n0 s0 : Nat} {ws0 : va_W} (hX : pCx p R s m args c sx A K nL d cc) {pc len : Nat} {e0 : pE} {n : Fin 2} (hd : decode cc pc = .ok (.lconst n, len)) (hp : ptr K rt pc (.lconst n) len = some e0) {Y Y' : pY} {G G' : pG} {pc' : Nat} {loc loc' stk stk' : List pV} (hs : pstep Y G e0 pc loc stk = some (.inl (pc', loc', stk', Y', G'))) (kk : pKK p l e R s m args below meth c Q D A sx nL n0 s0 ws0 pc' loc' stk' Y' G') : pKK p l e R s m args below meth c Q D A sx nL n0 s0 ws0 pc loc stk Y G := by
  obtain ⟨hx, hb, hml, hown, hts, hnest, hao, hstr, hAA, hfr, hlo⟩ := hX
  intro H locs ws tys ls st cells slots hW hA hl hst hc1 hc2
  obtain ⟨hlen, hp⟩ := bif_s hp
  have hlen : len = 1 := Nat.eq_of_beq_eq_true hlen
  subst hlen
  cases hp
  cases pnx_s hs
  exact lv_lconst hx hb hd rfl (kk H locs ws tys ls _ cells slots hW hA hl ⟨⟨_, rfl, by
    have h2 := n.isLt
    have h3 : (n : Nat) = 0 ∨ (n : Nat) = 1 := by omega
    rcases h3 with h3 | h3 <;> rw [h3] <;> rfl⟩, hst⟩ hc1 hc2)

theorem ss_ldc2 {p : Program} {l : Launch} {e : Env} {R : Room} {s : State} {m : MethodId} {args : Array Value} {below : List Frame} {meth : Method} {c : Code} {Q : State → Prop} {D : va_G} {A : Nat → Prop} {sx : Nat → Option Nat} {cc : ByteArray} {nL K rt d n0 s0 : Nat} {ws0 : va_W} (hX : pCx p R s m args c sx A K nL d cc) {pc len : Nat} {e0 : pE} {i : Nat} (hd : decode cc pc = .ok (.ldc2_w i, len)) (hp : ptr K rt pc (.ldc2_w i) len = some e0) {Y Y' : pY} {G G' : pG} {pc' : Nat} {loc loc' stk stk' : List pV} (hs : pstep Y G e0 pc loc stk = some (.inl (pc', loc', stk', Y', G'))) (kk : pKK p l e R s m args below meth c Q D A sx nL n0 s0 ws0 pc' loc' stk' Y' G') : pKK p l e R s m args below meth c Q D A sx nL n0 s0 ws0 pc loc stk Y G := by
  obtain ⟨hx, hb, hml, hown, hts, hnest, hao, hstr, hAA, hfr, hlo⟩ := hX
  intro H locs ws tys ls st cells slots hW hA hl hst hc1 hc2
  obtain ⟨hlen, hp⟩ := bif_s hp
  have hlen : len = 3 := Nat.eq_of_beq_eq_true hlen
  subst hlen
  obtain ⟨v, hv, hp⟩ := k_op_s hp
  cases hp
  cases pnx_s hs
  exact lv_ldc2 hx hb hown (hts _ (lkL_in hv)) hd (kk H locs ws tys ls _ cells slots hW hA hl ⟨⟨_, rfl, lkL_bd _ (lkf_mem hv)⟩, hst⟩ hc1 hc2)

theorem ss_iload_n {p : Program} {l : Launch} {e : Env} {R : Room} {s : State} {m : MethodId} {args : Array Value} {below : List Frame} {meth : Method} {c : Code} {Q : State → Prop} {D : va_G} {A : Nat → Prop} {sx : Nat → Option Nat} {cc : ByteArray} {nL K rt d n0 s0 : Nat} {ws0 : va_W} (hX : pCx p R s m args c sx A K nL d cc) {pc len : Nat} {e0 : pE} {k : Fin 4} (hd : decode cc pc = .ok (.iload_n k, len)) (hp : ptr K rt pc (.iload_n k) len = some e0) {Y Y' : pY} {G G' : pG} {pc' : Nat} {loc loc' stk stk' : List pV} (hs : pstep Y G e0 pc loc stk = some (.inl (pc', loc', stk', Y', G'))) (kk : pKK p l e R s m args below meth c Q D A sx nL n0 s0 ws0 pc' loc' stk' Y' G') : pKK p l e R s m args below meth c Q D A sx nL n0 s0 ws0 pc loc stk Y G := by
  obtain ⟨hx, hb, hml, hown, hts, hnest, hao, hstr, hAA, hfr, hlo⟩ := hX
  intro H locs ws tys ls st cells slots hW hA hl hst hc1 hc2
  obtain ⟨hlen, hp⟩ := bif_s hp
  have hlen : len = 1 := Nat.eq_of_beq_eq_true hlen
  subst hlen
  cases hp
  obtain ⟨x, hk, hs⟩ := k_oi_s hs
  cases pnx_s hs
  obtain ⟨w, hw, hv⟩ := hl.at hk (fun q => by cases q)
  have hv0 := hv
  obtain ⟨y, rfl, hy⟩ := hv
  exact lv_iload_n hx hb hd rfl hw (kk H locs ws tys ls _ cells slots hW hA hl ⟨hv0, hst⟩ hc1 hc2)

theorem ss_iload {p : Program} {l : Launch} {e : Env} {R : Room} {s : State} {m : MethodId} {args : Array Value} {below : List Frame} {meth : Method} {c : Code} {Q : State → Prop} {D : va_G} {A : Nat → Prop} {sx : Nat → Option Nat} {cc : ByteArray} {nL K rt d n0 s0 : Nat} {ws0 : va_W} (hX : pCx p R s m args c sx A K nL d cc) {pc len : Nat} {e0 : pE} {k : Nat} (hd : decode cc pc = .ok (.iload k, len)) (hp : ptr K rt pc (.iload k) len = some e0) {Y Y' : pY} {G G' : pG} {pc' : Nat} {loc loc' stk stk' : List pV} (hs : pstep Y G e0 pc loc stk = some (.inl (pc', loc', stk', Y', G'))) (kk : pKK p l e R s m args below meth c Q D A sx nL n0 s0 ws0 pc' loc' stk' Y' G') : pKK p l e R s m args below meth c Q D A sx nL n0 s0 ws0 pc loc stk Y G := by
  obtain ⟨hx, hb, hml, hown, hts, hnest, hao, hstr, hAA, hfr, hlo⟩ := hX
  intro H locs ws tys ls st cells slots hW hA hl hst hc1 hc2
  obtain ⟨hlen, hp⟩ := bif_s hp
  have hlen : len = 2 := Nat.eq_of_beq_eq_true hlen
  subst hlen
  cases hp
  obtain ⟨x, hk, hs⟩ := k_oi_s hs
  cases pnx_s hs
  obtain ⟨w, hw, hv⟩ := hl.at hk (fun q => by cases q)
  have hv0 := hv
  obtain ⟨y, rfl, hy⟩ := hv
  exact lv_iload hx hb hd hw (kk H locs ws tys ls _ cells slots hW hA hl ⟨hv0, hst⟩ hc1 hc2)

theorem ss_lload_n {p : Program} {l : Launch} {e : Env} {R : Room} {s : State} {m : MethodId} {args : Array Value} {below : List Frame} {meth : Method} {c : Code} {Q : State → Prop} {D : va_G} {A : Nat → Prop} {sx : Nat → Option Nat} {cc : ByteArray} {nL K rt d n0 s0 : Nat} {ws0 : va_W} (hX : pCx p R s m args c sx A K nL d cc) {pc len : Nat} {e0 : pE} {k : Fin 4} (hd : decode cc pc = .ok (.lload_n k, len)) (hp : ptr K rt pc (.lload_n k) len = some e0) {Y Y' : pY} {G G' : pG} {pc' : Nat} {loc loc' stk stk' : List pV} (hs : pstep Y G e0 pc loc stk = some (.inl (pc', loc', stk', Y', G'))) (kk : pKK p l e R s m args below meth c Q D A sx nL n0 s0 ws0 pc' loc' stk' Y' G') : pKK p l e R s m args below meth c Q D A sx nL n0 s0 ws0 pc loc stk Y G := by
  obtain ⟨hx, hb, hml, hown, hts, hnest, hao, hstr, hAA, hfr, hlo⟩ := hX
  intro H locs ws tys ls st cells slots hW hA hl hst hc1 hc2
  obtain ⟨hlen, hp⟩ := bif_s hp
  have hlen : len = 1 := Nat.eq_of_beq_eq_true hlen
  subst hlen
  cases hp
  obtain ⟨x, hk, hs⟩ := k_ol_s hs
  cases pnx_s hs
  obtain ⟨w, hw, hv⟩ := hl.at hk (fun q => by cases q)
  have hv0 := hv
  obtain ⟨y, rfl, hy⟩ := hv
  exact lv_lload_n hx hb hd rfl hw (kk H locs ws tys ls _ cells slots hW hA hl ⟨hv0, hst⟩ hc1 hc2)

theorem ss_lload {p : Program} {l : Launch} {e : Env} {R : Room} {s : State} {m : MethodId} {args : Array Value} {below : List Frame} {meth : Method} {c : Code} {Q : State → Prop} {D : va_G} {A : Nat → Prop} {sx : Nat → Option Nat} {cc : ByteArray} {nL K rt d n0 s0 : Nat} {ws0 : va_W} (hX : pCx p R s m args c sx A K nL d cc) {pc len : Nat} {e0 : pE} {k : Nat} (hd : decode cc pc = .ok (.lload k, len)) (hp : ptr K rt pc (.lload k) len = some e0) {Y Y' : pY} {G G' : pG} {pc' : Nat} {loc loc' stk stk' : List pV} (hs : pstep Y G e0 pc loc stk = some (.inl (pc', loc', stk', Y', G'))) (kk : pKK p l e R s m args below meth c Q D A sx nL n0 s0 ws0 pc' loc' stk' Y' G') : pKK p l e R s m args below meth c Q D A sx nL n0 s0 ws0 pc loc stk Y G := by
  obtain ⟨hx, hb, hml, hown, hts, hnest, hao, hstr, hAA, hfr, hlo⟩ := hX
  intro H locs ws tys ls st cells slots hW hA hl hst hc1 hc2
  obtain ⟨hlen, hp⟩ := bif_s hp
  have hlen : len = 2 := Nat.eq_of_beq_eq_true hlen
  subst hlen
  cases hp
  obtain ⟨x, hk, hs⟩ := k_ol_s hs
  cases pnx_s hs
  obtain ⟨w, hw, hv⟩ := hl.at hk (fun q => by cases q)
  have hv0 := hv
  obtain ⟨y, rfl, hy⟩ := hv
  exact lv_lload hx hb hd hw (kk H locs ws tys ls _ cells slots hW hA hl ⟨hv0, hst⟩ hc1 hc2)

theorem ss_aload_n {p : Program} {l : Launch} {e : Env} {R : Room} {s : State} {m : MethodId} {args : Array Value} {below : List Frame} {meth : Method} {c : Code} {Q : State → Prop} {D : va_G} {A : Nat → Prop} {sx : Nat → Option Nat} {cc : ByteArray} {nL K rt d n0 s0 : Nat} {ws0 : va_W} (hX : pCx p R s m args c sx A K nL d cc) {pc len : Nat} {e0 : pE} {k : Fin 4} (hd : decode cc pc = .ok (.aload_n k, len)) (hp : ptr K rt pc (.aload_n k) len = some e0) {Y Y' : pY} {G G' : pG} {pc' : Nat} {loc loc' stk stk' : List pV} (hs : pstep Y G e0 pc loc stk = some (.inl (pc', loc', stk', Y', G'))) (kk : pKK p l e R s m args below meth c Q D A sx nL n0 s0 ws0 pc' loc' stk' Y' G') : pKK p l e R s m args below meth c Q D A sx nL n0 s0 ws0 pc loc stk Y G := by
  obtain ⟨hx, hb, hml, hown, hts, hnest, hao, hstr, hAA, hfr, hlo⟩ := hX
  intro H locs ws tys ls st cells slots hW hA hl hst hc1 hc2
  obtain ⟨hlen, hp⟩ := bif_s hp
  have hlen : len = 1 := Nat.eq_of_beq_eq_true hlen
  subst hlen
  cases hp
  obtain ⟨x, hk, hs⟩ := k_or_s hs
  cases pnx_s hs
  obtain ⟨w, hw, hv⟩ := hl.at hk (fun q => by cases q)
  have hv0 := hv
  obtain ⟨y, rfl, hy⟩ := hv
  exact lv_aload_n hx hb hd rfl hw (kk H locs ws tys ls _ cells slots hW hA hl ⟨hv0, hst⟩ hc1 hc2)

theorem ss_aload {p : Program} {l : Launch} {e : Env} {R : Room} {s : State} {m : MethodId} {args : Array Value} {below : List Frame} {meth : Method} {c : Code} {Q : State → Prop} {D : va_G} {A : Nat → Prop} {sx : Nat → Option Nat} {cc : ByteArray} {nL K rt d n0 s0 : Nat} {ws0 : va_W} (hX : pCx p R s m args c sx A K nL d cc) {pc len : Nat} {e0 : pE} {k : Nat} (hd : decode cc pc = .ok (.aload k, len)) (hp : ptr K rt pc (.aload k) len = some e0) {Y Y' : pY} {G G' : pG} {pc' : Nat} {loc loc' stk stk' : List pV} (hs : pstep Y G e0 pc loc stk = some (.inl (pc', loc', stk', Y', G'))) (kk : pKK p l e R s m args below meth c Q D A sx nL n0 s0 ws0 pc' loc' stk' Y' G') : pKK p l e R s m args below meth c Q D A sx nL n0 s0 ws0 pc loc stk Y G := by
  obtain ⟨hx, hb, hml, hown, hts, hnest, hao, hstr, hAA, hfr, hlo⟩ := hX
  intro H locs ws tys ls st cells slots hW hA hl hst hc1 hc2
  obtain ⟨hlen, hp⟩ := bif_s hp
  have hlen : len = 2 := Nat.eq_of_beq_eq_true hlen
  subst hlen
  cases hp
  obtain ⟨x, hk, hs⟩ := k_or_s hs
  cases pnx_s hs
  obtain ⟨w, hw, hv⟩ := hl.at hk (fun q => by cases q)
  have hv0 := hv
  obtain ⟨y, rfl, hy⟩ := hv
  exact lv_aload hx hb hd hw (kk H locs ws tys ls _ cells slots hW hA hl ⟨hv0, hst⟩ hc1 hc2)

theorem ss_istore_n {p : Program} {l : Launch} {e : Env} {R : Room} {s : State} {m : MethodId} {args : Array Value} {below : List Frame} {meth : Method} {c : Code} {Q : State → Prop} {D : va_G} {A : Nat → Prop} {sx : Nat → Option Nat} {cc : ByteArray} {nL K rt d n0 s0 : Nat} {ws0 : va_W} (hX : pCx p R s m args c sx A K nL d cc) {pc len : Nat} {e0 : pE} {k : Fin 4} (hd : decode cc pc = .ok (.istore_n k, len)) (hp : ptr K rt pc (.istore_n k) len = some e0) {Y Y' : pY} {G G' : pG} {pc' : Nat} {loc loc' stk stk' : List pV} (hs : pstep Y G e0 pc loc stk = some (.inl (pc', loc', stk', Y', G'))) (kk : pKK p l e R s m args below meth c Q D A sx nL n0 s0 ws0 pc' loc' stk' Y' G') : pKK p l e R s m args below meth c Q D A sx nL n0 s0 ws0 pc loc stk Y G := by
  obtain ⟨hx, hb, hml, hown, hts, hnest, hao, hstr, hAA, hfr, hlo⟩ := hX
  intro H locs ws tys ls st cells slots hW hA hl hst hc1 hc2
  obtain ⟨hlen, hp⟩ := bif_s hp
  have hlen : len = 1 := Nat.eq_of_beq_eq_true hlen
  subst hlen
  cases hp
  obtain ⟨x, stk0, rfl, hs⟩ := k_i_s hs
  obtain ⟨hbd, hs⟩ := bif_s hs
  have hbd : k.val < loc.length := by simpa [Nat.blt_eq] using hbd
  cases pnx_s hs
  obtain ⟨y, st1, rfl, hy, h1⟩ := sR_i hst
  intro T hT X
  obtain ⟨ls', e', -⟩ := lv_store1 (v := .int y) (l := []) ⟨hl.1, hl.2.1, fun _ h => by cases h⟩ (show k.val < nL by have := hl.2.2.1; omega) rfl
  obtain ⟨t, a, b⟩ := kk H locs ws tys ls' _ cells slots hW hA (hl.st1 hbd rfl e' ⟨y, rfl, hy⟩) h1 hc1 hc2 T hT X
  refine ⟨t, ?_, b⟩
  jvm_step X.here [X.here.top, ↓top_set X.here.top, hx, hb, hd, e']
  exact a

theorem ss_istore {p : Program} {l : Launch} {e : Env} {R : Room} {s : State} {m : MethodId} {args : Array Value} {below : List Frame} {meth : Method} {c : Code} {Q : State → Prop} {D : va_G} {A : Nat → Prop} {sx : Nat → Option Nat} {cc : ByteArray} {nL K rt d n0 s0 : Nat} {ws0 : va_W} (hX : pCx p R s m args c sx A K nL d cc) {pc len : Nat} {e0 : pE} {k : Nat} (hd : decode cc pc = .ok (.istore k, len)) (hp : ptr K rt pc (.istore k) len = some e0) {Y Y' : pY} {G G' : pG} {pc' : Nat} {loc loc' stk stk' : List pV} (hs : pstep Y G e0 pc loc stk = some (.inl (pc', loc', stk', Y', G'))) (kk : pKK p l e R s m args below meth c Q D A sx nL n0 s0 ws0 pc' loc' stk' Y' G') : pKK p l e R s m args below meth c Q D A sx nL n0 s0 ws0 pc loc stk Y G := by
  obtain ⟨hx, hb, hml, hown, hts, hnest, hao, hstr, hAA, hfr, hlo⟩ := hX
  intro H locs ws tys ls st cells slots hW hA hl hst hc1 hc2
  obtain ⟨hlen, hp⟩ := bif_s hp
  have hlen : len = 2 := Nat.eq_of_beq_eq_true hlen
  subst hlen
  cases hp
  obtain ⟨x, stk0, rfl, hs⟩ := k_i_s hs
  obtain ⟨hbd, hs⟩ := bif_s hs
  have hbd : k < loc.length := by simpa [Nat.blt_eq] using hbd
  cases pnx_s hs
  obtain ⟨y, st1, rfl, hy, h1⟩ := sR_i hst
  intro T hT X
  obtain ⟨ls', e', -⟩ := lv_store1 (v := .int y) (l := []) ⟨hl.1, hl.2.1, fun _ h => by cases h⟩ (show k < nL by have := hl.2.2.1; omega) rfl
  obtain ⟨t, a, b⟩ := kk H locs ws tys ls' _ cells slots hW hA (hl.st1 hbd rfl e' ⟨y, rfl, hy⟩) h1 hc1 hc2 T hT X
  refine ⟨t, ?_, b⟩
  jvm_step X.here [X.here.top, ↓top_set X.here.top, hx, hb, hd, e']
  exact a

theorem ss_astore_n {p : Program} {l : Launch} {e : Env} {R : Room} {s : State} {m : MethodId} {args : Array Value} {below : List Frame} {meth : Method} {c : Code} {Q : State → Prop} {D : va_G} {A : Nat → Prop} {sx : Nat → Option Nat} {cc : ByteArray} {nL K rt d n0 s0 : Nat} {ws0 : va_W} (hX : pCx p R s m args c sx A K nL d cc) {pc len : Nat} {e0 : pE} {k : Fin 4} (hd : decode cc pc = .ok (.astore_n k, len)) (hp : ptr K rt pc (.astore_n k) len = some e0) {Y Y' : pY} {G G' : pG} {pc' : Nat} {loc loc' stk stk' : List pV} (hs : pstep Y G e0 pc loc stk = some (.inl (pc', loc', stk', Y', G'))) (kk : pKK p l e R s m args below meth c Q D A sx nL n0 s0 ws0 pc' loc' stk' Y' G') : pKK p l e R s m args below meth c Q D A sx nL n0 s0 ws0 pc loc stk Y G := by
  obtain ⟨hx, hb, hml, hown, hts, hnest, hao, hstr, hAA, hfr, hlo⟩ := hX
  intro H locs ws tys ls st cells slots hW hA hl hst hc1 hc2
  obtain ⟨hlen, hp⟩ := bif_s hp
  have hlen : len = 1 := Nat.eq_of_beq_eq_true hlen
  subst hlen
  cases hp
  obtain ⟨x, stk0, rfl, hs⟩ := k_r_s hs
  obtain ⟨hbd, hs⟩ := bif_s hs
  have hbd : k.val < loc.length := by simpa [Nat.blt_eq] using hbd
  cases pnx_s hs
  obtain ⟨y, st1, rfl, hy, h1⟩ := sR_r hst
  intro T hT X
  obtain ⟨ls', e', -⟩ := lv_store1 (v := .ref y) (l := []) ⟨hl.1, hl.2.1, fun _ h => by cases h⟩ (show k.val < nL by have := hl.2.2.1; omega) rfl
  obtain ⟨t, a, b⟩ := kk H locs ws tys ls' _ cells slots hW hA (hl.st1 hbd rfl e' ⟨y, rfl, hy⟩) h1 hc1 hc2 T hT X
  refine ⟨t, ?_, b⟩
  jvm_step X.here [X.here.top, ↓top_set X.here.top, hx, hb, hd, e', Value.isRef]
  exact a

theorem ss_astore {p : Program} {l : Launch} {e : Env} {R : Room} {s : State} {m : MethodId} {args : Array Value} {below : List Frame} {meth : Method} {c : Code} {Q : State → Prop} {D : va_G} {A : Nat → Prop} {sx : Nat → Option Nat} {cc : ByteArray} {nL K rt d n0 s0 : Nat} {ws0 : va_W} (hX : pCx p R s m args c sx A K nL d cc) {pc len : Nat} {e0 : pE} {k : Nat} (hd : decode cc pc = .ok (.astore k, len)) (hp : ptr K rt pc (.astore k) len = some e0) {Y Y' : pY} {G G' : pG} {pc' : Nat} {loc loc' stk stk' : List pV} (hs : pstep Y G e0 pc loc stk = some (.inl (pc', loc', stk', Y', G'))) (kk : pKK p l e R s m args below meth c Q D A sx nL n0 s0 ws0 pc' loc' stk' Y' G') : pKK p l e R s m args below meth c Q D A sx nL n0 s0 ws0 pc loc stk Y G := by
  obtain ⟨hx, hb, hml, hown, hts, hnest, hao, hstr, hAA, hfr, hlo⟩ := hX
  intro H locs ws tys ls st cells slots hW hA hl hst hc1 hc2
  obtain ⟨hlen, hp⟩ := bif_s hp
  have hlen : len = 2 := Nat.eq_of_beq_eq_true hlen
  subst hlen
  cases hp
  obtain ⟨x, stk0, rfl, hs⟩ := k_r_s hs
  obtain ⟨hbd, hs⟩ := bif_s hs
  have hbd : k < loc.length := by simpa [Nat.blt_eq] using hbd
  cases pnx_s hs
  obtain ⟨y, st1, rfl, hy, h1⟩ := sR_r hst
  intro T hT X
  obtain ⟨ls', e', -⟩ := lv_store1 (v := .ref y) (l := []) ⟨hl.1, hl.2.1, fun _ h => by cases h⟩ (show k < nL by have := hl.2.2.1; omega) rfl
  obtain ⟨t, a, b⟩ := kk H locs ws tys ls' _ cells slots hW hA (hl.st1 hbd rfl e' ⟨y, rfl, hy⟩) h1 hc1 hc2 T hT X
  refine ⟨t, ?_, b⟩
  jvm_step X.here [X.here.top, ↓top_set X.here.top, hx, hb, hd, e', Value.isRef]
  exact a

theorem ss_lstore_n {p : Program} {l : Launch} {e : Env} {R : Room} {s : State} {m : MethodId} {args : Array Value} {below : List Frame} {meth : Method} {c : Code} {Q : State → Prop} {D : va_G} {A : Nat → Prop} {sx : Nat → Option Nat} {cc : ByteArray} {nL K rt d n0 s0 : Nat} {ws0 : va_W} (hX : pCx p R s m args c sx A K nL d cc) {pc len : Nat} {e0 : pE} {k : Fin 4} (hd : decode cc pc = .ok (.lstore_n k, len)) (hp : ptr K rt pc (.lstore_n k) len = some e0) {Y Y' : pY} {G G' : pG} {pc' : Nat} {loc loc' stk stk' : List pV} (hs : pstep Y G e0 pc loc stk = some (.inl (pc', loc', stk', Y', G'))) (kk : pKK p l e R s m args below meth c Q D A sx nL n0 s0 ws0 pc' loc' stk' Y' G') : pKK p l e R s m args below meth c Q D A sx nL n0 s0 ws0 pc loc stk Y G := by
  obtain ⟨hx, hb, hml, hown, hts, hnest, hao, hstr, hAA, hfr, hlo⟩ := hX
  intro H locs ws tys ls st cells slots hW hA hl hst hc1 hc2
  obtain ⟨hlen, hp⟩ := bif_s hp
  have hlen : len = 1 := Nat.eq_of_beq_eq_true hlen
  subst hlen
  cases hp
  obtain ⟨x, stk0, rfl, hs⟩ := k_l_s hs
  obtain ⟨hbd, hs⟩ := bif_s hs
  have hbd : k.val + 1 < loc.length := by simpa [Nat.blt_eq] using hbd
  cases pnx_s hs
  obtain ⟨y, st1, rfl, hy, h1⟩ := sR_l hst
  intro T hT X
  obtain ⟨ls', e', -⟩ := lv_store2 (v := .long y) (l := []) ⟨hl.1, hl.2.1, fun _ h => by cases h⟩ (show k.val + 1 < nL by have := hl.2.2.1; omega) rfl
  obtain ⟨t, a, b⟩ := kk H locs ws tys ls' _ cells slots hW hA (hl.st2 hbd rfl e' ⟨y, rfl, hy⟩) h1 hc1 hc2 T hT X
  refine ⟨t, ?_, b⟩
  jvm_step X.here [X.here.top, ↓top_set X.here.top, hx, hb, hd, e']
  exact a

theorem ss_lstore {p : Program} {l : Launch} {e : Env} {R : Room} {s : State} {m : MethodId} {args : Array Value} {below : List Frame} {meth : Method} {c : Code} {Q : State → Prop} {D : va_G} {A : Nat → Prop} {sx : Nat → Option Nat} {cc : ByteArray} {nL K rt d n0 s0 : Nat} {ws0 : va_W} (hX : pCx p R s m args c sx A K nL d cc) {pc len : Nat} {e0 : pE} {k : Nat} (hd : decode cc pc = .ok (.lstore k, len)) (hp : ptr K rt pc (.lstore k) len = some e0) {Y Y' : pY} {G G' : pG} {pc' : Nat} {loc loc' stk stk' : List pV} (hs : pstep Y G e0 pc loc stk = some (.inl (pc', loc', stk', Y', G'))) (kk : pKK p l e R s m args below meth c Q D A sx nL n0 s0 ws0 pc' loc' stk' Y' G') : pKK p l e R s m args below meth c Q D A sx nL n0 s0 ws0 pc loc stk Y G := by
  obtain ⟨hx, hb, hml, hown, hts, hnest, hao, hstr, hAA, hfr, hlo⟩ := hX
  intro H locs ws tys ls st cells slots hW hA hl hst hc1 hc2
  obtain ⟨hlen, hp⟩ := bif_s hp
  have hlen : len = 2 := Nat.eq_of_beq_eq_true hlen
  subst hlen
  cases hp
  obtain ⟨x, stk0, rfl, hs⟩ := k_l_s hs
  obtain ⟨hbd, hs⟩ := bif_s hs
  have hbd : k + 1 < loc.length := by simpa [Nat.blt_eq] using hbd
  cases pnx_s hs
  obtain ⟨y, st1, rfl, hy, h1⟩ := sR_l hst
  intro T hT X
  obtain ⟨ls', e', -⟩ := lv_store2 (v := .long y) (l := []) ⟨hl.1, hl.2.1, fun _ h => by cases h⟩ (show k + 1 < nL by have := hl.2.2.1; omega) rfl
  obtain ⟨t, a, b⟩ := kk H locs ws tys ls' _ cells slots hW hA (hl.st2 hbd rfl e' ⟨y, rfl, hy⟩) h1 hc1 hc2 T hT X
  refine ⟨t, ?_, b⟩
  jvm_step X.here [X.here.top, ↓top_set X.here.top, hx, hb, hd, e']
  exact a

theorem ss_iinc {p : Program} {l : Launch} {e : Env} {R : Room} {s : State} {m : MethodId} {args : Array Value} {below : List Frame} {meth : Method} {c : Code} {Q : State → Prop} {D : va_G} {A : Nat → Prop} {sx : Nat → Option Nat} {cc : ByteArray} {nL K rt d n0 s0 : Nat} {ws0 : va_W} (hX : pCx p R s m args c sx A K nL d cc) {pc len : Nat} {e0 : pE} {k : Nat} {z : Int} (hd : decode cc pc = .ok (.iinc k z, len)) (hp : ptr K rt pc (.iinc k z) len = some e0) {Y Y' : pY} {G G' : pG} {pc' : Nat} {loc loc' stk stk' : List pV} (hs : pstep Y G e0 pc loc stk = some (.inl (pc', loc', stk', Y', G'))) (kk : pKK p l e R s m args below meth c Q D A sx nL n0 s0 ws0 pc' loc' stk' Y' G') : pKK p l e R s m args below meth c Q D A sx nL n0 s0 ws0 pc loc stk Y G := by
  obtain ⟨hx, hb, hml, hown, hts, hnest, hao, hstr, hAA, hfr, hlo⟩ := hX
  intro H locs ws tys ls st cells slots hW hA hl hst hc1 hc2
  obtain ⟨hlen, hp⟩ := bif_s hp
  have hlen : len = 3 := Nat.eq_of_beq_eq_true hlen
  subst hlen
  cases hp
  obtain ⟨x, hk, hs⟩ := k_oi_s hs
  cases pnx_s hs
  obtain ⟨w, hw, y, rfl, rfl⟩ := hl.at hk (fun q => by cases q)
  have hbd := pn_lt hk
  intro T hT X
  obtain ⟨ls', e', -⟩ := lv_store1 (v := .int (y + Int32.ofInt z)) (l := []) ⟨hl.1, hl.2.1, fun _ h => by cases h⟩ (show k < nL by have := hl.2.2.1; omega) rfl
  obtain ⟨t, a, b⟩ := kk H locs ws tys ls' _ cells slots hW hA (hl.st1 hbd rfl e' ⟨_, rfl, (w32_of _ _).symm⟩) hst hc1 hc2 T hT X
  refine ⟨t, ?_, b⟩
  jvm_step X.here [X.here.top, ↓top_set X.here.top, hx, hb, hd, hw, e']
  exact a

theorem ss_dup {p : Program} {l : Launch} {e : Env} {R : Room} {s : State} {m : MethodId} {args : Array Value} {below : List Frame} {meth : Method} {c : Code} {Q : State → Prop} {D : va_G} {A : Nat → Prop} {sx : Nat → Option Nat} {cc : ByteArray} {nL K rt d n0 s0 : Nat} {ws0 : va_W} (hX : pCx p R s m args c sx A K nL d cc) {pc len : Nat} {e0 : pE} (hd : decode cc pc = .ok (.dup, len)) (hp : ptr K rt pc (.dup) len = some e0) {Y Y' : pY} {G G' : pG} {pc' : Nat} {loc loc' stk stk' : List pV} (hs : pstep Y G e0 pc loc stk = some (.inl (pc', loc', stk', Y', G'))) (kk : pKK p l e R s m args below meth c Q D A sx nL n0 s0 ws0 pc' loc' stk' Y' G') : pKK p l e R s m args below meth c Q D A sx nL n0 s0 ws0 pc loc stk Y G := by
  obtain ⟨hx, hb, hml, hown, hts, hnest, hao, hstr, hAA, hfr, hlo⟩ := hX
  intro H locs ws tys ls st cells slots hW hA hl hst hc1 hc2
  obtain ⟨hlen, hp⟩ := bif_s hp
  have hlen : len = 1 := Nat.eq_of_beq_eq_true hlen
  subst hlen
  cases hp
  obtain ⟨v, stk0, rfl, hv, hs⟩ := k_d_s hs
  cases pnx_s hs
  obtain ⟨w, st1, rfl, h1, h2⟩ := sR_c hst
  exact lv_dup hx hb hd (h1.cat1 hv) (kk H locs ws tys ls _ cells slots hW hA hl ⟨h1, h1, h2⟩ hc1 hc2)

theorem ss_dup2 {p : Program} {l : Launch} {e : Env} {R : Room} {s : State} {m : MethodId} {args : Array Value} {below : List Frame} {meth : Method} {c : Code} {Q : State → Prop} {D : va_G} {A : Nat → Prop} {sx : Nat → Option Nat} {cc : ByteArray} {nL K rt d n0 s0 : Nat} {ws0 : va_W} (hX : pCx p R s m args c sx A K nL d cc) {pc len : Nat} {e0 : pE} (hd : decode cc pc = .ok (.dup2, len)) (hp : ptr K rt pc (.dup2) len = some e0) {Y Y' : pY} {G G' : pG} {pc' : Nat} {loc loc' stk stk' : List pV} (hs : pstep Y G e0 pc loc stk = some (.inl (pc', loc', stk', Y', G'))) (kk : pKK p l e R s m args below meth c Q D A sx nL n0 s0 ws0 pc' loc' stk' Y' G') : pKK p l e R s m args below meth c Q D A sx nL n0 s0 ws0 pc loc stk Y G := by
  obtain ⟨hx, hb, hml, hown, hts, hnest, hao, hstr, hAA, hfr, hlo⟩ := hX
  intro H locs ws tys ls st cells slots hW hA hl hst hc1 hc2
  obtain ⟨hlen, hp⟩ := bif_s hp
  have hlen : len = 1 := Nat.eq_of_beq_eq_true hlen
  subst hlen
  cases hp
  obtain ⟨v, v2, stk0, rfl, hv, hv2, hs⟩ := k_d2_s hs
  cases pnx_s hs
  obtain ⟨w, st1, rfl, h1, h2⟩ := sR_c hst
  obtain ⟨w2, st2, rfl, h3, h4⟩ := sR_c h2
  exact lv_dup2_11 hx hb hd (h1.cat1 hv) (h3.cat1 hv2) (kk H locs ws tys ls _ cells slots hW hA hl ⟨h1, h3, h1, h3, h4⟩ hc1 hc2)

theorem ss_goto {p : Program} {l : Launch} {e : Env} {R : Room} {s : State} {m : MethodId} {args : Array Value} {below : List Frame} {meth : Method} {c : Code} {Q : State → Prop} {D : va_G} {A : Nat → Prop} {sx : Nat → Option Nat} {cc : ByteArray} {nL K rt d n0 s0 : Nat} {ws0 : va_W} (hX : pCx p R s m args c sx A K nL d cc) {pc len : Nat} {e0 : pE} {off : Int} (hd : decode cc pc = .ok (.goto off, len)) (hp : ptr K rt pc (.goto off) len = some e0) {Y Y' : pY} {G G' : pG} {pc' : Nat} {loc loc' stk stk' : List pV} (hs : pstep Y G e0 pc loc stk = some (.inl (pc', loc', stk', Y', G'))) (kk : pKK p l e R s m args below meth c Q D A sx nL n0 s0 ws0 pc' loc' stk' Y' G') : pKK p l e R s m args below meth c Q D A sx nL n0 s0 ws0 pc loc stk Y G := by
  obtain ⟨hx, hb, hml, hown, hts, hnest, hao, hstr, hAA, hfr, hlo⟩ := hX
  intro H locs ws tys ls st cells slots hW hA hl hst hc1 hc2
  obtain ⟨hlen, hp⟩ := bif_s hp
  have hlen : len = 3 := Nat.eq_of_beq_eq_true hlen
  subst hlen
  have hp : ptgt pc off (fun t => some (.goto 0, 3, t, 0, 0)) = some e0 := hp
  obtain ⟨t, ht, hp⟩ := ptgt_s hp
  cases hp
  cases pnx_s hs
  exact lv_goto hx hb hd ht (kk H locs ws tys ls _ cells slots hW hA hl hst hc1 hc2)

theorem ss_if_eq {p : Program} {l : Launch} {e : Env} {R : Room} {s : State} {m : MethodId} {args : Array Value} {below : List Frame} {meth : Method} {c : Code} {Q : State → Prop} {D : va_G} {A : Nat → Prop} {sx : Nat → Option Nat} {cc : ByteArray} {nL K rt d n0 s0 : Nat} {ws0 : va_W} (hX : pCx p R s m args c sx A K nL d cc) {pc len : Nat} {e0 : pE} {off : Int} (hd : decode cc pc = .ok (.ifCond .eq off, len)) (hp : ptr K rt pc (.ifCond .eq off) len = some e0) {Y Y' : pY} {G G' : pG} {pc' : Nat} {loc loc' stk stk' : List pV} (hs : pstep Y G e0 pc loc stk = some (.inl (pc', loc', stk', Y', G'))) (kk : pKK p l e R s m args below meth c Q D A sx nL n0 s0 ws0 pc' loc' stk' Y' G') : pKK p l e R s m args below meth c Q D A sx nL n0 s0 ws0 pc loc stk Y G := by
  obtain ⟨hx, hb, hml, hown, hts, hnest, hao, hstr, hAA, hfr, hlo⟩ := hX
  intro H locs ws tys ls st cells slots hW hA hl hst hc1 hc2
  obtain ⟨hlen, hp⟩ := bif_s hp
  have hlen : len = 3 := Nat.eq_of_beq_eq_true hlen
  subst hlen
  have hp : ptgt pc off (fun t => some (.ifCond .eq 0, 3, t, 0, 0)) = some e0 := hp
  obtain ⟨t, ht, hp⟩ := ptgt_s hp
  cases hp
  obtain ⟨x, stk0, rfl, hs2⟩ := k_i_s hs
  obtain ⟨a1, st1, rfl, rfl, h1⟩ := sR_i hst
  have hiff : a1 = (0 : Int32) ↔ a1.toInt = (0 : Int) := (Int32.toInt_inj (x := a1) (y := (0 : Int32))).symm
  by_cases hc : a1.toInt = (0 : Int)
  · have hb0 : pcc .eq a1.toInt (0 : Int) = true := by simp [pcc, hc]
    have hs3 := hs2
    rw [hb0] at hs3
    cases pnx_s hs3
    exact lv_if_eq hx hb hd ht (fun h => kk H locs ws tys ls _ cells slots hW hA hl h1 hc1 hc2) (fun h => absurd (hiff.mpr hc) (by simpa using h))
  · have hb0 : pcc .eq a1.toInt (0 : Int) = false := by simp [pcc, hc]
    have hs3 := hs2
    rw [hb0] at hs3
    cases pnx_s hs3
    exact lv_if_eq hx hb hd ht (fun h => absurd (hiff.mp (by simpa using h)) hc) (fun h => kk H locs ws tys ls _ cells slots hW hA hl h1 hc1 hc2)

theorem ss_icmp_eq {p : Program} {l : Launch} {e : Env} {R : Room} {s : State} {m : MethodId} {args : Array Value} {below : List Frame} {meth : Method} {c : Code} {Q : State → Prop} {D : va_G} {A : Nat → Prop} {sx : Nat → Option Nat} {cc : ByteArray} {nL K rt d n0 s0 : Nat} {ws0 : va_W} (hX : pCx p R s m args c sx A K nL d cc) {pc len : Nat} {e0 : pE} {off : Int} (hd : decode cc pc = .ok (.if_icmp .eq off, len)) (hp : ptr K rt pc (.if_icmp .eq off) len = some e0) {Y Y' : pY} {G G' : pG} {pc' : Nat} {loc loc' stk stk' : List pV} (hs : pstep Y G e0 pc loc stk = some (.inl (pc', loc', stk', Y', G'))) (kk : pKK p l e R s m args below meth c Q D A sx nL n0 s0 ws0 pc' loc' stk' Y' G') : pKK p l e R s m args below meth c Q D A sx nL n0 s0 ws0 pc loc stk Y G := by
  obtain ⟨hx, hb, hml, hown, hts, hnest, hao, hstr, hAA, hfr, hlo⟩ := hX
  intro H locs ws tys ls st cells slots hW hA hl hst hc1 hc2
  obtain ⟨hlen, hp⟩ := bif_s hp
  have hlen : len = 3 := Nat.eq_of_beq_eq_true hlen
  subst hlen
  have hp : ptgt pc off (fun t => some (.if_icmp .eq 0, 3, t, 0, 0)) = some e0 := hp
  obtain ⟨t, ht, hp⟩ := ptgt_s hp
  cases hp
  obtain ⟨x, y, stk0, rfl, hs2⟩ := k_ii_s hs
  obtain ⟨b1, st0, rfl, rfl, h0⟩ := sR_i hst
  obtain ⟨a1, st1, rfl, rfl, h1⟩ := sR_i h0
  have hiff : a1 = b1 ↔ a1.toInt = b1.toInt := (Int32.toInt_inj (x := a1) (y := b1)).symm
  by_cases hc : a1.toInt = b1.toInt
  · have hb0 : pcc .eq a1.toInt b1.toInt = true := by simp [pcc, hc]
    have hs3 := hs2
    rw [hb0] at hs3
    cases pnx_s hs3
    exact lv_icmp_eq hx hb hd ht (fun h => kk H locs ws tys ls _ cells slots hW hA hl h1 hc1 hc2) (fun h => absurd (hiff.mpr hc) (by simpa using h))
  · have hb0 : pcc .eq a1.toInt b1.toInt = false := by simp [pcc, hc]
    have hs3 := hs2
    rw [hb0] at hs3
    cases pnx_s hs3
    exact lv_icmp_eq hx hb hd ht (fun h => absurd (hiff.mp (by simpa using h)) hc) (fun h => kk H locs ws tys ls _ cells slots hW hA hl h1 hc1 hc2)

theorem ss_if_ne {p : Program} {l : Launch} {e : Env} {R : Room} {s : State} {m : MethodId} {args : Array Value} {below : List Frame} {meth : Method} {c : Code} {Q : State → Prop} {D : va_G} {A : Nat → Prop} {sx : Nat → Option Nat} {cc : ByteArray} {nL K rt d n0 s0 : Nat} {ws0 : va_W} (hX : pCx p R s m args c sx A K nL d cc) {pc len : Nat} {e0 : pE} {off : Int} (hd : decode cc pc = .ok (.ifCond .ne off, len)) (hp : ptr K rt pc (.ifCond .ne off) len = some e0) {Y Y' : pY} {G G' : pG} {pc' : Nat} {loc loc' stk stk' : List pV} (hs : pstep Y G e0 pc loc stk = some (.inl (pc', loc', stk', Y', G'))) (kk : pKK p l e R s m args below meth c Q D A sx nL n0 s0 ws0 pc' loc' stk' Y' G') : pKK p l e R s m args below meth c Q D A sx nL n0 s0 ws0 pc loc stk Y G := by
  obtain ⟨hx, hb, hml, hown, hts, hnest, hao, hstr, hAA, hfr, hlo⟩ := hX
  intro H locs ws tys ls st cells slots hW hA hl hst hc1 hc2
  obtain ⟨hlen, hp⟩ := bif_s hp
  have hlen : len = 3 := Nat.eq_of_beq_eq_true hlen
  subst hlen
  have hp : ptgt pc off (fun t => some (.ifCond .ne 0, 3, t, 0, 0)) = some e0 := hp
  obtain ⟨t, ht, hp⟩ := ptgt_s hp
  cases hp
  obtain ⟨x, stk0, rfl, hs2⟩ := k_i_s hs
  obtain ⟨a1, st1, rfl, rfl, h1⟩ := sR_i hst
  have hiff : a1 = (0 : Int32) ↔ a1.toInt = (0 : Int) := (Int32.toInt_inj (x := a1) (y := (0 : Int32))).symm
  by_cases hc : a1.toInt = (0 : Int)
  · have hb0 : pcc .ne a1.toInt (0 : Int) = false := by simp [pcc, hc]
    have hs3 := hs2
    rw [hb0] at hs3
    cases pnx_s hs3
    exact lv_if_ne hx hb hd ht (fun h => absurd (hiff.mpr hc) h) (fun h => kk H locs ws tys ls _ cells slots hW hA hl h1 hc1 hc2)
  · have hb0 : pcc .ne a1.toInt (0 : Int) = true := by simp [pcc, hc]
    have hs3 := hs2
    rw [hb0] at hs3
    cases pnx_s hs3
    exact lv_if_ne hx hb hd ht (fun h => kk H locs ws tys ls _ cells slots hW hA hl h1 hc1 hc2) (fun h => absurd (hiff.mp (by simpa using h)) hc)

theorem ss_icmp_ne {p : Program} {l : Launch} {e : Env} {R : Room} {s : State} {m : MethodId} {args : Array Value} {below : List Frame} {meth : Method} {c : Code} {Q : State → Prop} {D : va_G} {A : Nat → Prop} {sx : Nat → Option Nat} {cc : ByteArray} {nL K rt d n0 s0 : Nat} {ws0 : va_W} (hX : pCx p R s m args c sx A K nL d cc) {pc len : Nat} {e0 : pE} {off : Int} (hd : decode cc pc = .ok (.if_icmp .ne off, len)) (hp : ptr K rt pc (.if_icmp .ne off) len = some e0) {Y Y' : pY} {G G' : pG} {pc' : Nat} {loc loc' stk stk' : List pV} (hs : pstep Y G e0 pc loc stk = some (.inl (pc', loc', stk', Y', G'))) (kk : pKK p l e R s m args below meth c Q D A sx nL n0 s0 ws0 pc' loc' stk' Y' G') : pKK p l e R s m args below meth c Q D A sx nL n0 s0 ws0 pc loc stk Y G := by
  obtain ⟨hx, hb, hml, hown, hts, hnest, hao, hstr, hAA, hfr, hlo⟩ := hX
  intro H locs ws tys ls st cells slots hW hA hl hst hc1 hc2
  obtain ⟨hlen, hp⟩ := bif_s hp
  have hlen : len = 3 := Nat.eq_of_beq_eq_true hlen
  subst hlen
  have hp : ptgt pc off (fun t => some (.if_icmp .ne 0, 3, t, 0, 0)) = some e0 := hp
  obtain ⟨t, ht, hp⟩ := ptgt_s hp
  cases hp
  obtain ⟨x, y, stk0, rfl, hs2⟩ := k_ii_s hs
  obtain ⟨b1, st0, rfl, rfl, h0⟩ := sR_i hst
  obtain ⟨a1, st1, rfl, rfl, h1⟩ := sR_i h0
  have hiff : a1 = b1 ↔ a1.toInt = b1.toInt := (Int32.toInt_inj (x := a1) (y := b1)).symm
  by_cases hc : a1.toInt = b1.toInt
  · have hb0 : pcc .ne a1.toInt b1.toInt = false := by simp [pcc, hc]
    have hs3 := hs2
    rw [hb0] at hs3
    cases pnx_s hs3
    exact lv_icmp_ne hx hb hd ht (fun h => absurd (hiff.mpr hc) h) (fun h => kk H locs ws tys ls _ cells slots hW hA hl h1 hc1 hc2)
  · have hb0 : pcc .ne a1.toInt b1.toInt = true := by simp [pcc, hc]
    have hs3 := hs2
    rw [hb0] at hs3
    cases pnx_s hs3
    exact lv_icmp_ne hx hb hd ht (fun h => kk H locs ws tys ls _ cells slots hW hA hl h1 hc1 hc2) (fun h => absurd (hiff.mp (by simpa using h)) hc)

theorem ss_if_lt {p : Program} {l : Launch} {e : Env} {R : Room} {s : State} {m : MethodId} {args : Array Value} {below : List Frame} {meth : Method} {c : Code} {Q : State → Prop} {D : va_G} {A : Nat → Prop} {sx : Nat → Option Nat} {cc : ByteArray} {nL K rt d n0 s0 : Nat} {ws0 : va_W} (hX : pCx p R s m args c sx A K nL d cc) {pc len : Nat} {e0 : pE} {off : Int} (hd : decode cc pc = .ok (.ifCond .lt off, len)) (hp : ptr K rt pc (.ifCond .lt off) len = some e0) {Y Y' : pY} {G G' : pG} {pc' : Nat} {loc loc' stk stk' : List pV} (hs : pstep Y G e0 pc loc stk = some (.inl (pc', loc', stk', Y', G'))) (kk : pKK p l e R s m args below meth c Q D A sx nL n0 s0 ws0 pc' loc' stk' Y' G') : pKK p l e R s m args below meth c Q D A sx nL n0 s0 ws0 pc loc stk Y G := by
  obtain ⟨hx, hb, hml, hown, hts, hnest, hao, hstr, hAA, hfr, hlo⟩ := hX
  intro H locs ws tys ls st cells slots hW hA hl hst hc1 hc2
  obtain ⟨hlen, hp⟩ := bif_s hp
  have hlen : len = 3 := Nat.eq_of_beq_eq_true hlen
  subst hlen
  have hp : ptgt pc off (fun t => some (.ifCond .lt 0, 3, t, 0, 0)) = some e0 := hp
  obtain ⟨t, ht, hp⟩ := ptgt_s hp
  cases hp
  obtain ⟨x, stk0, rfl, hs2⟩ := k_i_s hs
  obtain ⟨a1, st1, rfl, rfl, h1⟩ := sR_i hst
  have hiff : a1 < (0 : Int32) ↔ a1.toInt < (0 : Int) := Int32.lt_iff_toInt_lt
  by_cases hc : a1.toInt < (0 : Int)
  · have hb0 : pcc .lt a1.toInt (0 : Int) = true := by simp [pcc, hc]
    have hs3 := hs2
    rw [hb0] at hs3
    cases pnx_s hs3
    exact lv_if_lt hx hb hd ht (fun h => kk H locs ws tys ls _ cells slots hW hA hl h1 hc1 hc2) (fun h => absurd (hiff.mpr hc) (by simpa using h))
  · have hb0 : pcc .lt a1.toInt (0 : Int) = false := by simp [pcc, hc]
    have hs3 := hs2
    rw [hb0] at hs3
    cases pnx_s hs3
    exact lv_if_lt hx hb hd ht (fun h => absurd (hiff.mp (by simpa using h)) hc) (fun h => kk H locs ws tys ls _ cells slots hW hA hl h1 hc1 hc2)

theorem ss_icmp_lt {p : Program} {l : Launch} {e : Env} {R : Room} {s : State} {m : MethodId} {args : Array Value} {below : List Frame} {meth : Method} {c : Code} {Q : State → Prop} {D : va_G} {A : Nat → Prop} {sx : Nat → Option Nat} {cc : ByteArray} {nL K rt d n0 s0 : Nat} {ws0 : va_W} (hX : pCx p R s m args c sx A K nL d cc) {pc len : Nat} {e0 : pE} {off : Int} (hd : decode cc pc = .ok (.if_icmp .lt off, len)) (hp : ptr K rt pc (.if_icmp .lt off) len = some e0) {Y Y' : pY} {G G' : pG} {pc' : Nat} {loc loc' stk stk' : List pV} (hs : pstep Y G e0 pc loc stk = some (.inl (pc', loc', stk', Y', G'))) (kk : pKK p l e R s m args below meth c Q D A sx nL n0 s0 ws0 pc' loc' stk' Y' G') : pKK p l e R s m args below meth c Q D A sx nL n0 s0 ws0 pc loc stk Y G := by
  obtain ⟨hx, hb, hml, hown, hts, hnest, hao, hstr, hAA, hfr, hlo⟩ := hX
  intro H locs ws tys ls st cells slots hW hA hl hst hc1 hc2
  obtain ⟨hlen, hp⟩ := bif_s hp
  have hlen : len = 3 := Nat.eq_of_beq_eq_true hlen
  subst hlen
  have hp : ptgt pc off (fun t => some (.if_icmp .lt 0, 3, t, 0, 0)) = some e0 := hp
  obtain ⟨t, ht, hp⟩ := ptgt_s hp
  cases hp
  obtain ⟨x, y, stk0, rfl, hs2⟩ := k_ii_s hs
  obtain ⟨b1, st0, rfl, rfl, h0⟩ := sR_i hst
  obtain ⟨a1, st1, rfl, rfl, h1⟩ := sR_i h0
  have hiff : a1 < b1 ↔ a1.toInt < b1.toInt := Int32.lt_iff_toInt_lt
  by_cases hc : a1.toInt < b1.toInt
  · have hb0 : pcc .lt a1.toInt b1.toInt = true := by simp [pcc, hc]
    have hs3 := hs2
    rw [hb0] at hs3
    cases pnx_s hs3
    exact lv_icmp_lt hx hb hd ht (fun h => kk H locs ws tys ls _ cells slots hW hA hl h1 hc1 hc2) (fun h => absurd (hiff.mpr hc) (by simpa using h))
  · have hb0 : pcc .lt a1.toInt b1.toInt = false := by simp [pcc, hc]
    have hs3 := hs2
    rw [hb0] at hs3
    cases pnx_s hs3
    exact lv_icmp_lt hx hb hd ht (fun h => absurd (hiff.mp (by simpa using h)) hc) (fun h => kk H locs ws tys ls _ cells slots hW hA hl h1 hc1 hc2)

theorem ss_if_ge {p : Program} {l : Launch} {e : Env} {R : Room} {s : State} {m : MethodId} {args : Array Value} {below : List Frame} {meth : Method} {c : Code} {Q : State → Prop} {D : va_G} {A : Nat → Prop} {sx : Nat → Option Nat} {cc : ByteArray} {nL K rt d n0 s0 : Nat} {ws0 : va_W} (hX : pCx p R s m args c sx A K nL d cc) {pc len : Nat} {e0 : pE} {off : Int} (hd : decode cc pc = .ok (.ifCond .ge off, len)) (hp : ptr K rt pc (.ifCond .ge off) len = some e0) {Y Y' : pY} {G G' : pG} {pc' : Nat} {loc loc' stk stk' : List pV} (hs : pstep Y G e0 pc loc stk = some (.inl (pc', loc', stk', Y', G'))) (kk : pKK p l e R s m args below meth c Q D A sx nL n0 s0 ws0 pc' loc' stk' Y' G') : pKK p l e R s m args below meth c Q D A sx nL n0 s0 ws0 pc loc stk Y G := by
  obtain ⟨hx, hb, hml, hown, hts, hnest, hao, hstr, hAA, hfr, hlo⟩ := hX
  intro H locs ws tys ls st cells slots hW hA hl hst hc1 hc2
  obtain ⟨hlen, hp⟩ := bif_s hp
  have hlen : len = 3 := Nat.eq_of_beq_eq_true hlen
  subst hlen
  have hp : ptgt pc off (fun t => some (.ifCond .ge 0, 3, t, 0, 0)) = some e0 := hp
  obtain ⟨t, ht, hp⟩ := ptgt_s hp
  cases hp
  obtain ⟨x, stk0, rfl, hs2⟩ := k_i_s hs
  obtain ⟨a1, st1, rfl, rfl, h1⟩ := sR_i hst
  have hiff : (0 : Int32) ≤ a1 ↔ (0 : Int) ≤ a1.toInt := Int32.le_iff_toInt_le
  by_cases hc : (0 : Int) ≤ a1.toInt
  · have hb0 : pcc .ge a1.toInt (0 : Int) = true := by simp [pcc, hc]
    have hs3 := hs2
    rw [hb0] at hs3
    cases pnx_s hs3
    exact lv_if_ge hx hb hd ht (fun h => kk H locs ws tys ls _ cells slots hW hA hl h1 hc1 hc2) (fun h => absurd (hiff.mpr hc) (by simpa using h))
  · have hb0 : pcc .ge a1.toInt (0 : Int) = false := by simp [pcc, hc]
    have hs3 := hs2
    rw [hb0] at hs3
    cases pnx_s hs3
    exact lv_if_ge hx hb hd ht (fun h => absurd (hiff.mp (by simpa using h)) hc) (fun h => kk H locs ws tys ls _ cells slots hW hA hl h1 hc1 hc2)

theorem ss_icmp_ge {p : Program} {l : Launch} {e : Env} {R : Room} {s : State} {m : MethodId} {args : Array Value} {below : List Frame} {meth : Method} {c : Code} {Q : State → Prop} {D : va_G} {A : Nat → Prop} {sx : Nat → Option Nat} {cc : ByteArray} {nL K rt d n0 s0 : Nat} {ws0 : va_W} (hX : pCx p R s m args c sx A K nL d cc) {pc len : Nat} {e0 : pE} {off : Int} (hd : decode cc pc = .ok (.if_icmp .ge off, len)) (hp : ptr K rt pc (.if_icmp .ge off) len = some e0) {Y Y' : pY} {G G' : pG} {pc' : Nat} {loc loc' stk stk' : List pV} (hs : pstep Y G e0 pc loc stk = some (.inl (pc', loc', stk', Y', G'))) (kk : pKK p l e R s m args below meth c Q D A sx nL n0 s0 ws0 pc' loc' stk' Y' G') : pKK p l e R s m args below meth c Q D A sx nL n0 s0 ws0 pc loc stk Y G := by
  obtain ⟨hx, hb, hml, hown, hts, hnest, hao, hstr, hAA, hfr, hlo⟩ := hX
  intro H locs ws tys ls st cells slots hW hA hl hst hc1 hc2
  obtain ⟨hlen, hp⟩ := bif_s hp
  have hlen : len = 3 := Nat.eq_of_beq_eq_true hlen
  subst hlen
  have hp : ptgt pc off (fun t => some (.if_icmp .ge 0, 3, t, 0, 0)) = some e0 := hp
  obtain ⟨t, ht, hp⟩ := ptgt_s hp
  cases hp
  obtain ⟨x, y, stk0, rfl, hs2⟩ := k_ii_s hs
  obtain ⟨b1, st0, rfl, rfl, h0⟩ := sR_i hst
  obtain ⟨a1, st1, rfl, rfl, h1⟩ := sR_i h0
  have hiff : b1 ≤ a1 ↔ b1.toInt ≤ a1.toInt := Int32.le_iff_toInt_le
  by_cases hc : b1.toInt ≤ a1.toInt
  · have hb0 : pcc .ge a1.toInt b1.toInt = true := by simp [pcc, hc]
    have hs3 := hs2
    rw [hb0] at hs3
    cases pnx_s hs3
    exact lv_icmp_ge hx hb hd ht (fun h => kk H locs ws tys ls _ cells slots hW hA hl h1 hc1 hc2) (fun h => absurd (hiff.mpr hc) (by simpa using h))
  · have hb0 : pcc .ge a1.toInt b1.toInt = false := by simp [pcc, hc]
    have hs3 := hs2
    rw [hb0] at hs3
    cases pnx_s hs3
    exact lv_icmp_ge hx hb hd ht (fun h => absurd (hiff.mp (by simpa using h)) hc) (fun h => kk H locs ws tys ls _ cells slots hW hA hl h1 hc1 hc2)

theorem ss_if_gt {p : Program} {l : Launch} {e : Env} {R : Room} {s : State} {m : MethodId} {args : Array Value} {below : List Frame} {meth : Method} {c : Code} {Q : State → Prop} {D : va_G} {A : Nat → Prop} {sx : Nat → Option Nat} {cc : ByteArray} {nL K rt d n0 s0 : Nat} {ws0 : va_W} (hX : pCx p R s m args c sx A K nL d cc) {pc len : Nat} {e0 : pE} {off : Int} (hd : decode cc pc = .ok (.ifCond .gt off, len)) (hp : ptr K rt pc (.ifCond .gt off) len = some e0) {Y Y' : pY} {G G' : pG} {pc' : Nat} {loc loc' stk stk' : List pV} (hs : pstep Y G e0 pc loc stk = some (.inl (pc', loc', stk', Y', G'))) (kk : pKK p l e R s m args below meth c Q D A sx nL n0 s0 ws0 pc' loc' stk' Y' G') : pKK p l e R s m args below meth c Q D A sx nL n0 s0 ws0 pc loc stk Y G := by
  obtain ⟨hx, hb, hml, hown, hts, hnest, hao, hstr, hAA, hfr, hlo⟩ := hX
  intro H locs ws tys ls st cells slots hW hA hl hst hc1 hc2
  obtain ⟨hlen, hp⟩ := bif_s hp
  have hlen : len = 3 := Nat.eq_of_beq_eq_true hlen
  subst hlen
  have hp : ptgt pc off (fun t => some (.ifCond .gt 0, 3, t, 0, 0)) = some e0 := hp
  obtain ⟨t, ht, hp⟩ := ptgt_s hp
  cases hp
  obtain ⟨x, stk0, rfl, hs2⟩ := k_i_s hs
  obtain ⟨a1, st1, rfl, rfl, h1⟩ := sR_i hst
  have hiff : (0 : Int32) < a1 ↔ (0 : Int) < a1.toInt := Int32.lt_iff_toInt_lt
  by_cases hc : (0 : Int) < a1.toInt
  · have hb0 : pcc .gt a1.toInt (0 : Int) = true := by simp [pcc, hc]
    have hs3 := hs2
    rw [hb0] at hs3
    cases pnx_s hs3
    exact lv_if_gt hx hb hd ht (fun h => kk H locs ws tys ls _ cells slots hW hA hl h1 hc1 hc2) (fun h => absurd (hiff.mpr hc) (by simpa using h))
  · have hb0 : pcc .gt a1.toInt (0 : Int) = false := by simp [pcc, hc]
    have hs3 := hs2
    rw [hb0] at hs3
    cases pnx_s hs3
    exact lv_if_gt hx hb hd ht (fun h => absurd (hiff.mp (by simpa using h)) hc) (fun h => kk H locs ws tys ls _ cells slots hW hA hl h1 hc1 hc2)

theorem ss_icmp_gt {p : Program} {l : Launch} {e : Env} {R : Room} {s : State} {m : MethodId} {args : Array Value} {below : List Frame} {meth : Method} {c : Code} {Q : State → Prop} {D : va_G} {A : Nat → Prop} {sx : Nat → Option Nat} {cc : ByteArray} {nL K rt d n0 s0 : Nat} {ws0 : va_W} (hX : pCx p R s m args c sx A K nL d cc) {pc len : Nat} {e0 : pE} {off : Int} (hd : decode cc pc = .ok (.if_icmp .gt off, len)) (hp : ptr K rt pc (.if_icmp .gt off) len = some e0) {Y Y' : pY} {G G' : pG} {pc' : Nat} {loc loc' stk stk' : List pV} (hs : pstep Y G e0 pc loc stk = some (.inl (pc', loc', stk', Y', G'))) (kk : pKK p l e R s m args below meth c Q D A sx nL n0 s0 ws0 pc' loc' stk' Y' G') : pKK p l e R s m args below meth c Q D A sx nL n0 s0 ws0 pc loc stk Y G := by
  obtain ⟨hx, hb, hml, hown, hts, hnest, hao, hstr, hAA, hfr, hlo⟩ := hX
  intro H locs ws tys ls st cells slots hW hA hl hst hc1 hc2
  obtain ⟨hlen, hp⟩ := bif_s hp
  have hlen : len = 3 := Nat.eq_of_beq_eq_true hlen
  subst hlen
  have hp : ptgt pc off (fun t => some (.if_icmp .gt 0, 3, t, 0, 0)) = some e0 := hp
  obtain ⟨t, ht, hp⟩ := ptgt_s hp
  cases hp
  obtain ⟨x, y, stk0, rfl, hs2⟩ := k_ii_s hs
  obtain ⟨b1, st0, rfl, rfl, h0⟩ := sR_i hst
  obtain ⟨a1, st1, rfl, rfl, h1⟩ := sR_i h0
  have hiff : b1 < a1 ↔ b1.toInt < a1.toInt := Int32.lt_iff_toInt_lt
  by_cases hc : b1.toInt < a1.toInt
  · have hb0 : pcc .gt a1.toInt b1.toInt = true := by simp [pcc, hc]
    have hs3 := hs2
    rw [hb0] at hs3
    cases pnx_s hs3
    exact lv_icmp_gt hx hb hd ht (fun h => kk H locs ws tys ls _ cells slots hW hA hl h1 hc1 hc2) (fun h => absurd (hiff.mpr hc) (by simpa using h))
  · have hb0 : pcc .gt a1.toInt b1.toInt = false := by simp [pcc, hc]
    have hs3 := hs2
    rw [hb0] at hs3
    cases pnx_s hs3
    exact lv_icmp_gt hx hb hd ht (fun h => absurd (hiff.mp (by simpa using h)) hc) (fun h => kk H locs ws tys ls _ cells slots hW hA hl h1 hc1 hc2)

theorem ss_if_le {p : Program} {l : Launch} {e : Env} {R : Room} {s : State} {m : MethodId} {args : Array Value} {below : List Frame} {meth : Method} {c : Code} {Q : State → Prop} {D : va_G} {A : Nat → Prop} {sx : Nat → Option Nat} {cc : ByteArray} {nL K rt d n0 s0 : Nat} {ws0 : va_W} (hX : pCx p R s m args c sx A K nL d cc) {pc len : Nat} {e0 : pE} {off : Int} (hd : decode cc pc = .ok (.ifCond .le off, len)) (hp : ptr K rt pc (.ifCond .le off) len = some e0) {Y Y' : pY} {G G' : pG} {pc' : Nat} {loc loc' stk stk' : List pV} (hs : pstep Y G e0 pc loc stk = some (.inl (pc', loc', stk', Y', G'))) (kk : pKK p l e R s m args below meth c Q D A sx nL n0 s0 ws0 pc' loc' stk' Y' G') : pKK p l e R s m args below meth c Q D A sx nL n0 s0 ws0 pc loc stk Y G := by
  obtain ⟨hx, hb, hml, hown, hts, hnest, hao, hstr, hAA, hfr, hlo⟩ := hX
  intro H locs ws tys ls st cells slots hW hA hl hst hc1 hc2
  obtain ⟨hlen, hp⟩ := bif_s hp
  have hlen : len = 3 := Nat.eq_of_beq_eq_true hlen
  subst hlen
  have hp : ptgt pc off (fun t => some (.ifCond .le 0, 3, t, 0, 0)) = some e0 := hp
  obtain ⟨t, ht, hp⟩ := ptgt_s hp
  cases hp
  obtain ⟨x, stk0, rfl, hs2⟩ := k_i_s hs
  obtain ⟨a1, st1, rfl, rfl, h1⟩ := sR_i hst
  have hiff : a1 ≤ (0 : Int32) ↔ a1.toInt ≤ (0 : Int) := Int32.le_iff_toInt_le
  by_cases hc : a1.toInt ≤ (0 : Int)
  · have hb0 : pcc .le a1.toInt (0 : Int) = true := by simp [pcc, hc]
    have hs3 := hs2
    rw [hb0] at hs3
    cases pnx_s hs3
    exact lv_if_le hx hb hd ht (fun h => kk H locs ws tys ls _ cells slots hW hA hl h1 hc1 hc2) (fun h => absurd (hiff.mpr hc) (by simpa using h))
  · have hb0 : pcc .le a1.toInt (0 : Int) = false := by simp [pcc, hc]
    have hs3 := hs2
    rw [hb0] at hs3
    cases pnx_s hs3
    exact lv_if_le hx hb hd ht (fun h => absurd (hiff.mp (by simpa using h)) hc) (fun h => kk H locs ws tys ls _ cells slots hW hA hl h1 hc1 hc2)

theorem ss_icmp_le {p : Program} {l : Launch} {e : Env} {R : Room} {s : State} {m : MethodId} {args : Array Value} {below : List Frame} {meth : Method} {c : Code} {Q : State → Prop} {D : va_G} {A : Nat → Prop} {sx : Nat → Option Nat} {cc : ByteArray} {nL K rt d n0 s0 : Nat} {ws0 : va_W} (hX : pCx p R s m args c sx A K nL d cc) {pc len : Nat} {e0 : pE} {off : Int} (hd : decode cc pc = .ok (.if_icmp .le off, len)) (hp : ptr K rt pc (.if_icmp .le off) len = some e0) {Y Y' : pY} {G G' : pG} {pc' : Nat} {loc loc' stk stk' : List pV} (hs : pstep Y G e0 pc loc stk = some (.inl (pc', loc', stk', Y', G'))) (kk : pKK p l e R s m args below meth c Q D A sx nL n0 s0 ws0 pc' loc' stk' Y' G') : pKK p l e R s m args below meth c Q D A sx nL n0 s0 ws0 pc loc stk Y G := by
  obtain ⟨hx, hb, hml, hown, hts, hnest, hao, hstr, hAA, hfr, hlo⟩ := hX
  intro H locs ws tys ls st cells slots hW hA hl hst hc1 hc2
  obtain ⟨hlen, hp⟩ := bif_s hp
  have hlen : len = 3 := Nat.eq_of_beq_eq_true hlen
  subst hlen
  have hp : ptgt pc off (fun t => some (.if_icmp .le 0, 3, t, 0, 0)) = some e0 := hp
  obtain ⟨t, ht, hp⟩ := ptgt_s hp
  cases hp
  obtain ⟨x, y, stk0, rfl, hs2⟩ := k_ii_s hs
  obtain ⟨b1, st0, rfl, rfl, h0⟩ := sR_i hst
  obtain ⟨a1, st1, rfl, rfl, h1⟩ := sR_i h0
  have hiff : a1 ≤ b1 ↔ a1.toInt ≤ b1.toInt := Int32.le_iff_toInt_le
  by_cases hc : a1.toInt ≤ b1.toInt
  · have hb0 : pcc .le a1.toInt b1.toInt = true := by simp [pcc, hc]
    have hs3 := hs2
    rw [hb0] at hs3
    cases pnx_s hs3
    exact lv_icmp_le hx hb hd ht (fun h => kk H locs ws tys ls _ cells slots hW hA hl h1 hc1 hc2) (fun h => absurd (hiff.mpr hc) (by simpa using h))
  · have hb0 : pcc .le a1.toInt b1.toInt = false := by simp [pcc, hc]
    have hs3 := hs2
    rw [hb0] at hs3
    cases pnx_s hs3
    exact lv_icmp_le hx hb hd ht (fun h => absurd (hiff.mp (by simpa using h)) hc) (fun h => kk H locs ws tys ls _ cells slots hW hA hl h1 hc1 hc2)
end
section
set_option maxRecDepth 100000 in
theorem jw_maxs : Cond.static Lib.Math.max.name ∈ lw_use := use_mem (List.mem_of_getElem? (i := 837) rfl) rfl
set_option maxRecDepth 100000 in
theorem jw_maxc : Cond.code Lib.Math.max.name Lib.Math.max.code 2 (some .int) ∈ lw_use := use_mem (List.mem_of_getElem? (i := 838) rfl) rfl
set_option maxRecDepth 100000 in
theorem jw_mins : Cond.static Lib.Math.min.name ∈ lw_use := use_mem (List.mem_of_getElem? (i := 864) rfl) rfl
set_option maxRecDepth 100000 in
theorem jw_minc : Cond.code Lib.Math.min.name Lib.Math.min.code 2 (some .int) ∈ lw_use := use_mem (List.mem_of_getElem? (i := 865) rfl) rfl
set_option maxRecDepth 100000 in
theorem jw_abss : Cond.static Lib.Math.abs.name ∈ lw_use := use_mem (List.mem_of_getElem? (i := 2040) rfl) rfl
set_option maxRecDepth 100000 in
theorem jw_absc : Cond.code Lib.Math.abs.name Lib.Math.abs.code 1 (some .int) ∈ lw_use := use_mem (List.mem_of_getElem? (i := 2041) rfl) rfl
set_option maxRecDepth 100000 in
theorem jw_abs_longs : Cond.static Lib.MathLoose.abs_long.x ∈ lw_use := use_mem (List.mem_of_getElem? (i := 1111) rfl) rfl
set_option maxRecDepth 100000 in
theorem jw_abs_longc : Cond.code Lib.MathLoose.abs_long.x Lib.MathLoose.abs_long.code 2 (some .long) ∈ lw_use := use_mem (List.mem_of_getElem? (i := 1112) rfl) rfl
set_option maxRecDepth 100000 in
theorem jw_max_longs : Cond.static Lib.MathLoose.max_long.x ∈ lw_use := use_mem (List.mem_of_getElem? (i := 1122) rfl) rfl
set_option maxRecDepth 100000 in
theorem jw_max_longc : Cond.code Lib.MathLoose.max_long.x Lib.MathLoose.max_long.code 4 (some .long) ∈ lw_use := use_mem (List.mem_of_getElem? (i := 1123) rfl) rfl
set_option maxRecDepth 100000 in
theorem jw_mi : Cond.initialized "java/lang/Math" ∈ lw_use := use_mem (List.mem_of_getElem? (i := 117) rfl) rfl
set_option maxRecDepth 100000 in
theorem jw_si : Cond.initialized "java/lang/System" ∈ lw_use := use_mem (List.mem_of_getElem? (i := 118) rfl) rfl
set_option maxRecDepth 100000 in
theorem jw_an : Cond.native arraycopyName ∈ lw_use := use_mem (List.mem_of_getElem? (i := 813) rfl) rfl
set_option maxRecDepth 100000 in
theorem jw_as : Cond.static arraycopyName ∈ lw_use := use_mem (List.mem_of_getElem? (i := 812) rfl) rfl
set_option maxRecDepth 100000 in
theorem jw_oi : Cond.instanceMethod Lib.objectInit ∈ lw_use := use_mem (List.mem_of_getElem? (i := 129) rfl) rfl
set_option maxRecDepth 100000 in
theorem jw_oc : Cond.code Lib.objectInit ⟨#[0xb1]⟩ 1 none ∈ lw_use := use_mem (List.mem_of_getElem? (i := 130) rfl) rfl
set_option maxRecDepth 100000 in
theorem jw_arint : Cond.arrayClass .int ∈ lw_use := use_mem (List.mem_of_getElem? (i := 241) rfl) rfl
set_option maxRecDepth 100000 in
theorem jw_arlong : Cond.arrayClass .long ∈ lw_use := use_mem (List.mem_of_getElem? (i := 240) rfl) rfl
set_option maxRecDepth 100000 in
theorem jw_arbyte : Cond.arrayClass .byte ∈ lw_use := use_mem (List.mem_of_getElem? (i := 164) rfl) rfl
theorem pfref : ∀ ci, ci < 13 → ∀ k, k < pfN ci → pfk ci k = 2 → (pfT ci k).2.2.2 = true ∧ ((pfY ci k).isReference = true) := by decide +kernel
theorem pf3 : ∀ ci, ci < 13 → ∀ k, k < pfN ci → (pfk ci k = 0 ∨ pfk ci k = 1 ∨ pfk ci k = 2 ∨ pfk ci k = 3) ∧ pfN ci ≤ 74 := by decide +kernel
theorem pfk0 {ci k : Nat} (h : pfk ci k = 0) : pfY ci k = .int := by
  unfold pfk at h; split at h <;> first | assumption | (exact absurd h (by decide))
theorem pfk1 {ci k : Nat} (h : pfk ci k = 1) : pfY ci k = .long := by
  unfold pfk at h; split at h <;> first | assumption | (exact absurd h (by decide))
theorem pfk3 {ci k : Nat} (h : pfk ci k = 3) : pfY ci k = .boolean := by
  unfold pfk at h; split at h <;> first | assumption | (exact absurd h (by decide))
theorem pfg_v {ci k : Nat} (h : pfk ci k = 0 ∨ pfk ci k = 3) : pfg ci k = 0 := by
  unfold pfg; rcases h with h | h <;> rw [h] <;> rfl
theorem pfg_1 {ci k : Nat} (h : pfk ci k = 1) : pfg ci k = 1 := by unfold pfg; rw [h]; rfl
theorem pfg_2 {ci k : Nat} (h : pfk ci k = 2) : pfg ci k = 2 := by unfold pfg; rw [h]; rfl
theorem fR_i {ws : va_W} {kd x : Int} {o : Option Value} {r : Option Nat} (h : fR ws kd o x r) (hk : kd = 0 ∨ kd = 3) : ∃ y : Int32, o = some (.int y) ∧ y.toInt = x := by
  unfold fR at h; rcases hk with rfl | rfl
  · rw [if_neg (by decide), if_neg (by decide)] at h; exact h
  · rw [if_neg (by decide), if_neg (by decide)] at h; exact h
theorem fR_l {ws : va_W} {x : Int} {o : Option Value} {r : Option Nat} (h : fR ws 1 o x r) : ∃ y : Int64, o = some (.long y) ∧ y.toInt = x := by
  unfold fR at h; rw [if_pos rfl] at h; exact h
theorem fR_r {ws : va_W} {x : Int} {o : Option Value} {r : Option Nat} (h : fR ws 2 o x r) : ∀ a, r = some a → ∃ (q : Nat) (e : va_E), o = some (.ref q) ∧ ws[a]? = some (q, e) := by
  unfold fR at h; rw [if_neg (by decide), if_pos rfl] at h; exact h
theorem beq_e {a b : Nat} (h : Nat.beq a b = true) : a = b := Nat.eq_of_beq_eq_true h
theorem pset_o (G : pG) (r k : Nat) (v : Int) : ∀ j, j ≠ r → pset G r k v j = G j := fun j hj => by unfold pset; rw [if_neg hj]
theorem pset_s (G : pG) (r k : Nat) (v : Int) (b : Nat) : pset G r k v r b = if b = k then v else G r b := by unfold pset; rw [if_pos rfl]
/-- a field is written -/
theorem cR_fset {ws : va_W} {tys : List (ClassId × FieldType)} {kl : Nat × Int} {g g' : Nat → Int} {rf rf' : Nat → Option Nat} {fs : List Value} {k : Nat} {v : Value} (hk : kl.1 < 13) (hl : fs.length = pfN kl.1) (hf : ∀ j, j < pfN kl.1 → fR ws (pfk kl.1 j) fs[j]? (g j) (rf j)) (hkN : k < pfN kl.1) (hg : ∀ j, j ≠ k → g' j = g j) (hr : ∀ j, j ≠ k → rf' j = rf j) (hv : fR ws (pfk kl.1 k) (some v) (g' k) (rf' k)) : cR ws tys kl g' rf' (.inr (kl.1, fs.set k v)) := by
  refine ⟨rfl, hk, by rw [List.length_set]; exact hl, fun j hj => ?_⟩
  by_cases e : j = k
  · subst e
    rw [List.getElem?_set_self (by omega)]
    exact hv
  · rw [List.getElem?_set_ne (Ne.symm e), hg j e, hr j e]
    exact hf j hj
theorem refn {ty : FieldType} (h : ty.isReference = true) (q : Nat) : narrow ty (.ref q) = .ref q ∧ fits ty (.ref q) = true := by
  cases ty <;> first | (exact ⟨rfl, rfl⟩) | (cases h)
theorem booln {b : Int32} (h : b.toInt = 0 ∨ b.toInt = 1) : narrow .boolean (.int b) = .int b ∧ fits .boolean (.int b) = true := by
  have h2 : b = 0 ∨ b = 1 := by
    rcases h with h | h
    · exact Or.inl (Int32.toInt_inj.mp h)
    · exact Or.inr (Int32.toInt_inj.mp h)
  rcases h2 with rfl | rfl <;> exact ⟨by decide, by decide⟩
theorem plks_eq (d x : Int) : ∀ ps : List (Int × Int), Op.lookupswitch.offset ps d x = plks ps d x
  | [] => by first | rfl | simp [plks, Op.lookupswitch.offset]
  | (k, o) :: r => by
    rw [Op.lookupswitch.offset_cons, plks_eq d x r]
    show _ = if x = k then o else plks r d x
    by_cases h : x = k
    · rw [if_pos h, if_pos h.symm]
    · rw [if_neg h, if_neg (fun q => h q.symm)]
theorem plks_in {d x : Int} {P : Int → Prop} (h0 : P d) : ∀ {ps : List (Int × Int)}, (∀ q ∈ ps, P q.2) → P (plks ps d x)
  | [], _ => h0
  | (k, o) :: r, h => by
    unfold plks
    split
    · exact h _ List.mem_cons_self
    · exact plks_in h0 (fun q hq => h q (List.mem_cons_of_mem _ hq))
theorem pn_get {α : Type} : ∀ {l : List α} {i : Nat}, pn l i = l[i]?
  | [], _ => rfl
  | _ :: _, 0 => rfl
  | _ :: l, i + 1 => by rw [List.getElem?_cons_succ]; exact pn_get (l := l)

theorem ss_table {p : Program} {l : Launch} {e : Env} {R : Room} {s : State} {m : MethodId} {args : Array Value} {below : List Frame} {meth : Method} {c : Code} {Q : State → Prop} {D : va_G} {A : Nat → Prop} {sx : Nat → Option Nat} {cc : ByteArray} {nL K rt d n0 s0 : Nat} {ws0 : va_W} (hX : pCx p R s m args c sx A K nL d cc) {pc len : Nat} {e0 : pE} {dd lo hi : Int} {offs : Array Int} (hd : decode cc pc = .ok (.tableswitch dd lo hi offs, len)) (hp : ptr K rt pc (.tableswitch dd lo hi offs) len = some e0) {Y Y' : pY} {G G' : pG} {pc' : Nat} {loc loc' stk stk' : List pV} (hs : pstep Y G e0 pc loc stk = some (.inl (pc', loc', stk', Y', G'))) (kk : pKK p l e R s m args below meth c Q D A sx nL n0 s0 ws0 pc' loc' stk' Y' G') : pKK p l e R s m args below meth c Q D A sx nL n0 s0 ws0 pc loc stk Y G := by
  obtain ⟨hx, hb, hml, hown, hts, hnest, hao, hstr, hAA, hfr, hlo⟩ := hX
  intro H locs ws tys ls st cells slots hW hA hl hst hc1 hc2
  obtain ⟨-, hp⟩ := bif_s hp
  obtain ⟨h0, hp⟩ := bif_s hp
  cases hp
  rw [Bool.and_eq_true] at h0
  obtain ⟨x, stk0, rfl, hs2⟩ := k_i_s hs
  obtain ⟨a1, st1, rfl, rfl, h1⟩ := sR_i hst
  by_cases hc : a1.toInt < lo ∨ hi < a1.toInt
  · rw [if_pos hc] at hs2
    cases pnx_s hs2
    exact lv_tableOut hx hb hd hc (pnneg_s h0.1) (kk H locs ws tys ls _ cells slots hW hA hl h1 hc1 hc2)
  · rw [if_neg hc] at hs2
    obtain ⟨off, ho, hs3⟩ := k_op_s hs2
    cases pnx_s hs3
    rw [pn_get] at ho
    exact lv_tableIn hx hb hd (fun q => hc (Or.inl q)) (fun q => hc (Or.inr q)) (by rw [← Array.getElem?_toList]; exact ho) (pnneg_s (List.all_eq_true.mp h0.2 off (List.mem_of_getElem? ho))) (kk H locs ws tys ls _ cells slots hW hA hl h1 hc1 hc2)

theorem ss_lookup {p : Program} {l : Launch} {e : Env} {R : Room} {s : State} {m : MethodId} {args : Array Value} {below : List Frame} {meth : Method} {c : Code} {Q : State → Prop} {D : va_G} {A : Nat → Prop} {sx : Nat → Option Nat} {cc : ByteArray} {nL K rt d n0 s0 : Nat} {ws0 : va_W} (hX : pCx p R s m args c sx A K nL d cc) {pc len : Nat} {e0 : pE} {dd : Int} {ps : Array (Int × Int)} (hd : decode cc pc = .ok (.lookupswitch dd ps, len)) (hp : ptr K rt pc (.lookupswitch dd ps) len = some e0) {Y Y' : pY} {G G' : pG} {pc' : Nat} {loc loc' stk stk' : List pV} (hs : pstep Y G e0 pc loc stk = some (.inl (pc', loc', stk', Y', G'))) (kk : pKK p l e R s m args below meth c Q D A sx nL n0 s0 ws0 pc' loc' stk' Y' G') : pKK p l e R s m args below meth c Q D A sx nL n0 s0 ws0 pc loc stk Y G := by
  obtain ⟨hx, hb, hml, hown, hts, hnest, hao, hstr, hAA, hfr, hlo⟩ := hX
  intro H locs ws tys ls st cells slots hW hA hl hst hc1 hc2
  obtain ⟨-, hp⟩ := bif_s hp
  obtain ⟨h0, hp⟩ := bif_s hp
  cases hp
  rw [Bool.and_eq_true, Bool.and_eq_true] at h0
  obtain ⟨x, stk0, rfl, hs2⟩ := k_i_s hs
  obtain ⟨a1, st1, rfl, rfl, h1⟩ := sR_i hst
  cases pnx_s hs2
  have ht : (pc : Int) + plks ps.toList dd a1.toInt = (((pc : Int) + plks ps.toList dd a1.toInt).toNat : Int) := plks_in (P := fun o => (pc : Int) + o = (((pc : Int) + o).toNat : Int)) (pnneg_s h0.1.1) (fun q hq => pnneg_s (List.all_eq_true.mp h0.1.2 q hq))
  exact lv_lookup hx hb hd h0.2 (plks_eq _ _ _) ht (kk H locs ws tys ls _ cells slots hW hA hl h1 hc1 hc2)

theorem ss_getfield {p : Program} {l : Launch} {e : Env} {R : Room} {s : State} {m : MethodId} {args : Array Value} {below : List Frame} {meth : Method} {c : Code} {Q : State → Prop} {D : va_G} {A : Nat → Prop} {sx : Nat → Option Nat} {cc : ByteArray} {nL K rt d n0 s0 : Nat} {ws0 : va_W} (hX : pCx p R s m args c sx A K nL d cc) {pc len : Nat} {e0 : pE} {i : Nat} (hd : decode cc pc = .ok (.getfield i, len)) (hp : ptr K rt pc (.getfield i) len = some e0) {Y Y' : pY} {G G' : pG} {pc' : Nat} {loc loc' stk stk' : List pV} (hs : pstep Y G e0 pc loc stk = some (.inl (pc', loc', stk', Y', G'))) (hrm : Y'.1.1 ≤ n0 + R.cells ∧ Y'.1.2 ≤ s0 + R.slots) (kk : pKK p l e R s m args below meth c Q D A sx nL n0 s0 ws0 pc' loc' stk' Y' G') : pKK p l e R s m args below meth c Q D A sx nL n0 s0 ws0 pc loc stk Y G := by
  obtain ⟨hx, hb, hml, hown, hts, hnest, hao, hstr, hAA, hfr, hlo⟩ := hX
  intro H locs ws tys ls st cells slots hW hA hl hst hc1 hc2
  obtain ⟨hlen, hp⟩ := bif_s hp
  have hlen : len = 3 := Nat.eq_of_beq_eq_true hlen
  subst hlen
  obtain ⟨⟨ci, k⟩, hq, hp⟩ := k_op_s hp
  cases hp
  have hbd := lkF_bd _ (lkf_mem hq)
  have hci : ci < 13 := hbd.1
  have hkN : k < pfN ci := hbd.2
  obtain ⟨r, stk0, rfl, hs2⟩ := k_r_s hs
  obtain ⟨hkd, hs2⟩ := bif_s hs2
  have hkd := beq_e hkd
  obtain ⟨q, st1, rfl, h0, h1⟩ := sR_r hst
  obtain ⟨e1, he, hcr⟩ := hW.1.cell h0 (by omega)
  obtain ⟨fs, rfl, hfl, hff⟩ := cR_o hcr (by omega)
  rw [hkd] at hfl hff he
  have hf := hff k hkN
  have row : ∀ v, fs[k]? = some v → W p l e R s m args below meth c H locs cells slots Q (F0 m (pc + 3) ls (v :: st1)) → W p l e R s m args below meth c H locs cells slots Q (F0 m pc ls (.ref q :: st1)) := fun v hv kk2 => va_get (C := pown ci) (T := pfT ci) (N := pfN ci) hx hb hts (pin hci) hown hW.2.2.2.1 hW.2.1 r he (pcl_at ci hci) k hkN (hts _ (lkF_in hq)) (fun _ h => h) hv hd kk2
  rcases (pf3 ci hci k hkN).1 with h3 | h3 | h3 | h3
  · rw [pfg_v (Or.inl h3)] at hs2
    cases pnx_s hs2
    obtain ⟨y, hv, hy⟩ := fR_i hf (Or.inl h3)
    exact row _ hv (kk H locs ws tys ls _ cells slots hW hA hl ⟨⟨y, rfl, hy⟩, h1⟩ hc1 hc2)
  · rw [pfg_1 h3] at hs2
    cases pnx_s hs2
    rw [h3] at hf
    obtain ⟨y, hv, hy⟩ := fR_l hf
    exact row _ hv (kk H locs ws tys ls _ cells slots hW hA hl ⟨⟨y, rfl, hy⟩, h1⟩ hc1 hc2)
  · rw [pfg_2 h3] at hs2
    obtain ⟨a, ha, hs3⟩ := k_op_s (o := Y.2.2 r k) hs2
    cases pnx_s hs3
    rw [h3] at hf
    obtain ⟨y, e2, hv, hy⟩ := fR_r hf a ha
    exact row _ hv (kk H locs ws tys ls _ cells slots hW hA hl ⟨⟨y, rfl, Or.inl ⟨e2, hy⟩⟩, h1⟩ hc1 hc2)
  · rw [pfg_v (Or.inr h3)] at hs2
    cases pnx_s hs2
    obtain ⟨y, hv, hy⟩ := fR_i hf (Or.inr h3)
    exact row _ hv (kk H locs ws tys ls _ cells slots hW hA hl ⟨⟨y, rfl, hy⟩, h1⟩ hc1 hc2)

theorem ss_iaload {p : Program} {l : Launch} {e : Env} {R : Room} {s : State} {m : MethodId} {args : Array Value} {below : List Frame} {meth : Method} {c : Code} {Q : State → Prop} {D : va_G} {A : Nat → Prop} {sx : Nat → Option Nat} {cc : ByteArray} {nL K rt d n0 s0 : Nat} {ws0 : va_W} (hX : pCx p R s m args c sx A K nL d cc) {pc len : Nat} {e0 : pE} (hK13 : Nat.beq K 13 = false) (hd : decode cc pc = .ok (.iaload, len)) (hp : ptr K rt pc (.iaload) len = some e0) {Y Y' : pY} {G G' : pG} {pc' : Nat} {loc loc' stk stk' : List pV} (hs : pstep Y G e0 pc loc stk = some (.inl (pc', loc', stk', Y', G'))) (hrm : Y'.1.1 ≤ n0 + R.cells ∧ Y'.1.2 ≤ s0 + R.slots) (kk : pKK p l e R s m args below meth c Q D A sx nL n0 s0 ws0 pc' loc' stk' Y' G') : pKK p l e R s m args below meth c Q D A sx nL n0 s0 ws0 pc loc stk Y G := by
  obtain ⟨hx, hb, hml, hown, hts, hnest, hao, hstr, hAA, hfr, hlo⟩ := hX
  intro H locs ws tys ls st cells slots hW hA hl hst hc1 hc2
  obtain ⟨hlen, hp⟩ := bif_s hp
  have hlen : len = 1 := Nat.eq_of_beq_eq_true hlen
  subst hlen
  have hp : some ((bif Nat.beq K 13 then Instr.faload else Instr.iaload), 1, 0, 0, (0 : Int)) = some e0 := hp
  rw [hK13] at hp
  cases hp
  obtain ⟨r, i, stk0, rfl, hs2⟩ := k_ri_s hs
  obtain ⟨hkd, hs2⟩ := bif_s hs2
  have hkd := beq_e hkd
  obtain ⟨hbd, hs2⟩ := if_s hs2
  cases pnx_s hs2
  obtain ⟨j, st0, rfl, rfl, h0⟩ := sR_i hst
  obtain ⟨q, st1, rfl, h2, h1⟩ := sR_r h0
  obtain ⟨e1, he, hcr⟩ := hW.1.cell h2 (by omega)
  obtain ⟨cA, n, f, t, rfl, hn, hn2, ht, hf⟩ := cR_i hcr hkd
  exact va_iald hx hb hW.2.2.2.1 hW.2.1 r t he ht (i32_in hbd.1 (by omega)) hd (kk H locs ws tys ls _ cells slots hW hA hl ⟨⟨_, rfl, hf _ (by rw [i32_cl]; omega)⟩, h1⟩ hc1 hc2)

theorem ss_laload {p : Program} {l : Launch} {e : Env} {R : Room} {s : State} {m : MethodId} {args : Array Value} {below : List Frame} {meth : Method} {c : Code} {Q : State → Prop} {D : va_G} {A : Nat → Prop} {sx : Nat → Option Nat} {cc : ByteArray} {nL K rt d n0 s0 : Nat} {ws0 : va_W} (hX : pCx p R s m args c sx A K nL d cc) {pc len : Nat} {e0 : pE} (hd : decode cc pc = .ok (.laload, len)) (hp : ptr K rt pc (.laload) len = some e0) {Y Y' : pY} {G G' : pG} {pc' : Nat} {loc loc' stk stk' : List pV} (hs : pstep Y G e0 pc loc stk = some (.inl (pc', loc', stk', Y', G'))) (hrm : Y'.1.1 ≤ n0 + R.cells ∧ Y'.1.2 ≤ s0 + R.slots) (kk : pKK p l e R s m args below meth c Q D A sx nL n0 s0 ws0 pc' loc' stk' Y' G') : pKK p l e R s m args below meth c Q D A sx nL n0 s0 ws0 pc loc stk Y G := by
  obtain ⟨hx, hb, hml, hown, hts, hnest, hao, hstr, hAA, hfr, hlo⟩ := hX
  intro H locs ws tys ls st cells slots hW hA hl hst hc1 hc2
  obtain ⟨hlen, hp⟩ := bif_s hp
  have hlen : len = 1 := Nat.eq_of_beq_eq_true hlen
  subst hlen
  cases hp
  obtain ⟨r, i, stk0, rfl, hs2⟩ := k_ri_s hs
  obtain ⟨hkd, hs2⟩ := bif_s hs2
  have hkd := beq_e hkd
  obtain ⟨hbd, hs2⟩ := if_s hs2
  cases pnx_s hs2
  obtain ⟨j, st0, rfl, rfl, h0⟩ := sR_i hst
  obtain ⟨q, st1, rfl, h2, h1⟩ := sR_r h0
  obtain ⟨e1, he, hcr⟩ := hW.1.cell h2 (by omega)
  obtain ⟨cA, n, f, t, rfl, hn, hn2, ht, hf⟩ := cR_l hcr hkd
  exact va_lald hx hb hW.2.2.2.1 hW.2.1 r t he ht (i32_in hbd.1 (by omega)) hd (kk H locs ws tys ls _ cells slots hW hA hl ⟨⟨_, rfl, hf _ (by rw [i32_cl]; omega)⟩, h1⟩ hc1 hc2)

theorem ss_baload {p : Program} {l : Launch} {e : Env} {R : Room} {s : State} {m : MethodId} {args : Array Value} {below : List Frame} {meth : Method} {c : Code} {Q : State → Prop} {D : va_G} {A : Nat → Prop} {sx : Nat → Option Nat} {cc : ByteArray} {nL K rt d n0 s0 : Nat} {ws0 : va_W} (hX : pCx p R s m args c sx A K nL d cc) {pc len : Nat} {e0 : pE} (hd : decode cc pc = .ok (.baload, len)) (hp : ptr K rt pc (.baload) len = some e0) {Y Y' : pY} {G G' : pG} {pc' : Nat} {loc loc' stk stk' : List pV} (hs : pstep Y G e0 pc loc stk = some (.inl (pc', loc', stk', Y', G'))) (hrm : Y'.1.1 ≤ n0 + R.cells ∧ Y'.1.2 ≤ s0 + R.slots) (kk : pKK p l e R s m args below meth c Q D A sx nL n0 s0 ws0 pc' loc' stk' Y' G') : pKK p l e R s m args below meth c Q D A sx nL n0 s0 ws0 pc loc stk Y G := by
  obtain ⟨hx, hb, hml, hown, hts, hnest, hao, hstr, hAA, hfr, hlo⟩ := hX
  intro H locs ws tys ls st cells slots hW hA hl hst hc1 hc2
  obtain ⟨hlen, hp⟩ := bif_s hp
  have hlen : len = 1 := Nat.eq_of_beq_eq_true hlen
  subst hlen
  cases hp
  obtain ⟨r, i, stk0, rfl, hs2⟩ := k_ri_s hs
  obtain ⟨hkd, hs2⟩ := bif_s hs2
  have hkd := beq_e hkd
  obtain ⟨hbd, hs2⟩ := if_s hs2
  cases pnx_s hs2
  obtain ⟨j, st0, rfl, rfl, h0⟩ := sR_i hst
  obtain ⟨q, st1, rfl, h2, h1⟩ := sR_r h0
  obtain ⟨e1, he, hcr⟩ := hW.1.cell h2 (by omega)
  obtain ⟨cA, n, f, t, rfl, hn, hn2, ht, hf⟩ := cR_b hcr hkd
  exact va_bald hx hb hW.2.2.2.1 hW.2.1 r t he ht (i32_in hbd.1 (by omega)) hd (kk H locs ws tys ls _ cells slots hW hA hl ⟨⟨_, rfl, hf _ (by rw [i32_cl]; omega)⟩, h1⟩ hc1 hc2)

theorem ss_aaload {p : Program} {l : Launch} {e : Env} {R : Room} {s : State} {m : MethodId} {args : Array Value} {below : List Frame} {meth : Method} {c : Code} {Q : State → Prop} {D : va_G} {A : Nat → Prop} {sx : Nat → Option Nat} {cc : ByteArray} {nL K rt d n0 s0 : Nat} {ws0 : va_W} (hX : pCx p R s m args c sx A K nL d cc) {pc len : Nat} {e0 : pE} (hd : decode cc pc = .ok (.aaload, len)) (hp : ptr K rt pc (.aaload) len = some e0) {Y Y' : pY} {G G' : pG} {pc' : Nat} {loc loc' stk stk' : List pV} (hs : pstep Y G e0 pc loc stk = some (.inl (pc', loc', stk', Y', G'))) (hrm : Y'.1.1 ≤ n0 + R.cells ∧ Y'.1.2 ≤ s0 + R.slots) (kk : pKK p l e R s m args below meth c Q D A sx nL n0 s0 ws0 pc' loc' stk' Y' G') : pKK p l e R s m args below meth c Q D A sx nL n0 s0 ws0 pc loc stk Y G := by
  obtain ⟨hx, hb, hml, hown, hts, hnest, hao, hstr, hAA, hfr, hlo⟩ := hX
  intro H locs ws tys ls st cells slots hW hA hl hst hc1 hc2
  obtain ⟨hlen, hp⟩ := bif_s hp
  have hlen : len = 1 := Nat.eq_of_beq_eq_true hlen
  subst hlen
  cases hp
  obtain ⟨r, i, stk0, rfl, hs2⟩ := k_ri_s hs
  obtain ⟨hkd, hs2⟩ := bif_s hs2
  have hkd := beq_e hkd
  obtain ⟨hbd, hs2⟩ := if_s hs2
  obtain ⟨a, ha, hs3⟩ := k_op_s (o := Y.2.2 r i.toNat) hs2
  cases pnx_s hs3
  obtain ⟨j, st0, rfl, rfl, h0⟩ := sR_i hst
  obtain ⟨q, st1, rfl, h2, h1⟩ := sR_r h0
  obtain ⟨e1, he, hcr⟩ := hW.1.cell h2 (by omega)
  obtain ⟨cA, n, f, t, rfl, hn, hn2, ht, hf⟩ := cR_q hcr hkd
  have hjn : j.toNatClampNeg < n := by rw [i32_cl]; omega
  obtain ⟨q2, e2, hv, hy⟩ := hf j.toNatClampNeg hjn a ha
  have hin : vp_in j n := i32_in hbd.1 (by omega)
  refine W.aald (v := va_rf (f j.toNatClampNeg)) (ty := .array .int) hx hb (hW.2.1 r _ he) ((hW.2.2.2.1.2 t _ ht).1 n (fun j => va_rf (f j))) rfl (fun q => by cases q) (by show ¬ (j < 0 ∨ (arrV _ _ _).slots.size ≤ _); rw [arrV_size]; exact hin) (by show (arrV _ _ _).slots[_]? = _; rw [arrV_read _ _ hjn]) rfl rfl hd ?_
  rw [hv]
  exact kk H locs ws tys ls _ cells slots hW hA hl ⟨⟨q2, rfl, Or.inl ⟨e2, hy⟩⟩, h1⟩ hc1 hc2

theorem ss_arraylength {p : Program} {l : Launch} {e : Env} {R : Room} {s : State} {m : MethodId} {args : Array Value} {below : List Frame} {meth : Method} {c : Code} {Q : State → Prop} {D : va_G} {A : Nat → Prop} {sx : Nat → Option Nat} {cc : ByteArray} {nL K rt d n0 s0 : Nat} {ws0 : va_W} (hX : pCx p R s m args c sx A K nL d cc) {pc len : Nat} {e0 : pE} (hK13 : Nat.beq K 13 = false) (hd : decode cc pc = .ok (.arraylength, len)) (hp : ptr K rt pc (.arraylength) len = some e0) {Y Y' : pY} {G G' : pG} {pc' : Nat} {loc loc' stk stk' : List pV} (hs : pstep Y G e0 pc loc stk = some (.inl (pc', loc', stk', Y', G'))) (hrm : Y'.1.1 ≤ n0 + R.cells ∧ Y'.1.2 ≤ s0 + R.slots) (kk : pKK p l e R s m args below meth c Q D A sx nL n0 s0 ws0 pc' loc' stk' Y' G') : pKK p l e R s m args below meth c Q D A sx nL n0 s0 ws0 pc loc stk Y G := by
  obtain ⟨hx, hb, hml, hown, hts, hnest, hao, hstr, hAA, hfr, hlo⟩ := hX
  intro H locs ws tys ls st cells slots hW hA hl hst hc1 hc2
  obtain ⟨hlen, hp⟩ := bif_s hp
  have hlen : len = 1 := Nat.eq_of_beq_eq_true hlen
  subst hlen
  have hp : some ((bif Nat.beq K 13 then Instr.fastore else Instr.arraylength), 1, 0, 0, (0 : Int)) = some e0 := hp
  rw [hK13] at hp
  cases hp
  obtain ⟨r, stk0, rfl, hs2⟩ := k_r_s hs
  obtain ⟨hkd, hs2⟩ := bif_s hs2
  rw [Bool.and_eq_true] at hkd
  have hk1 := Nat.le_of_ble_eq_true hkd.1
  have hk2 := Nat.le_of_ble_eq_true hkd.2
  cases pnx_s hs2
  obtain ⟨q, st1, rfl, h2, h1⟩ := sR_r hst
  obtain ⟨e1, he, hcr⟩ := hW.1.cell h2 (by omega)
  have hk3 : (Y.2.1 r).1 = 100 ∨ (Y.2.1 r).1 = 101 ∨ (Y.2.1 r).1 = 102 ∨ (Y.2.1 r).1 = 103 := by omega
  rcases hk3 with h3 | h3 | h3 | h3
  · obtain ⟨cA, n, f, t, rfl, hn, hn2, ht, hf⟩ := cR_i hcr h3
    exact va_alen hx hb hW.2.2.2.1 hW.2.1 r t he ht rfl hd (kk H locs ws tys ls _ cells slots hW hA hl ⟨⟨_, rfl, by rw [← hn]; exact nI_toInt (by omega)⟩, h1⟩ hc1 hc2)
  · obtain ⟨cA, n, f, t, rfl, hn, hn2, ht, hf⟩ := cR_l hcr h3
    exact va_alen hx hb hW.2.2.2.1 hW.2.1 r t he ht rfl hd (kk H locs ws tys ls _ cells slots hW hA hl ⟨⟨_, rfl, by rw [← hn]; exact nI_toInt (by omega)⟩, h1⟩ hc1 hc2)
  · obtain ⟨cA, n, f, t, rfl, hn, hn2, ht, hf⟩ := cR_b hcr h3
    exact va_alen hx hb hW.2.2.2.1 hW.2.1 r t he ht rfl hd (kk H locs ws tys ls _ cells slots hW hA hl ⟨⟨_, rfl, by rw [← hn]; exact nI_toInt (by omega)⟩, h1⟩ hc1 hc2)
  · obtain ⟨cA, n, f, t, rfl, hn, hn2, ht, hf⟩ := cR_q hcr h3
    exact va_alen hx hb hW.2.2.2.1 hW.2.1 r t he ht rfl hd (kk H locs ws tys ls _ cells slots hW hA hl ⟨⟨_, rfl, by rw [← hn]; exact nI_toInt (by omega)⟩, h1⟩ hc1 hc2)
end
section
theorem k_cp_s {stk : List pV} {k : Nat → Int → Nat → Int → Int → List pV → Option pO} {z : pO} (h : k_cp stk none k = some z) : ∃ (a0 : Nat) (sp : Int) (a : Nat) (dp n : Int) (st : List pV), stk = .inl n :: .inl dp :: .inr (.inr (some a)) :: .inl sp :: .inr (.inr (some a0)) :: st ∧ k a0 sp a dp n st = some z := by
  unfold k_cp at h; split at h
  · exact ⟨_, _, _, _, _, _, rfl, h⟩
  · cases h
/-- references among fields -/
theorem wR.putr {tys : List (ClassId × FieldType)} {Y : pY} {G : pG} {ws : va_W} {i a k z : Nat} {e e' : va_E} (h : wR tys Y G ws) (hi : ws[i]? = some (a, e)) (he : cR ws tys (Y.2.1 i) (G i) (fun j => if j = k then some z else Y.2.2 i j) e') : wR tys (prf Y i k z) G (ws.set i (a, e')) := by
  obtain ⟨h1, h2, h3, h4⟩ := h
  have hl := (List.getElem?_eq_some_iff.mp hi).1
  have hs : aS ws (ws.set i (a, e')) := aS.set hi
  refine ⟨by rw [List.length_set]; exact h1, h2, h3, fun j q hq => ?_⟩
  by_cases hj : j = i
  · subst hj
    rw [List.getElem?_set_self hl] at hq
    cases hq
    have hr : (prf Y j k z).2.2 j = (fun b => if b = k then some z else Y.2.2 j b) := by
      show (if j = j then _ else _) = _
      rw [if_pos rfl]
    rw [hr]
    exact he.mv hs (tS.rf _)
  · rw [List.getElem?_set_ne (Ne.symm hj)] at hq
    have hr : (prf Y i k z).2.2 j = Y.2.2 j := by
      show (if j = i then _ else _) = _
      rw [if_neg hj]
    rw [hr]
    exact (h4 j q hq).mv hs (tS.rf _)
/-- a cell more -/
theorem wR.push {tys tys' : List (ClassId × FieldType)} {Y : pY} {G : pG} {ws : va_W} {kind q : Nat} {len : Int} {e : va_E} (h : wR tys Y G ws) (hn : Y.1.1 ≤ 497) (ht : tS tys tys') (he : cR (ws ++ [(q, e)]) tys' (kind, len) (fun _ => 0) (fun _ => none) e) : wR tys' (pnw Y kind len) (pz G Y.1.1) (ws ++ [(q, e)]) := by
  obtain ⟨h1, h2, h3, h4⟩ := h
  refine ⟨by rw [List.length_append, h1]; rfl, by show Y.1.1 + 1 ≤ 498; omega, fun i hi => ?_, fun i x hx => ?_⟩
  · have hi : Y.1.1 + 1 ≤ i := hi
    show (if i = Y.1.1 then (kind, len) else Y.2.1 i).1 = 999
    rw [if_neg (by omega)]
    exact h3 i (by omega)
  · show cR _ tys' (if i = Y.1.1 then (kind, len) else Y.2.1 i) ((if i = Y.1.1 then (fun _ => 0) else G i)) ((if i = Y.1.1 then (fun _ => none) else Y.2.2 i)) x.2
    by_cases hi : i < ws.length
    · rw [List.getElem?_append_left hi] at hx
      rw [if_neg (by omega), if_neg (by omega), if_neg (by omega)]
      exact (h4 i x hx).mv (aS.app _ _) ht
    · rw [List.getElem?_append_right (by omega)] at hx
      have hz : i - ws.length < 1 := (List.getElem?_eq_some_iff.mp hx).1
      have hi2 : i = Y.1.1 := by omega
      rw [show i - ws.length = 0 by omega] at hx
      cases hx
      rw [if_pos hi2, if_pos hi2, if_pos hi2]
      exact he
theorem wR_last {ws : va_W} {n q : Nat} {e : va_E} (h : ws.length = n) : (ws ++ [(q, e)])[n]? = some (q, e) := by
  rw [List.getElem?_append_right (by omega), h, Nat.sub_self]; rfl
theorem if_32 {P : Int32 → Prop} {c : Prop} [Decidable c] {a b : Int32} (h1 : c → P a) (h2 : ¬ c → P b) : P (if c then a else b) := by
  split
  · exact h1 (by assumption)
  · exact h2 (by assumption)
theorem if_64 {P : Int64 → Prop} {c : Prop} [Decidable c] {a b : Int64} (h1 : c → P a) (h2 : ¬ c → P b) : P (if c then a else b) := by
  split
  · exact h1 (by assumption)
  · exact h2 (by assumption)
theorem mx_r (a b : Int32) : (if a < b then b else a).toInt = pmx a.toInt b.toInt := by
  unfold pmx
  by_cases h : a < b
  · rw [if_pos h, if_pos (Int32.lt_iff_toInt_lt.mp h)]
  · rw [if_neg h, if_neg (fun q => h (Int32.lt_iff_toInt_lt.mpr q))]
theorem mn_r (a b : Int32) : (if b < a then b else a).toInt = pmn a.toInt b.toInt := by
  unfold pmn
  by_cases h : b < a
  · rw [if_pos h, if_pos (Int32.lt_iff_toInt_lt.mp h)]
  · rw [if_neg h, if_neg (fun q => h (Int32.lt_iff_toInt_lt.mpr q))]
theorem mxl_r (a b : Int64) : (if b < a then a else b).toInt = pmx a.toInt b.toInt := by
  unfold pmx
  by_cases h : b < a
  · have := Int64.lt_iff_toInt_lt.mp h
    rw [if_pos h, if_neg (by omega)]
  · have h2 : ¬ b.toInt < a.toInt := fun q => h (Int64.lt_iff_toInt_lt.mpr q)
    rw [if_neg h]
    split <;> omega
theorem ab_r (a : Int32) : (if 0 ≤ a then a else 0 - a).toInt = if 0 < a.toInt then a.toInt else w32 (-a.toInt) := by
  have hz : (0 : Int32).toInt = 0 := rfl
  by_cases h : 0 ≤ a
  · have h2 := Int32.le_iff_toInt_le.mp h
    rw [hz] at h2
    rw [if_pos h]
    by_cases h3 : 0 < a.toInt
    · rw [if_pos h3]
    · rw [if_neg h3, show a.toInt = 0 by omega]; rfl
  · have h2 : ¬ 0 ≤ a.toInt := fun q => h (Int32.le_iff_toInt_le.mpr (by rw [hz]; exact q))
    rw [if_neg h, if_neg (by omega), w32_sub, hz, show (0 : Int) - a.toInt = -a.toInt by omega]
theorem abl_r (a : Int64) : (if 0 < a then a else -a).toInt = if 0 < a.toInt then a.toInt else w64 (-a.toInt) := by
  have hz : (0 : Int64).toInt = 0 := rfl
  by_cases h : 0 < a
  · have h2 := Int64.lt_iff_toInt_lt.mp h
    rw [hz] at h2
    rw [if_pos h, if_pos h2]
  · have h2 : ¬ 0 < a.toInt := fun q => h (Int64.lt_iff_toInt_lt.mpr (by rw [hz]; exact q))
    rw [if_neg h, if_neg h2, w64_neg]

theorem pfdecl : ∀ ci, ci < 13 → ∀ k, (pfT ci k).1 = pown ci
  | 0, _ => by intro k; show (TX0 k).1 = RX0; unfold TX0; split <;> rfl
  | 1, _ => by intro k; show (TX1 k).1 = RX1; unfold TX1; split <;> rfl
  | 2, _ => by intro k; show (TX2 k).1 = RX2; unfold TX2; split <;> rfl
  | 3, _ => by intro k; show (TX3 k).1 = RX3; unfold TX3; split <;> rfl
  | 4, _ => by intro k; show (TX4 k).1 = RX4; unfold TX4; split <;> rfl
  | 5, _ => by intro k; show (TX5 k).1 = RX5; unfold TX5; split <;> rfl
  | 6, _ => by intro k; show (TX6 k).1 = RX6; unfold TX6; split <;> rfl
  | 7, _ => by intro k; show (TX7 k).1 = RX7; unfold TX7; split <;> rfl
  | 8, _ => by intro k; show (TX8 k).1 = RX8; unfold TX8; split <;> rfl
  | 9, _ => by intro k; show (TX9 k).1 = RX9; unfold TX9; split <;> rfl
  | 10, _ => by intro k; show (TX10 k).1 = RX10; unfold TX10; split <;> rfl
  | 11, _ => by intro k; show (TX11 k).1 = RX11; unfold TX11; split <;> rfl
  | 12, _ => by intro k; show (TX12 k).1 = RX12; unfold TX12; split <;> rfl
  | n + 13, h => by omega

theorem ss_putfield {p : Program} {l : Launch} {e : Env} {R : Room} {s : State} {m : MethodId} {args : Array Value} {below : List Frame} {meth : Method} {c : Code} {Q : State → Prop} {D : va_G} {A : Nat → Prop} {sx : Nat → Option Nat} {cc : ByteArray} {nL K rt d n0 s0 : Nat} {ws0 : va_W} (hX : pCx p R s m args c sx A K nL d cc) {pc len : Nat} {e0 : pE} {i : Nat} (hfi : ∀ a b, e0 = (.putfield 0, len, a, b, 2) → meth.name = "<init>" ∧ b = K) (hd : decode cc pc = .ok (.putfield i, len)) (hp : ptr K rt pc (.putfield i) len = some e0) {Y Y' : pY} {G G' : pG} {pc' : Nat} {loc loc' stk stk' : List pV} (hs : pstep Y G e0 pc loc stk = some (.inl (pc', loc', stk', Y', G'))) (hrm : Y'.1.1 ≤ n0 + R.cells ∧ Y'.1.2 ≤ s0 + R.slots) (kk : pKK p l e R s m args below meth c Q D A sx nL n0 s0 ws0 pc' loc' stk' Y' G') : pKK p l e R s m args below meth c Q D A sx nL n0 s0 ws0 pc loc stk Y G := by
  have hX0 := hX
  obtain ⟨hx, hb, hml, hown, hts, hnest, hao, hstr, hAA, hfr, hlo⟩ := hX
  intro H locs ws tys ls st cells slots hW hA hl hst hc1 hc2
  obtain ⟨hlen, hp⟩ := bif_s hp
  have hlen : len = 3 := Nat.eq_of_beq_eq_true hlen
  subst hlen
  obtain ⟨⟨ci, k⟩, hq, hp⟩ := k_op_s hp
  cases hp
  have hbd := lkF_bd _ (lkf_mem hq)
  have hci : ci < 13 := hbd.1
  have hkN : k < pfN ci := hbd.2
  obtain ⟨hwR, hP, hD, hK, hS⟩ := hW
  have main : ∀ (r q : Nat) (v : Value) (st1 : List Value) (G' : pG) (Y' : pY), (Y.2.1 r).1 = ci → ((∃ e, ws[r]? = some (q, e)) ∨ (499 ≤ r ∧ sx r = some q)) → narrow (pfY ci k) v = v → fits (pfY ci k) v = true → ((pfT ci k).2.2.2 = false ∨ ((pfT ci k).2.2.2 = true ∧ meth.name = "<init>" ∧ ci = K)) →
      (∀ (fs : List Value), fs.length = pfN ci → (∀ j, j < pfN ci → fR ws (pfk ci j) fs[j]? (G r j) (Y.2.2 r j)) → ws[r]? = some (q, .inr (ci, fs)) → wR tys Y' G' (ws.set r (q, .inr (ci, fs.set k v)))) → Y'.1 = Y.1 → sR ws sx stk' st1 → pKK p l e R s m args below meth c Q D A sx nL n0 s0 ws0 (pc + 3) loc stk' Y' G' → W p l e R s m args below meth c H locs cells slots Q (F0 m pc ls (v :: .ref q :: st1)) := by
    intro r q v st1 G2 Y2 hkd h0 hna hfi2 hfin hw2 hy2 hst1 kk2
    obtain ⟨e1, he, hcr⟩ := hwR.cell h0 (by omega)
    obtain ⟨fs, rfl, hfl, hff⟩ := cR_o hcr (by omega)
    rw [hkd] at hfl hff he
    have go : ∀ (H1 : Heap) (locs1 : List Loc), va_P D pcl (ws.set r (q, .inr (ci, fs.set k v))) H1 → va_D A (ws.set r (q, .inr (ci, fs.set k v))) → va_S A s.heap H1 locs1 → W p l e R s m args below meth c H1 locs1 cells slots Q (F0 m (pc + 3) ls st1) := fun H1 locs1 hP1 hD1 hS1 =>
      kk2 H1 locs1 _ tys ls _ cells slots ⟨hw2 fs hfl hff he, hP1, hD1, hK, hS1⟩ (hA.tr (aS.set he)) (hl.mv (aS.set he)) (hst1.mv (aS.set he)) (by rw [hy2]; exact hc1) (by rw [hy2]; exact hc2)
    rcases hfin with hf | ⟨hf, hf2, rfl⟩
    · exact va_put (C := pown ci) (T := pfT ci) (N := pfN ci) hx hb hts (pin hci) (pfY ci) (pfY_ok ci hci) (pfNm ci hci) hown hK hP hD hS r he (pcl_at ci hci) k hkN (hts _ (lkF_in hq)) (fun _ h => h) hf (pfY_ok ci hci k hkN) hna hfi2 (by omega) hd go
    · exact va_putF (C := pown ci) (T := pfT ci) (N := pfN ci) hx hb hts (pin hci) (pfY ci) (pfY_ok ci hci) (pfNm ci hci) hown hK hP hD hS r he (pcl_at ci hci) k hkN (hts _ (lkF_in hq)) (fun _ h => h) hf hf2 (pfdecl ci hci k) (pfY_ok ci hci k hkN) hna hfi2 (by omega) hd go
  have setI : ∀ (r q : Nat) (v : Value) (x : Int), (Y.2.1 r).1 = ci → fR ws (pfk ci k) (some v) x (Y.2.2 r k) → ∀ (fs : List Value), fs.length = pfN ci → (∀ j, j < pfN ci → fR ws (pfk ci j) fs[j]? (G r j) (Y.2.2 r j)) → ws[r]? = some (q, .inr (ci, fs)) → wR tys Y (pset G r k x) (ws.set r (q, .inr (ci, fs.set k v))) := by
    intro r q v x hkd hv fs hfl hff he
    refine hwR.put he (pset_o _ _ _ _) ?_
    have hc := cR_fset (tys := tys) (kl := Y.2.1 r) (g := G r) (g' := pset G r k x r) (rf := Y.2.2 r) (rf' := Y.2.2 r) (fs := fs) (k := k) (v := v) (by omega) (by rw [hkd]; exact hfl) (by rw [hkd]; exact hff) (by rw [hkd]; exact hkN) (fun j hj => by rw [pset_s, if_neg hj]) (fun _ _ => rfl) (by rw [hkd, pset_s, if_pos rfl]; exact hv)
    rw [hkd] at hc
    exact hc
  unfold pstep at hs
  dsimp only at hs
  rcases (pf3 ci hci k hkN).1 with h3 | h3 | h3 | h3
  · rw [h3] at hs
    try dsimp only at hs
    obtain ⟨r, x, stk0, rfl, hs2⟩ := k_ri_s hs
    obtain ⟨hkd, hs2⟩ := bif_s hs2
    cases pnx_s hs2
    obtain ⟨b1, st0, rfl, rfl, h0⟩ := sR_i hst
    obtain ⟨q, st1, rfl, h2, h1⟩ := sR_r h0
    have hft := pfin ci hci k hkN
    exact main r q _ _ _ _ (beq_e hkd) h2 (by rw [pfk0 h3]; rfl) (by rw [pfk0 h3]; rfl) (Or.inl (hft.resolve_left (by omega))) (setI r q _ _ (beq_e hkd) (by rw [h3]; unfold fR; rw [if_neg (by decide), if_neg (by decide)]; exact ⟨b1, rfl, rfl⟩)) rfl h1 kk
  · rw [h3] at hs
    try dsimp only at hs
    obtain ⟨r, x, stk0, rfl, hs2⟩ := k_rl_s hs
    obtain ⟨hkd, hs2⟩ := bif_s hs2
    cases pnx_s hs2
    obtain ⟨b1, st0, rfl, rfl, h0⟩ := sR_l hst
    obtain ⟨q, st1, rfl, h2, h1⟩ := sR_r h0
    have hft := pfin ci hci k hkN
    exact main r q _ _ _ _ (beq_e hkd) h2 (by rw [pfk1 h3]; rfl) (by rw [pfk1 h3]; rfl) (Or.inl (hft.resolve_left (by omega))) (setI r q _ _ (beq_e hkd) (by rw [h3]; unfold fR; rw [if_pos rfl]; exact ⟨b1, rfl, rfl⟩)) rfl h1 kk
  · rw [h3] at hs hfi
    try dsimp only at hs
    obtain ⟨r, x, stk0, rfl, hs2⟩ := k_rr_s hs
    obtain ⟨hkd0, hs2⟩ := bif_s hs2
    rw [Bool.and_eq_true] at hkd0
    have hkd := hkd0.1
    have hx8 := Nat.le_of_ble_eq_true hkd0.2
    cases pnx_s hs2
    obtain ⟨b1, st0, rfl, hb1, h0⟩ := sR_r hst
    obtain ⟨q, st1, rfl, h2, h1⟩ := sR_r h0
    obtain ⟨hi1, hi2⟩ := hfi _ _ rfl
    obtain ⟨hr1, hr2⟩ := pfref ci hci k hkN h3
    refine main r q _ _ G (prf Y r k x) (beq_e hkd) h2 (refn hr2 _).1 (refn hr2 _).2 (Or.inr ⟨hr1, hi1, hi2⟩) (fun fs hfl hff he => ?_) rfl h1 kk
    have hxx : ∃ e, ws[x]? = some (b1, e) := by
      rcases hb1 with h | h
      · exact h
      · omega
    refine hwR.putr he ?_
    have hkd2 := beq_e hkd
    have hc := cR_fset (tys := tys) (kl := Y.2.1 r) (g := G r) (g' := G r) (rf := Y.2.2 r) (rf' := fun j => if j = k then some x else Y.2.2 r j) (fs := fs) (k := k) (v := .ref b1) (by omega) (by rw [hkd2]; exact hfl) (by rw [hkd2]; exact hff) (by rw [hkd2]; exact hkN) (fun _ _ => rfl) (fun j hj => by show (if j = k then _ else _) = _; rw [if_neg hj]) (by
      rw [hkd2, h3]; unfold fR; rw [if_neg (by decide), if_pos rfl]
      intro a ha
      have ha : (if k = k then some x else Y.2.2 r k) = some a := ha
      rw [if_pos rfl] at ha
      cases ha
      obtain ⟨e9, h9⟩ := hxx
      exact ⟨b1, e9, rfl, h9⟩)
    rw [hkd2] at hc
    exact hc
  · rw [h3] at hs
    try dsimp only at hs
    obtain ⟨r, x, stk0, rfl, hs2⟩ := k_ri_s hs
    obtain ⟨hkd, hs2⟩ := bif_s hs2
    obtain ⟨h01, hs2⟩ := if_s hs2
    cases pnx_s hs2
    obtain ⟨b1, st0, rfl, rfl, h0⟩ := sR_i hst
    obtain ⟨q, st1, rfl, h2, h1⟩ := sR_r h0
    have hft := pfin ci hci k hkN
    exact main r q _ _ _ _ (beq_e hkd) h2 (by rw [pfk3 h3]; exact (booln h01).1) (by rw [pfk3 h3]; exact (booln h01).2) (Or.inl (hft.resolve_left (by omega))) (setI r q _ _ (beq_e hkd) (by rw [h3]; unfold fR; rw [if_neg (by decide), if_neg (by decide)]; exact ⟨b1, rfl, rfl⟩)) rfl h1 kk

theorem ss_iastore {p : Program} {l : Launch} {e : Env} {R : Room} {s : State} {m : MethodId} {args : Array Value} {below : List Frame} {meth : Method} {c : Code} {Q : State → Prop} {D : va_G} {A : Nat → Prop} {sx : Nat → Option Nat} {cc : ByteArray} {nL K rt d n0 s0 : Nat} {ws0 : va_W} (hX : pCx p R s m args c sx A K nL d cc) {pc len : Nat} {e0 : pE} (hd : decode cc pc = .ok (.iastore, len)) (hp : ptr K rt pc (.iastore) len = some e0) {Y Y' : pY} {G G' : pG} {pc' : Nat} {loc loc' stk stk' : List pV} (hs : pstep Y G e0 pc loc stk = some (.inl (pc', loc', stk', Y', G'))) (hrm : Y'.1.1 ≤ n0 + R.cells ∧ Y'.1.2 ≤ s0 + R.slots) (kk : pKK p l e R s m args below meth c Q D A sx nL n0 s0 ws0 pc' loc' stk' Y' G') : pKK p l e R s m args below meth c Q D A sx nL n0 s0 ws0 pc loc stk Y G := by
  have hX0 := hX
  obtain ⟨hx, hb, hml, hown, hts, hnest, hao, hstr, hAA, hfr, hlo⟩ := hX
  intro H locs ws tys ls st cells slots hW hA hl hst hc1 hc2
  obtain ⟨hlen, hp⟩ := bif_s hp
  have hlen : len = 1 := Nat.eq_of_beq_eq_true hlen
  subst hlen
  cases hp
  obtain ⟨r, i, x, stk0, rfl, hs2⟩ := k_rii_s hs
  obtain ⟨hkd, hs2⟩ := bif_s hs2
  have hkd := beq_e hkd
  obtain ⟨hbd, hs2⟩ := if_s hs2
  cases pnx_s hs2
  obtain ⟨b1, st9, rfl, rfl, h9⟩ := sR_i hst
  obtain ⟨j, st0, rfl, rfl, h0⟩ := sR_i h9
  obtain ⟨q, st1, rfl, h2, h1⟩ := sR_r h0
  obtain ⟨hwR, hP, hD, hK, hS⟩ := hW
  obtain ⟨e1, he, hcr⟩ := hwR.cell h2 (by omega)
  obtain ⟨cA, n, f, t, rfl, hn, hn2, ht, hf⟩ := cR_i hcr hkd
  refine va_iast hx hb hK hP hD hS r t he ht (i32_in hbd.1 (by omega)) hd (fun H1 locs1 hP1 hD1 hS1 => kk H1 locs1 _ tys ls _ cells slots ⟨hwR.put he (pset_o _ _ _ _) ?_, hP1, hD1, hK, hS1⟩ (hA.tr (aS.set he)) (hl.mv (aS.set he)) (h1.mv (aS.set he)) hc1 hc2)
  refine ⟨hn, hn2, Or.inl ⟨hkd, t, ht⟩, fun z hz => ?_⟩
  have hcl : j.toInt.toNat = j.toNatClampNeg := rfl
  rw [pset_s, hcl]
  by_cases hz2 : z = j.toNatClampNeg
  · subst hz2
    rw [if_pos rfl, pk_us]
  · rw [if_neg (fun q => hz2 q), pk_un hz2]
    exact hf z hz

theorem ss_lastore {p : Program} {l : Launch} {e : Env} {R : Room} {s : State} {m : MethodId} {args : Array Value} {below : List Frame} {meth : Method} {c : Code} {Q : State → Prop} {D : va_G} {A : Nat → Prop} {sx : Nat → Option Nat} {cc : ByteArray} {nL K rt d n0 s0 : Nat} {ws0 : va_W} (hX : pCx p R s m args c sx A K nL d cc) {pc len : Nat} {e0 : pE} (hd : decode cc pc = .ok (.lastore, len)) (hp : ptr K rt pc (.lastore) len = some e0) {Y Y' : pY} {G G' : pG} {pc' : Nat} {loc loc' stk stk' : List pV} (hs : pstep Y G e0 pc loc stk = some (.inl (pc', loc', stk', Y', G'))) (hrm : Y'.1.1 ≤ n0 + R.cells ∧ Y'.1.2 ≤ s0 + R.slots) (kk : pKK p l e R s m args below meth c Q D A sx nL n0 s0 ws0 pc' loc' stk' Y' G') : pKK p l e R s m args below meth c Q D A sx nL n0 s0 ws0 pc loc stk Y G := by
  have hX0 := hX
  obtain ⟨hx, hb, hml, hown, hts, hnest, hao, hstr, hAA, hfr, hlo⟩ := hX
  intro H locs ws tys ls st cells slots hW hA hl hst hc1 hc2
  obtain ⟨hlen, hp⟩ := bif_s hp
  have hlen : len = 1 := Nat.eq_of_beq_eq_true hlen
  subst hlen
  cases hp
  obtain ⟨r, i, x, stk0, rfl, hs2⟩ := k_ril_s hs
  obtain ⟨hkd, hs2⟩ := bif_s hs2
  have hkd := beq_e hkd
  obtain ⟨hbd, hs2⟩ := if_s hs2
  cases pnx_s hs2
  obtain ⟨b1, st9, rfl, rfl, h9⟩ := sR_l hst
  obtain ⟨j, st0, rfl, rfl, h0⟩ := sR_i h9
  obtain ⟨q, st1, rfl, h2, h1⟩ := sR_r h0
  obtain ⟨hwR, hP, hD, hK, hS⟩ := hW
  obtain ⟨e1, he, hcr⟩ := hwR.cell h2 (by omega)
  obtain ⟨cA, n, f, t, rfl, hn, hn2, ht, hf⟩ := cR_l hcr hkd
  refine va_last hx hb hK hP hD hS r t he ht (i32_in hbd.1 (by omega)) hd (fun H1 locs1 hP1 hD1 hS1 => kk H1 locs1 _ tys ls _ cells slots ⟨hwR.put he (pset_o _ _ _ _) ?_, hP1, hD1, hK, hS1⟩ (hA.tr (aS.set he)) (hl.mv (aS.set he)) (h1.mv (aS.set he)) hc1 hc2)
  refine ⟨hn, hn2, hkd, ⟨t, ht⟩, fun z hz => ?_⟩
  have hcl : j.toInt.toNat = j.toNatClampNeg := rfl
  rw [pset_s, hcl]
  by_cases hz2 : z = j.toNatClampNeg
  · subst hz2
    rw [if_pos rfl, pk_uLs]
  · rw [if_neg (fun q => hz2 q), pk_uLn hz2]
    exact hf z hz

theorem ss_bastore {p : Program} {l : Launch} {e : Env} {R : Room} {s : State} {m : MethodId} {args : Array Value} {below : List Frame} {meth : Method} {c : Code} {Q : State → Prop} {D : va_G} {A : Nat → Prop} {sx : Nat → Option Nat} {cc : ByteArray} {nL K rt d n0 s0 : Nat} {ws0 : va_W} (hX : pCx p R s m args c sx A K nL d cc) {pc len : Nat} {e0 : pE} (hd : decode cc pc = .ok (.bastore, len)) (hp : ptr K rt pc (.bastore) len = some e0) {Y Y' : pY} {G G' : pG} {pc' : Nat} {loc loc' stk stk' : List pV} (hs : pstep Y G e0 pc loc stk = some (.inl (pc', loc', stk', Y', G'))) (hrm : Y'.1.1 ≤ n0 + R.cells ∧ Y'.1.2 ≤ s0 + R.slots) (kk : pKK p l e R s m args below meth c Q D A sx nL n0 s0 ws0 pc' loc' stk' Y' G') : pKK p l e R s m args below meth c Q D A sx nL n0 s0 ws0 pc loc stk Y G := by
  have hX0 := hX
  obtain ⟨hx, hb, hml, hown, hts, hnest, hao, hstr, hAA, hfr, hlo⟩ := hX
  intro H locs ws tys ls st cells slots hW hA hl hst hc1 hc2
  obtain ⟨hlen, hp⟩ := bif_s hp
  have hlen : len = 1 := Nat.eq_of_beq_eq_true hlen
  subst hlen
  cases hp
  obtain ⟨r, i, x, stk0, rfl, hs2⟩ := k_rii_s hs
  obtain ⟨hkd, hs2⟩ := bif_s hs2
  have hkd := beq_e hkd
  obtain ⟨hbd, hs2⟩ := if_s hs2
  cases pnx_s hs2
  obtain ⟨b1, st9, rfl, rfl, h9⟩ := sR_i hst
  obtain ⟨j, st0, rfl, rfl, h0⟩ := sR_i h9
  obtain ⟨q, st1, rfl, h2, h1⟩ := sR_r h0
  obtain ⟨hwR, hP, hD, hK, hS⟩ := hW
  obtain ⟨e1, he, hcr⟩ := hwR.cell h2 (by omega)
  obtain ⟨cA, n, f, t, rfl, hn, hn2, ht, hf⟩ := cR_b hcr hkd
  refine va_bast hx hb hK hP hD hS r t he ht (i32_in hbd.1 (by omega)) hd (fun H1 locs1 hP1 hD1 hS1 => kk H1 locs1 _ tys ls _ cells slots ⟨hwR.put he (pset_o _ _ _ _) ?_, hP1, hD1, hK, hS1⟩ (hA.tr (aS.set he)) (hl.mv (aS.set he)) (h1.mv (aS.set he)) hc1 hc2)
  refine ⟨hn, hn2, Or.inr ⟨hkd, t, ht⟩, fun z hz => ?_⟩
  have hcl : j.toInt.toNat = j.toNatClampNeg := rfl
  rw [pset_s, hcl]
  by_cases hz2 : z = j.toNatClampNeg
  · subst hz2
    rw [if_pos rfl, pk_us]
    rw [vp_nar_byte]; simp [w8]
  · rw [if_neg (fun q => hz2 q), pk_un hz2]
    exact hf z hz

theorem ss_new {p : Program} {l : Launch} {e : Env} {R : Room} {s : State} {m : MethodId} {args : Array Value} {below : List Frame} {meth : Method} {c : Code} {Q : State → Prop} {D : va_G} {A : Nat → Prop} {sx : Nat → Option Nat} {cc : ByteArray} {nL K rt d n0 s0 : Nat} {ws0 : va_W} (hX : pCx p R s m args c sx A K nL d cc) {pc len : Nat} {e0 : pE} {i : Nat} (hd : decode cc pc = .ok (.new i, len)) (hp : ptr K rt pc (.new i) len = some e0) {Y Y' : pY} {G G' : pG} {pc' : Nat} {loc loc' stk stk' : List pV} (hs : pstep Y G e0 pc loc stk = some (.inl (pc', loc', stk', Y', G'))) (hrm : Y'.1.1 ≤ n0 + R.cells ∧ Y'.1.2 ≤ s0 + R.slots) (kk : pKK p l e R s m args below meth c Q D A sx nL n0 s0 ws0 pc' loc' stk' Y' G') : pKK p l e R s m args below meth c Q D A sx nL n0 s0 ws0 pc loc stk Y G := by
  have hX0 := hX
  obtain ⟨hx, hb, hml, hown, hts, hnest, hao, hstr, hAA, hfr, hlo⟩ := hX
  intro H locs ws tys ls st cells slots hW hA hl hst hc1 hc2
  obtain ⟨hlen, hp⟩ := bif_s hp
  have hlen : len = 3 := Nat.eq_of_beq_eq_true hlen
  subst hlen
  obtain ⟨ci, hq, hp⟩ := k_op_s hp
  cases hp
  have hci : ci < 13 := lkC_bd _ (lkf_mem hq)
  obtain ⟨hkd, hs2⟩ := bif_s hs
  have hkd := Nat.le_of_ble_eq_true hkd
  cases pnx_s hs2
  obtain ⟨hwR, hP, hD, hK, hS⟩ := hW
  have hr1 : Y.1.1 + 1 ≤ n0 + R.cells := hrm.1
  have hr2 : Y.1.2 + ((pfN ci : Nat) : Int).toNat ≤ s0 + R.slots := hrm.2
  rw [Int.toNat_natCast] at hr2
  have hlen : ws.length = Y.1.1 := hwR.1
  refine va_new (C := pown ci) (T := pfT ci) (N := pfN ci) (ci := ci) (fs := (List.range (pfN ci)).map (fun j => defaultValue (pfY ci j))) hx hb hts (pin hci) (pfY ci) (pfY_ok ci hci) hown (hts _ (lkC_in hq)) (hts _ (lk12_in (lk12_all ci hci))) (hts _ (w1_in (t := 7) lk7_eq (lk7_all ci (by omega)) (by omega))) hK hP hD hS hAA (pcl_at ci hci) (fun j hj => ?_) (by omega) (by omega) hd (fun q H1 hP1 hD1 hS1 => kk H1 locs _ tys ls _ (cells + 1) (slots + pfN ci) ⟨hwR.push hkd (tS.rf _) ?_, hP1, hD1, hK, hS1⟩ (hA.tr (aS.app _ _)) (hl.mv (aS.app _ _)) ⟨⟨q, rfl, Or.inl ⟨_, wR_last hlen⟩⟩, hst.mv (aS.app _ _)⟩ (by show Y.1.1 + 1 = n0 + (cells + 1); omega) (by show Y.1.2 + ((pfN ci : Nat) : Int).toNat = s0 + (slots + pfN ci); rw [Int.toNat_natCast]; omega))
  · show defaultValue (pfY ci j) = (List.map _ _).getD j .null
    simp [List.getD_eq_getElem?_getD, hj]
  · refine ⟨rfl, hci, by simp, fun j hj => ?_⟩
    have hg : ((List.range (pfN ci)).map (fun j => defaultValue (pfY ci j)))[j]? = some (defaultValue (pfY ci j)) := by simp [hj]
    rw [hg]
    rcases (pf3 ci hci j hj).1 with h3 | h3 | h3 | h3
    · rw [h3, pfk0 h3]; unfold fR; rw [if_neg (by decide), if_neg (by decide)]; exact ⟨0, rfl, rfl⟩
    · rw [h3, pfk1 h3]; unfold fR; rw [if_pos rfl]; exact ⟨0, rfl, rfl⟩
    · rw [h3]; unfold fR; rw [if_neg (by decide), if_pos rfl]; intro a ha; cases ha
    · rw [h3, pfk3 h3]; unfold fR; rw [if_neg (by decide), if_neg (by decide)]; exact ⟨0, rfl, rfl⟩

theorem ss_newarr_int {p : Program} {l : Launch} {e : Env} {R : Room} {s : State} {m : MethodId} {args : Array Value} {below : List Frame} {meth : Method} {c : Code} {Q : State → Prop} {D : va_G} {A : Nat → Prop} {sx : Nat → Option Nat} {cc : ByteArray} {nL K rt d n0 s0 : Nat} {ws0 : va_W} (hX : pCx p R s m args c sx A K nL d cc) {pc len : Nat} {e0 : pE} (hd : decode cc pc = .ok (.newarray .int, len)) (hp : ptr K rt pc (.newarray .int) len = some e0) {Y Y' : pY} {G G' : pG} {pc' : Nat} {loc loc' stk stk' : List pV} (hs : pstep Y G e0 pc loc stk = some (.inl (pc', loc', stk', Y', G'))) (hrm : Y'.1.1 ≤ n0 + R.cells ∧ Y'.1.2 ≤ s0 + R.slots) (kk : pKK p l e R s m args below meth c Q D A sx nL n0 s0 ws0 pc' loc' stk' Y' G') : pKK p l e R s m args below meth c Q D A sx nL n0 s0 ws0 pc loc stk Y G := by
  have hX0 := hX
  obtain ⟨hx, hb, hml, hown, hts, hnest, hao, hstr, hAA, hfr, hlo⟩ := hX
  intro H locs ws tys ls st cells slots hW hA hl hst hc1 hc2
  obtain ⟨hlen, hp⟩ := bif_s hp
  have hlen : len = 2 := Nat.eq_of_beq_eq_true hlen
  subst hlen
  cases hp
  obtain ⟨x, stk0, rfl, hs2⟩ := k_i_s hs
  obtain ⟨hbd, hs2⟩ := if_s hs2
  cases pnx_s hs2
  obtain ⟨b1, st1, rfl, rfl, h1⟩ := sR_i hst
  obtain ⟨hwR, hP, hD, hK, hS⟩ := hW
  have hr1 : Y.1.1 + 1 ≤ n0 + R.cells := hrm.1
  have hr2 : Y.1.2 + b1.toInt.toNat ≤ s0 + R.slots := hrm.2
  have hlen : ws.length = Y.1.1 := hwR.1
  have hby : b1.toInt.toNat * componentBytes .int ≤ 536870912 := by
    have h8 : componentBytes .int ≤ 8 := by decide
    have h9 := Nat.mul_le_mul (show b1.toInt.toNat ≤ 100000 by omega) h8
    omega
  refine va_newa (atype := .int) (ty := .int) (a0 := (b1.toInt.toNat, .inl (fun _ => 0))) hx hb (hts _ jw_arint) rfl hK hP hD hS hAA (fun _ => rfl) (fun q => by have := Int32.lt_iff_toInt_lt.mp q; rw [show (0 : Int32).toInt = 0 from rfl] at this; omega) (i32_cl) hby (by omega) (by omega) hd (fun q cA H1 hK1 hP1 hD1 hS1 => kk H1 locs _ _ ls _ (cells + 1) (slots + b1.toInt.toNat) ⟨hwR.push hbd.1 (tS.app _ _) ?_, hP1, hD1, hK1, hS1⟩ (hA.tr (aS.app _ _)) (hl.mv (aS.app _ _)) ⟨⟨q, rfl, Or.inl ⟨_, wR_last hlen⟩⟩, h1.mv (aS.app _ _)⟩ (by show Y.1.1 + 1 = n0 + (cells + 1); omega) (by show Y.1.2 + b1.toInt.toNat = s0 + (slots + b1.toInt.toNat); omega))
  · exact ⟨by show ((b1.toInt.toNat : Nat) : Int) = b1.toInt; omega, by omega, Or.inl ⟨rfl, tys.length, by simp⟩, fun _ _ => rfl⟩

theorem ss_newarr_long {p : Program} {l : Launch} {e : Env} {R : Room} {s : State} {m : MethodId} {args : Array Value} {below : List Frame} {meth : Method} {c : Code} {Q : State → Prop} {D : va_G} {A : Nat → Prop} {sx : Nat → Option Nat} {cc : ByteArray} {nL K rt d n0 s0 : Nat} {ws0 : va_W} (hX : pCx p R s m args c sx A K nL d cc) {pc len : Nat} {e0 : pE} (hd : decode cc pc = .ok (.newarray .long, len)) (hp : ptr K rt pc (.newarray .long) len = some e0) {Y Y' : pY} {G G' : pG} {pc' : Nat} {loc loc' stk stk' : List pV} (hs : pstep Y G e0 pc loc stk = some (.inl (pc', loc', stk', Y', G'))) (hrm : Y'.1.1 ≤ n0 + R.cells ∧ Y'.1.2 ≤ s0 + R.slots) (kk : pKK p l e R s m args below meth c Q D A sx nL n0 s0 ws0 pc' loc' stk' Y' G') : pKK p l e R s m args below meth c Q D A sx nL n0 s0 ws0 pc loc stk Y G := by
  have hX0 := hX
  obtain ⟨hx, hb, hml, hown, hts, hnest, hao, hstr, hAA, hfr, hlo⟩ := hX
  intro H locs ws tys ls st cells slots hW hA hl hst hc1 hc2
  obtain ⟨hlen, hp⟩ := bif_s hp
  have hlen : len = 2 := Nat.eq_of_beq_eq_true hlen
  subst hlen
  cases hp
  obtain ⟨x, stk0, rfl, hs2⟩ := k_i_s hs
  obtain ⟨hbd, hs2⟩ := if_s hs2
  cases pnx_s hs2
  obtain ⟨b1, st1, rfl, rfl, h1⟩ := sR_i hst
  obtain ⟨hwR, hP, hD, hK, hS⟩ := hW
  have hr1 : Y.1.1 + 1 ≤ n0 + R.cells := hrm.1
  have hr2 : Y.1.2 + b1.toInt.toNat ≤ s0 + R.slots := hrm.2
  have hlen : ws.length = Y.1.1 := hwR.1
  have hby : b1.toInt.toNat * componentBytes .long ≤ 536870912 := by
    have h8 : componentBytes .long ≤ 8 := by decide
    have h9 := Nat.mul_le_mul (show b1.toInt.toNat ≤ 100000 by omega) h8
    omega
  refine va_newa (atype := .long) (ty := .long) (a0 := (b1.toInt.toNat, .inr (.inl (fun _ => 0)))) hx hb (hts _ jw_arlong) rfl hK hP hD hS hAA (fun _ => rfl) (fun q => by have := Int32.lt_iff_toInt_lt.mp q; rw [show (0 : Int32).toInt = 0 from rfl] at this; omega) (i32_cl) hby (by omega) (by omega) hd (fun q cA H1 hK1 hP1 hD1 hS1 => kk H1 locs _ _ ls _ (cells + 1) (slots + b1.toInt.toNat) ⟨hwR.push hbd.1 (tS.app _ _) ?_, hP1, hD1, hK1, hS1⟩ (hA.tr (aS.app _ _)) (hl.mv (aS.app _ _)) ⟨⟨q, rfl, Or.inl ⟨_, wR_last hlen⟩⟩, h1.mv (aS.app _ _)⟩ (by show Y.1.1 + 1 = n0 + (cells + 1); omega) (by show Y.1.2 + b1.toInt.toNat = s0 + (slots + b1.toInt.toNat); omega))
  · exact ⟨by show ((b1.toInt.toNat : Nat) : Int) = b1.toInt; omega, by omega, rfl, ⟨tys.length, by simp⟩, fun _ _ => rfl⟩

theorem ss_newarr_byte {p : Program} {l : Launch} {e : Env} {R : Room} {s : State} {m : MethodId} {args : Array Value} {below : List Frame} {meth : Method} {c : Code} {Q : State → Prop} {D : va_G} {A : Nat → Prop} {sx : Nat → Option Nat} {cc : ByteArray} {nL K rt d n0 s0 : Nat} {ws0 : va_W} (hX : pCx p R s m args c sx A K nL d cc) {pc len : Nat} {e0 : pE} (hd : decode cc pc = .ok (.newarray .byte, len)) (hp : ptr K rt pc (.newarray .byte) len = some e0) {Y Y' : pY} {G G' : pG} {pc' : Nat} {loc loc' stk stk' : List pV} (hs : pstep Y G e0 pc loc stk = some (.inl (pc', loc', stk', Y', G'))) (hrm : Y'.1.1 ≤ n0 + R.cells ∧ Y'.1.2 ≤ s0 + R.slots) (kk : pKK p l e R s m args below meth c Q D A sx nL n0 s0 ws0 pc' loc' stk' Y' G') : pKK p l e R s m args below meth c Q D A sx nL n0 s0 ws0 pc loc stk Y G := by
  have hX0 := hX
  obtain ⟨hx, hb, hml, hown, hts, hnest, hao, hstr, hAA, hfr, hlo⟩ := hX
  intro H locs ws tys ls st cells slots hW hA hl hst hc1 hc2
  obtain ⟨hlen, hp⟩ := bif_s hp
  have hlen : len = 2 := Nat.eq_of_beq_eq_true hlen
  subst hlen
  cases hp
  obtain ⟨x, stk0, rfl, hs2⟩ := k_i_s hs
  obtain ⟨hbd, hs2⟩ := if_s hs2
  cases pnx_s hs2
  obtain ⟨b1, st1, rfl, rfl, h1⟩ := sR_i hst
  obtain ⟨hwR, hP, hD, hK, hS⟩ := hW
  have hr1 : Y.1.1 + 1 ≤ n0 + R.cells := hrm.1
  have hr2 : Y.1.2 + b1.toInt.toNat ≤ s0 + R.slots := hrm.2
  have hlen : ws.length = Y.1.1 := hwR.1
  have hby : b1.toInt.toNat * componentBytes .byte ≤ 536870912 := by
    have h8 : componentBytes .byte ≤ 8 := by decide
    have h9 := Nat.mul_le_mul (show b1.toInt.toNat ≤ 100000 by omega) h8
    omega
  refine va_newa (atype := .byte) (ty := .byte) (a0 := (b1.toInt.toNat, .inl (fun _ => 0))) hx hb (hts _ jw_arbyte) rfl hK hP hD hS hAA (fun _ => rfl) (fun q => by have := Int32.lt_iff_toInt_lt.mp q; rw [show (0 : Int32).toInt = 0 from rfl] at this; omega) (i32_cl) hby (by omega) (by omega) hd (fun q cA H1 hK1 hP1 hD1 hS1 => kk H1 locs _ _ ls _ (cells + 1) (slots + b1.toInt.toNat) ⟨hwR.push hbd.1 (tS.app _ _) ?_, hP1, hD1, hK1, hS1⟩ (hA.tr (aS.app _ _)) (hl.mv (aS.app _ _)) ⟨⟨q, rfl, Or.inl ⟨_, wR_last hlen⟩⟩, h1.mv (aS.app _ _)⟩ (by show Y.1.1 + 1 = n0 + (cells + 1); omega) (by show Y.1.2 + b1.toInt.toNat = s0 + (slots + b1.toInt.toNat); omega))
  · exact ⟨by show ((b1.toInt.toNat : Nat) : Int) = b1.toInt; omega, by omega, Or.inr ⟨rfl, tys.length, by simp⟩, fun _ _ => rfl⟩
end
section
theorem ss_objinit {p : Program} {l : Launch} {e : Env} {R : Room} {s : State} {m : MethodId} {args : Array Value} {below : List Frame} {meth : Method} {c : Code} {Q : State → Prop} {D : va_G} {A : Nat → Prop} {sx : Nat → Option Nat} {cc : ByteArray} {nL K rt d n0 s0 : Nat} {ws0 : va_W} (hX : pCx p R s m args c sx A K nL d cc) {pc len : Nat} {e0 : pE} {Y Y' : pY} {G G' : pG} {pc' : Nat} {loc loc' stk stk' : List pV} {i : Nat} (hd : decode cc pc = .ok (.invokespecial i, 3)) (hj : lkf lkJ K i = some 0) (he0 : e0 = (.pop, 3, 0, 0, 0)) (hs : pstep Y G e0 pc loc stk = some (.inl (pc', loc', stk', Y', G'))) (hrm : Y'.1.1 ≤ n0 + R.cells ∧ Y'.1.2 ≤ s0 + R.slots) (kk : pKK p l e R s m args below meth c Q D A sx nL n0 s0 ws0 pc' loc' stk' Y' G') : pKK p l e R s m args below meth c Q D A sx nL n0 s0 ws0 pc loc stk Y G := by
  have hX0 := hX
  obtain ⟨hx, hb, hml, hown, hts, hnest, hao, hstr, hAA, hfr, hlo⟩ := hX
  intro H locs ws tys ls st cells slots hW hA hl hst hc1 hc2
  subst he0
  obtain ⟨x, stk0, rfl, hs2⟩ := k_r_s hs
  obtain ⟨h8, hs2⟩ := bif_s hs2
  have h8 := Nat.le_of_ble_eq_true h8
  cases pnx_s hs2
  obtain ⟨q, st1, rfl, h0, h1⟩ := sR_r hst
  have hcat := h1.cat
  exact W.objInit hx hb hown (hts _ (lkJ_in hj)) (hts _ jw_oi) (hts _ jw_oc) rfl (by rw [hml]; exact hl.1) rfl hd (by omega) (by
    have h9 := lv_room (m := m) (pc := pc) (ls := ls) (rest := .ref q :: st1) (st := st1) (by omega)
    have : 2 * (F0 m pc ls (.ref q :: st1)).monitorRoom + (st1.map fun v => v.category).sum ≤ 8 := h9
    omega) (kk H locs ws tys ls _ cells slots hW hA hl h1 hc1 hc2)

theorem ss_mmax {p : Program} {l : Launch} {e : Env} {R : Room} {s : State} {m : MethodId} {args : Array Value} {below : List Frame} {meth : Method} {c : Code} {Q : State → Prop} {D : va_G} {A : Nat → Prop} {sx : Nat → Option Nat} {cc : ByteArray} {nL K rt d n0 s0 : Nat} {ws0 : va_W} (hX : pCx p R s m args c sx A K nL d cc) {pc len : Nat} {e0 : pE} {Y Y' : pY} {G G' : pG} {pc' : Nat} {loc loc' stk stk' : List pV} {i : Nat} (hd : decode cc pc = .ok (.invokestatic i, 3)) (hj : lkf lkJ K i = some 1) (he0 : e0 = (.f2d, 3, 0, 0, 0)) (hs : pstep Y G e0 pc loc stk = some (.inl (pc', loc', stk', Y', G'))) (hrm : Y'.1.1 ≤ n0 + R.cells ∧ Y'.1.2 ≤ s0 + R.slots) (kk : pKK p l e R s m args below meth c Q D A sx nL n0 s0 ws0 pc' loc' stk' Y' G') : pKK p l e R s m args below meth c Q D A sx nL n0 s0 ws0 pc loc stk Y G := by
  have hX0 := hX
  obtain ⟨hx, hb, hml, hown, hts, hnest, hao, hstr, hAA, hfr, hlo⟩ := hX
  intro H locs ws tys ls st cells slots hW hA hl hst hc1 hc2
  subst he0
  obtain ⟨x, y, stk0, rfl, hs2⟩ := k_ii_s hs
  obtain ⟨h8, hs2⟩ := bif_s hs2
  have h8 := Nat.le_of_ble_eq_true h8
  cases pnx_s hs2
  obtain ⟨b1, st0, rfl, rfl, h0⟩ := sR_i hst
  obtain ⟨a1, st1, rfl, rfl, h1⟩ := sR_i h0
  have hcat := h1.cat
  have hr1 : cells ≤ R.cells := by have := hrm.1; omega
  have hr2 : slots ≤ R.slots := by have := hrm.2; omega
  exact va_mmax hx hb (by rw [hml]; exact hl.1.symm) hown (hts _ (lkJ_in hj)) (hts _ jw_maxs) (hts _ jw_mi) (hts _ jw_maxc) (by omega) (by omega) hr1 hr2 hd (kk H locs ws tys ls _ cells slots hW hA hl ⟨⟨_, rfl, mx_r _ _⟩, h1⟩ hc1 hc2)

theorem ss_mmin {p : Program} {l : Launch} {e : Env} {R : Room} {s : State} {m : MethodId} {args : Array Value} {below : List Frame} {meth : Method} {c : Code} {Q : State → Prop} {D : va_G} {A : Nat → Prop} {sx : Nat → Option Nat} {cc : ByteArray} {nL K rt d n0 s0 : Nat} {ws0 : va_W} (hX : pCx p R s m args c sx A K nL d cc) {pc len : Nat} {e0 : pE} {Y Y' : pY} {G G' : pG} {pc' : Nat} {loc loc' stk stk' : List pV} {i : Nat} (hd : decode cc pc = .ok (.invokestatic i, 3)) (hj : lkf lkJ K i = some 2) (he0 : e0 = (.f2i, 3, 0, 0, 0)) (hs : pstep Y G e0 pc loc stk = some (.inl (pc', loc', stk', Y', G'))) (hrm : Y'.1.1 ≤ n0 + R.cells ∧ Y'.1.2 ≤ s0 + R.slots) (kk : pKK p l e R s m args below meth c Q D A sx nL n0 s0 ws0 pc' loc' stk' Y' G') : pKK p l e R s m args below meth c Q D A sx nL n0 s0 ws0 pc loc stk Y G := by
  have hX0 := hX
  obtain ⟨hx, hb, hml, hown, hts, hnest, hao, hstr, hAA, hfr, hlo⟩ := hX
  intro H locs ws tys ls st cells slots hW hA hl hst hc1 hc2
  subst he0
  obtain ⟨x, y, stk0, rfl, hs2⟩ := k_ii_s hs
  obtain ⟨h8, hs2⟩ := bif_s hs2
  have h8 := Nat.le_of_ble_eq_true h8
  cases pnx_s hs2
  obtain ⟨b1, st0, rfl, rfl, h0⟩ := sR_i hst
  obtain ⟨a1, st1, rfl, rfl, h1⟩ := sR_i h0
  have hcat := h1.cat
  have hr1 : cells ≤ R.cells := by have := hrm.1; omega
  have hr2 : slots ≤ R.slots := by have := hrm.2; omega
  exact va_mmin hx hb (by rw [hml]; exact hl.1.symm) hown (hts _ (lkJ_in hj)) (hts _ jw_mins) (hts _ jw_mi) (hts _ jw_minc) (by omega) (by omega) hr1 hr2 hd (kk H locs ws tys ls _ cells slots hW hA hl ⟨⟨_, rfl, mn_r _ _⟩, h1⟩ hc1 hc2)

theorem ss_mmaxl {p : Program} {l : Launch} {e : Env} {R : Room} {s : State} {m : MethodId} {args : Array Value} {below : List Frame} {meth : Method} {c : Code} {Q : State → Prop} {D : va_G} {A : Nat → Prop} {sx : Nat → Option Nat} {cc : ByteArray} {nL K rt d n0 s0 : Nat} {ws0 : va_W} (hX : pCx p R s m args c sx A K nL d cc) {pc len : Nat} {e0 : pE} {Y Y' : pY} {G G' : pG} {pc' : Nat} {loc loc' stk stk' : List pV} {i : Nat} (hd : decode cc pc = .ok (.invokestatic i, 3)) (hj : lkf lkJ K i = some 5) (he0 : e0 = (.d2i, 3, 0, 0, 0)) (hs : pstep Y G e0 pc loc stk = some (.inl (pc', loc', stk', Y', G'))) (hrm : Y'.1.1 ≤ n0 + R.cells ∧ Y'.1.2 ≤ s0 + R.slots) (kk : pKK p l e R s m args below meth c Q D A sx nL n0 s0 ws0 pc' loc' stk' Y' G') : pKK p l e R s m args below meth c Q D A sx nL n0 s0 ws0 pc loc stk Y G := by
  have hX0 := hX
  obtain ⟨hx, hb, hml, hown, hts, hnest, hao, hstr, hAA, hfr, hlo⟩ := hX
  intro H locs ws tys ls st cells slots hW hA hl hst hc1 hc2
  subst he0
  obtain ⟨x, y, stk0, rfl, hs2⟩ := k_ll_s hs
  obtain ⟨h8, hs2⟩ := bif_s hs2
  have h8 := Nat.le_of_ble_eq_true h8
  cases pnx_s hs2
  obtain ⟨b1, st0, rfl, rfl, h0⟩ := sR_l hst
  obtain ⟨a1, st1, rfl, rfl, h1⟩ := sR_l h0
  have hcat := h1.cat
  have hr1 : cells ≤ R.cells := by have := hrm.1; omega
  have hr2 : slots ≤ R.slots := by have := hrm.2; omega
  exact va_mmax_long hx hb (by rw [hml]; exact hl.1.symm) hown (hts _ (lkJ_in hj)) (hts _ jw_max_longs) (hts _ jw_mi) (hts _ jw_max_longc) (by omega) (by omega) hr1 hr2 hd (kk H locs ws tys ls _ cells slots hW hA hl ⟨⟨_, rfl, mxl_r _ _⟩, h1⟩ hc1 hc2)

theorem ss_mabs {p : Program} {l : Launch} {e : Env} {R : Room} {s : State} {m : MethodId} {args : Array Value} {below : List Frame} {meth : Method} {c : Code} {Q : State → Prop} {D : va_G} {A : Nat → Prop} {sx : Nat → Option Nat} {cc : ByteArray} {nL K rt d n0 s0 : Nat} {ws0 : va_W} (hX : pCx p R s m args c sx A K nL d cc) {pc len : Nat} {e0 : pE} {Y Y' : pY} {G G' : pG} {pc' : Nat} {loc loc' stk stk' : List pV} {i : Nat} (hd : decode cc pc = .ok (.invokestatic i, 3)) (hj : lkf lkJ K i = some 3) (he0 : e0 = (.f2l, 3, 0, 0, 0)) (hs : pstep Y G e0 pc loc stk = some (.inl (pc', loc', stk', Y', G'))) (hrm : Y'.1.1 ≤ n0 + R.cells ∧ Y'.1.2 ≤ s0 + R.slots) (kk : pKK p l e R s m args below meth c Q D A sx nL n0 s0 ws0 pc' loc' stk' Y' G') : pKK p l e R s m args below meth c Q D A sx nL n0 s0 ws0 pc loc stk Y G := by
  have hX0 := hX
  obtain ⟨hx, hb, hml, hown, hts, hnest, hao, hstr, hAA, hfr, hlo⟩ := hX
  intro H locs ws tys ls st cells slots hW hA hl hst hc1 hc2
  subst he0
  obtain ⟨x, stk0, rfl, hs2⟩ := k_i_s hs
  obtain ⟨h8, hs2⟩ := bif_s hs2
  have h8 := Nat.le_of_ble_eq_true h8
  cases pnx_s hs2
  obtain ⟨a1, st1, rfl, rfl, h1⟩ := sR_i hst
  have hcat := h1.cat
  have hr1 : cells ≤ R.cells := by have := hrm.1; omega
  have hr2 : slots ≤ R.slots := by have := hrm.2; omega
  exact va_mabs hx hb (by rw [hml]; exact hl.1.symm) hown (hts _ (lkJ_in hj)) (hts _ jw_abss) (hts _ jw_mi) (hts _ jw_absc) (by omega) (by omega) hr1 hr2 hd (kk H locs ws tys ls _ cells slots hW hA hl ⟨⟨_, rfl, ab_r _⟩, h1⟩ hc1 hc2)

theorem ss_mabsl {p : Program} {l : Launch} {e : Env} {R : Room} {s : State} {m : MethodId} {args : Array Value} {below : List Frame} {meth : Method} {c : Code} {Q : State → Prop} {D : va_G} {A : Nat → Prop} {sx : Nat → Option Nat} {cc : ByteArray} {nL K rt d n0 s0 : Nat} {ws0 : va_W} (hX : pCx p R s m args c sx A K nL d cc) {pc len : Nat} {e0 : pE} {Y Y' : pY} {G G' : pG} {pc' : Nat} {loc loc' stk stk' : List pV} {i : Nat} (hd : decode cc pc = .ok (.invokestatic i, 3)) (hj : lkf lkJ K i = some 4) (he0 : e0 = (.d2f, 3, 0, 0, 0)) (hs : pstep Y G e0 pc loc stk = some (.inl (pc', loc', stk', Y', G'))) (hrm : Y'.1.1 ≤ n0 + R.cells ∧ Y'.1.2 ≤ s0 + R.slots) (kk : pKK p l e R s m args below meth c Q D A sx nL n0 s0 ws0 pc' loc' stk' Y' G') : pKK p l e R s m args below meth c Q D A sx nL n0 s0 ws0 pc loc stk Y G := by
  have hX0 := hX
  obtain ⟨hx, hb, hml, hown, hts, hnest, hao, hstr, hAA, hfr, hlo⟩ := hX
  intro H locs ws tys ls st cells slots hW hA hl hst hc1 hc2
  subst he0
  obtain ⟨x, stk0, rfl, hs2⟩ := k_l_s hs
  obtain ⟨h8, hs2⟩ := bif_s hs2
  have h8 := Nat.le_of_ble_eq_true h8
  cases pnx_s hs2
  obtain ⟨a1, st1, rfl, rfl, h1⟩ := sR_l hst
  have hcat := h1.cat
  have hr1 : cells ≤ R.cells := by have := hrm.1; omega
  have hr2 : slots ≤ R.slots := by have := hrm.2; omega
  exact va_mabs_long hx hb (by rw [hml]; exact hl.1.symm) hown (hts _ (lkJ_in hj)) (hts _ jw_abs_longs) (hts _ jw_mi) (hts _ jw_abs_longc) (by omega) (by omega) hr1 hr2 hd (kk H locs ws tys ls _ cells slots hW hA hl ⟨⟨_, rfl, abl_r _⟩, h1⟩ hc1 hc2)

theorem nfw : nativeFrameWords "java/lang/System" "arraycopy" 5 ≤ 50 := by decide
theorem pcpy_o (G : pG) (a0 sp a dp n : Nat) : ∀ j, j ≠ a → pcpy G a0 sp a dp n j = G j := fun j hj => by unfold pcpy; rw [if_neg hj]
theorem pcpy_s (G : pG) (a0 sp a dp n b : Nat) : pcpy G a0 sp a dp n a b = if dp ≤ b ∧ b < dp + n then G a0 (sp + (b - dp)) else G a b := by unfold pcpy; rw [if_pos rfl]

theorem ss_arraycopy {p : Program} {l : Launch} {e : Env} {R : Room} {s : State} {m : MethodId} {args : Array Value} {below : List Frame} {meth : Method} {c : Code} {Q : State → Prop} {D : va_G} {A : Nat → Prop} {sx : Nat → Option Nat} {cc : ByteArray} {nL K rt d n0 s0 : Nat} {ws0 : va_W} (hX : pCx p R s m args c sx A K nL d cc) {pc len : Nat} {e0 : pE} {Y Y' : pY} {G G' : pG} {pc' : Nat} {loc loc' stk stk' : List pV} {i : Nat} (hd : decode cc pc = .ok (.invokestatic i, 3)) (hj : lkf lkJ K i = some 6) (he0 : e0 = (.d2l, 3, 0, 0, 0)) (hs : pstep Y G e0 pc loc stk = some (.inl (pc', loc', stk', Y', G'))) (hrm : Y'.1.1 ≤ n0 + R.cells ∧ Y'.1.2 ≤ s0 + R.slots) (kk : pKK p l e R s m args below meth c Q D A sx nL n0 s0 ws0 pc' loc' stk' Y' G') : pKK p l e R s m args below meth c Q D A sx nL n0 s0 ws0 pc loc stk Y G := by
  have hX0 := hX
  obtain ⟨hx, hb, hml, hown, hts, hnest, hao, hstr, hAA, hfr, hlo⟩ := hX
  intro H locs ws tys ls st cells slots hW hA hl hst hc1 hc2
  subst he0
  obtain ⟨a0, sp, a, dp, n, stk0, rfl, hs2⟩ := k_cp_s hs
  obtain ⟨h8, hs2⟩ := bif_s hs2
  have h8 := Nat.le_of_ble_eq_true h8
  obtain ⟨hk, hs2⟩ := bif_s hs2
  obtain ⟨hbd, hs2⟩ := if_s hs2
  cases pnx_s hs2
  obtain ⟨n1, st5, rfl, rfl, g5⟩ := sR_i hst
  obtain ⟨d1, st4, rfl, rfl, g4⟩ := sR_i g5
  obtain ⟨q1, st3, rfl, ha1, g3⟩ := sR_r g4
  obtain ⟨s1, st2, rfl, rfl, g2⟩ := sR_i g3
  obtain ⟨q0, st1, rfl, ha0, h1⟩ := sR_r g2
  have hcat := h1.cat
  obtain ⟨hwR, hP, hD, hK, hS⟩ := hW
  have hz : (0 : Int32).toInt = 0 := rfl
  have n0' : ¬ n1 < 0 := fun q => by have := Int32.lt_iff_toInt_lt.mp q; omega
  have d0' : ¬ d1 < 0 := fun q => by have := Int32.lt_iff_toInt_lt.mp q; omega
  have s0' : ¬ s1 < 0 := fun q => by have := Int32.lt_iff_toInt_lt.mp q; omega
  have hnf := nfw
  simp only [Bool.or_eq_true, Bool.and_eq_true] at hk
  rcases hk with ⟨hk0, hk1⟩ | ⟨hk0, hk1⟩
  · have hk0' := beq_e hk0
    have hk1' := beq_e hk1
    obtain ⟨e0', he0, hcr0⟩ := hwR.cell ha0 (by omega)
    obtain ⟨e1', he1, hcr1⟩ := hwR.cell ha1 (by omega)
    obtain ⟨c0, m0, f, t0, rfl, hn0, hm0, ht0, hf0⟩ := cR_i hcr0 hk0'
    obtain ⟨c1, m1, g, t1, rfl, hn1, hm1, ht1, hf1⟩ := cR_i hcr1 hk1'
    refine va_copyi hx hb (by rw [hml]; exact hl.1.symm) hown (hts _ (lkJ_in hj)) (hts _ jw_an) (hts _ jw_as) (hts _ jw_si) hK hP hD hS a0 a t0 t1 he0 he1 ht0 ht1 rfl s0' d0' n0' (by rw [i32_cl, i32_cl]; omega) (by rw [i32_cl, i32_cl]; omega) (fun _ _ => rfl) (by omega) (by omega) hd (fun H1 locs1 hP1 hD1 hS1 => kk H1 locs1 _ tys ls _ cells slots ⟨hwR.put he1 (pcpy_o _ _ _ _ _ _) ?_, hP1, hD1, hK, hS1⟩ (hA.tr (aS.set he1)) (hl.mv (aS.set he1)) (h1.mv (aS.set he1)) hc1 hc2)
    refine ⟨hn1, hm1, Or.inl ⟨beq_e hk1, t1, ht1⟩, fun z hz3 => ?_⟩
    rw [pcpy_s]
    unfold va_cpy
    by_cases hz2 : d1.toInt.toNat ≤ z ∧ z < d1.toInt.toNat + n1.toInt.toNat
    · rw [if_pos hz2, if_pos (show d1.toNatClampNeg ≤ z ∧ z < d1.toNatClampNeg + n1.toNatClampNeg from hz2)]
      exact hf0 _ (by rw [i32_cl, i32_cl]; omega)
    · rw [if_neg hz2, if_neg (show ¬ (d1.toNatClampNeg ≤ z ∧ z < d1.toNatClampNeg + n1.toNatClampNeg) from hz2)]
      exact hf1 z hz3
  · have hk0' := beq_e hk0
    have hk1' := beq_e hk1
    obtain ⟨e0', he0, hcr0⟩ := hwR.cell ha0 (by omega)
    obtain ⟨e1', he1, hcr1⟩ := hwR.cell ha1 (by omega)
    obtain ⟨c0, m0, f, t0, rfl, hn0, hm0, ht0, hf0⟩ := cR_l hcr0 hk0'
    obtain ⟨c1, m1, g, t1, rfl, hn1, hm1, ht1, hf1⟩ := cR_l hcr1 hk1'
    refine va_copyl hx hb (by rw [hml]; exact hl.1.symm) hown (hts _ (lkJ_in hj)) (hts _ jw_an) (hts _ jw_as) (hts _ jw_si) hK hP hD hS a0 a t0 t1 he0 he1 ht0 ht1 rfl s0' d0' n0' (by rw [i32_cl, i32_cl]; omega) (by rw [i32_cl, i32_cl]; omega) (fun _ _ => rfl) (by omega) (by omega) hd (fun H1 locs1 hP1 hD1 hS1 => kk H1 locs1 _ tys ls _ cells slots ⟨hwR.put he1 (pcpy_o _ _ _ _ _ _) ?_, hP1, hD1, hK, hS1⟩ (hA.tr (aS.set he1)) (hl.mv (aS.set he1)) (h1.mv (aS.set he1)) hc1 hc2)
    refine ⟨hn1, hm1, beq_e hk1, ⟨t1, ht1⟩, fun z hz3 => ?_⟩
    rw [pcpy_s]
    unfold va_cpy
    by_cases hz2 : d1.toInt.toNat ≤ z ∧ z < d1.toInt.toNat + n1.toInt.toNat
    · rw [if_pos hz2, if_pos (show d1.toNatClampNeg ≤ z ∧ z < d1.toNatClampNeg + n1.toNatClampNeg from hz2)]
      exact hf0 _ (by rw [i32_cl, i32_cl]; omega)
    · rw [if_neg hz2, if_neg (show ¬ (d1.toNatClampNeg ≤ z ∧ z < d1.toNatClampNeg + n1.toNatClampNeg) from hz2)]
      exact hf1 z hz3

/-- rows of a table more -/
theorem wR.push2 {tys tys' : List (ClassId × FieldType)} {Y : pY} {G : pG} {ws : va_W} {N Kk q : Nat} {r : Nat → Nat} {cA cy : ClassId} (h : wR tys Y G ws) (hn : Y.1.1 + N ≤ 497) (hN : N ≤ 100000) (hK : Kk ≤ 100000) (ht : tS tys tys') (hA : ∃ t : Nat, tys'[t]? = some (cA, FieldType.array FieldType.int)) (hy : ∃ t : Nat, tys'[t]? = some (cy, FieldType.int)) : wR tys' (pmn2 Y N Kk) (pz2 G Y.1.1 N) (ws ++ ((q, .inl (cA, N, .inr (.inr (.inr (.inr (fun i => if i < N then some (r i) else none)))))) :: (List.range N).map (fun i => (r i, .inl (cy, Kk, .inl (fun _ => 0)))))) := by
  obtain ⟨h1, h2, h3, h4⟩ := h
  have hget : ∀ j, j < N → (ws ++ ((q, .inl (cA, N, .inr (.inr (.inr (.inr (fun i => if i < N then some (r i) else none)))))) :: (List.range N).map (fun i => ((r i, .inl (cy, Kk, .inl (fun _ => 0))) : Nat × va_E))))[Y.1.1 + 1 + j]? = some (r j, .inl (cy, Kk, .inl (fun _ => 0))) := fun j hj => by
    rw [List.getElem?_append_right (by omega), show Y.1.1 + 1 + j - ws.length = j + 1 by omega, List.getElem?_cons_succ, List.getElem?_map, List.getElem?_range hj]
    rfl
  refine ⟨by rw [List.length_append, List.length_cons, List.length_map, List.length_range, h1]; show Y.1.1 + (N + 1) = Y.1.1 + 1 + N; omega, by show Y.1.1 + 1 + N ≤ 498; omega, fun i hi => ?_, fun i x hx => ?_⟩
  · have hi : Y.1.1 + 1 + N ≤ i := hi
    show (if i < Y.1.1 then Y.2.1 i else if i = Y.1.1 then (103, (N : Int)) else if i < Y.1.1 + 1 + N then (100, (Kk : Int)) else Y.2.1 i).1 = 999
    rw [if_neg (by omega), if_neg (by omega), if_neg (by omega)]
    exact h3 i (by omega)
  · show cR _ tys' (if i < Y.1.1 then Y.2.1 i else if i = Y.1.1 then (103, (N : Int)) else if i < Y.1.1 + 1 + N then (100, (Kk : Int)) else Y.2.1 i) (if Y.1.1 ≤ i ∧ i < Y.1.1 + 1 + N then (fun _ => 0) else G i) (if i = Y.1.1 then (fun j => if j < N then some (Y.1.1 + 1 + j) else none) else if Y.1.1 < i ∧ i < Y.1.1 + 1 + N then (fun _ => none) else Y.2.2 i) x.2
    by_cases hi : i < ws.length
    · rw [List.getElem?_append_left hi] at hx
      rw [if_pos (by omega), if_neg (by omega), if_neg (by omega), if_neg (by omega)]
      exact (h4 i x hx).mv (aS.app _ _) ht
    · by_cases hi2 : i = Y.1.1
      · rw [List.getElem?_append_right (by omega), show i - ws.length = 0 by omega] at hx
        cases hx
        rw [if_neg (by omega), if_pos hi2, if_pos hi2]
        refine ⟨rfl, hN, rfl, hA, fun j hj a ha => ?_⟩
        have ha : (if j < N then some (Y.1.1 + 1 + j) else none) = some a := ha
        rw [if_pos hj] at ha
        cases ha
        exact ⟨r j, _, if_pos hj, hget j hj⟩
      · have hlt := (List.getElem?_eq_some_iff.mp hx).1
        rw [List.length_append, List.length_cons, List.length_map, List.length_range] at hlt
        have hj := hget (i - (Y.1.1 + 1)) (by omega)
        rw [show Y.1.1 + 1 + (i - (Y.1.1 + 1)) = i by omega, hx] at hj
        cases hj
        rw [if_neg (by omega), if_neg hi2, if_pos (by omega), if_pos (by omega), if_neg hi2, if_pos (by omega)]
        obtain ⟨t, hy⟩ := hy
        exact ⟨rfl, hK, Or.inl ⟨rfl, t, hy⟩, fun _ _ => rfl⟩

theorem ss_multi {p : Program} {l : Launch} {e : Env} {R : Room} {s : State} {m : MethodId} {args : Array Value} {below : List Frame} {meth : Method} {c : Code} {Q : State → Prop} {D : va_G} {A : Nat → Prop} {sx : Nat → Option Nat} {cc : ByteArray} {nL K rt d n0 s0 : Nat} {ws0 : va_W} (hX : pCx p R s m args c sx A K nL d cc) {pc len : Nat} {e0 : pE} {Y Y' : pY} {G G' : pG} {pc' : Nat} {loc loc' stk stk' : List pV} {i z : Nat} (hM : pMNA) (hd : decode cc pc = .ok (.multianewarray i 2, 4)) (hj : lkf lkA K i = some z) (he0 : e0 = (.multianewarray 0 2, 4, 0, 0, 0)) (hs : pstep Y G e0 pc loc stk = some (.inl (pc', loc', stk', Y', G'))) (hrm : Y'.1.1 ≤ n0 + R.cells ∧ Y'.1.2 ≤ s0 + R.slots) (kk : pKK p l e R s m args below meth c Q D A sx nL n0 s0 ws0 pc' loc' stk' Y' G') : pKK p l e R s m args below meth c Q D A sx nL n0 s0 ws0 pc loc stk Y G := by
  have hX0 := hX
  obtain ⟨hx, hb, hml, hown, hts, hnest, hao, hstr, hAA, hfr, hlo⟩ := hX
  intro H locs ws tys ls st cells slots hW hA hl hst hc1 hc2
  subst he0
  obtain ⟨x, y, stk0, rfl, hs2⟩ := k_ii_s hs
  obtain ⟨hbd, hs2⟩ := if_s hs2
  cases pnx_s hs2
  obtain ⟨b1, st0, rfl, rfl, h0⟩ := sR_i hst
  obtain ⟨a1, st1, rfl, rfl, h1⟩ := sR_i h0
  obtain ⟨hwR, hP, hD, hK, hS⟩ := hW
  have hr1 : Y.1.1 + 1 + a1.toInt.toNat ≤ n0 + R.cells := hrm.1
  have hr2 : Y.1.2 + a1.toInt.toNat + a1.toInt.toNat * b1.toInt.toNat ≤ s0 + R.slots := hrm.2
  have hlen : ws.length = Y.1.1 := hwR.1
  refine hM p l e R s m args below meth c H locs cells slots Q cc pc ls st1 D A tys ws (pown K) i a1 b1 hx hb hown (hts _ (lkA_in hj)) hao (hts _ jw_arint) hK hP hD hS hAA hbd.2.1 hbd.2.2.2.1 hbd.2.2.1 hbd.2.2.2.2 (by omega) (by omega) hd (fun q r cA cy H1 hK1 hP1 hD1 hS1 => kk H1 locs _ _ ls _ (cells + 1 + a1.toInt.toNat) (slots + a1.toInt.toNat + a1.toInt.toNat * b1.toInt.toNat) ⟨hwR.push2 (by omega) (by omega) (by omega) (tS.app _ _) ⟨tys.length, ?_⟩ ⟨tys.length + 1, ?_⟩, hP1, hD1, hK1, hS1⟩ (hA.tr (aS.app _ _)) (hl.mv (aS.app _ _)) ⟨⟨q, rfl, Or.inl ⟨.inl (cA, a1.toInt.toNat, .inr (.inr (.inr (.inr (fun i => if i < a1.toInt.toNat then some (r i) else none))))), ?_⟩⟩, h1.mv (aS.app _ _)⟩ (by show Y.1.1 + 1 + a1.toInt.toNat = _; omega) (by show Y.1.2 + a1.toInt.toNat + a1.toInt.toNat * b1.toInt.toNat = _; omega))
  · rw [List.getElem?_append_right (by omega), Nat.sub_self]; rfl
  · rw [List.getElem?_append_right (by omega), show tys.length + 1 - tys.length = 1 by omega]; rfl
  · rw [List.getElem?_append_right (by omega), hlen, Nat.sub_self]; rfl

/-- the script -/
def pScr (sx : Nat → Option Nat) (s : State) (A : Nat → Prop) (G : pG) : Prop := ∃ (b L : Nat) (xs : Nat → Int32), sx 499 = some b ∧ va_X b L xs s s.heap ∧ b < s.heap.size ∧ ¬ A b ∧ L < 2 ^ 31 ∧ G 498 0 = (L : Int) ∧ ∀ j, j < L → G 499 j = (xs j).toInt
theorem sx_at {ws : va_W} {tys : List (ClassId × FieldType)} {Y : pY} {G : pG} {sx : Nat → Option Nat} {q : Nat} (h : wR tys Y G ws) (hv : (∃ e, ws[499]? = some (q, e)) ∨ (499 ≤ 499 ∧ sx 499 = some q)) : sx 499 = some q := by
  rcases hv with ⟨e, he⟩ | ⟨-, h2⟩
  · have := (List.getElem?_eq_some_iff.mp he).1
    have h1 := h.1
    have h2 := h.2.1
    omega
  · exact h2

theorem ss_faload {p : Program} {l : Launch} {e : Env} {R : Room} {s : State} {m : MethodId} {args : Array Value} {below : List Frame} {meth : Method} {c : Code} {Q : State → Prop} {D : va_G} {A : Nat → Prop} {sx : Nat → Option Nat} {cc : ByteArray} {nL K rt d n0 s0 : Nat} {ws0 : va_W} (hX : pCx p R s m args c sx A K nL d cc) {pc len : Nat} {e0 : pE} {Y Y' : pY} {G G' : pG} {pc' : Nat} {loc loc' stk stk' : List pV} (hd : decode cc pc = .ok (.iaload, 1)) (hsc : pScr sx s A G) (he0 : e0 = (.faload, 1, 0, 0, 0)) (hs : pstep Y G e0 pc loc stk = some (.inl (pc', loc', stk', Y', G'))) (hrm : Y'.1.1 ≤ n0 + R.cells ∧ Y'.1.2 ≤ s0 + R.slots) (kk : pKK p l e R s m args below meth c Q D A sx nL n0 s0 ws0 pc' loc' stk' Y' G') : pKK p l e R s m args below meth c Q D A sx nL n0 s0 ws0 pc loc stk Y G := by
  have hX0 := hX
  obtain ⟨hx, hb, hml, hown, hts, hnest, hao, hstr, hAA, hfr, hlo⟩ := hX
  intro H locs ws tys ls st cells slots hW hA hl hst hc1 hc2
  subst he0
  obtain ⟨r, i, stk0, rfl, hs2⟩ := k_ri_s hs
  obtain ⟨hkd, hs2⟩ := bif_s hs2
  have hkd := beq_e hkd
  obtain ⟨hbd, hs2⟩ := if_s hs2
  cases pnx_s hs2
  obtain ⟨j, st0, rfl, rfl, h0⟩ := sR_i hst
  obtain ⟨q, st1, rfl, h2, h1⟩ := sR_r h0
  subst hkd
  obtain ⟨b, L, xs, g1, g2, g3, g4, g5, g6, g7⟩ := hsc
  have hq := sx_at hW.1 h2
  rw [g1] at hq
  cases hq
  exact va_sld hx hb g2 g3 g4 hW.2.2.2.2 (i32_in hbd.1 (by omega)) hd (kk H locs ws tys ls _ cells slots hW hA hl ⟨⟨_, rfl, (g7 j.toNatClampNeg (by rw [i32_cl]; omega)).symm⟩, h1⟩ hc1 hc2)

theorem ss_fastore {p : Program} {l : Launch} {e : Env} {R : Room} {s : State} {m : MethodId} {args : Array Value} {below : List Frame} {meth : Method} {c : Code} {Q : State → Prop} {D : va_G} {A : Nat → Prop} {sx : Nat → Option Nat} {cc : ByteArray} {nL K rt d n0 s0 : Nat} {ws0 : va_W} (hX : pCx p R s m args c sx A K nL d cc) {pc len : Nat} {e0 : pE} {Y Y' : pY} {G G' : pG} {pc' : Nat} {loc loc' stk stk' : List pV} (hd : decode cc pc = .ok (.arraylength, 1)) (hsc : pScr sx s A G) (he0 : e0 = (.fastore, 1, 0, 0, 0)) (hs : pstep Y G e0 pc loc stk = some (.inl (pc', loc', stk', Y', G'))) (hrm : Y'.1.1 ≤ n0 + R.cells ∧ Y'.1.2 ≤ s0 + R.slots) (kk : pKK p l e R s m args below meth c Q D A sx nL n0 s0 ws0 pc' loc' stk' Y' G') : pKK p l e R s m args below meth c Q D A sx nL n0 s0 ws0 pc loc stk Y G := by
  have hX0 := hX
  obtain ⟨hx, hb, hml, hown, hts, hnest, hao, hstr, hAA, hfr, hlo⟩ := hX
  intro H locs ws tys ls st cells slots hW hA hl hst hc1 hc2
  subst he0
  obtain ⟨r, stk0, rfl, hs2⟩ := k_r_s hs
  obtain ⟨hkd, hs2⟩ := bif_s hs2
  have hkd := beq_e hkd
  cases pnx_s hs2
  obtain ⟨q, st1, rfl, h2, h1⟩ := sR_r hst
  subst hkd
  obtain ⟨b, L, xs, g1, g2, g3, g4, g5, g6, g7⟩ := hsc
  have hq := sx_at hW.1 h2
  rw [g1] at hq
  cases hq
  exact va_slen hx hb g2 g3 g4 hW.2.2.2.2 hd (kk H locs ws tys ls _ cells slots hW hA hl ⟨⟨_, rfl, by rw [g6]; exact nI_toInt g5⟩, h1⟩ hc1 hc2)

theorem ss_ldc {p : Program} {l : Launch} {e : Env} {R : Room} {s : State} {m : MethodId} {args : Array Value} {below : List Frame} {meth : Method} {c : Code} {Q : State → Prop} {D : va_G} {A : Nat → Prop} {sx : Nat → Option Nat} {cc : ByteArray} {nL K rt d n0 s0 : Nat} {ws0 : va_W} (hX : pCx p R s m args c sx A K nL d cc) {pc len : Nat} {e0 : pE} {Y Y' : pY} {G G' : pG} {pc' : Nat} {loc loc' stk stk' : List pV} {i z : Nat} (hM : pLDC) (hd : decode cc pc = .ok (.ldc i, 2)) (hj : lkf lkS K i = some z) (he0 : e0 = (.ldc 0, 2, 500 + z, 0, 0)) (hs : pstep Y G e0 pc loc stk = some (.inl (pc', loc', stk', Y', G'))) (hrm : Y'.1.1 ≤ n0 + R.cells ∧ Y'.1.2 ≤ s0 + R.slots) (kk : pKK p l e R s m args below meth c Q D A sx nL n0 s0 ws0 pc' loc' stk' Y' G') : pKK p l e R s m args below meth c Q D A sx nL n0 s0 ws0 pc loc stk Y G := by
  have hX0 := hX
  obtain ⟨hx, hb, hml, hown, hts, hnest, hao, hstr, hAA, hfr, hlo⟩ := hX
  intro H locs ws tys ls st cells slots hW hA hl hst hc1 hc2
  subst he0
  cases pnx_s hs
  obtain ⟨a, ha, hr⟩ := hstr.1 _ (lkf_mem hj)
  exact hM p l e R s m args below meth c H locs cells slots Q cc pc ls st (pown K) _ i a hx hb hown hr hd (kk H locs ws tys ls _ cells slots hW hA hl ⟨⟨a, rfl, Or.inr ⟨by omega, ha⟩⟩, hst⟩ hc1 hc2)

theorem sx_str {ws : va_W} {tys : List (ClassId × FieldType)} {Y : pY} {G : pG} {sx : Nat → Option Nat} {A : Nat → Prop} {U : State} {r q : Nat} (h : wR tys Y G ws) (hs : pStr sx A U) (hr : 500 ≤ r) (hv : (∃ e, ws[r]? = some (q, e)) ∨ (499 ≤ r ∧ sx r = some q)) : ∃ i, i < 5 ∧ r = 500 + i ∧ sx (500 + i) = some q := by
  rcases hv with ⟨e, he⟩ | ⟨-, h2⟩
  · have := (List.getElem?_eq_some_iff.mp he).1
    have h1 := h.1
    have h2 := h.2.1
    omega
  · by_cases h5 : r < 505
    · exact ⟨r - 500, by omega, by omega, by rw [show 500 + (r - 500) = r by omega]; exact h2⟩
    · rw [hs.2.1 r (by omega)] at h2
      cases h2
theorem pstr_len : ∀ i, i < 5 → ∀ s, pn pstr i = some s → (Int32.ofNat (pstL.getD i 0)).toInt = (s.length : Int) ∧ pstL.getD i 0 = s.length := by
  intro i hi s hs
  have h5 : i = 0 ∨ i = 1 ∨ i = 2 ∨ i = 3 ∨ i = 4 := by omega
  rcases h5 with rfl | rfl | rfl | rfl | rfl <;> cases hs <;> exact ⟨by decide, by decide⟩
theorem pstr_ch : ∀ i, i < 5 → ∀ s, pn pstr i = some s → ∀ j ch, pn s j = some ch → ((pstB.getD i []).getD j 0).toInt = ch := by
  intro i hi s hs j ch hj
  have hl := pn_lt hj
  have h5 : i = 0 ∨ i = 1 ∨ i = 2 ∨ i = 3 ∨ i = 4 := by omega
  rcases h5 with rfl | rfl | rfl | rfl | rfl <;> cases hs <;> (have hl2 : j < 5 := by simp at hl; omega) <;> (have h6 : j = 0 ∨ j = 1 ∨ j = 2 ∨ j = 3 ∨ j = 4 := by omega) <;> rcases h6 with rfl | rfl | rfl | rfl | rfl <;> cases hj <;> decide

theorem ss_strlen (hM : pSLN) {p : Program} {l : Launch} {e : Env} {R : Room} {s : State} {m : MethodId} {args : Array Value} {below : List Frame} {meth : Method} {c : Code} {Q : State → Prop} {D : va_G} {A : Nat → Prop} {sx : Nat → Option Nat} {cc : ByteArray} {nL K rt d n0 s0 : Nat} {ws0 : va_W} (hX : pCx p R s m args c sx A K nL d cc) {pc len : Nat} {e0 : pE} {Y Y' : pY} {G G' : pG} {pc' : Nat} {loc loc' stk stk' : List pV} {i : Nat} (hd : decode cc pc = .ok (.invokevirtual i, 3)) (hj : lkf lkJ K i = some 7) (he0 : e0 = (.daload, 3, 0, 0, 0)) (hs : pstep Y G e0 pc loc stk = some (.inl (pc', loc', stk', Y', G'))) (hrm : Y'.1.1 ≤ n0 + R.cells ∧ Y'.1.2 ≤ s0 + R.slots) (kk : pKK p l e R s m args below meth c Q D A sx nL n0 s0 ws0 pc' loc' stk' Y' G') : pKK p l e R s m args below meth c Q D A sx nL n0 s0 ws0 pc loc stk Y G := by
  have hX0 := hX
  obtain ⟨hx, hb, hml, hown, hts, hnest, hao, hstr, hAA, hfr, hlo⟩ := hX
  intro H locs ws tys ls st cells slots hW hA hl hst hc1 hc2
  subst he0
  obtain ⟨r, stk0, rfl, hs2⟩ := k_r_s hs
  obtain ⟨h8, hs2⟩ := bif_s hs2
  rw [Bool.and_eq_true] at h8
  have h9 := Nat.le_of_ble_eq_true h8.1
  have h7 := Nat.le_of_ble_eq_true h8.2
  obtain ⟨tx, htx, hs2⟩ := k_op_s (o := pn pstr (r - 500)) hs2
  cases pnx_s hs2
  obtain ⟨q, st1, rfl, h2, h1⟩ := sR_r hst
  have hcat := h1.cat
  obtain ⟨n, hn, rfl, hn2⟩ := sx_str hW.1 hstr h7 h2
  rw [show 500 + n - 500 = n by omega] at htx
  have hr1 : cells ≤ R.cells := by have := hrm.1; omega
  have hr2 : slots ≤ R.slots := by have := hrm.2; omega
  exact hM p l e R s m args below meth c H locs cells slots Q cc pc ls st1 sx A K nL d i n q hX0 hl.1 hW.2.2.2.2 (lkJ_in hj) hn hn2 (by omega) hr1 hr2 hd (kk H locs ws tys ls _ cells slots hW hA hl ⟨⟨_, rfl, (pstr_len n hn tx htx).1⟩, h1⟩ hc1 hc2)

theorem ss_strchr (hM : pSCH) {p : Program} {l : Launch} {e : Env} {R : Room} {s : State} {m : MethodId} {args : Array Value} {below : List Frame} {meth : Method} {c : Code} {Q : State → Prop} {D : va_G} {A : Nat → Prop} {sx : Nat → Option Nat} {cc : ByteArray} {nL K rt d n0 s0 : Nat} {ws0 : va_W} (hX : pCx p R s m args c sx A K nL d cc) {pc len : Nat} {e0 : pE} {Y Y' : pY} {G G' : pG} {pc' : Nat} {loc loc' stk stk' : List pV} {i : Nat} (hd : decode cc pc = .ok (.invokevirtual i, 3)) (hj : lkf lkJ K i = some 8) (he0 : e0 = (.dastore, 3, 0, 0, 0)) (hs : pstep Y G e0 pc loc stk = some (.inl (pc', loc', stk', Y', G'))) (hrm : Y'.1.1 ≤ n0 + R.cells ∧ Y'.1.2 ≤ s0 + R.slots) (kk : pKK p l e R s m args below meth c Q D A sx nL n0 s0 ws0 pc' loc' stk' Y' G') : pKK p l e R s m args below meth c Q D A sx nL n0 s0 ws0 pc loc stk Y G := by
  have hX0 := hX
  obtain ⟨hx, hb, hml, hown, hts, hnest, hao, hstr, hAA, hfr, hlo⟩ := hX
  intro H locs ws tys ls st cells slots hW hA hl hst hc1 hc2
  subst he0
  obtain ⟨r, j, stk0, rfl, hs2⟩ := k_ri_s hs
  obtain ⟨h8, hs2⟩ := bif_s hs2
  rw [Bool.and_eq_true] at h8
  have h9 := Nat.le_of_ble_eq_true h8.1
  have h7 := Nat.le_of_ble_eq_true h8.2
  obtain ⟨tx, htx, hs2⟩ := k_op_s (o := pn pstr (r - 500)) hs2
  obtain ⟨hj0, hs2⟩ := if_s hs2
  obtain ⟨ch, hch, hs2⟩ := k_op_s (o := pn tx j.toNat) hs2
  cases pnx_s hs2
  obtain ⟨b1, st0, rfl, rfl, h0⟩ := sR_i hst
  obtain ⟨q, st1, rfl, h2, h1⟩ := sR_r h0
  have hcat := h1.cat
  obtain ⟨n, hn, rfl, hn2⟩ := sx_str hW.1 hstr h7 h2
  rw [show 500 + n - 500 = n by omega] at htx
  have hr1 : cells ≤ R.cells := by have := hrm.1; omega
  have hr2 : slots ≤ R.slots := by have := hrm.2; omega
  exact hM p l e R s m args below meth c H locs cells slots Q cc pc ls st1 sx A K nL d i n q b1 hX0 hl.1 hW.2.2.2.2 (lkJ_in hj) hn hn2 hj0 (by rw [(pstr_len n hn tx htx).2]; exact pn_lt hch) (by omega) hr1 hr2 hd (kk H locs ws tys ls _ cells slots hW hA hl ⟨⟨_, rfl, pstr_ch n hn tx htx _ _ hch⟩, h1⟩ hc1 hc2)
end
section
theorem pcalM_s {way M : Nat} {e0 : pE} (h : pcalM way M = some e0) : ∃ w, pmw M = some w ∧ way = (bif w.2.2.2.2 then 1 else (bif pini M then 2 else 0)) ∧ e0 = (.invokestatic (prc1 w.2.2.1), 3, M, w.2.2.2.1, bif Nat.beq way 0 then (w.1 : Int) else -1) := by
  obtain ⟨w, h1, h2⟩ := k_op_s h
  obtain ⟨h3, h4⟩ := bif_s h2
  exact ⟨w, h1, beq_e h3, (Option.some.inj h4).symm⟩
def pjE : List (Nat × pE) := [(2, (.pop, 3, 0, 0, 0)), (1, (.f2d, 3, 0, 0, 0)), (1, (.f2i, 3, 0, 0, 0)), (1, (.f2l, 3, 0, 0, 0)), (1, (.d2f, 3, 0, 0, 0)), (1, (.d2i, 3, 0, 0, 0)), (1, (.d2l, 3, 0, 0, 0)), (0, (.daload, 3, 0, 0, 0)), (0, (.dastore, 3, 0, 0, 0))]
theorem pcal_s {K way i : Nat} {e0 : pE} (h : pcal K way i = some e0) : (∃ M, (lkf lkM K i = some M ∨ lkf lkN K i = some M) ∧ pcalM way M = some e0) ∨ ∃ J, lkf lkJ K i = some J ∧ pn pjE J = some (way, e0) := by
  unfold pcal at h
  split at h
  · exact Or.inl ⟨_, Or.inl (by assumption), h⟩
  · split at h
    · exact Or.inl ⟨_, Or.inr (by assumption), h⟩
    · split at h
      · refine Or.inr ⟨_, by assumption, ?_⟩
        split at h
        all_goals first | (obtain ⟨h3, h4⟩ := bif_s h; cases h4; rw [beq_e h3]; rfl) | (cases h)
      · cases h
theorem inv_no {Y : pY} {G : pG} {rc M n : Nat} {c : Int} {pc : Nat} {loc stk : List pV} {z : Nat × List pV × List pV × pY × pG} (h : pstep Y G (.invokestatic rc, 3, M, n, c) pc loc stk = some (.inl z)) : False := by
  obtain ⟨q, -, h2⟩ := k_op_s (o := ppop n stk []) h
  obtain ⟨-, h3⟩ := bif_s h2
  cases h3
theorem iret_no {Y : pY} {G : pG} {len : Nat} {c : Int} {pc : Nat} {loc stk : List pV} {z : Nat × List pV × List pV × pY × pG} (h : pstep Y G (.ireturn, len, 0, 0, c) pc loc stk = some (.inl z)) : False := by
  unfold pstep at h
  dsimp only at h
  split at h
  · cases hb : (c == 3) with
    | true =>
      rw [hb] at h
      obtain ⟨-, h⟩ := if_s h
      cases h
    | false => rw [hb] at h; cases h
  · cases h
theorem ptr_l {K rt pc len : Nat} {r : Instr} {e0 : pE} (h : ptr K rt pc r len = some e0) : len = plen r len ∧ ptr0 K rt pc r len = some e0 := by
  obtain ⟨h1, h2⟩ := bif_s h
  exact ⟨beq_e h1, h2⟩

set_option maxHeartbeats 2000000 in
/-- one step of the pure machine is one of the kit's -/
theorem sim_step {p : Program} {l : Launch} {e : Env} {R : Room} {s : State} {m : MethodId} {args : Array Value} {below : List Frame} {meth : Method} {c : Code} {Q : State → Prop} {D : va_G} {A : Nat → Prop} {sx : Nat → Option Nat} {cc : ByteArray} {nL K rt d n0 s0 : Nat} {ws0 : va_W} (hR : pRows) (hX : pCx p R s m args c sx A K nL d cc) {pc len : Nat} {r : Instr} {e0 : pE} {Y Y' : pY} {G G' : pG} {pc' : Nat} {loc loc' stk stk' : List pV} (hsc : Nat.beq K 13 = true → pScr sx s A G) (hfi : ∀ a b, e0 = (.putfield 0, len, a, b, 2) → meth.name = "<init>" ∧ b = K) (hd : decode cc pc = .ok (r, len)) (hp : ptr K rt pc r len = some e0) (hs : pstep Y G e0 pc loc stk = some (.inl (pc', loc', stk', Y', G'))) (hrm : Y'.1.1 ≤ n0 + R.cells ∧ Y'.1.2 ≤ s0 + R.slots) (kk : pKK p l e R s m args below meth c Q D A sx nL n0 s0 ws0 pc' loc' stk' Y' G') : pKK p l e R s m args below meth c Q D A sx nL n0 s0 ws0 pc loc stk Y G := by
  cases r
  case iadd => exact ss_iadd hX hd hp hs kk
  case isub => exact ss_isub hX hd hp hs kk
  case imul => exact ss_imul hX hd hp hs kk
  case iand => exact ss_iand hX hd hp hs kk
  case ior => exact ss_ior hX hd hp hs kk
  case ixor => exact ss_ixor hX hd hp hs kk
  case ishl => exact ss_ishl hX hd hp hs kk
  case ishr => exact ss_ishr hX hd hp hs kk
  case iushr => exact ss_iushr hX hd hp hs kk
  case idiv => exact ss_idiv hX hd hp hs kk
  case irem => exact ss_irem hX hd hp hs kk
  case ladd => exact ss_ladd hX hd hp hs kk
  case lsub => exact ss_lsub hX hd hp hs kk
  case lmul => exact ss_lmul hX hd hp hs kk
  case land => exact ss_land hX hd hp hs kk
  case lor => exact ss_lor hX hd hp hs kk
  case ldiv => exact ss_ldiv hX hd hp hs kk
  case lrem => exact ss_lrem hX hd hp hs kk
  case lshl => exact ss_lshl hX hd hp hs kk
  case lshr => exact ss_lshr hX hd hp hs kk
  case lcmp => exact ss_lcmp hX hd hp hs kk
  case ineg => exact ss_ineg hX hd hp hs kk
  case lneg => exact ss_lneg hX hd hp hs kk
  case i2l => exact ss_i2l hX hd hp hs kk
  case l2i => exact ss_l2i hX hd hp hs kk
  case i2b => exact ss_i2b hX hd hp hs kk
  case dup => exact ss_dup hX hd hp hs kk
  case dup2 => exact ss_dup2 hX hd hp hs kk
  case iconst n => exact ss_iconst hX hd hp hs kk
  case bipush n => exact ss_bipush hX hd hp hs kk
  case sipush n => exact ss_sipush hX hd hp hs kk
  case lconst n => exact ss_lconst hX hd hp hs kk
  case ldc2_w n => exact ss_ldc2 hX hd hp hs kk
  case iload n => exact ss_iload hX hd hp hs kk
  case iload_n n => exact ss_iload_n hX hd hp hs kk
  case istore n => exact ss_istore hX hd hp hs kk
  case istore_n n => exact ss_istore_n hX hd hp hs kk
  case lload n => exact ss_lload hX hd hp hs kk
  case lload_n n => exact ss_lload_n hX hd hp hs kk
  case lstore n => exact ss_lstore hX hd hp hs kk
  case lstore_n n => exact ss_lstore_n hX hd hp hs kk
  case aload n => exact ss_aload hX hd hp hs kk
  case aload_n n => exact ss_aload_n hX hd hp hs kk
  case astore n => exact ss_astore hX hd hp hs kk
  case astore_n n => exact ss_astore_n hX hd hp hs kk
  case iinc n z => exact ss_iinc hX hd hp hs kk
  case goto off => exact ss_goto hX hd hp hs kk
  case ifCond cn off =>
    cases cn
    case eq => exact ss_if_eq hX hd hp hs kk
    case ne => exact ss_if_ne hX hd hp hs kk
    case lt => exact ss_if_lt hX hd hp hs kk
    case ge => exact ss_if_ge hX hd hp hs kk
    case gt => exact ss_if_gt hX hd hp hs kk
    case le => exact ss_if_le hX hd hp hs kk
  case if_icmp cn off =>
    cases cn
    case eq => exact ss_icmp_eq hX hd hp hs kk
    case ne => exact ss_icmp_ne hX hd hp hs kk
    case lt => exact ss_icmp_lt hX hd hp hs kk
    case ge => exact ss_icmp_ge hX hd hp hs kk
    case gt => exact ss_icmp_gt hX hd hp hs kk
    case le => exact ss_icmp_le hX hd hp hs kk
  case tableswitch dd lo hi offs => exact ss_table hX hd hp hs kk
  case lookupswitch dd ps => exact ss_lookup hX hd hp hs kk
  case getfield i => exact ss_getfield hX hd hp hs hrm kk
  case putfield i => exact ss_putfield hX hfi hd hp hs hrm kk
  case laload => exact ss_laload hX hd hp hs hrm kk
  case baload => exact ss_baload hX hd hp hs hrm kk
  case aaload => exact ss_aaload hX hd hp hs hrm kk
  case iastore => exact ss_iastore hX hd hp hs hrm kk
  case lastore => exact ss_lastore hX hd hp hs hrm kk
  case bastore => exact ss_bastore hX hd hp hs hrm kk
  case iaload =>
    cases hK : Nat.beq K 13 with
    | false => exact ss_iaload hX hK hd hp hs hrm kk
    | true =>
      obtain ⟨hl, hp⟩ := ptr_l hp
      have hl : len = 1 := hl
      subst hl
      have hp : some ((bif Nat.beq K 13 then Instr.faload else Instr.iaload), 1, 0, 0, (0 : Int)) = some e0 := hp
      rw [hK] at hp
      exact ss_faload (len := 0) (rt := rt) hX hd (hsc hK) (Option.some.inj hp).symm hs hrm kk
  case arraylength =>
    cases hK : Nat.beq K 13 with
    | false => exact ss_arraylength hX hK hd hp hs hrm kk
    | true =>
      obtain ⟨hl, hp⟩ := ptr_l hp
      have hl : len = 1 := hl
      subst hl
      have hp : some ((bif Nat.beq K 13 then Instr.fastore else Instr.arraylength), 1, 0, 0, (0 : Int)) = some e0 := hp
      rw [hK] at hp
      exact ss_fastore (len := 0) (rt := rt) hX hd (hsc hK) (Option.some.inj hp).symm hs hrm kk
  case new i => exact ss_new hX hd hp hs hrm kk
  case newarray t =>
    cases t
    case int => exact ss_newarr_int hX hd hp hs hrm kk
    case long => exact ss_newarr_long hX hd hp hs hrm kk
    case byte => exact ss_newarr_byte hX hd hp hs hrm kk
    all_goals (obtain ⟨-, hp⟩ := ptr_l hp; cases hp)
  case multianewarray i n =>
    obtain ⟨hl, hp⟩ := ptr_l hp
    have hl : len = 4 := hl
    subst hl
    obtain ⟨hn, hp⟩ := bif_s hp
    have hn := beq_e hn
    subst hn
    obtain ⟨z, hz, hp⟩ := k_op_s hp
    exact ss_multi (len := 0) (rt := rt) hX hR.1 hd hz (Option.some.inj hp).symm hs hrm kk
  case ldc i =>
    obtain ⟨hl, hp⟩ := ptr_l hp
    have hl : len = 2 := hl
    subst hl
    obtain ⟨z, hz, hp⟩ := k_op_s hp
    exact ss_ldc (len := 0) (rt := rt) hX hR.2.2.2 hd hz (Option.some.inj hp).symm hs hrm kk
  case invokevirtual i =>
    obtain ⟨hl, hp⟩ := ptr_l hp
    have hl : len = 3 := hl
    subst hl
    have hp : pcal K 0 i = some e0 := hp
    rcases pcal_s hp with ⟨M, -, hM⟩ | ⟨J, hJ, hE⟩
    · obtain ⟨w, -, -, rfl⟩ := pcalM_s hM
      exact (inv_no hs).elim
    · have hJ9 := pn_lt hE
      have hJ9 : J < 9 := hJ9
      have h9 : J = 0 ∨ J = 1 ∨ J = 2 ∨ J = 3 ∨ J = 4 ∨ J = 5 ∨ J = 6 ∨ J = 7 ∨ J = 8 := by omega
      rcases h9 with rfl | rfl | rfl | rfl | rfl | rfl | rfl | rfl | rfl
      · cases hE
      · cases hE
      · cases hE
      · cases hE
      · cases hE
      · cases hE
      · cases hE
      · cases hE; exact ss_strlen hR.2.1 (len := 0) (rt := rt) hX hd hJ rfl hs hrm kk
      · cases hE; exact ss_strchr hR.2.2.1 (len := 0) (rt := rt) hX hd hJ rfl hs hrm kk
  case invokestatic i =>
    obtain ⟨hl, hp⟩ := ptr_l hp
    have hl : len = 3 := hl
    subst hl
    have hp : pcal K 1 i = some e0 := hp
    rcases pcal_s hp with ⟨M, -, hM⟩ | ⟨J, hJ, hE⟩
    · obtain ⟨w, -, -, rfl⟩ := pcalM_s hM
      exact (inv_no hs).elim
    · have hJ9 := pn_lt hE
      have hJ9 : J < 9 := hJ9
      have h9 : J = 0 ∨ J = 1 ∨ J = 2 ∨ J = 3 ∨ J = 4 ∨ J = 5 ∨ J = 6 ∨ J = 7 ∨ J = 8 := by omega
      rcases h9 with rfl | rfl | rfl | rfl | rfl | rfl | rfl | rfl | rfl
      · cases hE
      · cases hE; exact ss_mmax (len := 0) (rt := rt) hX hd hJ rfl hs hrm kk
      · cases hE; exact ss_mmin (len := 0) (rt := rt) hX hd hJ rfl hs hrm kk
      · cases hE; exact ss_mabs (len := 0) (rt := rt) hX hd hJ rfl hs hrm kk
      · cases hE; exact ss_mabsl (len := 0) (rt := rt) hX hd hJ rfl hs hrm kk
      · cases hE; exact ss_mmaxl (len := 0) (rt := rt) hX hd hJ rfl hs hrm kk
      · cases hE; exact ss_arraycopy (len := 0) (rt := rt) hX hd hJ rfl hs hrm kk
      · cases hE
      · cases hE
  case invokespecial i =>
    obtain ⟨hl, hp⟩ := ptr_l hp
    have hl : len = 3 := hl
    subst hl
    have hp : pcal K 2 i = some e0 := hp
    rcases pcal_s hp with ⟨M, -, hM⟩ | ⟨J, hJ, hE⟩
    · obtain ⟨w, -, -, rfl⟩ := pcalM_s hM
      exact (inv_no hs).elim
    · have hJ9 := pn_lt hE
      have hJ9 : J < 9 := hJ9
      have h9 : J = 0 ∨ J = 1 ∨ J = 2 ∨ J = 3 ∨ J = 4 ∨ J = 5 ∨ J = 6 ∨ J = 7 ∨ J = 8 := by omega
      rcases h9 with rfl | rfl | rfl | rfl | rfl | rfl | rfl | rfl | rfl
      · cases hE; exact ss_objinit (len := 0) (rt := rt) hX hd hJ rfl hs hrm kk
      · cases hE
      · cases hE
      · cases hE
      · cases hE
      · cases hE
      · cases hE
      · cases hE
      · cases hE
  case ireturn =>
    obtain ⟨-, hp⟩ := ptr_l hp
    cases hp
    exact (iret_no hs).elim
  all_goals (obtain ⟨-, hp⟩ := ptr_l hp; first | (cases hp; done) | (cases hp; cases hs; done) | (cases hp; unfold pstep at hs; dsimp only at hs; split at hs <;> first | (cases hs; done) | (obtain ⟨-, hs⟩ := bif_s hs; cases hs; done) | skip))
end
section
/-- what lies behind the cells that are made stays -/
def pYk (Y : pY) : Prop := Y.1.1 ≤ 498 ∧ ∀ i, Y.1.1 ≤ i → (Y.2.1 i).1 = 999
def pHi (Y : pY) (G : pG) (Y' : pY) (G' : pG) : Prop := Y.1.1 ≤ Y'.1.1 ∧ Y.1.2 ≤ Y'.1.2 ∧ (pYk Y → pYk Y' ∧ ∀ i, 498 ≤ i → G' i = G i)
theorem pHi.rf (Y : pY) (G : pG) : pHi Y G Y G := ⟨Nat.le_refl _, Nat.le_refl _, fun h => ⟨h, fun _ _ => rfl⟩⟩
theorem pHi.tr {Y Y1 Y2 : pY} {G G1 G2 : pG} (h : pHi Y G Y1 G1) (h2 : pHi Y1 G1 Y2 G2) : pHi Y G Y2 G2 := ⟨Nat.le_trans h.1 h2.1, Nat.le_trans h.2.1 h2.2.1, fun hk => by
  obtain ⟨a, b⟩ := h.2.2 hk
  obtain ⟨c, d⟩ := h2.2.2 a
  exact ⟨c, fun i hi => (d i hi).trans (b i hi)⟩⟩
def pH (Y : pY) (G : pG) (o : Option pO) : Prop := ∀ pc l st Y' G', o = some (.inl (pc, l, st, Y', G')) → pHi Y G Y' G'
theorem pH_n {Y : pY} {G : pG} : pH Y G none := fun _ _ _ _ _ h => by cases h
theorem pH_s {Y : pY} {G : pG} {x : (Nat × List pV × List pV) ⊕ Option pV} : pH Y G (some (.inr x)) := fun _ _ _ _ _ h => by cases h
theorem pH_y {Y Y1 : pY} {G G1 : pG} {pc : Nat} {l st : List pV} (h : pHi Y G Y1 G1) : pH Y G (pnx Y1 G1 pc l st) := fun _ _ _ _ _ e => by cases pnx_s e; exact h
theorem pH_x {Y : pY} {G : pG} {pc : Nat} {l st : List pV} : pH Y G (pnx Y G pc l st) := pH_y (pHi.rf Y G)
theorem pH_if {Y : pY} {G : pG} {c : Prop} [Decidable c] {a b : Option pO} (h1 : c → pH Y G a) (h2 : pH Y G b) : pH Y G (if c then a else b) := by
  split
  · exact h1 (by assumption)
  · exact h2
theorem pH_ifn {Y : pY} {G : pG} {c : Prop} [Decidable c] {a b : Option pO} (h1 : pH Y G a) (h2 : pH Y G b) : pH Y G (if c then a else b) := by split <;> assumption
theorem pH_bif {Y : pY} {G : pG} {c : Bool} {a b : Option pO} (h1 : c = true → pH Y G a) (h2 : pH Y G b) : pH Y G (bif c then a else b) := by
  cases c
  · exact h2
  · exact h1 rfl
theorem pH_op {Y : pY} {G : pG} {β : Type} {o : Option β} {k : β → Option pO} (h : ∀ b, pH Y G (k b)) : pH Y G (k_op o none k) := by cases o <;> first | exact pH_n | exact h _
theorem pHi_set {Y : pY} {G : pG} {r k : Nat} {v : Int} (h : (Y.2.1 r).1 ≠ 999) : pHi Y G Y (pset G r k v) := ⟨Nat.le_refl _, Nat.le_refl _, fun hk => ⟨hk, fun i hi => by
  rw [pset_o]
  intro e
  exact h (hk.2 r (by have := hk.1; omega))⟩⟩
theorem pHi_cpy {Y : pY} {G : pG} {a0 sp a dp n : Nat} (h : (Y.2.1 a).1 ≠ 999) : pHi Y G Y (pcpy G a0 sp a dp n) := ⟨Nat.le_refl _, Nat.le_refl _, fun hk => ⟨hk, fun i hi => by
  rw [pcpy_o]
  intro e
  exact h (hk.2 a (by have := hk.1; omega))⟩⟩
theorem pHi_rf {Y : pY} {G : pG} {r k q : Nat} : pHi Y G (prf Y r k q) G := ⟨Nat.le_refl _, Nat.le_refl _, fun hk => ⟨hk, fun _ _ => rfl⟩⟩
theorem pHi_nw {Y : pY} {G : pG} {kind : Nat} {len : Int} (h : Y.1.1 ≤ 497) : pHi Y G (pnw Y kind len) (pz G Y.1.1) := ⟨Nat.le_succ _, Nat.le_add_right _ _, fun hk => ⟨⟨by show Y.1.1 + 1 ≤ 498; omega, fun i hi => by
  have hi : Y.1.1 + 1 ≤ i := hi
  show (if i = Y.1.1 then (kind, len) else Y.2.1 i).1 = 999
  rw [if_neg (by omega)]
  exact hk.2 i (by omega)⟩, fun i hi => by
  show (if i = Y.1.1 then _ else _) = _
  rw [if_neg (by omega)]⟩⟩
theorem pHi_nw2 {Y : pY} {G : pG} {N Kk : Nat} (h : Y.1.1 + N ≤ 497) : pHi Y G (pmn2 Y N Kk) (pz2 G Y.1.1 N) := ⟨by show Y.1.1 ≤ Y.1.1 + 1 + N; omega, by show Y.1.2 ≤ Y.1.2 + N + N * Kk; omega, fun hk => ⟨⟨by show Y.1.1 + 1 + N ≤ 498; omega, fun i hi => by
  have hi : Y.1.1 + 1 + N ≤ i := hi
  show (if i < Y.1.1 then Y.2.1 i else if i = Y.1.1 then (103, (N : Int)) else if i < Y.1.1 + 1 + N then (100, (Kk : Int)) else Y.2.1 i).1 = 999
  rw [if_neg (by omega), if_neg (by omega), if_neg (by omega)]
  exact hk.2 i (by omega)⟩, fun i hi => by
  show (if Y.1.1 ≤ i ∧ i < Y.1.1 + 1 + N then _ else _) = _
  rw [if_neg (by omega)]⟩⟩

theorem pH_i {Y : pY} {G : pG} {stk : List pV} {k : Int → List pV → Option pO} (h : ∀ a0 st, pH Y G (k a0 st)) : pH Y G (k_i stk none k) := by
  unfold k_i; split
  · exact h _ _
  · exact pH_n
theorem pH_l {Y : pY} {G : pG} {stk : List pV} {k : Int → List pV → Option pO} (h : ∀ a0 st, pH Y G (k a0 st)) : pH Y G (k_l stk none k) := by
  unfold k_l; split
  · exact h _ _
  · exact pH_n
theorem pH_r {Y : pY} {G : pG} {stk : List pV} {k : Nat → List pV → Option pO} (h : ∀ a0 st, pH Y G (k a0 st)) : pH Y G (k_r stk none k) := by
  unfold k_r; split
  · exact h _ _
  · exact pH_n
theorem pH_ii {Y : pY} {G : pG} {stk : List pV} {k : Int → Int → List pV → Option pO} (h : ∀ a0 a1 st, pH Y G (k a0 a1 st)) : pH Y G (k_ii stk none k) := by
  unfold k_ii; split
  · exact h _ _ _
  · exact pH_n
theorem pH_ll {Y : pY} {G : pG} {stk : List pV} {k : Int → Int → List pV → Option pO} (h : ∀ a0 a1 st, pH Y G (k a0 a1 st)) : pH Y G (k_ll stk none k) := by
  unfold k_ll; split
  · exact h _ _ _
  · exact pH_n
theorem pH_li {Y : pY} {G : pG} {stk : List pV} {k : Int → Int → List pV → Option pO} (h : ∀ a0 a1 st, pH Y G (k a0 a1 st)) : pH Y G (k_li stk none k) := by
  unfold k_li; split
  · exact h _ _ _
  · exact pH_n
theorem pH_ri {Y : pY} {G : pG} {stk : List pV} {k : Nat → Int → List pV → Option pO} (h : ∀ a0 a1 st, pH Y G (k a0 a1 st)) : pH Y G (k_ri stk none k) := by
  unfold k_ri; split
  · exact h _ _ _
  · exact pH_n
theorem pH_rl {Y : pY} {G : pG} {stk : List pV} {k : Nat → Int → List pV → Option pO} (h : ∀ a0 a1 st, pH Y G (k a0 a1 st)) : pH Y G (k_rl stk none k) := by
  unfold k_rl; split
  · exact h _ _ _
  · exact pH_n
theorem pH_rr {Y : pY} {G : pG} {stk : List pV} {k : Nat → Nat → List pV → Option pO} (h : ∀ a0 a1 st, pH Y G (k a0 a1 st)) : pH Y G (k_rr stk none k) := by
  unfold k_rr; split
  · exact h _ _ _
  · exact pH_n
theorem pH_rii {Y : pY} {G : pG} {stk : List pV} {k : Nat → Int → Int → List pV → Option pO} (h : ∀ a0 a1 a2 st, pH Y G (k a0 a1 a2 st)) : pH Y G (k_rii stk none k) := by
  unfold k_rii; split
  · exact h _ _ _ _
  · exact pH_n
theorem pH_ril {Y : pY} {G : pG} {stk : List pV} {k : Nat → Int → Int → List pV → Option pO} (h : ∀ a0 a1 a2 st, pH Y G (k a0 a1 a2 st)) : pH Y G (k_ril stk none k) := by
  unfold k_ril; split
  · exact h _ _ _ _
  · exact pH_n
theorem pH_cp {Y : pY} {G : pG} {stk : List pV} {k : Nat → Int → Nat → Int → Int → List pV → Option pO} (h : ∀ a0 a1 a2 a3 a4 st, pH Y G (k a0 a1 a2 a3 a4 st)) : pH Y G (k_cp stk none k) := by
  unfold k_cp; split
  · exact h _ _ _ _ _ _
  · exact pH_n
theorem pH_d {Y : pY} {G : pG} {stk : List pV} {k : pV → List pV → Option pO} (h : ∀ v st, pH Y G (k v st)) : pH Y G (k_d stk none k) := by
  unfold k_d k_c1; split
  · split
    · exact pH_n
    · exact h _ _
  · exact pH_n
theorem pH_d2 {Y : pY} {G : pG} {stk : List pV} {k : pV → pV → List pV → Option pO} (h : ∀ v w st, pH Y G (k v w st)) : pH Y G (k_d2 stk none k) := by
  unfold k_d2 k_c1; split
  · split
    · exact pH_n
    · split
      · exact pH_n
      · exact h _ _ _
  · exact pH_n
theorem pH_oi {Y : pY} {G : pG} {q : Option pV} {k : Int → Option pO} (h : ∀ x, pH Y G (k x)) : pH Y G (k_oi q none k) := by
  unfold k_oi; split
  · exact h _
  · exact pH_n
theorem pH_ol {Y : pY} {G : pG} {q : Option pV} {k : Int → Option pO} (h : ∀ x, pH Y G (k x)) : pH Y G (k_ol q none k) := by
  unfold k_ol; split
  · exact h _
  · exact pH_n
theorem pH_or {Y : pY} {G : pG} {q : Option pV} {k : Nat → Option pO} (h : ∀ x, pH Y G (k x)) : pH Y G (k_or q none k) := by
  unfold k_or; split
  · exact h _
  · exact pH_n
set_option maxHeartbeats 4000000 in
set_option maxRecDepth 20000 in
theorem pH_step {Y : pY} {G : pG} {e : pE} {pc : Nat} {l stk : List pV} (hb : ∀ i, e.1 = .getfield i ∨ e.1 = .putfield i → e.2.2.2.1 ≠ 999) : pH Y G (pstep Y G e pc l stk) := by
  obtain ⟨o, len, a, b, c⟩ := e
  cases o
  case iconst x => exact pH_x
  case ldc2_w x => exact pH_x
  case ldc x => exact pH_x
  case goto x => exact pH_x
  case iload i => exact pH_oi (fun _ => pH_x)
  case lload i => exact pH_ol (fun _ => pH_x)
  case aload i => exact pH_or (fun _ => pH_x)
  case istore i => exact pH_i (fun _ _ => pH_bif (fun _ => pH_x) pH_n)
  case lstore i => exact pH_l (fun _ _ => pH_bif (fun _ => pH_x) pH_n)
  case astore i => exact pH_r (fun _ _ => pH_bif (fun _ => pH_x) pH_n)
  case iinc i k => exact pH_oi (fun _ => pH_x)
  case iadd => exact pH_ii (fun _ _ _ => pH_x)
  case isub => exact pH_ii (fun _ _ _ => pH_x)
  case imul => exact pH_ii (fun _ _ _ => pH_x)
  case iand => exact pH_ii (fun _ _ _ => pH_x)
  case ior => exact pH_ii (fun _ _ _ => pH_x)
  case ixor => exact pH_ii (fun _ _ _ => pH_x)
  case ishl => exact pH_ii (fun _ _ _ => pH_x)
  case ishr => exact pH_ii (fun _ _ _ => pH_x)
  case iushr => exact pH_ii (fun _ _ _ => pH_x)
  case ladd => exact pH_ll (fun _ _ _ => pH_x)
  case lsub => exact pH_ll (fun _ _ _ => pH_x)
  case lmul => exact pH_ll (fun _ _ _ => pH_x)
  case land => exact pH_ll (fun _ _ _ => pH_x)
  case lor => exact pH_ll (fun _ _ _ => pH_x)
  case lcmp => exact pH_ll (fun _ _ _ => pH_x)
  case lshl => exact pH_li (fun _ _ _ => pH_x)
  case lshr => exact pH_li (fun _ _ _ => pH_x)
  case idiv => exact pH_ii (fun _ _ _ => pH_ifn pH_n pH_x)
  case irem => exact pH_ii (fun _ _ _ => pH_ifn pH_n pH_x)
  case ldiv => exact pH_ll (fun _ _ _ => pH_ifn pH_n pH_x)
  case lrem => exact pH_ll (fun _ _ _ => pH_ifn pH_n pH_x)
  case ineg => exact pH_i (fun _ _ => pH_x)
  case i2l => exact pH_i (fun _ _ => pH_x)
  case i2b => exact pH_i (fun _ _ => pH_x)
  case lneg => exact pH_l (fun _ _ => pH_x)
  case l2i => exact pH_l (fun _ _ => pH_x)
  case dup => exact pH_d (fun _ _ => pH_x)
  case dup2 => exact pH_d2 (fun _ _ _ => pH_x)
  case ifCond cn off => exact pH_i (fun _ _ => pH_bif (fun _ => pH_x) pH_x)
  case if_icmp cn off => exact pH_ii (fun _ _ _ => pH_bif (fun _ => pH_x) pH_x)
  case tableswitch dflt lo hi offs => exact pH_i (fun _ _ => pH_ifn pH_x (pH_op (fun _ => pH_x)))
  case lookupswitch dflt ps => exact pH_i (fun _ _ => pH_x)
  case getfield i => exact pH_r (fun _ _ => pH_bif (fun _ => by
    split
    · exact pH_x
    · exact pH_op (fun _ => pH_x)
    · exact pH_x) pH_n)
  case putfield i =>
    have hb9 : b ≠ 999 := hb i (Or.inr rfl)
    unfold pstep
    dsimp only
    split
    · exact pH_ri (fun _ _ _ => pH_bif (fun h => pH_y (pHi_set (by have := beq_e h; omega))) pH_n)
    · exact pH_rl (fun _ _ _ => pH_bif (fun h => pH_y (pHi_set (by have := beq_e h; omega))) pH_n)
    · exact pH_ri (fun _ _ _ => pH_bif (fun h => pH_ifn (pH_y (pHi_set (by have := beq_e h; omega))) pH_n) pH_n)
    · exact pH_rr (fun _ _ _ => pH_bif (fun h => pH_y pHi_rf) pH_n)
  case iaload => exact pH_ri (fun _ _ _ => pH_bif (fun _ => pH_ifn pH_x pH_n) pH_n)
  case laload => exact pH_ri (fun _ _ _ => pH_bif (fun _ => pH_ifn pH_x pH_n) pH_n)
  case baload => exact pH_ri (fun _ _ _ => pH_bif (fun _ => pH_ifn pH_x pH_n) pH_n)
  case faload => exact pH_ri (fun _ _ _ => pH_bif (fun _ => pH_ifn pH_x pH_n) pH_n)
  case fastore => exact pH_r (fun _ _ => pH_bif (fun _ => pH_x) pH_n)
  case aaload => exact pH_ri (fun _ _ _ => pH_bif (fun _ => pH_ifn (pH_op (fun _ => pH_x)) pH_n) pH_n)
  case iastore => exact pH_rii (fun _ _ _ _ => pH_bif (fun h => pH_ifn (pH_y (pHi_set (by have := beq_e h; omega))) pH_n) pH_n)
  case bastore => exact pH_rii (fun _ _ _ _ => pH_bif (fun h => pH_ifn (pH_y (pHi_set (by have := beq_e h; omega))) pH_n) pH_n)
  case lastore => exact pH_ril (fun _ _ _ _ => pH_bif (fun h => pH_ifn (pH_y (pHi_set (by have := beq_e h; omega))) pH_n) pH_n)
  case arraylength => exact pH_r (fun _ _ => pH_bif (fun _ => pH_x) pH_n)
  case invokestatic rc => exact pH_op (fun _ => pH_bif (fun _ => pH_s) pH_n)
  case pop => exact pH_r (fun _ _ => pH_bif (fun _ => pH_x) pH_n)
  case f2d => exact pH_ii (fun _ _ _ => pH_bif (fun _ => pH_x) pH_n)
  case f2i => exact pH_ii (fun _ _ _ => pH_bif (fun _ => pH_x) pH_n)
  case d2i => exact pH_ll (fun _ _ _ => pH_bif (fun _ => pH_x) pH_n)
  case f2l => exact pH_i (fun _ _ => pH_bif (fun _ => pH_x) pH_n)
  case d2f => exact pH_l (fun _ _ => pH_bif (fun _ => pH_x) pH_n)
  case d2l => exact pH_cp (fun _ _ _ _ _ _ => pH_bif (fun _ => pH_bif (fun h => pH_ifn (pH_y (pHi_cpy (by
    simp only [Bool.or_eq_true, Bool.and_eq_true] at h
    rcases h with ⟨-, h⟩ | ⟨-, h⟩ <;> (have := beq_e h; omega)))) pH_n) pH_n) pH_n)
  case daload => exact pH_r (fun _ _ => pH_bif (fun _ => pH_op (fun _ => pH_x)) pH_n)
  case dastore => exact pH_ri (fun _ _ _ => pH_bif (fun _ => pH_op (fun _ => pH_ifn (pH_op (fun _ => pH_x)) pH_n)) pH_n)
  case new x => exact pH_bif (fun h => pH_y (pHi_nw (Nat.le_of_ble_eq_true h))) pH_n
  case newarray t => exact pH_i (fun _ _ => pH_if (fun h => pH_y (pHi_nw h.1)) pH_n)
  case multianewarray i n => exact pH_ii (fun _ _ _ => pH_if (fun h => pH_y (pHi_nw2 (by omega))) pH_n)
  case ireturn =>
    unfold pstep
    dsimp only
    split
    · exact pH_bif (fun _ => pH_ifn pH_s pH_n) pH_s
    · exact pH_n
  case lreturn =>
    unfold pstep
    dsimp only
    split
    · exact pH_s
    · exact pH_n
  case return_ =>
    unfold pstep
    dsimp only
    split
    · exact pH_s
    · exact pH_n
  all_goals exact pH_n

def pall (P : Nat → pM → Prop) : Nat → List pM → Prop
  | _, [] => True
  | n, x :: l => P n x ∧ pall P (n + 1) l
theorem pall_at {P : Nat → pM → Prop} {x : pM} : ∀ {l : List pM} {n j : Nat}, pall P n l → pn l j = some x → P (n + j) x
  | [], _, _, _, h => by cases h
  | _ :: _, _, 0, h, e => by cases e; exact h.1
  | _ :: l, n, j + 1, h, e => by
    have h2 := pall_at (l := l) (n := n + 1) (j := j) h.2 e
    rw [show n + (j + 1) = n + 1 + j by omega]
    exact h2
def palls (P : Nat → pM → Prop) : Nat → List (List pM) → Prop
  | _, [] => True
  | n, x :: l => pall P n x ∧ palls P (n + 16) l
theorem palls_at {P : Nat → pM → Prop} {x : pM} {r : List pM} : ∀ {l : List (List pM)} {n i j : Nat}, palls P n l → pn l i = some r → pn r j = some x → P (n + 16 * i + j) x
  | [], _, _, _, _, h, _ => by cases h
  | _ :: _, _, 0, _, h, e, e2 => by cases e; exact pall_at h.1 e2
  | _ :: l, n, i + 1, j, h, e, e2 => by
    have h2 := palls_at (l := l) (n := n + 16) (i := i) (j := j) h.2 e e2
    rw [show n + 16 * (i + 1) + j = n + 16 + 16 * i + j by omega]
    exact h2
def pKo (M : Nat) : Nat := match pn2 pmwT (M - 1) with
  | some w => w.1
  | none => 0
/-- entries that fit their method: what it answers, what it writes once -/
def pent1 (K rt : Nat) (ini : Bool) (e : Option pE) : Bool := match e with
  | none => true
  | some (o, _, _, b, c) => match o with
    | .ireturn => Nat.beq rt 1 || Nat.beq rt 3
    | .lreturn => Nat.beq rt 2
    | .return_ => Nat.beq rt 0
    | .putfield _ => Nat.ble b 12 && (!(c == 2) || (ini && Nat.beq b K))
    | .getfield _ => Nat.ble b 12
    | _ => true
def ptok (K rt : Nat) (ini : Bool) (t : pT) : Bool := t.all (fun r => r.all (pent1 K rt ini))
def pMok (M : Nat) (mi : pM) : Prop := pchk (pKo M) mi.2.2 (pcd M) 0 mi.1 = true ∧ mi.2.1 = pml M ∧ mi.2.2 = prc (pmr M) ∧ ptok (pKo M) mi.2.2 (pini M) mi.1 = true
theorem pzk1 : ptok 0 0 true t1 = true := by decide +kernel
theorem pzk2 : ptok 0 1 false t2 = true := by decide +kernel
theorem pzk3 : ptok 0 1 false t3 = true := by decide +kernel
theorem pzk4 : ptok 0 1 false t4 = true := by decide +kernel
theorem pzk5 : ptok 0 3 false t5 = true := by decide +kernel
theorem pzk6 : ptok 0 0 false t6 = true := by decide +kernel
theorem pzk7 : ptok 0 0 false t7 = true := by decide +kernel
theorem pzk8 : ptok 0 1 false t8 = true := by decide +kernel
theorem pzk9 : ptok 0 1 false t9 = true := by decide +kernel
theorem pzk10 : ptok 1 0 true t10 = true := by decide +kernel
theorem pzk11 : ptok 1 0 false t11 = true := by decide +kernel
theorem pzk12 : ptok 1 1 false t12 = true := by decide +kernel
theorem pzk13 : ptok 1 1 false t13 = true := by decide +kernel
theorem pzk14 : ptok 1 1 false t14 = true := by decide +kernel
theorem pzk15 : ptok 1 3 false t15 = true := by decide +kernel
theorem pzk16 : ptok 1 3 false t16 = true := by decide +kernel
theorem pzk17 : ptok 1 1 false t17 = true := by decide +kernel
theorem pzk18 : ptok 2 0 true t18 = true := by decide +kernel
theorem pzk19 : ptok 2 0 false t19 = true := by decide +kernel
theorem pzk20 : ptok 2 0 false t20 = true := by decide +kernel
theorem pzk21 : ptok 2 0 false t21 = true := by decide +kernel
theorem pzk22 : ptok 2 1 false t22 = true := by decide +kernel
theorem pzk23 : ptok 2 0 false t23 = true := by decide +kernel
theorem pzk24 : ptok 2 1 false t24 = true := by decide +kernel
theorem pzk25 : ptok 2 1 false t25 = true := by decide +kernel
theorem pzk26 : ptok 2 1 false t26 = true := by decide +kernel
theorem pzk27 : ptok 2 1 false t27 = true := by decide +kernel
theorem pzk28 : ptok 2 1 false t28 = true := by decide +kernel
theorem pzk29 : ptok 2 3 false t29 = true := by decide +kernel
theorem pzk30 : ptok 2 3 false t30 = true := by decide +kernel
theorem pzk31 : ptok 3 0 true t31 = true := by decide +kernel
theorem pzk32 : ptok 3 0 false t32 = true := by decide +kernel
theorem pzk33 : ptok 3 1 false t33 = true := by decide +kernel
theorem pzk34 : ptok 3 1 false t34 = true := by decide +kernel
theorem pzk35 : ptok 3 0 false t35 = true := by decide +kernel
theorem pzk36 : ptok 3 1 false t36 = true := by decide +kernel
theorem pzk37 : ptok 4 0 true t37 = true := by decide +kernel
theorem pzk38 : ptok 4 1 false t38 = true := by decide +kernel
theorem pzk39 : ptok 4 0 false t39 = true := by decide +kernel
theorem pzk40 : ptok 4 0 false t40 = true := by decide +kernel
theorem pzk41 : ptok 4 1 false t41 = true := by decide +kernel
theorem pzk42 : ptok 5 0 true t42 = true := by decide +kernel
theorem pzk43 : ptok 5 0 false t43 = true := by decide +kernel
theorem pzk44 : ptok 5 0 false t44 = true := by decide +kernel
theorem pzk45 : ptok 5 1 false t45 = true := by decide +kernel
theorem pzk46 : ptok 5 1 false t46 = true := by decide +kernel
theorem pzk47 : ptok 5 1 false t47 = true := by decide +kernel
theorem pzk48 : ptok 5 1 false t48 = true := by decide +kernel
theorem pzk49 : ptok 5 1 false t49 = true := by decide +kernel
theorem pzk50 : ptok 5 1 false t50 = true := by decide +kernel
theorem pzk51 : ptok 5 0 false t51 = true := by decide +kernel
theorem pzk52 : ptok 5 1 false t52 = true := by decide +kernel
theorem pzk53 : ptok 5 1 false t53 = true := by decide +kernel
theorem pzk54 : ptok 5 0 false t54 = true := by decide +kernel
theorem pzk55 : ptok 5 3 false t55 = true := by decide +kernel
theorem pzk56 : ptok 6 0 true t56 = true := by decide +kernel
theorem pzk57 : ptok 6 0 false t57 = true := by decide +kernel
theorem pzk58 : ptok 6 0 false t58 = true := by decide +kernel
theorem pzk59 : ptok 6 1 false t59 = true := by decide +kernel
theorem pzk60 : ptok 6 0 false t60 = true := by decide +kernel
theorem pzk61 : ptok 6 0 false t61 = true := by decide +kernel
theorem pzk62 : ptok 6 1 false t62 = true := by decide +kernel
theorem pzk63 : ptok 6 1 false t63 = true := by decide +kernel
theorem pzk64 : ptok 6 1 false t64 = true := by decide +kernel
theorem pzk65 : ptok 6 1 false t65 = true := by decide +kernel
theorem pzk66 : ptok 6 1 false t66 = true := by decide +kernel
theorem pzk67 : ptok 6 1 false t67 = true := by decide +kernel
theorem pzk68 : ptok 7 0 true t68 = true := by decide +kernel
theorem pzk69 : ptok 7 3 false t69 = true := by decide +kernel
theorem pzk70 : ptok 7 3 false t70 = true := by decide +kernel
theorem pzk71 : ptok 7 3 false t71 = true := by decide +kernel
theorem pzk72 : ptok 7 3 false t72 = true := by decide +kernel
theorem pzk73 : ptok 7 3 false t73 = true := by decide +kernel
theorem pzk74 : ptok 7 3 false t74 = true := by decide +kernel
theorem pzk75 : ptok 7 3 false t75 = true := by decide +kernel
theorem pzk76 : ptok 7 3 false t76 = true := by decide +kernel
theorem pzk77 : ptok 7 3 false t77 = true := by decide +kernel
theorem pzk78 : ptok 7 3 false t78 = true := by decide +kernel
theorem pzk79 : ptok 7 3 false t79 = true := by decide +kernel
theorem pzk80 : ptok 7 3 false t80 = true := by decide +kernel
theorem pzk81 : ptok 7 3 false t81 = true := by decide +kernel
theorem pzk82 : ptok 8 0 true t82 = true := by decide +kernel
theorem pzk83 : ptok 8 0 false t83 = true := by decide +kernel
theorem pzk84 : ptok 8 1 false t84 = true := by decide +kernel
theorem pzk85 : ptok 8 1 false t85 = true := by decide +kernel
theorem pzk86 : ptok 8 1 false t86 = true := by decide +kernel
theorem pzk87 : ptok 8 0 false t87 = true := by decide +kernel
theorem pzk88 : ptok 8 3 false t88 = true := by decide +kernel
theorem pzk89 : ptok 8 0 false t89 = true := by decide +kernel
theorem pzk90 : ptok 8 3 false t90 = true := by decide +kernel
theorem pzk91 : ptok 8 1 false t91 = true := by decide +kernel
theorem pzk92 : ptok 8 1 false t92 = true := by decide +kernel
theorem pzk93 : ptok 8 3 false t93 = true := by decide +kernel
theorem pzk94 : ptok 8 1 false t94 = true := by decide +kernel
theorem pzk95 : ptok 8 1 false t95 = true := by decide +kernel
theorem pzk96 : ptok 8 1 false t96 = true := by decide +kernel
theorem pzk97 : ptok 9 0 true t97 = true := by decide +kernel
theorem pzk98 : ptok 9 0 false t98 = true := by decide +kernel
theorem pzk99 : ptok 9 1 false t99 = true := by decide +kernel
theorem pzk100 : ptok 9 0 false t100 = true := by decide +kernel
theorem pzk101 : ptok 9 0 false t101 = true := by decide +kernel
theorem pzk102 : ptok 9 0 false t102 = true := by decide +kernel
theorem pzk103 : ptok 9 0 false t103 = true := by decide +kernel
theorem pzk104 : ptok 9 3 false t104 = true := by decide +kernel
theorem pzk105 : ptok 9 3 false t105 = true := by decide +kernel
theorem pzk106 : ptok 9 3 false t106 = true := by decide +kernel
theorem pzk107 : ptok 10 0 true t107 = true := by decide +kernel
theorem pzk108 : ptok 10 1 false t108 = true := by decide +kernel
theorem pzk109 : ptok 10 1 false t109 = true := by decide +kernel
theorem pzk110 : ptok 10 0 false t110 = true := by decide +kernel
theorem pzk111 : ptok 10 2 false t111 = true := by decide +kernel
theorem pzk112 : ptok 10 1 false t112 = true := by decide +kernel
theorem pzk113 : ptok 10 0 false t113 = true := by decide +kernel
theorem pzk114 : ptok 10 0 false t114 = true := by decide +kernel
theorem pzk115 : ptok 10 0 false t115 = true := by decide +kernel
theorem pzk116 : ptok 10 2 false t116 = true := by decide +kernel
theorem pzk117 : ptok 11 0 true t117 = true := by decide +kernel
theorem pzk118 : ptok 11 3 false t118 = true := by decide +kernel
theorem pzk119 : ptok 11 3 false t119 = true := by decide +kernel
theorem pzk120 : ptok 11 3 false t120 = true := by decide +kernel
theorem pzk121 : ptok 11 3 false t121 = true := by decide +kernel
theorem pzk122 : ptok 11 3 false t122 = true := by decide +kernel
theorem pzk123 : ptok 11 3 false t123 = true := by decide +kernel
theorem pzk124 : ptok 11 3 false t124 = true := by decide +kernel
theorem pzk125 : ptok 11 3 false t125 = true := by decide +kernel
theorem pzk126 : ptok 11 3 false t126 = true := by decide +kernel
theorem pzk127 : ptok 11 3 false t127 = true := by decide +kernel
theorem pzk128 : ptok 11 1 false t128 = true := by decide +kernel
theorem pzk129 : ptok 11 1 false t129 = true := by decide +kernel
theorem pzk130 : ptok 11 1 false t130 = true := by decide +kernel
theorem pzk131 : ptok 11 1 false t131 = true := by decide +kernel
theorem pzk132 : ptok 11 1 false t132 = true := by decide +kernel
theorem pzk133 : ptok 11 1 false t133 = true := by decide +kernel
theorem pzk134 : ptok 11 1 false t134 = true := by decide +kernel
theorem pzk135 : ptok 11 1 false t135 = true := by decide +kernel
theorem pzk136 : ptok 11 1 false t136 = true := by decide +kernel
theorem pzk137 : ptok 11 1 false t137 = true := by decide +kernel
theorem pzk138 : ptok 11 1 false t138 = true := by decide +kernel
theorem pzk139 : ptok 11 1 false t139 = true := by decide +kernel
theorem pzk140 : ptok 11 1 false t140 = true := by decide +kernel
theorem pzk141 : ptok 11 1 false t141 = true := by decide +kernel
theorem pzk142 : ptok 11 1 false t142 = true := by decide +kernel
theorem pzk143 : ptok 11 1 false t143 = true := by decide +kernel
theorem pzk144 : ptok 11 1 false t144 = true := by decide +kernel
theorem pzk145 : ptok 11 1 false t145 = true := by decide +kernel
theorem pzk146 : ptok 11 1 false t146 = true := by decide +kernel
theorem pzk147 : ptok 11 1 false t147 = true := by decide +kernel
theorem pzk148 : ptok 11 1 false t148 = true := by decide +kernel
theorem pzk149 : ptok 11 1 false t149 = true := by decide +kernel
theorem pzk150 : ptok 11 3 false t150 = true := by decide +kernel
theorem pzk151 : ptok 11 1 false t151 = true := by decide +kernel
theorem pzk152 : ptok 11 2 false t152 = true := by decide +kernel
theorem pzk153 : ptok 11 1 false t153 = true := by decide +kernel
theorem pzk154 : ptok 11 2 false t154 = true := by decide +kernel
theorem pzk155 : ptok 11 1 false t155 = true := by decide +kernel
theorem pzk156 : ptok 11 1 false t156 = true := by decide +kernel
theorem pzk157 : ptok 11 1 false t157 = true := by decide +kernel
theorem pzk158 : ptok 11 1 false t158 = true := by decide +kernel
theorem pzk159 : ptok 11 1 false t159 = true := by decide +kernel
theorem pzk160 : ptok 11 1 false t160 = true := by decide +kernel
theorem pzk161 : ptok 11 1 false t161 = true := by decide +kernel
theorem pzk162 : ptok 11 1 false t162 = true := by decide +kernel
theorem pzk163 : ptok 11 1 false t163 = true := by decide +kernel
theorem pzk164 : ptok 11 1 false t164 = true := by decide +kernel
theorem pzk165 : ptok 11 1 false t165 = true := by decide +kernel
theorem pzk166 : ptok 12 3 false t166 = true := by decide +kernel
theorem pzk167 : ptok 12 3 false t167 = true := by decide +kernel
theorem pzk168 : ptok 12 1 false t168 = true := by decide +kernel
theorem pzk169 : ptok 12 3 false t169 = true := by decide +kernel
theorem pzk170 : ptok 12 3 false t170 = true := by decide +kernel
theorem pzk171 : ptok 12 0 false t171 = true := by decide +kernel
theorem pzk172 : ptok 12 3 false t172 = true := by decide +kernel
theorem pzk173 : ptok 12 3 false t173 = true := by decide +kernel
theorem pzk174 : ptok 12 3 false t174 = true := by decide +kernel
theorem pzk175 : ptok 12 0 false t175 = true := by decide +kernel
theorem pzk176 : ptok 12 2 false t176 = true := by decide +kernel
theorem pzk177 : ptok 12 1 false t177 = true := by decide +kernel
theorem pzk178 : ptok 12 3 false t178 = true := by decide +kernel
theorem pzk179 : ptok 12 3 false t179 = true := by decide +kernel
theorem pzk180 : ptok 12 3 false t180 = true := by decide +kernel
theorem pzk181 : ptok 12 3 false t181 = true := by decide +kernel
theorem pzk182 : ptok 12 3 false t182 = true := by decide +kernel
theorem pzk183 : ptok 12 3 false t183 = true := by decide +kernel
theorem pzk184 : ptok 12 3 false t184 = true := by decide +kernel
theorem pzk185 : ptok 12 0 true t185 = true := by decide +kernel
theorem pzk186 : ptok 12 1 false t186 = true := by decide +kernel
theorem pzk187 : ptok 12 0 false t187 = true := by decide +kernel
theorem pzk188 : ptok 12 1 false t188 = true := by decide +kernel
theorem pzk189 : ptok 12 1 false t189 = true := by decide +kernel
theorem pzk190 : ptok 12 1 false t190 = true := by decide +kernel
theorem pzk191 : ptok 12 1 false t191 = true := by decide +kernel
theorem pzk192 : ptok 12 1 false t192 = true := by decide +kernel
theorem pzk193 : ptok 12 3 false t193 = true := by decide +kernel
theorem pzk194 : ptok 12 1 false t194 = true := by decide +kernel
theorem pzk195 : ptok 12 3 false t195 = true := by decide +kernel
theorem pzk196 : ptok 12 0 false t196 = true := by decide +kernel
theorem pzk197 : ptok 12 0 false t197 = true := by decide +kernel
theorem pzk198 : ptok 12 3 false t198 = true := by decide +kernel
theorem pzk199 : ptok 12 3 false t199 = true := by decide +kernel
theorem pzk200 : ptok 12 1 false t200 = true := by decide +kernel
theorem pzk201 : ptok 12 1 false t201 = true := by decide +kernel
theorem pzk202 : ptok 12 3 false t202 = true := by decide +kernel
theorem pzk203 : ptok 12 1 false t203 = true := by decide +kernel
theorem pzk204 : ptok 12 1 false t204 = true := by decide +kernel
theorem pzk205 : ptok 12 1 false t205 = true := by decide +kernel
theorem pzk206 : ptok 12 1 false t206 = true := by decide +kernel
theorem pzk207 : ptok 12 1 false t207 = true := by decide +kernel
theorem pzk208 : ptok 12 1 false t208 = true := by decide +kernel
theorem pzk209 : ptok 12 1 false t209 = true := by decide +kernel
theorem pzk210 : ptok 12 3 false t210 = true := by decide +kernel
theorem pzk211 : ptok 12 1 false t211 = true := by decide +kernel
theorem pzk212 : ptok 12 3 false t212 = true := by decide +kernel
theorem pzk213 : ptok 12 3 false t213 = true := by decide +kernel
theorem pzk214 : ptok 12 1 false t214 = true := by decide +kernel
theorem pzk215 : ptok 12 1 false t215 = true := by decide +kernel
theorem pzk216 : ptok 12 1 false t216 = true := by decide +kernel
theorem pzk217 : ptok 12 3 false t217 = true := by decide +kernel
theorem pzk218 : ptok 12 1 false t218 = true := by decide +kernel
theorem pzk219 : ptok 12 1 false t219 = true := by decide +kernel
theorem pzk220 : ptok 12 1 false t220 = true := by decide +kernel
theorem pzk221 : ptok 12 3 false t221 = true := by decide +kernel
theorem pzk222 : ptok 12 1 false t222 = true := by decide +kernel
theorem pzk223 : ptok 12 3 false t223 = true := by decide +kernel
theorem pzk224 : ptok 12 0 false t224 = true := by decide +kernel
theorem pzk225 : ptok 12 1 false t225 = true := by decide +kernel
theorem pzk226 : ptok 12 1 false t226 = true := by decide +kernel
theorem pzk227 : ptok 12 1 false t227 = true := by decide +kernel
theorem pzk228 : ptok 12 3 false t228 = true := by decide +kernel
theorem pzk229 : ptok 12 1 false t229 = true := by decide +kernel
theorem pzk230 : ptok 12 2 false t230 = true := by decide +kernel
theorem pzk231 : ptok 12 0 false t231 = true := by decide +kernel
theorem pzk232 : ptok 12 0 false t232 = true := by decide +kernel
theorem pzk233 : ptok 12 3 false t233 = true := by decide +kernel
theorem pzk234 : ptok 12 1 false t234 = true := by decide +kernel
theorem pzk235 : ptok 12 1 false t235 = true := by decide +kernel
theorem pzk236 : ptok 12 2 false t236 = true := by decide +kernel
theorem pzk237 : ptok 12 1 false t237 = true := by decide +kernel
theorem pzk238 : ptok 12 2 false t238 = true := by decide +kernel
theorem pzk239 : ptok 12 3 false t239 = true := by decide +kernel
theorem pzk240 : ptok 12 3 false t240 = true := by decide +kernel
theorem pzk241 : ptok 12 1 false t241 = true := by decide +kernel
theorem pzk242 : ptok 12 1 false t242 = true := by decide +kernel
theorem pzk243 : ptok 12 1 false t243 = true := by decide +kernel
theorem pzk244 : ptok 12 1 false t244 = true := by decide +kernel
theorem pzk245 : ptok 12 1 false t245 = true := by decide +kernel
theorem pzk246 : ptok 12 1 false t246 = true := by decide +kernel
theorem pzk247 : ptok 12 1 false t247 = true := by decide +kernel
theorem pzk248 : ptok 12 1 false t248 = true := by decide +kernel
theorem pzk249 : ptok 12 1 false t249 = true := by decide +kernel
theorem pzk250 : ptok 12 1 false t250 = true := by decide +kernel
theorem pzk251 : ptok 12 3 false t251 = true := by decide +kernel
theorem pzk252 : ptok 12 1 false t252 = true := by decide +kernel
theorem pzk253 : ptok 12 1 false t253 = true := by decide +kernel
theorem pzk254 : ptok 12 3 false t254 = true := by decide +kernel
theorem pzk255 : ptok 12 0 false t255 = true := by decide +kernel
theorem pzk256 : ptok 12 3 false t256 = true := by decide +kernel
theorem pzk257 : ptok 12 1 false t257 = true := by decide +kernel
theorem pzk258 : ptok 12 1 false t258 = true := by decide +kernel
theorem pzk259 : ptok 12 1 false t259 = true := by decide +kernel
theorem pzk260 : ptok 12 1 false t260 = true := by decide +kernel
theorem pzk261 : ptok 12 1 false t261 = true := by decide +kernel
theorem pzk262 : ptok 12 1 false t262 = true := by decide +kernel
theorem pzk263 : ptok 12 3 false t263 = true := by decide +kernel
theorem pzk264 : ptok 12 1 false t264 = true := by decide +kernel
theorem pzk265 : ptok 12 1 false t265 = true := by decide +kernel
theorem pzk266 : ptok 12 1 false t266 = true := by decide +kernel
theorem pzk267 : ptok 14 0 false t267 = true := by decide +kernel
theorem pzk268 : ptok 13 3 false t268 = true := by decide +kernel
theorem pMok_0 : pall pMok 1 [(t1, 2, 0), (t2, 2, 1), (t3, 3, 1), (t4, 2, 1), (t5, 4, 3), (t6, 2, 0), (t7, 2, 0), (t8, 4, 1), (t9, 7, 1), (t10, 3, 0), (t11, 2, 0), (t12, 2, 1), (t13, 6, 1), (t14, 5, 1), (t15, 2, 3), (t16, 3, 3)] := ⟨⟨k1, rfl, rfl, pzk1⟩, ⟨k2, rfl, rfl, pzk2⟩, ⟨k3, rfl, rfl, pzk3⟩, ⟨k4, rfl, rfl, pzk4⟩, ⟨k5, rfl, rfl, pzk5⟩, ⟨k6, rfl, rfl, pzk6⟩, ⟨k7, rfl, rfl, pzk7⟩, ⟨k8, rfl, rfl, pzk8⟩, ⟨k9, rfl, rfl, pzk9⟩, ⟨k10, rfl, rfl, pzk10⟩, ⟨k11, rfl, rfl, pzk11⟩, ⟨k12, rfl, rfl, pzk12⟩, ⟨k13, rfl, rfl, pzk13⟩, ⟨k14, rfl, rfl, pzk14⟩, ⟨k15, rfl, rfl, pzk15⟩, ⟨k16, rfl, rfl, pzk16⟩, trivial⟩
theorem pMok_1 : pall pMok 17 [(t17, 5, 1), (t18, 3, 0), (t19, 1, 0), (t20, 5, 0), (t21, 7, 0), (t22, 9, 1), (t23, 10, 0), (t24, 2, 1), (t25, 4, 1), (t26, 4, 1), (t27, 2, 1), (t28, 5, 1), (t29, 5, 3), (t30, 8, 3), (t31, 1, 0), (t32, 1, 0)] := ⟨⟨k17, rfl, rfl, pzk17⟩, ⟨k18, rfl, rfl, pzk18⟩, ⟨k19, rfl, rfl, pzk19⟩, ⟨k20, rfl, rfl, pzk20⟩, ⟨k21, rfl, rfl, pzk21⟩, ⟨k22, rfl, rfl, pzk22⟩, ⟨k23, rfl, rfl, pzk23⟩, ⟨k24, rfl, rfl, pzk24⟩, ⟨k25, rfl, rfl, pzk25⟩, ⟨k26, rfl, rfl, pzk26⟩, ⟨k27, rfl, rfl, pzk27⟩, ⟨k28, rfl, rfl, pzk28⟩, ⟨k29, rfl, rfl, pzk29⟩, ⟨k30, rfl, rfl, pzk30⟩, ⟨k31, rfl, rfl, pzk31⟩, ⟨k32, rfl, rfl, pzk32⟩, trivial⟩
theorem pMok_2 : pall pMok 33 [(t33, 5, 1), (t34, 6, 1), (t35, 3, 0), (t36, 5, 1), (t37, 3, 0), (t38, 3, 1), (t39, 5, 0), (t40, 6, 0), (t41, 7, 1), (t42, 3, 0), (t43, 2, 0), (t44, 3, 0), (t45, 4, 1), (t46, 2, 1), (t47, 6, 1), (t48, 3, 1)] := ⟨⟨k33, rfl, rfl, pzk33⟩, ⟨k34, rfl, rfl, pzk34⟩, ⟨k35, rfl, rfl, pzk35⟩, ⟨k36, rfl, rfl, pzk36⟩, ⟨k37, rfl, rfl, pzk37⟩, ⟨k38, rfl, rfl, pzk38⟩, ⟨k39, rfl, rfl, pzk39⟩, ⟨k40, rfl, rfl, pzk40⟩, ⟨k41, rfl, rfl, pzk41⟩, ⟨k42, rfl, rfl, pzk42⟩, ⟨k43, rfl, rfl, pzk43⟩, ⟨k44, rfl, rfl, pzk44⟩, ⟨k45, rfl, rfl, pzk45⟩, ⟨k46, rfl, rfl, pzk46⟩, ⟨k47, rfl, rfl, pzk47⟩, ⟨k48, rfl, rfl, pzk48⟩, trivial⟩
theorem pMok_3 : pall pMok 49 [(t49, 3, 1), (t50, 3, 1), (t51, 8, 0), (t52, 7, 1), (t53, 2, 1), (t54, 6, 0), (t55, 3, 3), (t56, 1, 0), (t57, 1, 0), (t58, 2, 0), (t59, 4, 1), (t60, 5, 0), (t61, 4, 0), (t62, 2, 1), (t63, 2, 1), (t64, 5, 1)] := ⟨⟨k49, rfl, rfl, pzk49⟩, ⟨k50, rfl, rfl, pzk50⟩, ⟨k51, rfl, rfl, pzk51⟩, ⟨k52, rfl, rfl, pzk52⟩, ⟨k53, rfl, rfl, pzk53⟩, ⟨k54, rfl, rfl, pzk54⟩, ⟨k55, rfl, rfl, pzk55⟩, ⟨k56, rfl, rfl, pzk56⟩, ⟨k57, rfl, rfl, pzk57⟩, ⟨k58, rfl, rfl, pzk58⟩, ⟨k59, rfl, rfl, pzk59⟩, ⟨k60, rfl, rfl, pzk60⟩, ⟨k61, rfl, rfl, pzk61⟩, ⟨k62, rfl, rfl, pzk62⟩, ⟨k63, rfl, rfl, pzk63⟩, ⟨k64, rfl, rfl, pzk64⟩, trivial⟩
theorem pMok_4 : pall pMok 65 [(t65, 1, 1), (t66, 1, 1), (t67, 1, 1), (t68, 2, 0), (t69, 2, 3), (t70, 2, 3), (t71, 1, 3), (t72, 4, 3), (t73, 3, 3), (t74, 3, 3), (t75, 3, 3), (t76, 1, 3), (t77, 2, 3), (t78, 2, 3), (t79, 3, 3), (t80, 3, 3)] := ⟨⟨k65, rfl, rfl, pzk65⟩, ⟨k66, rfl, rfl, pzk66⟩, ⟨k67, rfl, rfl, pzk67⟩, ⟨k68, rfl, rfl, pzk68⟩, ⟨k69, rfl, rfl, pzk69⟩, ⟨k70, rfl, rfl, pzk70⟩, ⟨k71, rfl, rfl, pzk71⟩, ⟨k72, rfl, rfl, pzk72⟩, ⟨k73, rfl, rfl, pzk73⟩, ⟨k74, rfl, rfl, pzk74⟩, ⟨k75, rfl, rfl, pzk75⟩, ⟨k76, rfl, rfl, pzk76⟩, ⟨k77, rfl, rfl, pzk77⟩, ⟨k78, rfl, rfl, pzk78⟩, ⟨k79, rfl, rfl, pzk79⟩, ⟨k80, rfl, rfl, pzk80⟩, trivial⟩
theorem pMok_5 : pall pMok 81 [(t81, 1, 3), (t82, 2, 0), (t83, 2, 0), (t84, 4, 1), (t85, 5, 1), (t86, 4, 1), (t87, 7, 0), (t88, 4, 3), (t89, 6, 0), (t90, 7, 3), (t91, 7, 1), (t92, 5, 1), (t93, 5, 3), (t94, 6, 1), (t95, 5, 1), (t96, 6, 1)] := ⟨⟨k81, rfl, rfl, pzk81⟩, ⟨k82, rfl, rfl, pzk82⟩, ⟨k83, rfl, rfl, pzk83⟩, ⟨k84, rfl, rfl, pzk84⟩, ⟨k85, rfl, rfl, pzk85⟩, ⟨k86, rfl, rfl, pzk86⟩, ⟨k87, rfl, rfl, pzk87⟩, ⟨k88, rfl, rfl, pzk88⟩, ⟨k89, rfl, rfl, pzk89⟩, ⟨k90, rfl, rfl, pzk90⟩, ⟨k91, rfl, rfl, pzk91⟩, ⟨k92, rfl, rfl, pzk92⟩, ⟨k93, rfl, rfl, pzk93⟩, ⟨k94, rfl, rfl, pzk94⟩, ⟨k95, rfl, rfl, pzk95⟩, ⟨k96, rfl, rfl, pzk96⟩, trivial⟩
theorem pMok_6 : pall pMok 97 [(t97, 1, 0), (t98, 3, 0), (t99, 2, 1), (t100, 1, 0), (t101, 2, 0), (t102, 1, 0), (t103, 1, 0), (t104, 1, 3), (t105, 1, 3), (t106, 1, 3), (t107, 1, 0), (t108, 4, 1), (t109, 6, 1), (t110, 9, 0), (t111, 11, 2), (t112, 3, 1)] := ⟨⟨k97, rfl, rfl, pzk97⟩, ⟨k98, rfl, rfl, pzk98⟩, ⟨k99, rfl, rfl, pzk99⟩, ⟨k100, rfl, rfl, pzk100⟩, ⟨k101, rfl, rfl, pzk101⟩, ⟨k102, rfl, rfl, pzk102⟩, ⟨k103, rfl, rfl, pzk103⟩, ⟨k104, rfl, rfl, pzk104⟩, ⟨k105, rfl, rfl, pzk105⟩, ⟨k106, rfl, rfl, pzk106⟩, ⟨k107, rfl, rfl, pzk107⟩, ⟨k108, rfl, rfl, pzk108⟩, ⟨k109, rfl, rfl, pzk109⟩, ⟨k110, rfl, rfl, pzk110⟩, ⟨k111, rfl, rfl, pzk111⟩, ⟨k112, rfl, rfl, pzk112⟩, trivial⟩
theorem pMok_7 : pall pMok 113 [(t113, 5, 0), (t114, 5, 0), (t115, 8, 0), (t116, 14, 2), (t117, 1, 0), (t118, 6, 3), (t119, 2, 3), (t120, 2, 3), (t121, 2, 3), (t122, 1, 3), (t123, 1, 3), (t124, 1, 3), (t125, 1, 3), (t126, 1, 3), (t127, 1, 3), (t128, 6, 1)] := ⟨⟨k113, rfl, rfl, pzk113⟩, ⟨k114, rfl, rfl, pzk114⟩, ⟨k115, rfl, rfl, pzk115⟩, ⟨k116, rfl, rfl, pzk116⟩, ⟨k117, rfl, rfl, pzk117⟩, ⟨k118, rfl, rfl, pzk118⟩, ⟨k119, rfl, rfl, pzk119⟩, ⟨k120, rfl, rfl, pzk120⟩, ⟨k121, rfl, rfl, pzk121⟩, ⟨k122, rfl, rfl, pzk122⟩, ⟨k123, rfl, rfl, pzk123⟩, ⟨k124, rfl, rfl, pzk124⟩, ⟨k125, rfl, rfl, pzk125⟩, ⟨k126, rfl, rfl, pzk126⟩, ⟨k127, rfl, rfl, pzk127⟩, ⟨k128, rfl, rfl, pzk128⟩, trivial⟩
theorem pMok_8 : pall pMok 129 [(t129, 2, 1), (t130, 2, 1), (t131, 2, 1), (t132, 2, 1), (t133, 3, 1), (t134, 2, 1), (t135, 2, 1), (t136, 2, 1), (t137, 3, 1), (t138, 3, 1), (t139, 4, 1), (t140, 2, 1), (t141, 3, 1), (t142, 3, 1), (t143, 4, 1), (t144, 4, 1)] := ⟨⟨k129, rfl, rfl, pzk129⟩, ⟨k130, rfl, rfl, pzk130⟩, ⟨k131, rfl, rfl, pzk131⟩, ⟨k132, rfl, rfl, pzk132⟩, ⟨k133, rfl, rfl, pzk133⟩, ⟨k134, rfl, rfl, pzk134⟩, ⟨k135, rfl, rfl, pzk135⟩, ⟨k136, rfl, rfl, pzk136⟩, ⟨k137, rfl, rfl, pzk137⟩, ⟨k138, rfl, rfl, pzk138⟩, ⟨k139, rfl, rfl, pzk139⟩, ⟨k140, rfl, rfl, pzk140⟩, ⟨k141, rfl, rfl, pzk141⟩, ⟨k142, rfl, rfl, pzk142⟩, ⟨k143, rfl, rfl, pzk143⟩, ⟨k144, rfl, rfl, pzk144⟩, trivial⟩
theorem pMok_9 : pall pMok 145 [(t145, 2, 1), (t146, 2, 1), (t147, 2, 1), (t148, 2, 1), (t149, 5, 1), (t150, 2, 3), (t151, 2, 1), (t152, 2, 2), (t153, 3, 1), (t154, 3, 2), (t155, 5, 1), (t156, 5, 1), (t157, 3, 1), (t158, 3, 1), (t159, 4, 1), (t160, 3, 1)] := ⟨⟨k145, rfl, rfl, pzk145⟩, ⟨k146, rfl, rfl, pzk146⟩, ⟨k147, rfl, rfl, pzk147⟩, ⟨k148, rfl, rfl, pzk148⟩, ⟨k149, rfl, rfl, pzk149⟩, ⟨k150, rfl, rfl, pzk150⟩, ⟨k151, rfl, rfl, pzk151⟩, ⟨k152, rfl, rfl, pzk152⟩, ⟨k153, rfl, rfl, pzk153⟩, ⟨k154, rfl, rfl, pzk154⟩, ⟨k155, rfl, rfl, pzk155⟩, ⟨k156, rfl, rfl, pzk156⟩, ⟨k157, rfl, rfl, pzk157⟩, ⟨k158, rfl, rfl, pzk158⟩, ⟨k159, rfl, rfl, pzk159⟩, ⟨k160, rfl, rfl, pzk160⟩, trivial⟩
theorem pMok_10 : pall pMok 161 [(t161, 3, 1), (t162, 1, 1), (t163, 3, 1), (t164, 4, 1), (t165, 2, 1), (t166, 6, 3), (t167, 2, 3), (t168, 2, 1), (t169, 1, 3), (t170, 1, 3), (t171, 2, 0), (t172, 4, 3), (t173, 3, 3), (t174, 3, 3), (t175, 1, 0), (t176, 4, 2)] := ⟨⟨k161, rfl, rfl, pzk161⟩, ⟨k162, rfl, rfl, pzk162⟩, ⟨k163, rfl, rfl, pzk163⟩, ⟨k164, rfl, rfl, pzk164⟩, ⟨k165, rfl, rfl, pzk165⟩, ⟨k166, rfl, rfl, pzk166⟩, ⟨k167, rfl, rfl, pzk167⟩, ⟨k168, rfl, rfl, pzk168⟩, ⟨k169, rfl, rfl, pzk169⟩, ⟨k170, rfl, rfl, pzk170⟩, ⟨k171, rfl, rfl, pzk171⟩, ⟨k172, rfl, rfl, pzk172⟩, ⟨k173, rfl, rfl, pzk173⟩, ⟨k174, rfl, rfl, pzk174⟩, ⟨k175, rfl, rfl, pzk175⟩, ⟨k176, rfl, rfl, pzk176⟩, trivial⟩
theorem pMok_11 : pall pMok 177 [(t177, 2, 1), (t178, 3, 3), (t179, 1, 3), (t180, 1, 3), (t181, 2, 3), (t182, 3, 3), (t183, 1, 3), (t184, 2, 3), (t185, 1, 0), (t186, 6, 1), (t187, 3, 0), (t188, 2, 1), (t189, 2, 1), (t190, 2, 1), (t191, 2, 1), (t192, 2, 1)] := ⟨⟨k177, rfl, rfl, pzk177⟩, ⟨k178, rfl, rfl, pzk178⟩, ⟨k179, rfl, rfl, pzk179⟩, ⟨k180, rfl, rfl, pzk180⟩, ⟨k181, rfl, rfl, pzk181⟩, ⟨k182, rfl, rfl, pzk182⟩, ⟨k183, rfl, rfl, pzk183⟩, ⟨k184, rfl, rfl, pzk184⟩, ⟨k185, rfl, rfl, pzk185⟩, ⟨k186, rfl, rfl, pzk186⟩, ⟨k187, rfl, rfl, pzk187⟩, ⟨k188, rfl, rfl, pzk188⟩, ⟨k189, rfl, rfl, pzk189⟩, ⟨k190, rfl, rfl, pzk190⟩, ⟨k191, rfl, rfl, pzk191⟩, ⟨k192, rfl, rfl, pzk192⟩, trivial⟩
theorem pMok_12 : pall pMok 193 [(t193, 3, 3), (t194, 6, 1), (t195, 3, 3), (t196, 8, 0), (t197, 2, 0), (t198, 2, 3), (t199, 2, 3), (t200, 2, 1), (t201, 5, 1), (t202, 6, 3), (t203, 10, 1), (t204, 2, 1), (t205, 2, 1), (t206, 2, 1), (t207, 2, 1), (t208, 6, 1)] := ⟨⟨k193, rfl, rfl, pzk193⟩, ⟨k194, rfl, rfl, pzk194⟩, ⟨k195, rfl, rfl, pzk195⟩, ⟨k196, rfl, rfl, pzk196⟩, ⟨k197, rfl, rfl, pzk197⟩, ⟨k198, rfl, rfl, pzk198⟩, ⟨k199, rfl, rfl, pzk199⟩, ⟨k200, rfl, rfl, pzk200⟩, ⟨k201, rfl, rfl, pzk201⟩, ⟨k202, rfl, rfl, pzk202⟩, ⟨k203, rfl, rfl, pzk203⟩, ⟨k204, rfl, rfl, pzk204⟩, ⟨k205, rfl, rfl, pzk205⟩, ⟨k206, rfl, rfl, pzk206⟩, ⟨k207, rfl, rfl, pzk207⟩, ⟨k208, rfl, rfl, pzk208⟩, trivial⟩
theorem pMok_13 : pall pMok 209 [(t209, 5, 1), (t210, 1, 3), (t211, 3, 1), (t212, 2, 3), (t213, 3, 3), (t214, 3, 1), (t215, 4, 1), (t216, 5, 1), (t217, 1, 3), (t218, 5, 1), (t219, 3, 1), (t220, 6, 1), (t221, 7, 3), (t222, 4, 1), (t223, 3, 3), (t224, 6, 0)] := ⟨⟨k209, rfl, rfl, pzk209⟩, ⟨k210, rfl, rfl, pzk210⟩, ⟨k211, rfl, rfl, pzk211⟩, ⟨k212, rfl, rfl, pzk212⟩, ⟨k213, rfl, rfl, pzk213⟩, ⟨k214, rfl, rfl, pzk214⟩, ⟨k215, rfl, rfl, pzk215⟩, ⟨k216, rfl, rfl, pzk216⟩, ⟨k217, rfl, rfl, pzk217⟩, ⟨k218, rfl, rfl, pzk218⟩, ⟨k219, rfl, rfl, pzk219⟩, ⟨k220, rfl, rfl, pzk220⟩, ⟨k221, rfl, rfl, pzk221⟩, ⟨k222, rfl, rfl, pzk222⟩, ⟨k223, rfl, rfl, pzk223⟩, ⟨k224, rfl, rfl, pzk224⟩, trivial⟩
theorem pMok_14 : pall pMok 225 [(t225, 4, 1), (t226, 2, 1), (t227, 3, 1), (t228, 2, 3), (t229, 2, 1), (t230, 10, 2), (t231, 13, 0), (t232, 7, 0), (t233, 1, 3), (t234, 7, 1), (t235, 2, 1), (t236, 2, 2), (t237, 8, 1), (t238, 13, 2), (t239, 1, 3), (t240, 1, 3)] := ⟨⟨k225, rfl, rfl, pzk225⟩, ⟨k226, rfl, rfl, pzk226⟩, ⟨k227, rfl, rfl, pzk227⟩, ⟨k228, rfl, rfl, pzk228⟩, ⟨k229, rfl, rfl, pzk229⟩, ⟨k230, rfl, rfl, pzk230⟩, ⟨k231, rfl, rfl, pzk231⟩, ⟨k232, rfl, rfl, pzk232⟩, ⟨k233, rfl, rfl, pzk233⟩, ⟨k234, rfl, rfl, pzk234⟩, ⟨k235, rfl, rfl, pzk235⟩, ⟨k236, rfl, rfl, pzk236⟩, ⟨k237, rfl, rfl, pzk237⟩, ⟨k238, rfl, rfl, pzk238⟩, ⟨k239, rfl, rfl, pzk239⟩, ⟨k240, rfl, rfl, pzk240⟩, trivial⟩
theorem pMok_15 : pall pMok 241 [(t241, 5, 1), (t242, 6, 1), (t243, 5, 1), (t244, 1, 1), (t245, 1, 1), (t246, 1, 1), (t247, 2, 1), (t248, 2, 1), (t249, 2, 1), (t250, 7, 1), (t251, 2, 3), (t252, 5, 1), (t253, 4, 1), (t254, 2, 3), (t255, 5, 0), (t256, 1, 3)] := ⟨⟨k241, rfl, rfl, pzk241⟩, ⟨k242, rfl, rfl, pzk242⟩, ⟨k243, rfl, rfl, pzk243⟩, ⟨k244, rfl, rfl, pzk244⟩, ⟨k245, rfl, rfl, pzk245⟩, ⟨k246, rfl, rfl, pzk246⟩, ⟨k247, rfl, rfl, pzk247⟩, ⟨k248, rfl, rfl, pzk248⟩, ⟨k249, rfl, rfl, pzk249⟩, ⟨k250, rfl, rfl, pzk250⟩, ⟨k251, rfl, rfl, pzk251⟩, ⟨k252, rfl, rfl, pzk252⟩, ⟨k253, rfl, rfl, pzk253⟩, ⟨k254, rfl, rfl, pzk254⟩, ⟨k255, rfl, rfl, pzk255⟩, ⟨k256, rfl, rfl, pzk256⟩, trivial⟩
theorem pMok_16 : pall pMok 257 [(t257, 3, 1), (t258, 2, 1), (t259, 5, 1), (t260, 5, 1), (t261, 6, 1), (t262, 6, 1), (t263, 1, 3), (t264, 6, 1), (t265, 7, 1), (t266, 2, 1), (t267, 4, 0), (t268, 4, 3)] := ⟨⟨k257, rfl, rfl, pzk257⟩, ⟨k258, rfl, rfl, pzk258⟩, ⟨k259, rfl, rfl, pzk259⟩, ⟨k260, rfl, rfl, pzk260⟩, ⟨k261, rfl, rfl, pzk261⟩, ⟨k262, rfl, rfl, pzk262⟩, ⟨k263, rfl, rfl, pzk263⟩, ⟨k264, rfl, rfl, pzk264⟩, ⟨k265, rfl, rfl, pzk265⟩, ⟨k266, rfl, rfl, pzk266⟩, ⟨k267, rfl, rfl, pzk267⟩, ⟨k268, rfl, rfl, pzk268⟩, trivial⟩
theorem pMok_all : palls pMok 1 pmtT := ⟨pMok_0, pMok_1, pMok_2, pMok_3, pMok_4, pMok_5, pMok_6, pMok_7, pMok_8, pMok_9, pMok_10, pMok_11, pMok_12, pMok_13, pMok_14, pMok_15, pMok_16, trivial⟩
theorem pMT_ok {M : Nat} {mi : pM} (h : pMT M = some mi) : pMok M mi := by
  unfold pMT at h
  obtain ⟨h0, h⟩ := bif_s h
  have h0 := Nat.le_of_ble_eq_true h0
  unfold pn2 at h
  cases h1 : pn pmtT ((M - 1) / 16) with
  | none => rw [h1] at h; cases h
  | some l =>
    rw [h1] at h
    have h3 := palls_at pMok_all h1 h
    rw [show 1 + 16 * ((M - 1) / 16) + (M - 1) % 16 = M by omega] at h3
    exact h3
theorem all_pn {P : Option pE → Bool} : ∀ {l : List (Option pE)} {j : Nat} {e : Option pE}, l.all P = true → pn l j = some e → P e = true := by
  intro l j e h hj
  rw [pn_get] at hj
  exact List.all_eq_true.mp h e (List.mem_of_getElem? hj)
theorem ptok_at {K rt : Nat} {ini : Bool} {t : pT} {pc : Nat} {e : pE} (h : ptok K rt ini t = true) (hl : plook t pc = some e) : pent1 K rt ini (some e) = true := by
  unfold plook pn2 at hl
  cases h1 : pn t (pc / 16) with
  | none => rw [h1] at hl; cases hl
  | some l =>
    rw [h1] at hl
    dsimp only at hl
    cases h2 : pn l (pc % 16) with
    | none => rw [h2] at hl; cases hl
    | some q =>
      rw [h2] at hl
      cases q with
      | none => cases hl
      | some e0 =>
        cases hl
        have h3 : l.all (pent1 K rt ini) = true := by
          rw [pn_get] at h1
          exact List.all_eq_true.mp h l (List.mem_of_getElem? h1)
        exact all_pn h3 h2
theorem pdesc : (pynT.map (fun r => r.map (fun y => (parseMethodDescriptor y.desc).map (fun d => d.parameters.length)))) = (pmwT.map (fun r => r.map (fun w => some (bif w.2.2.2.2 then w.2.2.2.1 else w.2.2.2.1 - 1)))) := by decide +kernel
theorem pplain : ∀ K, K < 15 → plainName (pown K) = true ∧ (pown K ≠ "java/lang/invoke/MethodHandle" ∧ pown K ≠ "java/lang/invoke/VarHandle") := by decide +kernel
end
section
/-- instructions that only go on -/
def pgo (r : Instr) : Bool := match r with
  | .ireturn => false
  | .lreturn => false
  | .return_ => false
  | .invokestatic _ => false
  | _ => true
def pI1 (q : Option pO) : Prop := ∀ z, q = some z → ∃ x, z = .inl x
theorem pI1_n : pI1 none := fun _ h => by cases h
theorem pI1_x {Y : pY} {G : pG} {pc : Nat} {l st : List pV} : pI1 (pnx Y G pc l st) := fun z h => ⟨_, pnx_s h⟩
theorem pI1_if {c : Prop} [Decidable c] {a b : Option pO} (h1 : pI1 a) (h2 : pI1 b) : pI1 (if c then a else b) := by split <;> assumption
theorem pI1_bif {c : Bool} {a b : Option pO} (h1 : pI1 a) (h2 : pI1 b) : pI1 (bif c then a else b) := by cases c <;> assumption
theorem pI1_op {β : Type} {q : Option β} {k : β → Option pO} (h : ∀ b, pI1 (k b)) : pI1 (k_op q none k) := by cases q <;> first | exact pI1_n | exact h _
theorem pI1_i {stk : List pV} {k : Int → List pV → Option pO} (h : ∀ a0 st, pI1 (k a0 st)) : pI1 (k_i stk none k) := by
  unfold k_i; split
  · exact h _ _
  · exact pI1_n
theorem pI1_l {stk : List pV} {k : Int → List pV → Option pO} (h : ∀ a0 st, pI1 (k a0 st)) : pI1 (k_l stk none k) := by
  unfold k_l; split
  · exact h _ _
  · exact pI1_n
theorem pI1_r {stk : List pV} {k : Nat → List pV → Option pO} (h : ∀ a0 st, pI1 (k a0 st)) : pI1 (k_r stk none k) := by
  unfold k_r; split
  · exact h _ _
  · exact pI1_n
theorem pI1_ii {stk : List pV} {k : Int → Int → List pV → Option pO} (h : ∀ a0 a1 st, pI1 (k a0 a1 st)) : pI1 (k_ii stk none k) := by
  unfold k_ii; split
  · exact h _ _ _
  · exact pI1_n
theorem pI1_ll {stk : List pV} {k : Int → Int → List pV → Option pO} (h : ∀ a0 a1 st, pI1 (k a0 a1 st)) : pI1 (k_ll stk none k) := by
  unfold k_ll; split
  · exact h _ _ _
  · exact pI1_n
theorem pI1_li {stk : List pV} {k : Int → Int → List pV → Option pO} (h : ∀ a0 a1 st, pI1 (k a0 a1 st)) : pI1 (k_li stk none k) := by
  unfold k_li; split
  · exact h _ _ _
  · exact pI1_n
theorem pI1_ri {stk : List pV} {k : Nat → Int → List pV → Option pO} (h : ∀ a0 a1 st, pI1 (k a0 a1 st)) : pI1 (k_ri stk none k) := by
  unfold k_ri; split
  · exact h _ _ _
  · exact pI1_n
theorem pI1_rl {stk : List pV} {k : Nat → Int → List pV → Option pO} (h : ∀ a0 a1 st, pI1 (k a0 a1 st)) : pI1 (k_rl stk none k) := by
  unfold k_rl; split
  · exact h _ _ _
  · exact pI1_n
theorem pI1_rr {stk : List pV} {k : Nat → Nat → List pV → Option pO} (h : ∀ a0 a1 st, pI1 (k a0 a1 st)) : pI1 (k_rr stk none k) := by
  unfold k_rr; split
  · exact h _ _ _
  · exact pI1_n
theorem pI1_rii {stk : List pV} {k : Nat → Int → Int → List pV → Option pO} (h : ∀ a0 a1 a2 st, pI1 (k a0 a1 a2 st)) : pI1 (k_rii stk none k) := by
  unfold k_rii; split
  · exact h _ _ _ _
  · exact pI1_n
theorem pI1_ril {stk : List pV} {k : Nat → Int → Int → List pV → Option pO} (h : ∀ a0 a1 a2 st, pI1 (k a0 a1 a2 st)) : pI1 (k_ril stk none k) := by
  unfold k_ril; split
  · exact h _ _ _ _
  · exact pI1_n
theorem pI1_cp {stk : List pV} {k : Nat → Int → Nat → Int → Int → List pV → Option pO} (h : ∀ a0 a1 a2 a3 a4 st, pI1 (k a0 a1 a2 a3 a4 st)) : pI1 (k_cp stk none k) := by
  unfold k_cp; split
  · exact h _ _ _ _ _ _
  · exact pI1_n
theorem pI1_d {stk : List pV} {k : pV → List pV → Option pO} (h : ∀ v st, pI1 (k v st)) : pI1 (k_d stk none k) := by
  unfold k_d k_c1; split
  · split
    · exact pI1_n
    · exact h _ _
  · exact pI1_n
theorem pI1_d2 {stk : List pV} {k : pV → pV → List pV → Option pO} (h : ∀ v w st, pI1 (k v w st)) : pI1 (k_d2 stk none k) := by
  unfold k_d2 k_c1; split
  · split
    · exact pI1_n
    · split
      · exact pI1_n
      · exact h _ _ _
  · exact pI1_n
theorem pI1_oi {q : Option pV} {k : Int → Option pO} (h : ∀ x, pI1 (k x)) : pI1 (k_oi q none k) := by
  unfold k_oi; split
  · exact h _
  · exact pI1_n
theorem pI1_ol {q : Option pV} {k : Int → Option pO} (h : ∀ x, pI1 (k x)) : pI1 (k_ol q none k) := by
  unfold k_ol; split
  · exact h _
  · exact pI1_n
theorem pI1_or {q : Option pV} {k : Nat → Option pO} (h : ∀ x, pI1 (k x)) : pI1 (k_or q none k) := by
  unfold k_or; split
  · exact h _
  · exact pI1_n
set_option maxHeartbeats 4000000 in
set_option maxRecDepth 20000 in
theorem pI1_step {Y : pY} {G : pG} {e : pE} {pc : Nat} {l stk : List pV} (hg : pgo e.1 = true) : pI1 (pstep Y G e pc l stk) := by
  obtain ⟨o, len, a, b, c⟩ := e
  cases o
  case iconst x => exact pI1_x
  case ldc2_w x => exact pI1_x
  case ldc x => exact pI1_x
  case goto x => exact pI1_x
  case iload i => exact pI1_oi (fun _ => pI1_x)
  case lload i => exact pI1_ol (fun _ => pI1_x)
  case aload i => exact pI1_or (fun _ => pI1_x)
  case istore i => exact pI1_i (fun _ _ => pI1_bif (pI1_x) pI1_n)
  case lstore i => exact pI1_l (fun _ _ => pI1_bif (pI1_x) pI1_n)
  case astore i => exact pI1_r (fun _ _ => pI1_bif (pI1_x) pI1_n)
  case iinc i k => exact pI1_oi (fun _ => pI1_x)
  case iadd => exact pI1_ii (fun _ _ _ => pI1_x)
  case isub => exact pI1_ii (fun _ _ _ => pI1_x)
  case imul => exact pI1_ii (fun _ _ _ => pI1_x)
  case iand => exact pI1_ii (fun _ _ _ => pI1_x)
  case ior => exact pI1_ii (fun _ _ _ => pI1_x)
  case ixor => exact pI1_ii (fun _ _ _ => pI1_x)
  case ishl => exact pI1_ii (fun _ _ _ => pI1_x)
  case ishr => exact pI1_ii (fun _ _ _ => pI1_x)
  case iushr => exact pI1_ii (fun _ _ _ => pI1_x)
  case ladd => exact pI1_ll (fun _ _ _ => pI1_x)
  case lsub => exact pI1_ll (fun _ _ _ => pI1_x)
  case lmul => exact pI1_ll (fun _ _ _ => pI1_x)
  case land => exact pI1_ll (fun _ _ _ => pI1_x)
  case lor => exact pI1_ll (fun _ _ _ => pI1_x)
  case lcmp => exact pI1_ll (fun _ _ _ => pI1_x)
  case lshl => exact pI1_li (fun _ _ _ => pI1_x)
  case lshr => exact pI1_li (fun _ _ _ => pI1_x)
  case idiv => exact pI1_ii (fun _ _ _ => pI1_if pI1_n pI1_x)
  case irem => exact pI1_ii (fun _ _ _ => pI1_if pI1_n pI1_x)
  case ldiv => exact pI1_ll (fun _ _ _ => pI1_if pI1_n pI1_x)
  case lrem => exact pI1_ll (fun _ _ _ => pI1_if pI1_n pI1_x)
  case ineg => exact pI1_i (fun _ _ => pI1_x)
  case i2l => exact pI1_i (fun _ _ => pI1_x)
  case i2b => exact pI1_i (fun _ _ => pI1_x)
  case lneg => exact pI1_l (fun _ _ => pI1_x)
  case l2i => exact pI1_l (fun _ _ => pI1_x)
  case dup => exact pI1_d (fun _ _ => pI1_x)
  case dup2 => exact pI1_d2 (fun _ _ _ => pI1_x)
  case ifCond cn off => exact pI1_i (fun _ _ => pI1_bif (pI1_x) pI1_x)
  case if_icmp cn off => exact pI1_ii (fun _ _ _ => pI1_bif (pI1_x) pI1_x)
  case tableswitch dflt lo hi offs => exact pI1_i (fun _ _ => pI1_if pI1_x (pI1_op (fun _ => pI1_x)))
  case lookupswitch dflt ps => exact pI1_i (fun _ _ => pI1_x)
  case getfield i => exact pI1_r (fun _ _ => pI1_bif (by
    split
    · exact pI1_x
    · exact pI1_op (fun _ => pI1_x)
    · exact pI1_x) pI1_n)
  case putfield i =>
    unfold pstep
    dsimp only
    split
    · exact pI1_ri (fun _ _ _ => pI1_bif (pI1_x) pI1_n)
    · exact pI1_rl (fun _ _ _ => pI1_bif (pI1_x) pI1_n)
    · exact pI1_ri (fun _ _ _ => pI1_bif (pI1_if (pI1_x) pI1_n) pI1_n)
    · exact pI1_rr (fun _ _ _ => pI1_bif (pI1_x) pI1_n)
  case iaload => exact pI1_ri (fun _ _ _ => pI1_bif (pI1_if pI1_x pI1_n) pI1_n)
  case laload => exact pI1_ri (fun _ _ _ => pI1_bif (pI1_if pI1_x pI1_n) pI1_n)
  case baload => exact pI1_ri (fun _ _ _ => pI1_bif (pI1_if pI1_x pI1_n) pI1_n)
  case faload => exact pI1_ri (fun _ _ _ => pI1_bif (pI1_if pI1_x pI1_n) pI1_n)
  case fastore => exact pI1_r (fun _ _ => pI1_bif (pI1_x) pI1_n)
  case aaload => exact pI1_ri (fun _ _ _ => pI1_bif (pI1_if (pI1_op (fun _ => pI1_x)) pI1_n) pI1_n)
  case iastore => exact pI1_rii (fun _ _ _ _ => pI1_bif (pI1_if (pI1_x) pI1_n) pI1_n)
  case bastore => exact pI1_rii (fun _ _ _ _ => pI1_bif (pI1_if (pI1_x) pI1_n) pI1_n)
  case lastore => exact pI1_ril (fun _ _ _ _ => pI1_bif (pI1_if (pI1_x) pI1_n) pI1_n)
  case arraylength => exact pI1_r (fun _ _ => pI1_bif (pI1_x) pI1_n)
  case invokestatic rc => cases hg
  case pop => exact pI1_r (fun _ _ => pI1_bif (pI1_x) pI1_n)
  case f2d => exact pI1_ii (fun _ _ _ => pI1_bif (pI1_x) pI1_n)
  case f2i => exact pI1_ii (fun _ _ _ => pI1_bif (pI1_x) pI1_n)
  case d2i => exact pI1_ll (fun _ _ _ => pI1_bif (pI1_x) pI1_n)
  case f2l => exact pI1_i (fun _ _ => pI1_bif (pI1_x) pI1_n)
  case d2f => exact pI1_l (fun _ _ => pI1_bif (pI1_x) pI1_n)
  case d2l => exact pI1_cp (fun _ _ _ _ _ _ => pI1_bif (pI1_bif (pI1_if (pI1_x) pI1_n) pI1_n) pI1_n)
  case daload => exact pI1_r (fun _ _ => pI1_bif (pI1_op (fun _ => pI1_x)) pI1_n)
  case dastore => exact pI1_ri (fun _ _ _ => pI1_bif (pI1_op (fun _ => pI1_if (pI1_op (fun _ => pI1_x)) pI1_n)) pI1_n)
  case new x => exact pI1_bif (pI1_x) pI1_n
  case newarray t => exact pI1_i (fun _ _ => pI1_if pI1_x pI1_n)
  case multianewarray i n => exact pI1_ii (fun _ _ _ => pI1_if pI1_x pI1_n)
  case ireturn => cases hg
  case lreturn => cases hg
  case return_ => cases hg
  all_goals exact pI1_n

set_option maxHeartbeats 2000000 in
theorem ptr_cls {K rt pc len : Nat} {r : Instr} {e0 : pE} (h : ptr K rt pc r len = some e0) : (r = .ireturn ∧ len = 1 ∧ e0 = (.ireturn, 1, 0, 0, bif Nat.beq rt 3 then 3 else 0)) ∨ (r = .lreturn ∧ len = 1 ∧ e0 = (.lreturn, 1, 0, 0, 0)) ∨ (r = .return_ ∧ len = 1 ∧ e0 = (.return_, 1, 0, 0, 0)) ∨ (∃ way i M, ((way = 0 ∧ r = .invokevirtual i) ∨ (way = 1 ∧ r = .invokestatic i) ∨ (way = 2 ∧ r = .invokespecial i)) ∧ len = 3 ∧ (lkf lkM K i = some M ∨ lkf lkN K i = some M) ∧ pcalM way M = some e0) ∨ pgo e0.1 = true := by
  obtain ⟨hl, hp⟩ := ptr_l h
  cases r
  case iconst n =>
    obtain ⟨-, hp⟩ := bif_s hp
    cases hp
    refine Or.inr (Or.inr (Or.inr (Or.inr ?_)))
    rfl
  case bipush n =>
    obtain ⟨-, hp⟩ := bif_s hp
    cases hp
    refine Or.inr (Or.inr (Or.inr (Or.inr ?_)))
    rfl
  case sipush n =>
    obtain ⟨-, hp⟩ := bif_s hp
    cases hp
    refine Or.inr (Or.inr (Or.inr (Or.inr ?_)))
    rfl
  case ldc2_w n =>
    obtain ⟨_, -, hp⟩ := k_op_s hp
    cases hp
    refine Or.inr (Or.inr (Or.inr (Or.inr ?_)))
    rfl
  case ldc n =>
    obtain ⟨_, -, hp⟩ := k_op_s hp
    cases hp
    refine Or.inr (Or.inr (Or.inr (Or.inr ?_)))
    rfl
  case getfield n =>
    obtain ⟨_, -, hp⟩ := k_op_s hp
    cases hp
    refine Or.inr (Or.inr (Or.inr (Or.inr ?_)))
    rfl
  case putfield n =>
    obtain ⟨_, -, hp⟩ := k_op_s hp
    cases hp
    refine Or.inr (Or.inr (Or.inr (Or.inr ?_)))
    rfl
  case new n =>
    obtain ⟨_, -, hp⟩ := k_op_s hp
    cases hp
    refine Or.inr (Or.inr (Or.inr (Or.inr ?_)))
    rfl
  case goto off =>
    have hp : ptgt pc off (fun t => some (.goto 0, len, t, 0, 0)) = some e0 := hp
    obtain ⟨_, -, hp⟩ := ptgt_s hp
    cases hp
    refine Or.inr (Or.inr (Or.inr (Or.inr ?_)))
    rfl
  case ifCond cn off =>
    have hp : ptgt pc off (fun t => some (.ifCond cn 0, len, t, 0, 0)) = some e0 := hp
    obtain ⟨_, -, hp⟩ := ptgt_s hp
    cases hp
    refine Or.inr (Or.inr (Or.inr (Or.inr ?_)))
    rfl
  case if_icmp cn off =>
    have hp : ptgt pc off (fun t => some (.if_icmp cn 0, len, t, 0, 0)) = some e0 := hp
    obtain ⟨_, -, hp⟩ := ptgt_s hp
    cases hp
    refine Or.inr (Or.inr (Or.inr (Or.inr ?_)))
    rfl
  case tableswitch a b c d =>
    obtain ⟨-, hp⟩ := bif_s hp
    cases hp
    refine Or.inr (Or.inr (Or.inr (Or.inr ?_)))
    rfl
  case lookupswitch a b =>
    obtain ⟨-, hp⟩ := bif_s hp
    cases hp
    refine Or.inr (Or.inr (Or.inr (Or.inr ?_)))
    rfl
  case iaload =>
    have hp : some ((bif Nat.beq K 13 then Instr.faload else Instr.iaload), len, 0, 0, (0 : Int)) = some e0 := hp
    refine Or.inr (Or.inr (Or.inr (Or.inr ?_)))
    cases hK : Nat.beq K 13 with
    | true => rw [hK] at hp; cases hp; rfl
    | false => rw [hK] at hp; cases hp; rfl
  case arraylength =>
    have hp : some ((bif Nat.beq K 13 then Instr.fastore else Instr.arraylength), len, 0, 0, (0 : Int)) = some e0 := hp
    refine Or.inr (Or.inr (Or.inr (Or.inr ?_)))
    cases hK : Nat.beq K 13 with
    | true => rw [hK] at hp; cases hp; rfl
    | false => rw [hK] at hp; cases hp; rfl
  case newarray t =>
    cases t
    all_goals first | (cases hp; done) | (cases hp; exact Or.inr (Or.inr (Or.inr (Or.inr rfl))))
  case multianewarray a b =>
    obtain ⟨-, hp⟩ := bif_s hp
    obtain ⟨_, -, hp⟩ := k_op_s hp
    cases hp
    refine Or.inr (Or.inr (Or.inr (Or.inr ?_)))
    rfl
  case invokevirtual i =>
    have hp : pcal K 0 i = some e0 := hp
    rcases pcal_s hp with ⟨M, h1, h2⟩ | ⟨J, hJ, hE⟩
    · exact Or.inr (Or.inr (Or.inr (Or.inl ⟨0, i, M, Or.inl ⟨rfl, rfl⟩, hl, h1, h2⟩)))
    · have hJ9 : J < 9 := pn_lt hE
      have h9 : J = 0 ∨ J = 1 ∨ J = 2 ∨ J = 3 ∨ J = 4 ∨ J = 5 ∨ J = 6 ∨ J = 7 ∨ J = 8 := by omega
      rcases h9 with rfl | rfl | rfl | rfl | rfl | rfl | rfl | rfl | rfl <;> first | (cases hE; done) | (cases hE; exact Or.inr (Or.inr (Or.inr (Or.inr rfl))))
  case invokestatic i =>
    have hp : pcal K 1 i = some e0 := hp
    rcases pcal_s hp with ⟨M, h1, h2⟩ | ⟨J, hJ, hE⟩
    · exact Or.inr (Or.inr (Or.inr (Or.inl ⟨1, i, M, Or.inr (Or.inl ⟨rfl, rfl⟩), hl, h1, h2⟩)))
    · have hJ9 : J < 9 := pn_lt hE
      have h9 : J = 0 ∨ J = 1 ∨ J = 2 ∨ J = 3 ∨ J = 4 ∨ J = 5 ∨ J = 6 ∨ J = 7 ∨ J = 8 := by omega
      rcases h9 with rfl | rfl | rfl | rfl | rfl | rfl | rfl | rfl | rfl <;> first | (cases hE; done) | (cases hE; exact Or.inr (Or.inr (Or.inr (Or.inr rfl))))
  case invokespecial i =>
    have hp : pcal K 2 i = some e0 := hp
    rcases pcal_s hp with ⟨M, h1, h2⟩ | ⟨J, hJ, hE⟩
    · exact Or.inr (Or.inr (Or.inr (Or.inl ⟨2, i, M, Or.inr (Or.inr ⟨rfl, rfl⟩), hl, h1, h2⟩)))
    · have hJ9 : J < 9 := pn_lt hE
      have h9 : J = 0 ∨ J = 1 ∨ J = 2 ∨ J = 3 ∨ J = 4 ∨ J = 5 ∨ J = 6 ∨ J = 7 ∨ J = 8 := by omega
      rcases h9 with rfl | rfl | rfl | rfl | rfl | rfl | rfl | rfl | rfl <;> first | (cases hE; done) | (cases hE; exact Or.inr (Or.inr (Or.inr (Or.inr rfl))))
  case ireturn =>
    have hl : len = 1 := hl
    subst hl
    cases hp
    exact Or.inl ⟨rfl, rfl, rfl⟩
  case lreturn =>
    have hl : len = 1 := hl
    subst hl
    cases hp
    exact Or.inr (Or.inl ⟨rfl, rfl, rfl⟩)
  case return_ =>
    have hl : len = 1 := hl
    subst hl
    cases hp
    exact Or.inr (Or.inr (Or.inl ⟨rfl, rfl, rfl⟩))
  all_goals first | (cases hp; exact Or.inr (Or.inr (Or.inr (Or.inr rfl)))) | (cases hp; done)

theorem pexec_hi : ∀ (f d M pc : Nat) (loc stk : List pV) (Y : pY) (G : pG) (r : Option pV) (Y' : pY) (G' : pG), pexec pMT f d M pc loc stk Y G = some (r, Y', G') → pHi Y G Y' G' := by
  intro f
  induction f with
  | zero => intro d M pc loc stk Y G r Y' G' h; exact absurd h (by simp [pexec])
  | succ f ih =>
    intro d M pc loc stk Y G r Y' G' h
    rw [pexec] at h
    cases hM : pMT M with
    | none => rw [hM] at h; exact absurd h (by simp)
    | some mi =>
      rw [hM] at h
      dsimp only at h
      cases hl : plook mi.1 pc with
      | none => rw [hl] at h; exact absurd h (by simp)
      | some e0 =>
        rw [hl] at h
        dsimp only at h
        have hb : ∀ i, e0.1 = .getfield i ∨ e0.1 = .putfield i → e0.2.2.2.1 ≠ 999 := by
          intro i hi
          have h1 := ptok_at (pMT_ok hM).2.2.2 hl
          obtain ⟨q, len, a, b, c⟩ := e0
          rcases hi with hi | hi
          · have hi : q = .getfield i := hi
            subst hi
            have h2 := Nat.le_of_ble_eq_true h1
            show b ≠ 999
            omega
          · have hi : q = .putfield i := hi
            subst hi
            have h1 : (Nat.ble b 12 && (!(c == 2) || (pini M && Nat.beq b (pKo M)))) = true := h1
            rw [Bool.and_eq_true] at h1
            have h2 := Nat.le_of_ble_eq_true h1.1
            show b ≠ 999
            omega
        have hH := pH_step (Y := Y) (G := G) (pc := pc) (l := loc) (stk := stk) hb
        rcases hs : pstep Y G e0 pc loc stk with _ | (⟨pc1, loc1, stk1, Y1, G1⟩ | ⟨m1, as, st⟩ | r1)
        · rw [hs] at h; exact absurd h (by simp)
        · rw [hs] at h
          exact (hH _ _ _ _ _ hs).tr (ih _ _ _ _ _ _ _ _ _ _ h)
        · rw [hs] at h
          dsimp only at h
          cases d with
          | zero => exact absurd h (by simp)
          | succ d1 =>
            dsimp only at h
            cases hm : pMT m1 with
            | none => rw [hm] at h; exact absurd h (by simp)
            | some mc =>
              rw [hm] at h
              dsimp only at h
              obtain ⟨-, h⟩ := bif_s h
              cases hc : pexec pMT f d1 m1 0 (pent as mc.2.1) [] Y G with
              | none => rw [hc] at h; exact absurd h (by simp)
              | some q =>
                obtain ⟨r2, Y2, G2⟩ := q
                rw [hc] at h
                exact (ih _ _ _ _ _ _ _ _ _ _ hc).tr (ih _ _ _ _ _ _ _ _ _ _ h)
        · rw [hs] at h
          cases h
          exact pHi.rf _ _
end
