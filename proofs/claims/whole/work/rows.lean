section
-- ===== PART A: goes FIRST, ahead of the names: the tables' words, and 'selects' of the private methods out of them =====
/-- a private method of a class that the tables say can be made, by its rows of tables_1 -/
def lw_okq (q : MethodName × Nat) : Prop := (q.1.cls ≠ "java/lang/invoke/MethodHandle" ∧ q.1.cls ≠ "java/lang/invoke/VarHandle") ∧ Cond.instantiable q.1.cls q.2 ∈ tables_1 ∧ Cond.privateMethod q.1 ∈ tables_1 ∧ Cond.instanceMethod q.1 ∈ tables_1
theorem lw_p0 : lw_okq (⟨"BoughtKin", "refuse", "(I)I"⟩, 15) := ⟨⟨by decide +kernel, by decide +kernel⟩, List.mem_of_getElem? (i := 23) (by decide +kernel), List.mem_of_getElem? (i := 537) (by decide +kernel), List.mem_of_getElem? (i := 538) (by decide +kernel)⟩
theorem lw_p1 : lw_okq (⟨"BoughtKin", "accept", "(I)I"⟩, 15) := ⟨⟨by decide +kernel, by decide +kernel⟩, List.mem_of_getElem? (i := 23) (by decide +kernel), List.mem_of_getElem? (i := 549) (by decide +kernel), List.mem_of_getElem? (i := 550) (by decide +kernel)⟩
theorem lw_p2 : lw_okq (⟨"BoughtKin$Court", "setWords", "(II)V"⟩, 3) := ⟨⟨by decide +kernel, by decide +kernel⟩, List.mem_of_getElem? (i := 358) (by decide +kernel), List.mem_of_getElem? (i := 573) (by decide +kernel), List.mem_of_getElem? (i := 574) (by decide +kernel)⟩
theorem lw_p3 : lw_okq (⟨"BoughtKin$Court", "anyHolds", "(I)Z"⟩, 3) := ⟨⟨by decide +kernel, by decide +kernel⟩, List.mem_of_getElem? (i := 358) (by decide +kernel), List.mem_of_getElem? (i := 577) (by decide +kernel), List.mem_of_getElem? (i := 578) (by decide +kernel)⟩
theorem lw_p4 : lw_okq (⟨"BoughtKin", "settleFromTape", "(I)Z"⟩, 15) := ⟨⟨by decide +kernel, by decide +kernel⟩, List.mem_of_getElem? (i := 23) (by decide +kernel), List.mem_of_getElem? (i := 662) (by decide +kernel), List.mem_of_getElem? (i := 663) (by decide +kernel)⟩
theorem lw_p5 : lw_okq (⟨"BoughtKin$Tape", "behindRow", "(IZ)I"⟩, 8) := ⟨⟨by decide +kernel, by decide +kernel⟩, List.mem_of_getElem? (i := 183) (by decide +kernel), List.mem_of_getElem? (i := 694) (by decide +kernel), List.mem_of_getElem? (i := 695) (by decide +kernel)⟩
theorem lw_p6 : lw_okq (⟨"BoughtKin$Tape", "wordToken", "(Ljava/lang/String;II)I"⟩, 8) := ⟨⟨by decide +kernel, by decide +kernel⟩, List.mem_of_getElem? (i := 183) (by decide +kernel), List.mem_of_getElem? (i := 701) (by decide +kernel), List.mem_of_getElem? (i := 702) (by decide +kernel)⟩
theorem lw_p7 : lw_okq (⟨"BoughtKin$Tape", "numberToken", "(II)I"⟩, 8) := ⟨⟨by decide +kernel, by decide +kernel⟩, List.mem_of_getElem? (i := 183) (by decide +kernel), List.mem_of_getElem? (i := 753) (by decide +kernel), List.mem_of_getElem? (i := 754) (by decide +kernel)⟩
theorem lw_p8 : lw_okq (⟨"BoughtKin$Reader", "orderHead", "()V"⟩, 6) := ⟨⟨by decide +kernel, by decide +kernel⟩, List.mem_of_getElem? (i := 218) (by decide +kernel), List.mem_of_getElem? (i := 762) (by decide +kernel), List.mem_of_getElem? (i := 763) (by decide +kernel)⟩
theorem lw_p9 : lw_okq (⟨"BoughtKin$Reader", "took", "(I)Z"⟩, 6) := ⟨⟨by decide +kernel, by decide +kernel⟩, List.mem_of_getElem? (i := 218) (by decide +kernel), List.mem_of_getElem? (i := 766) (by decide +kernel), List.mem_of_getElem? (i := 767) (by decide +kernel)⟩
theorem lw_p10 : lw_okq (⟨"BoughtKin$Reader", "sumInto", "(I)V"⟩, 6) := ⟨⟨by decide +kernel, by decide +kernel⟩, List.mem_of_getElem? (i := 218) (by decide +kernel), List.mem_of_getElem? (i := 775) (by decide +kernel), List.mem_of_getElem? (i := 776) (by decide +kernel)⟩
theorem lw_p11 : lw_okq (⟨"BoughtKin$Reader", "sum", "()V"⟩, 6) := ⟨⟨by decide +kernel, by decide +kernel⟩, List.mem_of_getElem? (i := 218) (by decide +kernel), List.mem_of_getElem? (i := 783) (by decide +kernel), List.mem_of_getElem? (i := 784) (by decide +kernel)⟩
theorem lw_p12 : lw_okq (⟨"BoughtKin$Reader", "term", "()V"⟩, 6) := ⟨⟨by decide +kernel, by decide +kernel⟩, List.mem_of_getElem? (i := 218) (by decide +kernel), List.mem_of_getElem? (i := 787) (by decide +kernel), List.mem_of_getElem? (i := 788) (by decide +kernel)⟩
theorem lw_p13 : lw_okq (⟨"BoughtKin$Reader", "part", "()V"⟩, 6) := ⟨⟨by decide +kernel, by decide +kernel⟩, List.mem_of_getElem? (i := 218) (by decide +kernel), List.mem_of_getElem? (i := 791) (by decide +kernel), List.mem_of_getElem? (i := 792) (by decide +kernel)⟩
theorem lw_p14 : lw_okq (⟨"BoughtKin$Reader", "entered", "(I)Z"⟩, 6) := ⟨⟨by decide +kernel, by decide +kernel⟩, List.mem_of_getElem? (i := 218) (by decide +kernel), List.mem_of_getElem? (i := 795) (by decide +kernel), List.mem_of_getElem? (i := 796) (by decide +kernel)⟩
theorem lw_p15 : lw_okq (⟨"BoughtKin$Reader", "blame", "()V"⟩, 6) := ⟨⟨by decide +kernel, by decide +kernel⟩, List.mem_of_getElem? (i := 218) (by decide +kernel), List.mem_of_getElem? (i := 799) (by decide +kernel), List.mem_of_getElem? (i := 800) (by decide +kernel)⟩
def lw_privs_1 : List (MethodName × Nat) := [(⟨"BoughtKin", "refuse", "(I)I"⟩, 15), (⟨"BoughtKin", "accept", "(I)I"⟩, 15), (⟨"BoughtKin$Court", "setWords", "(II)V"⟩, 3), (⟨"BoughtKin$Court", "anyHolds", "(I)Z"⟩, 3), (⟨"BoughtKin", "settleFromTape", "(I)Z"⟩, 15), (⟨"BoughtKin$Tape", "behindRow", "(IZ)I"⟩, 8), (⟨"BoughtKin$Tape", "wordToken", "(Ljava/lang/String;II)I"⟩, 8), (⟨"BoughtKin$Tape", "numberToken", "(II)I"⟩, 8), (⟨"BoughtKin$Reader", "orderHead", "()V"⟩, 6), (⟨"BoughtKin$Reader", "took", "(I)Z"⟩, 6), (⟨"BoughtKin$Reader", "sumInto", "(I)V"⟩, 6), (⟨"BoughtKin$Reader", "sum", "()V"⟩, 6), (⟨"BoughtKin$Reader", "term", "()V"⟩, 6), (⟨"BoughtKin$Reader", "part", "()V"⟩, 6), (⟨"BoughtKin$Reader", "entered", "(I)Z"⟩, 6), (⟨"BoughtKin$Reader", "blame", "()V"⟩, 6)]
theorem lw_r1 : ∀ q ∈ lw_privs_1, lw_okq q := List.forall_mem_cons.mpr ⟨lw_p0, List.forall_mem_cons.mpr ⟨lw_p1, List.forall_mem_cons.mpr ⟨lw_p2, List.forall_mem_cons.mpr ⟨lw_p3, List.forall_mem_cons.mpr ⟨lw_p4, List.forall_mem_cons.mpr ⟨lw_p5, List.forall_mem_cons.mpr ⟨lw_p6, List.forall_mem_cons.mpr ⟨lw_p7, List.forall_mem_cons.mpr ⟨lw_p8, List.forall_mem_cons.mpr ⟨lw_p9, List.forall_mem_cons.mpr ⟨lw_p10, List.forall_mem_cons.mpr ⟨lw_p11, List.forall_mem_cons.mpr ⟨lw_p12, List.forall_mem_cons.mpr ⟨lw_p13, List.forall_mem_cons.mpr ⟨lw_p14, List.forall_mem_cons.mpr ⟨lw_p15, fun _ h => absurd h List.not_mem_nil⟩⟩⟩⟩⟩⟩⟩⟩⟩⟩⟩⟩⟩⟩⟩⟩
theorem lw_p16 : lw_okq (⟨"BoughtKin$Reader", "need", "(I)V"⟩, 6) := ⟨⟨by decide +kernel, by decide +kernel⟩, List.mem_of_getElem? (i := 218) (by decide +kernel), List.mem_of_getElem? (i := 803) (by decide +kernel), List.mem_of_getElem? (i := 804) (by decide +kernel)⟩
theorem lw_p17 : lw_okq (⟨"BoughtKin$Reader", "neededNumber", "(II)I"⟩, 6) := ⟨⟨by decide +kernel, by decide +kernel⟩, List.mem_of_getElem? (i := 218) (by decide +kernel), List.mem_of_getElem? (i := 807) (by decide +kernel), List.mem_of_getElem? (i := 808) (by decide +kernel)⟩
theorem lw_p18 : lw_okq (⟨"BoughtKin$Reader", "orderWord", "()I"⟩, 6) := ⟨⟨by decide +kernel, by decide +kernel⟩, List.mem_of_getElem? (i := 218) (by decide +kernel), List.mem_of_getElem? (i := 815) (by decide +kernel), List.mem_of_getElem? (i := 816) (by decide +kernel)⟩
theorem lw_p19 : lw_okq (⟨"BoughtKin$Reader", "lawWord", "()I"⟩, 6) := ⟨⟨by decide +kernel, by decide +kernel⟩, List.mem_of_getElem? (i := 218) (by decide +kernel), List.mem_of_getElem? (i := 819) (by decide +kernel), List.mem_of_getElem? (i := 820) (by decide +kernel)⟩
theorem lw_p20 : lw_okq (⟨"BoughtKin$Reader", "sees", "(I)Z"⟩, 6) := ⟨⟨by decide +kernel, by decide +kernel⟩, List.mem_of_getElem? (i := 218) (by decide +kernel), List.mem_of_getElem? (i := 823) (by decide +kernel), List.mem_of_getElem? (i := 824) (by decide +kernel)⟩
theorem lw_p21 : lw_okq (⟨"BoughtKin$Reader", "lawHead", "()V"⟩, 6) := ⟨⟨by decide +kernel, by decide +kernel⟩, List.mem_of_getElem? (i := 218) (by decide +kernel), List.mem_of_getElem? (i := 835) (by decide +kernel), List.mem_of_getElem? (i := 836) (by decide +kernel)⟩
theorem lw_p22 : lw_okq (⟨"BoughtKin$Reader", "test", "()V"⟩, 6) := ⟨⟨by decide +kernel, by decide +kernel⟩, List.mem_of_getElem? (i := 218) (by decide +kernel), List.mem_of_getElem? (i := 839) (by decide +kernel), List.mem_of_getElem? (i := 840) (by decide +kernel)⟩
theorem lw_p23 : lw_okq (⟨"BoughtKin$Reader", "both", "()V"⟩, 6) := ⟨⟨by decide +kernel, by decide +kernel⟩, List.mem_of_getElem? (i := 218) (by decide +kernel), List.mem_of_getElem? (i := 843) (by decide +kernel), List.mem_of_getElem? (i := 844) (by decide +kernel)⟩
theorem lw_p24 : lw_okq (⟨"BoughtKin$Reader", "plain", "()V"⟩, 6) := ⟨⟨by decide +kernel, by decide +kernel⟩, List.mem_of_getElem? (i := 218) (by decide +kernel), List.mem_of_getElem? (i := 847) (by decide +kernel), List.mem_of_getElem? (i := 848) (by decide +kernel)⟩
theorem lw_p25 : lw_okq (⟨"BoughtKin$Reader", "tookComparison", "()I"⟩, 6) := ⟨⟨by decide +kernel, by decide +kernel⟩, List.mem_of_getElem? (i := 218) (by decide +kernel), List.mem_of_getElem? (i := 851) (by decide +kernel), List.mem_of_getElem? (i := 852) (by decide +kernel)⟩
theorem lw_p26 : lw_okq (⟨"BoughtKin$Clerk", "obeyed", "(LBoughtKin$Script;I)Z"⟩, 10) := ⟨⟨by decide +kernel, by decide +kernel⟩, List.mem_of_getElem? (i := 374) (by decide +kernel), List.mem_of_getElem? (i := 891) (by decide +kernel), List.mem_of_getElem? (i := 892) (by decide +kernel)⟩
theorem lw_p27 : lw_okq (⟨"BoughtKin$Clerk", "reckoned", "(LBoughtKin$Script;I)Z"⟩, 10) := ⟨⟨by decide +kernel, by decide +kernel⟩, List.mem_of_getElem? (i := 374) (by decide +kernel), List.mem_of_getElem? (i := 896) (by decide +kernel), List.mem_of_getElem? (i := 897) (by decide +kernel)⟩
theorem lw_p28 : lw_okq (⟨"BoughtKin$Clerk", "valueOf", "(I)I"⟩, 10) := ⟨⟨by decide +kernel, by decide +kernel⟩, List.mem_of_getElem? (i := 374) (by decide +kernel), List.mem_of_getElem? (i := 900) (by decide +kernel), List.mem_of_getElem? (i := 901) (by decide +kernel)⟩
theorem lw_p29 : lw_okq (⟨"BoughtKin$Kinship", "climb", "(LBoughtKin$People;I[I)V"⟩, 4) := ⟨⟨by decide +kernel, by decide +kernel⟩, List.mem_of_getElem? (i := 299) (by decide +kernel), List.mem_of_getElem? (i := 910) (by decide +kernel), List.mem_of_getElem? (i := 911) (by decide +kernel)⟩
theorem lw_p30 : lw_okq (⟨"BoughtKin$Clerk", "areThreePeople", "(LBoughtKin$Script;I)Z"⟩, 10) := ⟨⟨by decide +kernel, by decide +kernel⟩, List.mem_of_getElem? (i := 374) (by decide +kernel), List.mem_of_getElem? (i := 919) (by decide +kernel), List.mem_of_getElem? (i := 920) (by decide +kernel)⟩
theorem lw_p31 : lw_okq (⟨"BoughtKin$Court", "priceWithoutLaw", "(I)I"⟩, 3) := ⟨⟨by decide +kernel, by decide +kernel⟩, List.mem_of_getElem? (i := 358) (by decide +kernel), List.mem_of_getElem? (i := 946) (by decide +kernel), List.mem_of_getElem? (i := 947) (by decide +kernel)⟩
def lw_privs_2 : List (MethodName × Nat) := [(⟨"BoughtKin$Reader", "need", "(I)V"⟩, 6), (⟨"BoughtKin$Reader", "neededNumber", "(II)I"⟩, 6), (⟨"BoughtKin$Reader", "orderWord", "()I"⟩, 6), (⟨"BoughtKin$Reader", "lawWord", "()I"⟩, 6), (⟨"BoughtKin$Reader", "sees", "(I)Z"⟩, 6), (⟨"BoughtKin$Reader", "lawHead", "()V"⟩, 6), (⟨"BoughtKin$Reader", "test", "()V"⟩, 6), (⟨"BoughtKin$Reader", "both", "()V"⟩, 6), (⟨"BoughtKin$Reader", "plain", "()V"⟩, 6), (⟨"BoughtKin$Reader", "tookComparison", "()I"⟩, 6), (⟨"BoughtKin$Clerk", "obeyed", "(LBoughtKin$Script;I)Z"⟩, 10), (⟨"BoughtKin$Clerk", "reckoned", "(LBoughtKin$Script;I)Z"⟩, 10), (⟨"BoughtKin$Clerk", "valueOf", "(I)I"⟩, 10), (⟨"BoughtKin$Kinship", "climb", "(LBoughtKin$People;I[I)V"⟩, 4), (⟨"BoughtKin$Clerk", "areThreePeople", "(LBoughtKin$Script;I)Z"⟩, 10), (⟨"BoughtKin$Court", "priceWithoutLaw", "(I)I"⟩, 3)]
theorem lw_r2 : ∀ q ∈ lw_privs_2, lw_okq q := List.forall_mem_cons.mpr ⟨lw_p16, List.forall_mem_cons.mpr ⟨lw_p17, List.forall_mem_cons.mpr ⟨lw_p18, List.forall_mem_cons.mpr ⟨lw_p19, List.forall_mem_cons.mpr ⟨lw_p20, List.forall_mem_cons.mpr ⟨lw_p21, List.forall_mem_cons.mpr ⟨lw_p22, List.forall_mem_cons.mpr ⟨lw_p23, List.forall_mem_cons.mpr ⟨lw_p24, List.forall_mem_cons.mpr ⟨lw_p25, List.forall_mem_cons.mpr ⟨lw_p26, List.forall_mem_cons.mpr ⟨lw_p27, List.forall_mem_cons.mpr ⟨lw_p28, List.forall_mem_cons.mpr ⟨lw_p29, List.forall_mem_cons.mpr ⟨lw_p30, List.forall_mem_cons.mpr ⟨lw_p31, fun _ h => absurd h List.not_mem_nil⟩⟩⟩⟩⟩⟩⟩⟩⟩⟩⟩⟩⟩⟩⟩⟩
theorem lw_p32 : lw_okq (⟨"BoughtKin$People", "rankedParents", "(II)I"⟩, 13) := ⟨⟨by decide +kernel, by decide +kernel⟩, List.mem_of_getElem? (i := 37) (by decide +kernel), List.mem_of_getElem? (i := 1021) (by decide +kernel), List.mem_of_getElem? (i := 1022) (by decide +kernel)⟩
theorem lw_p33 : lw_okq (⟨"BoughtKin$Search", "gatherPairs", "()V"⟩, 18) := ⟨⟨by decide +kernel, by decide +kernel⟩, List.mem_of_getElem? (i := 414) (by decide +kernel), List.mem_of_getElem? (i := 1089) (by decide +kernel), List.mem_of_getElem? (i := 1090) (by decide +kernel)⟩
theorem lw_p34 : lw_okq (⟨"BoughtKin$Search", "couldBeBought", "(I)Z"⟩, 18) := ⟨⟨by decide +kernel, by decide +kernel⟩, List.mem_of_getElem? (i := 414) (by decide +kernel), List.mem_of_getElem? (i := 1094) (by decide +kernel), List.mem_of_getElem? (i := 1095) (by decide +kernel)⟩
theorem lw_p35 : lw_okq (⟨"BoughtKin$Search", "isThere", "(II)Z"⟩, 18) := ⟨⟨by decide +kernel, by decide +kernel⟩, List.mem_of_getElem? (i := 414) (by decide +kernel), List.mem_of_getElem? (i := 1100) (by decide +kernel), List.mem_of_getElem? (i := 1101) (by decide +kernel)⟩
theorem lw_p36 : lw_okq (⟨"BoughtKin$Search", "note", "(IIIIZ)V"⟩, 18) := ⟨⟨by decide +kernel, by decide +kernel⟩, List.mem_of_getElem? (i := 414) (by decide +kernel), List.mem_of_getElem? (i := 1106) (by decide +kernel), List.mem_of_getElem? (i := 1107) (by decide +kernel)⟩
theorem lw_p37 : lw_okq (⟨"BoughtKin$Search", "isLess", "(II)Z"⟩, 18) := ⟨⟨by decide +kernel, by decide +kernel⟩, List.mem_of_getElem? (i := 414) (by decide +kernel), List.mem_of_getElem? (i := 1110) (by decide +kernel), List.mem_of_getElem? (i := 1111) (by decide +kernel)⟩
theorem lw_p38 : lw_okq (⟨"BoughtKin$Search", "keepAffordable", "(I)V"⟩, 18) := ⟨⟨by decide +kernel, by decide +kernel⟩, List.mem_of_getElem? (i := 414) (by decide +kernel), List.mem_of_getElem? (i := 1114) (by decide +kernel), List.mem_of_getElem? (i := 1115) (by decide +kernel)⟩
theorem lw_p39 : lw_okq (⟨"BoughtKin$Search", "tryOut", "(I[I)V"⟩, 18) := ⟨⟨by decide +kernel, by decide +kernel⟩, List.mem_of_getElem? (i := 414) (by decide +kernel), List.mem_of_getElem? (i := 1121) (by decide +kernel), List.mem_of_getElem? (i := 1122) (by decide +kernel)⟩
theorem lw_p40 : lw_okq (⟨"BoughtKin$Search", "findCheapSecond", "(III)V"⟩, 18) := ⟨⟨by decide +kernel, by decide +kernel⟩, List.mem_of_getElem? (i := 414) (by decide +kernel), List.mem_of_getElem? (i := 1127) (by decide +kernel), List.mem_of_getElem? (i := 1128) (by decide +kernel)⟩
theorem lw_p41 : lw_okq (⟨"BoughtKin$Search", "takeBack", "(I[I)V"⟩, 18) := ⟨⟨by decide +kernel, by decide +kernel⟩, List.mem_of_getElem? (i := 414) (by decide +kernel), List.mem_of_getElem? (i := 1131) (by decide +kernel), List.mem_of_getElem? (i := 1132) (by decide +kernel)⟩
theorem lw_p42 : lw_okq (⟨"BoughtKin$Search", "joiningPairs", "(II)I"⟩, 18) := ⟨⟨by decide +kernel, by decide +kernel⟩, List.mem_of_getElem? (i := 414) (by decide +kernel), List.mem_of_getElem? (i := 1145) (by decide +kernel), List.mem_of_getElem? (i := 1146) (by decide +kernel)⟩
theorem lw_p43 : lw_okq (⟨"BoughtKin$Search", "canAllBe", "(I)Z"⟩, 18) := ⟨⟨by decide +kernel, by decide +kernel⟩, List.mem_of_getElem? (i := 414) (by decide +kernel), List.mem_of_getElem? (i := 1171) (by decide +kernel), List.mem_of_getElem? (i := 1172) (by decide +kernel)⟩
theorem lw_p44 : lw_okq (⟨"BoughtKin$Search", "areAllSightsSo", "()Z"⟩, 18) := ⟨⟨by decide +kernel, by decide +kernel⟩, List.mem_of_getElem? (i := 414) (by decide +kernel), List.mem_of_getElem? (i := 1193) (by decide +kernel), List.mem_of_getElem? (i := 1194) (by decide +kernel)⟩
theorem lw_p45 : lw_okq (⟨"BoughtKin$Search", "drawPerson", "()I"⟩, 18) := ⟨⟨by decide +kernel, by decide +kernel⟩, List.mem_of_getElem? (i := 414) (by decide +kernel), List.mem_of_getElem? (i := 1207) (by decide +kernel), List.mem_of_getElem? (i := 1208) (by decide +kernel)⟩
theorem lw_p46 : lw_okq (⟨"BoughtKinModel", "refuses", "(I)I"⟩, 54) := ⟨⟨by decide +kernel, by decide +kernel⟩, List.mem_of_getElem? (i := 1236) (by decide +kernel), List.mem_of_getElem? (i := 1411) (by decide +kernel), List.mem_of_getElem? (i := 1412) (by decide +kernel)⟩
theorem lw_p47 : lw_okq (⟨"BoughtKinModel", "good", "(I)I"⟩, 54) := ⟨⟨by decide +kernel, by decide +kernel⟩, List.mem_of_getElem? (i := 1236) (by decide +kernel), List.mem_of_getElem? (i := 1415) (by decide +kernel), List.mem_of_getElem? (i := 1416) (by decide +kernel)⟩
def lw_privs_3 : List (MethodName × Nat) := [(⟨"BoughtKin$People", "rankedParents", "(II)I"⟩, 13), (⟨"BoughtKin$Search", "gatherPairs", "()V"⟩, 18), (⟨"BoughtKin$Search", "couldBeBought", "(I)Z"⟩, 18), (⟨"BoughtKin$Search", "isThere", "(II)Z"⟩, 18), (⟨"BoughtKin$Search", "note", "(IIIIZ)V"⟩, 18), (⟨"BoughtKin$Search", "isLess", "(II)Z"⟩, 18), (⟨"BoughtKin$Search", "keepAffordable", "(I)V"⟩, 18), (⟨"BoughtKin$Search", "tryOut", "(I[I)V"⟩, 18), (⟨"BoughtKin$Search", "findCheapSecond", "(III)V"⟩, 18), (⟨"BoughtKin$Search", "takeBack", "(I[I)V"⟩, 18), (⟨"BoughtKin$Search", "joiningPairs", "(II)I"⟩, 18), (⟨"BoughtKin$Search", "canAllBe", "(I)Z"⟩, 18), (⟨"BoughtKin$Search", "areAllSightsSo", "()Z"⟩, 18), (⟨"BoughtKin$Search", "drawPerson", "()I"⟩, 18), (⟨"BoughtKinModel", "refuses", "(I)I"⟩, 54), (⟨"BoughtKinModel", "good", "(I)I"⟩, 54)]
theorem lw_r3 : ∀ q ∈ lw_privs_3, lw_okq q := List.forall_mem_cons.mpr ⟨lw_p32, List.forall_mem_cons.mpr ⟨lw_p33, List.forall_mem_cons.mpr ⟨lw_p34, List.forall_mem_cons.mpr ⟨lw_p35, List.forall_mem_cons.mpr ⟨lw_p36, List.forall_mem_cons.mpr ⟨lw_p37, List.forall_mem_cons.mpr ⟨lw_p38, List.forall_mem_cons.mpr ⟨lw_p39, List.forall_mem_cons.mpr ⟨lw_p40, List.forall_mem_cons.mpr ⟨lw_p41, List.forall_mem_cons.mpr ⟨lw_p42, List.forall_mem_cons.mpr ⟨lw_p43, List.forall_mem_cons.mpr ⟨lw_p44, List.forall_mem_cons.mpr ⟨lw_p45, List.forall_mem_cons.mpr ⟨lw_p46, List.forall_mem_cons.mpr ⟨lw_p47, fun _ h => absurd h List.not_mem_nil⟩⟩⟩⟩⟩⟩⟩⟩⟩⟩⟩⟩⟩⟩⟩⟩
theorem lw_p48 : lw_okq (⟨"BoughtKinModel", "settled", "(I)I"⟩, 54) := ⟨⟨by decide +kernel, by decide +kernel⟩, List.mem_of_getElem? (i := 1236) (by decide +kernel), List.mem_of_getElem? (i := 1423) (by decide +kernel), List.mem_of_getElem? (i := 1424) (by decide +kernel)⟩
theorem lw_p49 : lw_okq (⟨"BoughtKinModel", "people", "()I"⟩, 54) := ⟨⟨by decide +kernel, by decide +kernel⟩, List.mem_of_getElem? (i := 1236) (by decide +kernel), List.mem_of_getElem? (i := 1434) (by decide +kernel), List.mem_of_getElem? (i := 1435) (by decide +kernel)⟩
theorem lw_p50 : lw_okq (⟨"BoughtKinModel", "adds", "(IIII)V"⟩, 54) := ⟨⟨by decide +kernel, by decide +kernel⟩, List.mem_of_getElem? (i := 1236) (by decide +kernel), List.mem_of_getElem? (i := 1438) (by decide +kernel), List.mem_of_getElem? (i := 1439) (by decide +kernel)⟩
theorem lw_p51 : lw_okq (⟨"BoughtKinModel", "isPerson", "(I)Z"⟩, 54) := ⟨⟨by decide +kernel, by decide +kernel⟩, List.mem_of_getElem? (i := 1236) (by decide +kernel), List.mem_of_getElem? (i := 1449) (by decide +kernel), List.mem_of_getElem? (i := 1450) (by decide +kernel)⟩
theorem lw_p52 : lw_okq (⟨"BoughtKinModel", "fact", "(II)I"⟩, 54) := ⟨⟨by decide +kernel, by decide +kernel⟩, List.mem_of_getElem? (i := 1236) (by decide +kernel), List.mem_of_getElem? (i := 1457) (by decide +kernel), List.mem_of_getElem? (i := 1458) (by decide +kernel)⟩
theorem lw_p53 : lw_okq (⟨"BoughtKinModel", "rankOf", "(I)I"⟩, 54) := ⟨⟨by decide +kernel, by decide +kernel⟩, List.mem_of_getElem? (i := 1236) (by decide +kernel), List.mem_of_getElem? (i := 1461) (by decide +kernel), List.mem_of_getElem? (i := 1462) (by decide +kernel)⟩
theorem lw_p54 : lw_okq (⟨"BoughtKinModel", "sets", "(III)V"⟩, 54) := ⟨⟨by decide +kernel, by decide +kernel⟩, List.mem_of_getElem? (i := 1236) (by decide +kernel), List.mem_of_getElem? (i := 1465) (by decide +kernel), List.mem_of_getElem? (i := 1466) (by decide +kernel)⟩
theorem lw_p55 : lw_okq (⟨"BoughtKinModel", "tells", "(III)I"⟩, 54) := ⟨⟨by decide +kernel, by decide +kernel⟩, List.mem_of_getElem? (i := 1236) (by decide +kernel), List.mem_of_getElem? (i := 1469) (by decide +kernel), List.mem_of_getElem? (i := 1470) (by decide +kernel)⟩
theorem lw_p56 : lw_okq (⟨"BoughtKinModel", "codeAt", "(I)I"⟩, 54) := ⟨⟨by decide +kernel, by decide +kernel⟩, List.mem_of_getElem? (i := 1236) (by decide +kernel), List.mem_of_getElem? (i := 1473) (by decide +kernel), List.mem_of_getElem? (i := 1474) (by decide +kernel)⟩
theorem lw_p57 : lw_okq (⟨"BoughtKinModel", "sumOf", "(Z)J"⟩, 54) := ⟨⟨by decide +kernel, by decide +kernel⟩, List.mem_of_getElem? (i := 1236) (by decide +kernel), List.mem_of_getElem? (i := 1477) (by decide +kernel), List.mem_of_getElem? (i := 1478) (by decide +kernel)⟩
theorem lw_p58 : lw_okq (⟨"BoughtKinModel", "termOf", "(Z)J"⟩, 54) := ⟨⟨by decide +kernel, by decide +kernel⟩, List.mem_of_getElem? (i := 1236) (by decide +kernel), List.mem_of_getElem? (i := 1481) (by decide +kernel), List.mem_of_getElem? (i := 1482) (by decide +kernel)⟩
theorem lw_p59 : lw_okq (⟨"BoughtKinModel", "partOf", "(Z)J"⟩, 54) := ⟨⟨by decide +kernel, by decide +kernel⟩, List.mem_of_getElem? (i := 1236) (by decide +kernel), List.mem_of_getElem? (i := 1485) (by decide +kernel), List.mem_of_getElem? (i := 1486) (by decide +kernel)⟩
theorem lw_p60 : lw_okq (⟨"BoughtKinModel", "passes0", "(I)Z"⟩, 54) := ⟨⟨by decide +kernel, by decide +kernel⟩, List.mem_of_getElem? (i := 1236) (by decide +kernel), List.mem_of_getElem? (i := 1492) (by decide +kernel), List.mem_of_getElem? (i := 1493) (by decide +kernel)⟩
theorem lw_p61 : lw_okq (⟨"BoughtKinModel", "kinFar", "(II)I"⟩, 54) := ⟨⟨by decide +kernel, by decide +kernel⟩, List.mem_of_getElem? (i := 1236) (by decide +kernel), List.mem_of_getElem? (i := 1497) (by decide +kernel), List.mem_of_getElem? (i := 1498) (by decide +kernel)⟩
theorem lw_p62 : lw_okq (⟨"BoughtKinModel", "climbs", "(I[I)V"⟩, 54) := ⟨⟨by decide +kernel, by decide +kernel⟩, List.mem_of_getElem? (i := 1236) (by decide +kernel), List.mem_of_getElem? (i := 1501) (by decide +kernel), List.mem_of_getElem? (i := 1502) (by decide +kernel)⟩
theorem lw_p63 : lw_okq (⟨"BoughtKinModel", "bounded", "(JZ)J"⟩, 54) := ⟨⟨by decide +kernel, by decide +kernel⟩, List.mem_of_getElem? (i := 1236) (by decide +kernel), List.mem_of_getElem? (i := 1506) (by decide +kernel), List.mem_of_getElem? (i := 1507) (by decide +kernel)⟩
def lw_privs_4 : List (MethodName × Nat) := [(⟨"BoughtKinModel", "settled", "(I)I"⟩, 54), (⟨"BoughtKinModel", "people", "()I"⟩, 54), (⟨"BoughtKinModel", "adds", "(IIII)V"⟩, 54), (⟨"BoughtKinModel", "isPerson", "(I)Z"⟩, 54), (⟨"BoughtKinModel", "fact", "(II)I"⟩, 54), (⟨"BoughtKinModel", "rankOf", "(I)I"⟩, 54), (⟨"BoughtKinModel", "sets", "(III)V"⟩, 54), (⟨"BoughtKinModel", "tells", "(III)I"⟩, 54), (⟨"BoughtKinModel", "codeAt", "(I)I"⟩, 54), (⟨"BoughtKinModel", "sumOf", "(Z)J"⟩, 54), (⟨"BoughtKinModel", "termOf", "(Z)J"⟩, 54), (⟨"BoughtKinModel", "partOf", "(Z)J"⟩, 54), (⟨"BoughtKinModel", "passes0", "(I)Z"⟩, 54), (⟨"BoughtKinModel", "kinFar", "(II)I"⟩, 54), (⟨"BoughtKinModel", "climbs", "(I[I)V"⟩, 54), (⟨"BoughtKinModel", "bounded", "(JZ)J"⟩, 54)]
theorem lw_r4 : ∀ q ∈ lw_privs_4, lw_okq q := List.forall_mem_cons.mpr ⟨lw_p48, List.forall_mem_cons.mpr ⟨lw_p49, List.forall_mem_cons.mpr ⟨lw_p50, List.forall_mem_cons.mpr ⟨lw_p51, List.forall_mem_cons.mpr ⟨lw_p52, List.forall_mem_cons.mpr ⟨lw_p53, List.forall_mem_cons.mpr ⟨lw_p54, List.forall_mem_cons.mpr ⟨lw_p55, List.forall_mem_cons.mpr ⟨lw_p56, List.forall_mem_cons.mpr ⟨lw_p57, List.forall_mem_cons.mpr ⟨lw_p58, List.forall_mem_cons.mpr ⟨lw_p59, List.forall_mem_cons.mpr ⟨lw_p60, List.forall_mem_cons.mpr ⟨lw_p61, List.forall_mem_cons.mpr ⟨lw_p62, List.forall_mem_cons.mpr ⟨lw_p63, fun _ h => absurd h List.not_mem_nil⟩⟩⟩⟩⟩⟩⟩⟩⟩⟩⟩⟩⟩⟩⟩⟩
theorem lw_p64 : lw_okq (⟨"BoughtKinModel", "testOf", "(Z)Z"⟩, 54) := ⟨⟨by decide +kernel, by decide +kernel⟩, List.mem_of_getElem? (i := 1236) (by decide +kernel), List.mem_of_getElem? (i := 1512) (by decide +kernel), List.mem_of_getElem? (i := 1513) (by decide +kernel)⟩
theorem lw_p65 : lw_okq (⟨"BoughtKinModel", "bothOf", "(Z)Z"⟩, 54) := ⟨⟨by decide +kernel, by decide +kernel⟩, List.mem_of_getElem? (i := 1236) (by decide +kernel), List.mem_of_getElem? (i := 1516) (by decide +kernel), List.mem_of_getElem? (i := 1517) (by decide +kernel)⟩
theorem lw_p66 : lw_okq (⟨"BoughtKinModel", "plainOf", "(Z)Z"⟩, 54) := ⟨⟨by decide +kernel, by decide +kernel⟩, List.mem_of_getElem? (i := 1236) (by decide +kernel), List.mem_of_getElem? (i := 1520) (by decide +kernel), List.mem_of_getElem? (i := 1521) (by decide +kernel)⟩
theorem lw_p67 : lw_okq (⟨"BoughtKinModel", "positiveOf", "(Z)Z"⟩, 54) := ⟨⟨by decide +kernel, by decide +kernel⟩, List.mem_of_getElem? (i := 1236) (by decide +kernel), List.mem_of_getElem? (i := 1524) (by decide +kernel), List.mem_of_getElem? (i := 1525) (by decide +kernel)⟩
theorem lw_p68 : lw_okq (⟨"BoughtKinModel", "readsAs", "(Z)Z"⟩, 54) := ⟨⟨by decide +kernel, by decide +kernel⟩, List.mem_of_getElem? (i := 1236) (by decide +kernel), List.mem_of_getElem? (i := 1559) (by decide +kernel), List.mem_of_getElem? (i := 1560) (by decide +kernel)⟩
theorem lw_p69 : lw_okq (⟨"BoughtKinModel", "reads", "()Z"⟩, 54) := ⟨⟨by decide +kernel, by decide +kernel⟩, List.mem_of_getElem? (i := 1236) (by decide +kernel), List.mem_of_getElem? (i := 1563) (by decide +kernel), List.mem_of_getElem? (i := 1564) (by decide +kernel)⟩
theorem lw_p70 : lw_okq (⟨"BoughtKinModel", "splits", "(I)V"⟩, 54) := ⟨⟨by decide +kernel, by decide +kernel⟩, List.mem_of_getElem? (i := 1236) (by decide +kernel), List.mem_of_getElem? (i := 1567) (by decide +kernel), List.mem_of_getElem? (i := 1568) (by decide +kernel)⟩
theorem lw_p71 : lw_okq (⟨"BoughtKinModel", "wordOf", "(II)I"⟩, 54) := ⟨⟨by decide +kernel, by decide +kernel⟩, List.mem_of_getElem? (i := 1236) (by decide +kernel), List.mem_of_getElem? (i := 1577) (by decide +kernel), List.mem_of_getElem? (i := 1578) (by decide +kernel)⟩
theorem lw_p72 : lw_okq (⟨"BoughtKinModel", "readOne", "()V"⟩, 54) := ⟨⟨by decide +kernel, by decide +kernel⟩, List.mem_of_getElem? (i := 1236) (by decide +kernel), List.mem_of_getElem? (i := 1581) (by decide +kernel), List.mem_of_getElem? (i := 1582) (by decide +kernel)⟩
theorem lw_p73 : lw_okq (⟨"BoughtKinModel", "readOrder", "()V"⟩, 54) := ⟨⟨by decide +kernel, by decide +kernel⟩, List.mem_of_getElem? (i := 1236) (by decide +kernel), List.mem_of_getElem? (i := 1585) (by decide +kernel), List.mem_of_getElem? (i := 1586) (by decide +kernel)⟩
theorem lw_p74 : lw_okq (⟨"BoughtKinModel", "takes0", "(I)Z"⟩, 54) := ⟨⟨by decide +kernel, by decide +kernel⟩, List.mem_of_getElem? (i := 1236) (by decide +kernel), List.mem_of_getElem? (i := 1589) (by decide +kernel), List.mem_of_getElem? (i := 1590) (by decide +kernel)⟩
theorem lw_p75 : lw_okq (⟨"BoughtKinModel", "fine", "()Z"⟩, 54) := ⟨⟨by decide +kernel, by decide +kernel⟩, List.mem_of_getElem? (i := 1236) (by decide +kernel), List.mem_of_getElem? (i := 1593) (by decide +kernel), List.mem_of_getElem? (i := 1594) (by decide +kernel)⟩
theorem lw_p76 : lw_okq (⟨"BoughtKinModel", "readSum", "(I)V"⟩, 54) := ⟨⟨by decide +kernel, by decide +kernel⟩, List.mem_of_getElem? (i := 1236) (by decide +kernel), List.mem_of_getElem? (i := 1597) (by decide +kernel), List.mem_of_getElem? (i := 1598) (by decide +kernel)⟩
theorem lw_p77 : lw_okq (⟨"BoughtKinModel", "readTerm", "(I)V"⟩, 54) := ⟨⟨by decide +kernel, by decide +kernel⟩, List.mem_of_getElem? (i := 1236) (by decide +kernel), List.mem_of_getElem? (i := 1601) (by decide +kernel), List.mem_of_getElem? (i := 1602) (by decide +kernel)⟩
theorem lw_p78 : lw_okq (⟨"BoughtKinModel", "readPart", "(I)V"⟩, 54) := ⟨⟨by decide +kernel, by decide +kernel⟩, List.mem_of_getElem? (i := 1236) (by decide +kernel), List.mem_of_getElem? (i := 1605) (by decide +kernel), List.mem_of_getElem? (i := 1606) (by decide +kernel)⟩
theorem lw_p79 : lw_okq (⟨"BoughtKinModel", "faults", "()V"⟩, 54) := ⟨⟨by decide +kernel, by decide +kernel⟩, List.mem_of_getElem? (i := 1236) (by decide +kernel), List.mem_of_getElem? (i := 1609) (by decide +kernel), List.mem_of_getElem? (i := 1610) (by decide +kernel)⟩
def lw_privs_5 : List (MethodName × Nat) := [(⟨"BoughtKinModel", "testOf", "(Z)Z"⟩, 54), (⟨"BoughtKinModel", "bothOf", "(Z)Z"⟩, 54), (⟨"BoughtKinModel", "plainOf", "(Z)Z"⟩, 54), (⟨"BoughtKinModel", "positiveOf", "(Z)Z"⟩, 54), (⟨"BoughtKinModel", "readsAs", "(Z)Z"⟩, 54), (⟨"BoughtKinModel", "reads", "()Z"⟩, 54), (⟨"BoughtKinModel", "splits", "(I)V"⟩, 54), (⟨"BoughtKinModel", "wordOf", "(II)I"⟩, 54), (⟨"BoughtKinModel", "readOne", "()V"⟩, 54), (⟨"BoughtKinModel", "readOrder", "()V"⟩, 54), (⟨"BoughtKinModel", "takes0", "(I)Z"⟩, 54), (⟨"BoughtKinModel", "fine", "()Z"⟩, 54), (⟨"BoughtKinModel", "readSum", "(I)V"⟩, 54), (⟨"BoughtKinModel", "readTerm", "(I)V"⟩, 54), (⟨"BoughtKinModel", "readPart", "(I)V"⟩, 54), (⟨"BoughtKinModel", "faults", "()V"⟩, 54)]
theorem lw_r5 : ∀ q ∈ lw_privs_5, lw_okq q := List.forall_mem_cons.mpr ⟨lw_p64, List.forall_mem_cons.mpr ⟨lw_p65, List.forall_mem_cons.mpr ⟨lw_p66, List.forall_mem_cons.mpr ⟨lw_p67, List.forall_mem_cons.mpr ⟨lw_p68, List.forall_mem_cons.mpr ⟨lw_p69, List.forall_mem_cons.mpr ⟨lw_p70, List.forall_mem_cons.mpr ⟨lw_p71, List.forall_mem_cons.mpr ⟨lw_p72, List.forall_mem_cons.mpr ⟨lw_p73, List.forall_mem_cons.mpr ⟨lw_p74, List.forall_mem_cons.mpr ⟨lw_p75, List.forall_mem_cons.mpr ⟨lw_p76, List.forall_mem_cons.mpr ⟨lw_p77, List.forall_mem_cons.mpr ⟨lw_p78, List.forall_mem_cons.mpr ⟨lw_p79, fun _ h => absurd h List.not_mem_nil⟩⟩⟩⟩⟩⟩⟩⟩⟩⟩⟩⟩⟩⟩⟩⟩
theorem lw_p80 : lw_okq (⟨"BoughtKinModel", "must", "(I)V"⟩, 54) := ⟨⟨by decide +kernel, by decide +kernel⟩, List.mem_of_getElem? (i := 1236) (by decide +kernel), List.mem_of_getElem? (i := 1613) (by decide +kernel), List.mem_of_getElem? (i := 1614) (by decide +kernel)⟩
theorem lw_p81 : lw_okq (⟨"BoughtKinModel", "leaf", "()V"⟩, 54) := ⟨⟨by decide +kernel, by decide +kernel⟩, List.mem_of_getElem? (i := 1236) (by decide +kernel), List.mem_of_getElem? (i := 1617) (by decide +kernel), List.mem_of_getElem? (i := 1618) (by decide +kernel)⟩
theorem lw_p82 : lw_okq (⟨"BoughtKinModel", "mustNumber", "(II)V"⟩, 54) := ⟨⟨by decide +kernel, by decide +kernel⟩, List.mem_of_getElem? (i := 1236) (by decide +kernel), List.mem_of_getElem? (i := 1621) (by decide +kernel), List.mem_of_getElem? (i := 1622) (by decide +kernel)⟩
theorem lw_p83 : lw_okq (⟨"BoughtKinModel", "readTest", "(I)V"⟩, 54) := ⟨⟨by decide +kernel, by decide +kernel⟩, List.mem_of_getElem? (i := 1236) (by decide +kernel), List.mem_of_getElem? (i := 1625) (by decide +kernel), List.mem_of_getElem? (i := 1626) (by decide +kernel)⟩
theorem lw_p84 : lw_okq (⟨"BoughtKinModel", "readBoth", "(I)V"⟩, 54) := ⟨⟨by decide +kernel, by decide +kernel⟩, List.mem_of_getElem? (i := 1236) (by decide +kernel), List.mem_of_getElem? (i := 1629) (by decide +kernel), List.mem_of_getElem? (i := 1630) (by decide +kernel)⟩
theorem lw_p85 : lw_okq (⟨"BoughtKinModel", "readPlain", "(I)V"⟩, 54) := ⟨⟨by decide +kernel, by decide +kernel⟩, List.mem_of_getElem? (i := 1236) (by decide +kernel), List.mem_of_getElem? (i := 1633) (by decide +kernel), List.mem_of_getElem? (i := 1634) (by decide +kernel)⟩
theorem lw_p86 : lw_okq (⟨"BoughtKinModel", "readClause", "()V"⟩, 54) := ⟨⟨by decide +kernel, by decide +kernel⟩, List.mem_of_getElem? (i := 1236) (by decide +kernel), List.mem_of_getElem? (i := 1637) (by decide +kernel), List.mem_of_getElem? (i := 1638) (by decide +kernel)⟩
theorem lw_p87 : lw_okq (⟨"BoughtKinModel", "lays", "(I)V"⟩, 54) := ⟨⟨by decide +kernel, by decide +kernel⟩, List.mem_of_getElem? (i := 1236) (by decide +kernel), List.mem_of_getElem? (i := 1641) (by decide +kernel), List.mem_of_getElem? (i := 1642) (by decide +kernel)⟩
theorem lw_p88 : lw_okq (⟨"BoughtKinModel", "mayMarry", "(II)Z"⟩, 54) := ⟨⟨by decide +kernel, by decide +kernel⟩, List.mem_of_getElem? (i := 1236) (by decide +kernel), List.mem_of_getElem? (i := 1661) (by decide +kernel), List.mem_of_getElem? (i := 1662) (by decide +kernel)⟩
theorem lw_p89 : lw_okq (⟨"BoughtKinModel", "livesIn", "(II)Z"⟩, 54) := ⟨⟨by decide +kernel, by decide +kernel⟩, List.mem_of_getElem? (i := 1236) (by decide +kernel), List.mem_of_getElem? (i := 1665) (by decide +kernel), List.mem_of_getElem? (i := 1666) (by decide +kernel)⟩
theorem lw_p90 : lw_okq (⟨"BoughtKinModel", "lineOf", "(I)I"⟩, 54) := ⟨⟨by decide +kernel, by decide +kernel⟩, List.mem_of_getElem? (i := 1236) (by decide +kernel), List.mem_of_getElem? (i := 1673) (by decide +kernel), List.mem_of_getElem? (i := 1674) (by decide +kernel)⟩
theorem lw_p91 : lw_okq (⟨"BoughtKinModel", "childrenOf", "(I)I"⟩, 54) := ⟨⟨by decide +kernel, by decide +kernel⟩, List.mem_of_getElem? (i := 1236) (by decide +kernel), List.mem_of_getElem? (i := 1680) (by decide +kernel), List.mem_of_getElem? (i := 1681) (by decide +kernel)⟩
theorem lw_p92 : lw_okq (⟨"BoughtKinModel", "debtsOf", "(I)I"⟩, 54) := ⟨⟨by decide +kernel, by decide +kernel⟩, List.mem_of_getElem? (i := 1236) (by decide +kernel), List.mem_of_getElem? (i := 1684) (by decide +kernel), List.mem_of_getElem? (i := 1685) (by decide +kernel)⟩
theorem lw_p93 : lw_okq (⟨"BoughtKinModel", "quartersOf", "(I)I"⟩, 54) := ⟨⟨by decide +kernel, by decide +kernel⟩, List.mem_of_getElem? (i := 1236) (by decide +kernel), List.mem_of_getElem? (i := 1688) (by decide +kernel), List.mem_of_getElem? (i := 1689) (by decide +kernel)⟩
theorem lw_p94 : lw_okq (⟨"BoughtKinModel", "ranked", "()I"⟩, 54) := ⟨⟨by decide +kernel, by decide +kernel⟩, List.mem_of_getElem? (i := 1236) (by decide +kernel), List.mem_of_getElem? (i := 1692) (by decide +kernel), List.mem_of_getElem? (i := 1693) (by decide +kernel)⟩
theorem lw_p95 : lw_okq (⟨"BoughtKinModel", "isGrand", "(II)Z"⟩, 54) := ⟨⟨by decide +kernel, by decide +kernel⟩, List.mem_of_getElem? (i := 1236) (by decide +kernel), List.mem_of_getElem? (i := 1696) (by decide +kernel), List.mem_of_getElem? (i := 1697) (by decide +kernel)⟩
def lw_privs_6 : List (MethodName × Nat) := [(⟨"BoughtKinModel", "must", "(I)V"⟩, 54), (⟨"BoughtKinModel", "leaf", "()V"⟩, 54), (⟨"BoughtKinModel", "mustNumber", "(II)V"⟩, 54), (⟨"BoughtKinModel", "readTest", "(I)V"⟩, 54), (⟨"BoughtKinModel", "readBoth", "(I)V"⟩, 54), (⟨"BoughtKinModel", "readPlain", "(I)V"⟩, 54), (⟨"BoughtKinModel", "readClause", "()V"⟩, 54), (⟨"BoughtKinModel", "lays", "(I)V"⟩, 54), (⟨"BoughtKinModel", "mayMarry", "(II)Z"⟩, 54), (⟨"BoughtKinModel", "livesIn", "(II)Z"⟩, 54), (⟨"BoughtKinModel", "lineOf", "(I)I"⟩, 54), (⟨"BoughtKinModel", "childrenOf", "(I)I"⟩, 54), (⟨"BoughtKinModel", "debtsOf", "(I)I"⟩, 54), (⟨"BoughtKinModel", "quartersOf", "(I)I"⟩, 54), (⟨"BoughtKinModel", "ranked", "()I"⟩, 54), (⟨"BoughtKinModel", "isGrand", "(II)Z"⟩, 54)]
theorem lw_r6 : ∀ q ∈ lw_privs_6, lw_okq q := List.forall_mem_cons.mpr ⟨lw_p80, List.forall_mem_cons.mpr ⟨lw_p81, List.forall_mem_cons.mpr ⟨lw_p82, List.forall_mem_cons.mpr ⟨lw_p83, List.forall_mem_cons.mpr ⟨lw_p84, List.forall_mem_cons.mpr ⟨lw_p85, List.forall_mem_cons.mpr ⟨lw_p86, List.forall_mem_cons.mpr ⟨lw_p87, List.forall_mem_cons.mpr ⟨lw_p88, List.forall_mem_cons.mpr ⟨lw_p89, List.forall_mem_cons.mpr ⟨lw_p90, List.forall_mem_cons.mpr ⟨lw_p91, List.forall_mem_cons.mpr ⟨lw_p92, List.forall_mem_cons.mpr ⟨lw_p93, List.forall_mem_cons.mpr ⟨lw_p94, List.forall_mem_cons.mpr ⟨lw_p95, fun _ h => absurd h List.not_mem_nil⟩⟩⟩⟩⟩⟩⟩⟩⟩⟩⟩⟩⟩⟩⟩⟩
theorem lw_p96 : lw_okq (⟨"BoughtKinModel", "isGrandBy", "(II)Z"⟩, 54) := ⟨⟨by decide +kernel, by decide +kernel⟩, List.mem_of_getElem? (i := 1236) (by decide +kernel), List.mem_of_getElem? (i := 1700) (by decide +kernel), List.mem_of_getElem? (i := 1701) (by decide +kernel)⟩
theorem lw_p97 : lw_okq (⟨"BoughtKinModel", "heirOf", "(I)I"⟩, 54) := ⟨⟨by decide +kernel, by decide +kernel⟩, List.mem_of_getElem? (i := 1236) (by decide +kernel), List.mem_of_getElem? (i := 1704) (by decide +kernel), List.mem_of_getElem? (i := 1705) (by decide +kernel)⟩
theorem lw_p98 : lw_okq (⟨"BoughtKinModel", "datesFit", "(II)Z"⟩, 54) := ⟨⟨by decide +kernel, by decide +kernel⟩, List.mem_of_getElem? (i := 1236) (by decide +kernel), List.mem_of_getElem? (i := 1712) (by decide +kernel), List.mem_of_getElem? (i := 1713) (by decide +kernel)⟩
theorem lw_p99 : lw_okq (⟨"BoughtKinModel", "mayBeParent", "(II)Z"⟩, 54) := ⟨⟨by decide +kernel, by decide +kernel⟩, List.mem_of_getElem? (i := 1236) (by decide +kernel), List.mem_of_getElem? (i := 1720) (by decide +kernel), List.mem_of_getElem? (i := 1721) (by decide +kernel)⟩
theorem lw_p100 : lw_okq (⟨"BoughtKinModel", "areTwo", "(II)Z"⟩, 54) := ⟨⟨by decide +kernel, by decide +kernel⟩, List.mem_of_getElem? (i := 1236) (by decide +kernel), List.mem_of_getElem? (i := 1731) (by decide +kernel), List.mem_of_getElem? (i := 1732) (by decide +kernel)⟩
theorem lw_p101 : lw_okq (⟨"BoughtKinModel", "priceOf", "(II)I"⟩, 54) := ⟨⟨by decide +kernel, by decide +kernel⟩, List.mem_of_getElem? (i := 1236) (by decide +kernel), List.mem_of_getElem? (i := 1735) (by decide +kernel), List.mem_of_getElem? (i := 1736) (by decide +kernel)⟩
theorem lw_p102 : lw_okq (⟨"BoughtKinModel", "isBarred", "(II)Z"⟩, 54) := ⟨⟨by decide +kernel, by decide +kernel⟩, List.mem_of_getElem? (i := 1236) (by decide +kernel), List.mem_of_getElem? (i := 1739) (by decide +kernel), List.mem_of_getElem? (i := 1740) (by decide +kernel)⟩
theorem lw_p103 : lw_okq (⟨"BoughtKinModel", "buysKept", "(III)I"⟩, 54) := ⟨⟨by decide +kernel, by decide +kernel⟩, List.mem_of_getElem? (i := 1236) (by decide +kernel), List.mem_of_getElem? (i := 1747) (by decide +kernel), List.mem_of_getElem? (i := 1748) (by decide +kernel)⟩
theorem lw_p104 : lw_okq (⟨"BoughtKinModel", "canBuy", "(III)Z"⟩, 54) := ⟨⟨by decide +kernel, by decide +kernel⟩, List.mem_of_getElem? (i := 1236) (by decide +kernel), List.mem_of_getElem? (i := 1751) (by decide +kernel), List.mem_of_getElem? (i := 1752) (by decide +kernel)⟩
theorem lw_p105 : lw_okq (⟨"BoughtKinModel", "mayPay", "(II)Z"⟩, 54) := ⟨⟨by decide +kernel, by decide +kernel⟩, List.mem_of_getElem? (i := 1236) (by decide +kernel), List.mem_of_getElem? (i := 1755) (by decide +kernel), List.mem_of_getElem? (i := 1756) (by decide +kernel)⟩
theorem lw_p106 : lw_okq (⟨"BoughtKinModel", "canBeHad", "(II)Z"⟩, 54) := ⟨⟨by decide +kernel, by decide +kernel⟩, List.mem_of_getElem? (i := 1236) (by decide +kernel), List.mem_of_getElem? (i := 1759) (by decide +kernel), List.mem_of_getElem? (i := 1760) (by decide +kernel)⟩
theorem lw_p107 : lw_okq (⟨"BoughtKinModel", "keeps", "(I)V"⟩, 54) := ⟨⟨by decide +kernel, by decide +kernel⟩, List.mem_of_getElem? (i := 1236) (by decide +kernel), List.mem_of_getElem? (i := 1763) (by decide +kernel), List.mem_of_getElem? (i := 1764) (by decide +kernel)⟩
theorem lw_p108 : lw_okq (⟨"BoughtKinModel", "buys", "(III)I"⟩, 54) := ⟨⟨by decide +kernel, by decide +kernel⟩, List.mem_of_getElem? (i := 1236) (by decide +kernel), List.mem_of_getElem? (i := 1767) (by decide +kernel), List.mem_of_getElem? (i := 1768) (by decide +kernel)⟩
theorem lw_p109 : lw_okq (⟨"BoughtKinModel", "has", "(II)V"⟩, 54) := ⟨⟨by decide +kernel, by decide +kernel⟩, List.mem_of_getElem? (i := 1236) (by decide +kernel), List.mem_of_getElem? (i := 1771) (by decide +kernel), List.mem_of_getElem? (i := 1772) (by decide +kernel)⟩
theorem lw_p110 : lw_okq (⟨"BoughtKinModel", "findsCheap", "(II)V"⟩, 54) := ⟨⟨by decide +kernel, by decide +kernel⟩, List.mem_of_getElem? (i := 1236) (by decide +kernel), List.mem_of_getElem? (i := 1787) (by decide +kernel), List.mem_of_getElem? (i := 1788) (by decide +kernel)⟩
theorem lw_p111 : lw_okq (⟨"BoughtKinModel", "isWell", "(II)Z"⟩, 54) := ⟨⟨by decide +kernel, by decide +kernel⟩, List.mem_of_getElem? (i := 1236) (by decide +kernel), List.mem_of_getElem? (i := 1791) (by decide +kernel), List.mem_of_getElem? (i := 1792) (by decide +kernel)⟩
def lw_privs_7 : List (MethodName × Nat) := [(⟨"BoughtKinModel", "isGrandBy", "(II)Z"⟩, 54), (⟨"BoughtKinModel", "heirOf", "(I)I"⟩, 54), (⟨"BoughtKinModel", "datesFit", "(II)Z"⟩, 54), (⟨"BoughtKinModel", "mayBeParent", "(II)Z"⟩, 54), (⟨"BoughtKinModel", "areTwo", "(II)Z"⟩, 54), (⟨"BoughtKinModel", "priceOf", "(II)I"⟩, 54), (⟨"BoughtKinModel", "isBarred", "(II)Z"⟩, 54), (⟨"BoughtKinModel", "buysKept", "(III)I"⟩, 54), (⟨"BoughtKinModel", "canBuy", "(III)Z"⟩, 54), (⟨"BoughtKinModel", "mayPay", "(II)Z"⟩, 54), (⟨"BoughtKinModel", "canBeHad", "(II)Z"⟩, 54), (⟨"BoughtKinModel", "keeps", "(I)V"⟩, 54), (⟨"BoughtKinModel", "buys", "(III)I"⟩, 54), (⟨"BoughtKinModel", "has", "(II)V"⟩, 54), (⟨"BoughtKinModel", "findsCheap", "(II)V"⟩, 54), (⟨"BoughtKinModel", "isWell", "(II)Z"⟩, 54)]
theorem lw_r7 : ∀ q ∈ lw_privs_7, lw_okq q := List.forall_mem_cons.mpr ⟨lw_p96, List.forall_mem_cons.mpr ⟨lw_p97, List.forall_mem_cons.mpr ⟨lw_p98, List.forall_mem_cons.mpr ⟨lw_p99, List.forall_mem_cons.mpr ⟨lw_p100, List.forall_mem_cons.mpr ⟨lw_p101, List.forall_mem_cons.mpr ⟨lw_p102, List.forall_mem_cons.mpr ⟨lw_p103, List.forall_mem_cons.mpr ⟨lw_p104, List.forall_mem_cons.mpr ⟨lw_p105, List.forall_mem_cons.mpr ⟨lw_p106, List.forall_mem_cons.mpr ⟨lw_p107, List.forall_mem_cons.mpr ⟨lw_p108, List.forall_mem_cons.mpr ⟨lw_p109, List.forall_mem_cons.mpr ⟨lw_p110, List.forall_mem_cons.mpr ⟨lw_p111, fun _ h => absurd h List.not_mem_nil⟩⟩⟩⟩⟩⟩⟩⟩⟩⟩⟩⟩⟩⟩⟩⟩
theorem lw_p112 : lw_okq (⟨"BoughtKinModel", "isCheaper", "(IIII)V"⟩, 54) := ⟨⟨by decide +kernel, by decide +kernel⟩, List.mem_of_getElem? (i := 1236) (by decide +kernel), List.mem_of_getElem? (i := 1795) (by decide +kernel), List.mem_of_getElem? (i := 1796) (by decide +kernel)⟩
theorem lw_p113 : lw_okq (⟨"BoughtKinModel", "laysAside", "(I)V"⟩, 54) := ⟨⟨by decide +kernel, by decide +kernel⟩, List.mem_of_getElem? (i := 1236) (by decide +kernel), List.mem_of_getElem? (i := 1799) (by decide +kernel), List.mem_of_getElem? (i := 1800) (by decide +kernel)⟩
theorem lw_p114 : lw_okq (⟨"BoughtKinModel", "canPair", "(II)Z"⟩, 54) := ⟨⟨by decide +kernel, by decide +kernel⟩, List.mem_of_getElem? (i := 1236) (by decide +kernel), List.mem_of_getElem? (i := 1803) (by decide +kernel), List.mem_of_getElem? (i := 1804) (by decide +kernel)⟩
theorem lw_p115 : lw_okq (⟨"BoughtKinModel", "triesPair", "(II)I"⟩, 54) := ⟨⟨by decide +kernel, by decide +kernel⟩, List.mem_of_getElem? (i := 1236) (by decide +kernel), List.mem_of_getElem? (i := 1807) (by decide +kernel), List.mem_of_getElem? (i := 1808) (by decide +kernel)⟩
theorem lw_p116 : lw_okq (⟨"BoughtKinModel", "takesBack", "(I)V"⟩, 54) := ⟨⟨by decide +kernel, by decide +kernel⟩, List.mem_of_getElem? (i := 1236) (by decide +kernel), List.mem_of_getElem? (i := 1811) (by decide +kernel), List.mem_of_getElem? (i := 1812) (by decide +kernel)⟩
theorem lw_p117 : lw_okq (⟨"BoughtKinModel", "areKin", "(II)Z"⟩, 54) := ⟨⟨by decide +kernel, by decide +kernel⟩, List.mem_of_getElem? (i := 1236) (by decide +kernel), List.mem_of_getElem? (i := 1819) (by decide +kernel), List.mem_of_getElem? (i := 1820) (by decide +kernel)⟩
theorem lw_p118 : lw_okq (⟨"BoughtKinModel", "joins", "(III)V"⟩, 54) := ⟨⟨by decide +kernel, by decide +kernel⟩, List.mem_of_getElem? (i := 1236) (by decide +kernel), List.mem_of_getElem? (i := 1823) (by decide +kernel), List.mem_of_getElem? (i := 1824) (by decide +kernel)⟩
theorem lw_p119 : lw_okq (⟨"BoughtKinModel", "canHave", "(I)Z"⟩, 54) := ⟨⟨by decide +kernel, by decide +kernel⟩, List.mem_of_getElem? (i := 1236) (by decide +kernel), List.mem_of_getElem? (i := 1827) (by decide +kernel), List.mem_of_getElem? (i := 1828) (by decide +kernel)⟩
theorem lw_p120 : lw_okq (⟨"BoughtKinModel", "canBeTrue", "(I)Z"⟩, 54) := ⟨⟨by decide +kernel, by decide +kernel⟩, List.mem_of_getElem? (i := 1236) (by decide +kernel), List.mem_of_getElem? (i := 1846) (by decide +kernel), List.mem_of_getElem? (i := 1847) (by decide +kernel)⟩
theorem lw_p121 : lw_okq (⟨"BoughtKinModel", "areSo", "()Z"⟩, 54) := ⟨⟨by decide +kernel, by decide +kernel⟩, List.mem_of_getElem? (i := 1236) (by decide +kernel), List.mem_of_getElem? (i := 1862) (by decide +kernel), List.mem_of_getElem? (i := 1863) (by decide +kernel)⟩
theorem lw_p122 : lw_okq (⟨"BoughtKinModel", "runs", "(I)Z"⟩, 54) := ⟨⟨by decide +kernel, by decide +kernel⟩, List.mem_of_getElem? (i := 1236) (by decide +kernel), List.mem_of_getElem? (i := 1874) (by decide +kernel), List.mem_of_getElem? (i := 1875) (by decide +kernel)⟩
theorem lw_p123 : lw_okq (⟨"BoughtKinModel", "goesAlong", "(IZ)V"⟩, 54) := ⟨⟨by decide +kernel, by decide +kernel⟩, List.mem_of_getElem? (i := 1236) (by decide +kernel), List.mem_of_getElem? (i := 1878) (by decide +kernel), List.mem_of_getElem? (i := 1879) (by decide +kernel)⟩
theorem lw_p124 : lw_okq (⟨"BoughtKinModel", "obeys", "()Z"⟩, 54) := ⟨⟨by decide +kernel, by decide +kernel⟩, List.mem_of_getElem? (i := 1236) (by decide +kernel), List.mem_of_getElem? (i := 1882) (by decide +kernel), List.mem_of_getElem? (i := 1883) (by decide +kernel)⟩
theorem lw_p125 : lw_okq (⟨"BoughtKinModel", "draws", "(I)I"⟩, 54) := ⟨⟨by decide +kernel, by decide +kernel⟩, List.mem_of_getElem? (i := 1236) (by decide +kernel), List.mem_of_getElem? (i := 1894) (by decide +kernel), List.mem_of_getElem? (i := 1895) (by decide +kernel)⟩
def lw_privs_8 : List (MethodName × Nat) := [(⟨"BoughtKinModel", "isCheaper", "(IIII)V"⟩, 54), (⟨"BoughtKinModel", "laysAside", "(I)V"⟩, 54), (⟨"BoughtKinModel", "canPair", "(II)Z"⟩, 54), (⟨"BoughtKinModel", "triesPair", "(II)I"⟩, 54), (⟨"BoughtKinModel", "takesBack", "(I)V"⟩, 54), (⟨"BoughtKinModel", "areKin", "(II)Z"⟩, 54), (⟨"BoughtKinModel", "joins", "(III)V"⟩, 54), (⟨"BoughtKinModel", "canHave", "(I)Z"⟩, 54), (⟨"BoughtKinModel", "canBeTrue", "(I)Z"⟩, 54), (⟨"BoughtKinModel", "areSo", "()Z"⟩, 54), (⟨"BoughtKinModel", "runs", "(I)Z"⟩, 54), (⟨"BoughtKinModel", "goesAlong", "(IZ)V"⟩, 54), (⟨"BoughtKinModel", "obeys", "()Z"⟩, 54), (⟨"BoughtKinModel", "draws", "(I)I"⟩, 54)]
theorem lw_r8 : ∀ q ∈ lw_privs_8, lw_okq q := List.forall_mem_cons.mpr ⟨lw_p112, List.forall_mem_cons.mpr ⟨lw_p113, List.forall_mem_cons.mpr ⟨lw_p114, List.forall_mem_cons.mpr ⟨lw_p115, List.forall_mem_cons.mpr ⟨lw_p116, List.forall_mem_cons.mpr ⟨lw_p117, List.forall_mem_cons.mpr ⟨lw_p118, List.forall_mem_cons.mpr ⟨lw_p119, List.forall_mem_cons.mpr ⟨lw_p120, List.forall_mem_cons.mpr ⟨lw_p121, List.forall_mem_cons.mpr ⟨lw_p122, List.forall_mem_cons.mpr ⟨lw_p123, List.forall_mem_cons.mpr ⟨lw_p124, List.forall_mem_cons.mpr ⟨lw_p125, fun _ h => absurd h List.not_mem_nil⟩⟩⟩⟩⟩⟩⟩⟩⟩⟩⟩⟩⟩⟩
def lw_privs : List (MethodName × Nat) := lw_privs_1 ++ (lw_privs_2 ++ (lw_privs_3 ++ (lw_privs_4 ++ (lw_privs_5 ++ (lw_privs_6 ++ (lw_privs_7 ++ (lw_privs_8)))))))
def lw_tbl : List Cond := k2_sels lw_privs ++ tables_1
theorem lw_privs_ok : ∀ q ∈ lw_privs, lw_okq q := by
  show ∀ q ∈ lw_privs_1 ++ (lw_privs_2 ++ (lw_privs_3 ++ (lw_privs_4 ++ (lw_privs_5 ++ (lw_privs_6 ++ (lw_privs_7 ++ (lw_privs_8))))))), lw_okq q
  exact List.forall_mem_append.mpr ⟨lw_r1, List.forall_mem_append.mpr ⟨lw_r2, List.forall_mem_append.mpr ⟨lw_r3, List.forall_mem_append.mpr ⟨lw_r4, List.forall_mem_append.mpr ⟨lw_r5, List.forall_mem_append.mpr ⟨lw_r6, List.forall_mem_append.mpr ⟨lw_r7, lw_r8⟩⟩⟩⟩⟩⟩⟩
end
section
def RX0 : String := "BoughtKin$Clerk"
def TX0 : u_T := fun k => match k with
  | 0 => ("BoughtKin$Clerk", "country", "LBoughtKin$Country;", true)
  | 1 => ("BoughtKin$Clerk", "court", "LBoughtKin$Court;", true)
  | 2 => ("BoughtKin$Clerk", "kinship", "LBoughtKin$Kinship;", true)
  | 3 => ("BoughtKin$Clerk", "reckoner", "LBoughtKin$Reckoner;", true)
  | 4 => ("BoughtKin$Clerk", "ledger", "LBoughtKin$Ledger;", true)
  | 5 => ("BoughtKin$Clerk", "ahead", "LBoughtKin$Country;", true)
  | 6 => ("BoughtKin$Clerk", "words", "[I", true)
  | 7 => ("BoughtKin$Clerk", "three", "[I", true)
  | 8 => ("BoughtKin$Clerk", "done", "I", false)
  | _ => ("BoughtKin$Clerk", "last", "I", false)
def tyX0 : Nat → FieldType := fun k => match k with
  | 0 => .object "BoughtKin$Country"
  | 1 => .object "BoughtKin$Court"
  | 2 => .object "BoughtKin$Kinship"
  | 3 => .object "BoughtKin$Reckoner"
  | 4 => .object "BoughtKin$Ledger"
  | 5 => .object "BoughtKin$Country"
  | 6 => .array .int
  | 7 => .array .int
  | 8 => .int
  | _ => .int
abbrev wsX00 : List Cond := u_ws RX0 TX0 10
theorem nmX0 : ∀ a, a < 10 → ∀ b, b < 10 → a ≠ b → (TX0 a).2.1 ≠ (TX0 b).2.1 := by decide +kernel
theorem tyX0_ok : ∀ k, k < 10 → parseFieldDescriptor (TX0 k).2.2.1 = some (tyX0 k) := by decide +kernel
abbrev cX0_init : ByteArray := prog_2_method_1_code
def yX0_init : MethodName := ⟨RX0, "<init>", "(LBoughtKin$Country;LBoughtKin$Court;LBoughtKin$Kinship;LBoughtKin$Reckoner;LBoughtKin$Ledger;)V"⟩
abbrev cX0_obey : ByteArray := prog_2_method_2_code
def yX0_obey : MethodName := ⟨RX0, "obey", "(LBoughtKin$Script;)I"⟩
abbrev cX0_obeyed : ByteArray := prog_2_method_3_code
def yX0_obeyed : MethodName := ⟨RX0, "obeyed", "(LBoughtKin$Script;I)Z"⟩
abbrev cX0_areThreePeople : ByteArray := prog_2_method_4_code
def yX0_areThreePeople : MethodName := ⟨RX0, "areThreePeople", "(LBoughtKin$Script;I)Z"⟩
abbrev cX0_reckoned : ByteArray := prog_2_method_5_code
def yX0_reckoned : MethodName := ⟨RX0, "reckoned", "(LBoughtKin$Script;I)Z"⟩
abbrev cX0_valueOf : ByteArray := prog_2_method_6_code
def yX0_valueOf : MethodName := ⟨RX0, "valueOf", "(I)I"⟩
def RX1 : String := "BoughtKin$Country"
def TX1 : u_T := fun k => match k with
  | 0 => ("BoughtKin$Country", "people", "LBoughtKin$People;", true)
  | 1 => ("BoughtKin$Country", "terms", "[I", true)
  | 2 => ("BoughtKin$Country", "laws", "[LBoughtKin$Script;", true)
  | 3 => ("BoughtKin$Country", "lawCount", "I", false)
  | 4 => ("BoughtKin$Country", "inForce", "I", false)
  | 5 => ("BoughtKin$Country", "claimParent", "[I", true)
  | 6 => ("BoughtKin$Country", "claimChild", "[I", true)
  | 7 => ("BoughtKin$Country", "claims", "I", false)
  | 8 => ("BoughtKin$Country", "sightOne", "[I", true)
  | 9 => ("BoughtKin$Country", "sightOther", "[I", true)
  | 10 => ("BoughtKin$Country", "sightFar", "[I", true)
  | _ => ("BoughtKin$Country", "sights", "I", false)
def tyX1 : Nat → FieldType := fun k => match k with
  | 0 => .object "BoughtKin$People"
  | 1 => .array .int
  | 2 => .array (.object "BoughtKin$Script")
  | 3 => .int
  | 4 => .int
  | 5 => .array .int
  | 6 => .array .int
  | 7 => .int
  | 8 => .array .int
  | 9 => .array .int
  | 10 => .array .int
  | _ => .int
abbrev wsX10 : List Cond := u_ws RX1 TX1 12
theorem nmX1 : ∀ a, a < 12 → ∀ b, b < 12 → a ≠ b → (TX1 a).2.1 ≠ (TX1 b).2.1 := by decide +kernel
theorem tyX1_ok : ∀ k, k < 12 → parseFieldDescriptor (TX1 k).2.2.1 = some (tyX1 k) := by decide +kernel
abbrev cX1_init : ByteArray := prog_3_method_1_code
def yX1_init : MethodName := ⟨RX1, "<init>", "()V"⟩
abbrev cX1_copyFrom : ByteArray := prog_3_method_2_code
def yX1_copyFrom : MethodName := ⟨RX1, "copyFrom", "(LBoughtKin$Country;)V"⟩
abbrev cX1_termCanBe : ByteArray := prog_3_method_3_code
def yX1_termCanBe : MethodName := ⟨RX1, "termCanBe", "(II)Z"⟩
abbrev cX1_lawInForce : ByteArray := prog_3_method_4_code
def yX1_lawInForce : MethodName := ⟨RX1, "lawInForce", "()LBoughtKin$Script;"⟩
def RX2 : String := "BoughtKin$Court"
def TX2 : u_T := fun k => match k with
  | 0 => ("BoughtKin$Court", "country", "LBoughtKin$Country;", true)
  | 1 => ("BoughtKin$Court", "reckoner", "LBoughtKin$Reckoner;", true)
  | _ => ("BoughtKin$Court", "words", "[I", true)
def tyX2 : Nat → FieldType := fun k => match k with
  | 0 => .object "BoughtKin$Country"
  | 1 => .object "BoughtKin$Reckoner"
  | _ => .array .int
abbrev wsX20 : List Cond := u_ws RX2 TX2 3
theorem nmX2 : ∀ a, a < 3 → ∀ b, b < 3 → a ≠ b → (TX2 a).2.1 ≠ (TX2 b).2.1 := by decide +kernel
theorem tyX2_ok : ∀ k, k < 3 → parseFieldDescriptor (TX2 k).2.2.1 = some (tyX2 k) := by decide +kernel
abbrev cX2_init : ByteArray := prog_4_method_1_code
def yX2_init : MethodName := ⟨RX2, "<init>", "(LBoughtKin$Country;LBoughtKin$Reckoner;)V"⟩
abbrev cX2_setWords : ByteArray := prog_4_method_2_code
def yX2_setWords : MethodName := ⟨RX2, "setWords", "(II)V"⟩
abbrev cX2_anyHolds : ByteArray := prog_4_method_3_code
def yX2_anyHolds : MethodName := ⟨RX2, "anyHolds", "(I)Z"⟩
abbrev cX2_price : ByteArray := prog_4_method_4_code
def yX2_price : MethodName := ⟨RX2, "price", "(II)I"⟩
abbrev cX2_priceWithoutLaw : ByteArray := prog_4_method_5_code
def yX2_priceWithoutLaw : MethodName := ⟨RX2, "priceWithoutLaw", "(I)I"⟩
abbrev cX2_isBarred : ByteArray := prog_4_method_6_code
def yX2_isBarred : MethodName := ⟨RX2, "isBarred", "(II)Z"⟩
abbrev cX2_rank : ByteArray := prog_4_method_7_code
def yX2_rank : MethodName := ⟨RX2, "rank", "(I)I"⟩
abbrev cX2_ranked : ByteArray := prog_4_method_8_code
def yX2_ranked : MethodName := ⟨RX2, "ranked", "()I"⟩
abbrev cX2_offer : ByteArray := prog_4_method_9_code
def yX2_offer : MethodName := ⟨RX2, "offer", "(LBoughtKin$People;III)I"⟩
def RX3 : String := "BoughtKin$Kinship"
def TX3 : u_T := fun k => match k with
  | 0 => ("BoughtKin$Kinship", "stepsOne", "[I", true)
  | 1 => ("BoughtKin$Kinship", "stepsOther", "[I", true)
  | 2 => ("BoughtKin$Kinship", "queue", "[I", true)
  | _ => ("BoughtKin$Kinship", "common", "I", false)
def tyX3 : Nat → FieldType := fun k => match k with
  | 0 => .array .int
  | 1 => .array .int
  | 2 => .array .int
  | _ => .int
abbrev wsX30 : List Cond := u_ws RX3 TX3 4
theorem nmX3 : ∀ a, a < 4 → ∀ b, b < 4 → a ≠ b → (TX3 a).2.1 ≠ (TX3 b).2.1 := by decide +kernel
theorem tyX3_ok : ∀ k, k < 4 → parseFieldDescriptor (TX3 k).2.2.1 = some (tyX3 k) := by decide +kernel
abbrev cX3_init : ByteArray := prog_5_method_1_code
def yX3_init : MethodName := ⟨RX3, "<init>", "()V"⟩
abbrev cX3_climb : ByteArray := prog_5_method_2_code
def yX3_climb : MethodName := ⟨RX3, "climb", "(LBoughtKin$People;I[I)V"⟩
abbrev cX3_apart : ByteArray := prog_5_method_3_code
def yX3_apart : MethodName := ⟨RX3, "apart", "(LBoughtKin$People;II)I"⟩
abbrev cX3_nearestCommon : ByteArray := prog_5_method_4_code
def yX3_nearestCommon : MethodName := ⟨RX3, "nearestCommon", "(LBoughtKin$People;II)I"⟩
abbrev cX3_stepsUp : ByteArray := prog_5_method_5_code
def yX3_stepsUp : MethodName := ⟨RX3, "stepsUp", "(LBoughtKin$People;II)I"⟩
abbrev cX3_mayMarry : ByteArray := prog_5_method_6_code
def yX3_mayMarry : MethodName := ⟨RX3, "mayMarry", "(LBoughtKin$People;II[I)Z"⟩
abbrev cX3_heir : ByteArray := prog_5_method_7_code
def yX3_heir : MethodName := ⟨RX3, "heir", "(LBoughtKin$People;II)I"⟩
def RX4 : String := "BoughtKin$Ledger"
def TX4 : u_T := fun k => match k with
  | 0 => ("BoughtKin$Ledger", "parents", "[I", true)
  | 1 => ("BoughtKin$Ledger", "children", "[I", true)
  | 2 => ("BoughtKin$Ledger", "payers", "[I", true)
  | 3 => ("BoughtKin$Ledger", "prices", "[I", true)
  | _ => ("BoughtKin$Ledger", "size", "I", false)
def tyX4 : Nat → FieldType := fun k => match k with
  | 0 => .array .int
  | 1 => .array .int
  | 2 => .array .int
  | 3 => .array .int
  | _ => .int
abbrev wsX40 : List Cond := u_ws RX4 TX4 5
theorem nmX4 : ∀ a, a < 5 → ∀ b, b < 5 → a ≠ b → (TX4 a).2.1 ≠ (TX4 b).2.1 := by decide +kernel
theorem tyX4_ok : ∀ k, k < 5 → parseFieldDescriptor (TX4 k).2.2.1 = some (tyX4 k) := by decide +kernel
abbrev cX4_init : ByteArray := prog_6_method_1_code
def yX4_init : MethodName := ⟨RX4, "<init>", "()V"⟩
abbrev cX4_clear : ByteArray := prog_6_method_2_code
def yX4_clear : MethodName := ⟨RX4, "clear", "()V"⟩
abbrev cX4_write : ByteArray := prog_6_method_3_code
def yX4_write : MethodName := ⟨RX4, "write", "(IIII)V"⟩
abbrev cX4_undoLatest : ByteArray := prog_6_method_4_code
def yX4_undoLatest : MethodName := ⟨RX4, "undoLatest", "(LBoughtKin$People;)I"⟩
def RX5 : String := "BoughtKin$People"
def TX5 : u_T := fun k => match k with
  | 0 => ("BoughtKin$People", "size", "I", false)
  | 1 => ("BoughtKin$People", "sold", "I", false)
  | 2 => ("BoughtKin$People", "sex", "[I", true)
  | 3 => ("BoughtKin$People", "born", "[I", true)
  | 4 => ("BoughtKin$People", "lived", "[I", true)
  | 5 => ("BoughtKin$People", "noble", "[I", true)
  | 6 => ("BoughtKin$People", "debt", "[I", true)
  | 7 => ("BoughtKin$People", "house", "[I", true)
  | 8 => ("BoughtKin$People", "purse", "[I", true)
  | 9 => ("BoughtKin$People", "father", "[I", true)
  | 10 => ("BoughtKin$People", "mother", "[I", true)
  | 11 => ("BoughtKin$People", "line", "[I", true)
  | _ => ("BoughtKin$People", "chests", "[I", true)
def tyX5 : Nat → FieldType := fun k => match k with
  | 0 => .int
  | 1 => .int
  | 2 => .array .int
  | 3 => .array .int
  | 4 => .array .int
  | 5 => .array .int
  | 6 => .array .int
  | 7 => .array .int
  | 8 => .array .int
  | 9 => .array .int
  | 10 => .array .int
  | 11 => .array .int
  | _ => .array .int
abbrev wsX50 : List Cond := u_ws RX5 TX5 13
theorem nmX5 : ∀ a, a < 13 → ∀ b, b < 13 → a ≠ b → (TX5 a).2.1 ≠ (TX5 b).2.1 := by decide +kernel
theorem tyX5_ok : ∀ k, k < 13 → parseFieldDescriptor (TX5 k).2.2.1 = some (tyX5 k) := by decide +kernel
abbrev cX5_init : ByteArray := prog_7_method_1_code
def yX5_init : MethodName := ⟨RX5, "<init>", "()V"⟩
abbrev cX5_canBe : ByteArray := prog_7_method_2_code
def yX5_canBe : MethodName := ⟨RX5, "canBe", "(IIII)Z"⟩
abbrev cX5_copyFrom : ByteArray := prog_7_method_3_code
def yX5_copyFrom : MethodName := ⟨RX5, "copyFrom", "(LBoughtKin$People;)V"⟩
abbrev cX5_copyTiesFrom : ByteArray := prog_7_method_4_code
def yX5_copyTiesFrom : MethodName := ⟨RX5, "copyTiesFrom", "(LBoughtKin$People;)V"⟩
abbrev cX5_has : ByteArray := prog_7_method_5_code
def yX5_has : MethodName := ⟨RX5, "has", "(I)Z"⟩
abbrev cX5_settle : ByteArray := prog_7_method_6_code
def yX5_settle : MethodName := ⟨RX5, "settle", "(IIII)I"⟩
abbrev cX5_isSold : ByteArray := prog_7_method_7_code
def yX5_isSold : MethodName := ⟨RX5, "isSold", "(I)Z"⟩
abbrev cX5_isInLine : ByteArray := prog_7_method_8_code
def yX5_isInLine : MethodName := ⟨RX5, "isInLine", "(II)Z"⟩
abbrev cX5_isSelfOrInLine : ByteArray := prog_7_method_9_code
def yX5_isSelfOrInLine : MethodName := ⟨RX5, "isSelfOrInLine", "(II)Z"⟩
abbrev cX5_withLine : ByteArray := prog_7_method_10_code
def yX5_withLine : MethodName := ⟨RX5, "withLine", "(I)I"⟩
abbrev cX5_livesIn : ByteArray := prog_7_method_11_code
def yX5_livesIn : MethodName := ⟨RX5, "livesIn", "(II)Z"⟩
abbrev cX5_datesFit : ByteArray := prog_7_method_12_code
def yX5_datesFit : MethodName := ⟨RX5, "datesFit", "(III)Z"⟩
abbrev cX5_parentOf : ByteArray := prog_7_method_13_code
def yX5_parentOf : MethodName := ⟨RX5, "parentOf", "(II)I"⟩
abbrev cX5_hasPlaceFor : ByteArray := prog_7_method_14_code
def yX5_hasPlaceFor : MethodName := ⟨RX5, "hasPlaceFor", "(II)Z"⟩
abbrev cX5_couldBeBought : ByteArray := prog_7_method_15_code
def yX5_couldBeBought : MethodName := ⟨RX5, "couldBeBought", "(III)Z"⟩
abbrev cX5_setParent : ByteArray := prog_7_method_16_code
def yX5_setParent : MethodName := ⟨RX5, "setParent", "(III)V"⟩
abbrev cX5_tie : ByteArray := prog_7_method_17_code
def yX5_tie : MethodName := ⟨RX5, "tie", "(II)V"⟩
abbrev cX5_sell : ByteArray := prog_7_method_18_code
def yX5_sell : MethodName := ⟨RX5, "sell", "(II)V"⟩
abbrev cX5_unsell : ByteArray := prog_7_method_19_code
def yX5_unsell : MethodName := ⟨RX5, "unsell", "(II)V"⟩
abbrev cX5_trade : ByteArray := prog_7_method_20_code
def yX5_trade : MethodName := ⟨RX5, "trade", "(IIII)V"⟩
abbrev cX5_reckonLines : ByteArray := prog_7_method_21_code
def yX5_reckonLines : MethodName := ⟨RX5, "reckonLines", "()V"⟩
abbrev cX5_descendants : ByteArray := prog_7_method_22_code
def yX5_descendants : MethodName := ⟨RX5, "descendants", "(I)I"⟩
abbrev cX5_debtsOf : ByteArray := prog_7_method_23_code
def yX5_debtsOf : MethodName := ⟨RX5, "debtsOf", "(I)I"⟩
abbrev cX5_quarters : ByteArray := prog_7_method_24_code
def yX5_quarters : MethodName := ⟨RX5, "quarters", "(II)I"⟩
abbrev cX5_rankedParents : ByteArray := prog_7_method_25_code
def yX5_rankedParents : MethodName := ⟨RX5, "rankedParents", "(II)I"⟩
abbrev cX5_isGrand : ByteArray := prog_7_method_26_code
def yX5_isGrand : MethodName := ⟨RX5, "isGrand", "(II)Z"⟩
abbrev cX5_forgedChildren : ByteArray := prog_7_method_27_code
def yX5_forgedChildren : MethodName := ⟨RX5, "forgedChildren", "(I)I"⟩
def RX6 : String := "BoughtKin$Reader"
def TX6 : u_T := fun k => match k with
  | 0 => ("BoughtKin$Reader", "tape", "LBoughtKin$Tape;", true)
  | 1 => ("BoughtKin$Reader", "script", "LBoughtKin$Script;", true)
  | 2 => ("BoughtKin$Reader", "fault", "I", false)
  | 3 => ("BoughtKin$Reader", "ofOrders", "Z", false)
  | 4 => ("BoughtKin$Reader", "parts", "I", false)
  | _ => ("BoughtKin$Reader", "brackets", "I", false)
def tyX6 : Nat → FieldType := fun k => match k with
  | 0 => .object "BoughtKin$Tape"
  | 1 => .object "BoughtKin$Script"
  | 2 => .int
  | 3 => .boolean
  | 4 => .int
  | _ => .int
abbrev wsX60 : List Cond := u_ws RX6 TX6 6
theorem nmX6 : ∀ a, a < 6 → ∀ b, b < 6 → a ≠ b → (TX6 a).2.1 ≠ (TX6 b).2.1 := by decide +kernel
theorem tyX6_ok : ∀ k, k < 6 → parseFieldDescriptor (TX6 k).2.2.1 = some (tyX6 k) := by decide +kernel
abbrev cX6_init : ByteArray := prog_8_method_1_code
def yX6_init : MethodName := ⟨RX6, "<init>", "(LBoughtKin$Tape;)V"⟩
abbrev cX6_read : ByteArray := prog_8_method_2_code
def yX6_read : MethodName := ⟨RX6, "read", "(Z)Z"⟩
abbrev cX6_blame : ByteArray := prog_8_method_3_code
def yX6_blame : MethodName := ⟨RX6, "blame", "()V"⟩
abbrev cX6_sees : ByteArray := prog_8_method_4_code
def yX6_sees : MethodName := ⟨RX6, "sees", "(I)Z"⟩
abbrev cX6_took : ByteArray := prog_8_method_5_code
def yX6_took : MethodName := ⟨RX6, "took", "(I)Z"⟩
abbrev cX6_need : ByteArray := prog_8_method_6_code
def yX6_need : MethodName := ⟨RX6, "need", "(I)V"⟩
abbrev cX6_neededNumber : ByteArray := prog_8_method_7_code
def yX6_neededNumber : MethodName := ⟨RX6, "neededNumber", "(II)I"⟩
abbrev cX6_lawHead : ByteArray := prog_8_method_8_code
def yX6_lawHead : MethodName := ⟨RX6, "lawHead", "()V"⟩
abbrev cX6_orderHead : ByteArray := prog_8_method_9_code
def yX6_orderHead : MethodName := ⟨RX6, "orderHead", "()V"⟩
abbrev cX6_sumInto : ByteArray := prog_8_method_10_code
def yX6_sumInto : MethodName := ⟨RX6, "sumInto", "(I)V"⟩
abbrev cX6_test : ByteArray := prog_8_method_11_code
def yX6_test : MethodName := ⟨RX6, "test", "()V"⟩
abbrev cX6_both : ByteArray := prog_8_method_12_code
def yX6_both : MethodName := ⟨RX6, "both", "()V"⟩
abbrev cX6_plain : ByteArray := prog_8_method_13_code
def yX6_plain : MethodName := ⟨RX6, "plain", "()V"⟩
abbrev cX6_tookComparison : ByteArray := prog_8_method_14_code
def yX6_tookComparison : MethodName := ⟨RX6, "tookComparison", "()I"⟩
abbrev cX6_sum : ByteArray := prog_8_method_15_code
def yX6_sum : MethodName := ⟨RX6, "sum", "()V"⟩
abbrev cX6_term : ByteArray := prog_8_method_16_code
def yX6_term : MethodName := ⟨RX6, "term", "()V"⟩
abbrev cX6_part : ByteArray := prog_8_method_17_code
def yX6_part : MethodName := ⟨RX6, "part", "()V"⟩
abbrev cX6_entered : ByteArray := prog_8_method_18_code
def yX6_entered : MethodName := ⟨RX6, "entered", "(I)Z"⟩
abbrev cX6_lawWord : ByteArray := prog_8_method_19_code
def yX6_lawWord : MethodName := ⟨RX6, "lawWord", "()I"⟩
abbrev cX6_orderWord : ByteArray := prog_8_method_20_code
def yX6_orderWord : MethodName := ⟨RX6, "orderWord", "()I"⟩
def RX7 : String := "BoughtKin$Reckoner"
def TX7 : u_T := fun k => match k with
  | 0 => ("BoughtKin$Reckoner", "stack", "[J", true)
  | _ => ("BoughtKin$Reckoner", "result", "I", false)
def tyX7 : Nat → FieldType := fun k => match k with
  | 0 => .array .long
  | _ => .int
abbrev wsX70 : List Cond := u_ws RX7 TX7 2
theorem nmX7 : ∀ a, a < 2 → ∀ b, b < 2 → a ≠ b → (TX7 a).2.1 ≠ (TX7 b).2.1 := by decide +kernel
theorem tyX7_ok : ∀ k, k < 2 → parseFieldDescriptor (TX7 k).2.2.1 = some (tyX7 k) := by decide +kernel
abbrev cX7_init : ByteArray := prog_9_method_1_code
def yX7_init : MethodName := ⟨RX7, "<init>", "()V"⟩
abbrev cX7_reckon : ByteArray := prog_9_method_2_code
def yX7_reckon : MethodName := ⟨RX7, "reckon", "(LBoughtKin$Script;I[I)Z"⟩
abbrev cX7_combined : ByteArray := prog_9_method_3_code
def yX7_combined : MethodName := ⟨RX7, "combined", "(IJJ)J"⟩
def RX8 : String := "BoughtKin$Script"
def TX8 : u_T := fun k => match k with
  | 0 => ("BoughtKin$Script", "clauses", "I", false)
  | 1 => ("BoughtKin$Script", "length", "I", false)
  | 2 => ("BoughtKin$Script", "kind", "[I", true)
  | 3 => ("BoughtKin$Script", "times", "[I", true)
  | 4 => ("BoughtKin$Script", "from", "[I", true)
  | 5 => ("BoughtKin$Script", "till", "[I", true)
  | 6 => ("BoughtKin$Script", "operation", "[I", true)
  | _ => ("BoughtKin$Script", "operand", "[I", true)
def tyX8 : Nat → FieldType := fun k => match k with
  | 0 => .int
  | 1 => .int
  | 2 => .array .int
  | 3 => .array .int
  | 4 => .array .int
  | 5 => .array .int
  | 6 => .array .int
  | _ => .array .int
abbrev wsX80 : List Cond := u_ws RX8 TX8 8
theorem nmX8 : ∀ a, a < 8 → ∀ b, b < 8 → a ≠ b → (TX8 a).2.1 ≠ (TX8 b).2.1 := by decide +kernel
theorem tyX8_ok : ∀ k, k < 8 → parseFieldDescriptor (TX8 k).2.2.1 = some (tyX8 k) := by decide +kernel
abbrev cX8_init : ByteArray := prog_10_method_1_code
def yX8_init : MethodName := ⟨RX8, "<init>", "(II)V"⟩
abbrev cX8_trimmed : ByteArray := prog_10_method_2_code
def yX8_trimmed : MethodName := ⟨RX8, "trimmed", "()LBoughtKin$Script;"⟩
abbrev cX8_clear : ByteArray := prog_10_method_3_code
def yX8_clear : MethodName := ⟨RX8, "clear", "()V"⟩
abbrev cX8_begin : ByteArray := prog_10_method_4_code
def yX8_begin : MethodName := ⟨RX8, "begin", "(I)V"⟩
abbrev cX8_add : ByteArray := prog_10_method_5_code
def yX8_add : MethodName := ⟨RX8, "add", "(II)I"⟩
abbrev cX8_landHere : ByteArray := prog_10_method_6_code
def yX8_landHere : MethodName := ⟨RX8, "landHere", "(I)V"⟩
abbrev cX8_openSegment : ByteArray := prog_10_method_7_code
def yX8_openSegment : MethodName := ⟨RX8, "openSegment", "(I)V"⟩
abbrev cX8_closeSegment : ByteArray := prog_10_method_8_code
def yX8_closeSegment : MethodName := ⟨RX8, "closeSegment", "(I)V"⟩
abbrev cX8_setTimes : ByteArray := prog_10_method_9_code
def yX8_setTimes : MethodName := ⟨RX8, "setTimes", "(I)V"⟩
abbrev cX8_lacks : ByteArray := prog_10_method_10_code
def yX8_lacks : MethodName := ⟨RX8, "lacks", "(II)Z"⟩
def RX9 : String := "BoughtKin$Search"
def TX9 : u_T := fun k => match k with
  | 0 => ("BoughtKin$Search", "country", "LBoughtKin$Country;", true)
  | 1 => ("BoughtKin$Search", "court", "LBoughtKin$Court;", true)
  | 2 => ("BoughtKin$Search", "kinship", "LBoughtKin$Kinship;", true)
  | 3 => ("BoughtKin$Search", "paper", "LBoughtKin$People;", true)
  | 4 => ("BoughtKin$Search", "pairs", "[I", true)
  | 5 => ("BoughtKin$Search", "prices", "[I", true)
  | 6 => ("BoughtKin$Search", "many", "I", false)
  | 7 => ("BoughtKin$Search", "linesBeforeFirst", "[I", true)
  | 8 => ("BoughtKin$Search", "linesBeforeSecond", "[I", true)
  | 9 => ("BoughtKin$Search", "ranked", "I", false)
  | 10 => ("BoughtKin$Search", "leastPrice", "I", false)
  | 11 => ("BoughtKin$Search", "leastCount", "I", false)
  | 12 => ("BoughtKin$Search", "firstCode", "I", false)
  | 13 => ("BoughtKin$Search", "secondCode", "I", false)
  | 14 => ("BoughtKin$Search", "rows", "I", false)
  | 15 => ("BoughtKin$Search", "secretCodes", "[I", true)
  | 16 => ("BoughtKin$Search", "fairPaper", "LBoughtKin$People;", true)
  | _ => ("BoughtKin$Search", "seed", "I", false)
def tyX9 : Nat → FieldType := fun k => match k with
  | 0 => .object "BoughtKin$Country"
  | 1 => .object "BoughtKin$Court"
  | 2 => .object "BoughtKin$Kinship"
  | 3 => .object "BoughtKin$People"
  | 4 => .array .int
  | 5 => .array .int
  | 6 => .int
  | 7 => .array .int
  | 8 => .array .int
  | 9 => .int
  | 10 => .int
  | 11 => .int
  | 12 => .int
  | 13 => .int
  | 14 => .int
  | 15 => .array .int
  | 16 => .object "BoughtKin$People"
  | _ => .int
abbrev wsX90 : List Cond := u_ws RX9 TX9 18
theorem nmX9 : ∀ a, a < 18 → ∀ b, b < 18 → a ≠ b → (TX9 a).2.1 ≠ (TX9 b).2.1 := by decide +kernel
theorem tyX9_ok : ∀ k, k < 18 → parseFieldDescriptor (TX9 k).2.2.1 = some (tyX9 k) := by decide +kernel
abbrev cX9_init : ByteArray := prog_11_method_1_code
def yX9_init : MethodName := ⟨RX9, "<init>", "(LBoughtKin$Country;LBoughtKin$Court;LBoughtKin$Kinship;)V"⟩
abbrev cX9_gatherPairs : ByteArray := prog_11_method_2_code
def yX9_gatherPairs : MethodName := ⟨RX9, "gatherPairs", "()V"⟩
abbrev cX9_couldBeBought : ByteArray := prog_11_method_3_code
def yX9_couldBeBought : MethodName := ⟨RX9, "couldBeBought", "(I)Z"⟩
abbrev cX9_tryOut : ByteArray := prog_11_method_4_code
def yX9_tryOut : MethodName := ⟨RX9, "tryOut", "(I[I)V"⟩
abbrev cX9_takeBack : ByteArray := prog_11_method_5_code
def yX9_takeBack : MethodName := ⟨RX9, "takeBack", "(I[I)V"⟩
abbrev cX9_keepAffordable : ByteArray := prog_11_method_6_code
def yX9_keepAffordable : MethodName := ⟨RX9, "keepAffordable", "(I)V"⟩
abbrev cX9_findCheap : ByteArray := prog_11_method_7_code
def yX9_findCheap : MethodName := ⟨RX9, "findCheap", "(II)Z"⟩
abbrev cX9_findCheapSecond : ByteArray := prog_11_method_8_code
def yX9_findCheapSecond : MethodName := ⟨RX9, "findCheapSecond", "(III)V"⟩
abbrev cX9_isThere : ByteArray := prog_11_method_9_code
def yX9_isThere : MethodName := ⟨RX9, "isThere", "(II)Z"⟩
abbrev cX9_isLess : ByteArray := prog_11_method_10_code
def yX9_isLess : MethodName := ⟨RX9, "isLess", "(II)Z"⟩
abbrev cX9_note : ByteArray := prog_11_method_11_code
def yX9_note : MethodName := ⟨RX9, "note", "(IIIIZ)V"⟩
abbrev cX9_findJoin : ByteArray := prog_11_method_12_code
def yX9_findJoin : MethodName := ⟨RX9, "findJoin", "(II)I"⟩
abbrev cX9_joiningPairs : ByteArray := prog_11_method_13_code
def yX9_joiningPairs : MethodName := ⟨RX9, "joiningPairs", "(II)I"⟩
abbrev cX9_findLies : ByteArray := prog_11_method_14_code
def yX9_findLies : MethodName := ⟨RX9, "findLies", "()I"⟩
abbrev cX9_canAllBe : ByteArray := prog_11_method_15_code
def yX9_canAllBe : MethodName := ⟨RX9, "canAllBe", "(I)Z"⟩
abbrev cX9_findSecrets : ByteArray := prog_11_method_16_code
def yX9_findSecrets : MethodName := ⟨RX9, "findSecrets", "()I"⟩
abbrev cX9_areAllSightsSo : ByteArray := prog_11_method_17_code
def yX9_areAllSightsSo : MethodName := ⟨RX9, "areAllSightsSo", "()Z"⟩
abbrev cX9_holdFair : ByteArray := prog_11_method_18_code
def yX9_holdFair : MethodName := ⟨RX9, "holdFair", "(II)I"⟩
abbrev cX9_drawPerson : ByteArray := prog_11_method_19_code
def yX9_drawPerson : MethodName := ⟨RX9, "drawPerson", "()I"⟩
def RX10 : String := "BoughtKin$Tape"
def TX10 : u_T := fun k => match k with
  | 0 => ("BoughtKin$Tape", "bytes", "[I", true)
  | 1 => ("BoughtKin$Tape", "size", "I", false)
  | 2 => ("BoughtKin$Tape", "places", "[I", true)
  | 3 => ("BoughtKin$Tape", "tokens", "[I", true)
  | 4 => ("BoughtKin$Tape", "many", "I", false)
  | 5 => ("BoughtKin$Tape", "current", "I", false)
  | 6 => ("BoughtKin$Tape", "token", "I", false)
  | _ => ("BoughtKin$Tape", "place", "I", false)
def tyX10 : Nat → FieldType := fun k => match k with
  | 0 => .array .int
  | 1 => .int
  | 2 => .array .int
  | 3 => .array .int
  | 4 => .int
  | 5 => .int
  | 6 => .int
  | _ => .int
abbrev wsX100 : List Cond := u_ws RX10 TX10 8
theorem nmX10 : ∀ a, a < 8 → ∀ b, b < 8 → a ≠ b → (TX10 a).2.1 ≠ (TX10 b).2.1 := by decide +kernel
theorem tyX10_ok : ∀ k, k < 8 → parseFieldDescriptor (TX10 k).2.2.1 = some (tyX10 k) := by decide +kernel
abbrev cX10_init : ByteArray := prog_12_method_1_code
def yX10_init : MethodName := ⟨RX10, "<init>", "()V"⟩
abbrev cX10_append : ByteArray := prog_12_method_2_code
def yX10_append : MethodName := ⟨RX10, "append", "(I)V"⟩
abbrev cX10_byteAt : ByteArray := prog_12_method_3_code
def yX10_byteAt : MethodName := ⟨RX10, "byteAt", "(I)I"⟩
abbrev cX10_split : ByteArray := prog_12_method_4_code
def yX10_split : MethodName := ⟨RX10, "split", "()V"⟩
abbrev cX10_isLetter : ByteArray := prog_12_method_5_code
def yX10_isLetter : MethodName := ⟨RX10, "isLetter", "(I)Z"⟩
abbrev cX10_isDigit : ByteArray := prog_12_method_6_code
def yX10_isDigit : MethodName := ⟨RX10, "isDigit", "(I)Z"⟩
abbrev cX10_behindRow : ByteArray := prog_12_method_7_code
def yX10_behindRow : MethodName := ⟨RX10, "behindRow", "(IZ)I"⟩
abbrev cX10_wordToken : ByteArray := prog_12_method_8_code
def yX10_wordToken : MethodName := ⟨RX10, "wordToken", "(Ljava/lang/String;II)I"⟩
abbrev cX10_numberToken : ByteArray := prog_12_method_9_code
def yX10_numberToken : MethodName := ⟨RX10, "numberToken", "(II)I"⟩
abbrev cX10_step : ByteArray := prog_12_method_10_code
def yX10_step : MethodName := ⟨RX10, "step", "()V"⟩
def RX11 : String := "BoughtKin"
def TX11 : u_T := fun k => match k with
  | 0 => ("BoughtKin", "country", "LBoughtKin$Country;", true)
  | 1 => ("BoughtKin", "images", "[LBoughtKin$Country;", true)
  | 2 => ("BoughtKin", "imageKept", "[Z", true)
  | 3 => ("BoughtKin", "tape", "LBoughtKin$Tape;", true)
  | 4 => ("BoughtKin", "reader", "LBoughtKin$Reader;", true)
  | 5 => ("BoughtKin", "kinship", "LBoughtKin$Kinship;", true)
  | 6 => ("BoughtKin", "ledger", "LBoughtKin$Ledger;", true)
  | 7 => ("BoughtKin", "court", "LBoughtKin$Court;", true)
  | 8 => ("BoughtKin", "clerk", "LBoughtKin$Clerk;", true)
  | 9 => ("BoughtKin", "search", "LBoughtKin$Search;", true)
  | 10 => ("BoughtKin", "refusals", "[I", true)
  | 11 => ("BoughtKin", "lastFault", "I", false)
  | 12 => ("BoughtKin", "lastStopped", "I", false)
  | 13 => ("BoughtKin", "lastMould", "I", false)
  | _ => ("BoughtKin", "lastStatus", "I", false)
def tyX11 : Nat → FieldType := fun k => match k with
  | 0 => .object "BoughtKin$Country"
  | 1 => .array (.object "BoughtKin$Country")
  | 2 => .array .boolean
  | 3 => .object "BoughtKin$Tape"
  | 4 => .object "BoughtKin$Reader"
  | 5 => .object "BoughtKin$Kinship"
  | 6 => .object "BoughtKin$Ledger"
  | 7 => .object "BoughtKin$Court"
  | 8 => .object "BoughtKin$Clerk"
  | 9 => .object "BoughtKin$Search"
  | 10 => .array .int
  | 11 => .int
  | 12 => .int
  | 13 => .int
  | _ => .int
abbrev wsX110 : List Cond := u_ws RX11 TX11 15
theorem nmX11 : ∀ a, a < 15 → ∀ b, b < 15 → a ≠ b → (TX11 a).2.1 ≠ (TX11 b).2.1 := by decide +kernel
theorem tyX11_ok : ∀ k, k < 15 → parseFieldDescriptor (TX11 k).2.2.1 = some (tyX11 k) := by decide +kernel
abbrev cX11_init : ByteArray := prog_1_method_1_code
def yX11_init : MethodName := ⟨RX11, "<init>", "()V"⟩
abbrev cX11_person : ByteArray := prog_1_method_2_code
def yX11_person : MethodName := ⟨RX11, "person", "(IIII)I"⟩
abbrev cX11_put : ByteArray := prog_1_method_3_code
def yX11_put : MethodName := ⟨RX11, "put", "(III)I"⟩
abbrev cX11_of : ByteArray := prog_1_method_4_code
def yX11_of : MethodName := ⟨RX11, "of", "(II)I"⟩
abbrev cX11_parent : ByteArray := prog_1_method_5_code
def yX11_parent : MethodName := ⟨RX11, "parent", "(II)I"⟩
abbrev cX11_terms : ByteArray := prog_1_method_6_code
def yX11_terms : MethodName := ⟨RX11, "terms", "(II)I"⟩
abbrev cX11_chest : ByteArray := prog_1_method_7_code
def yX11_chest : MethodName := ⟨RX11, "chest", "(I)I"⟩
abbrev cX11_feed : ByteArray := prog_1_method_8_code
def yX11_feed : MethodName := ⟨RX11, "feed", "(IIIII)I"⟩
abbrev cX11_end : ByteArray := prog_1_method_9_code
def yX11_end : MethodName := ⟨RX11, "end", "(I)I"⟩
abbrev cX11_row : ByteArray := prog_1_method_10_code
def yX11_row : MethodName := ⟨RX11, "row", "()I"⟩
abbrev cX11_settleFromTape : ByteArray := prog_1_method_11_code
def yX11_settleFromTape : MethodName := ⟨RX11, "settleFromTape", "(I)Z"⟩
abbrev cX11_mould : ByteArray := prog_1_method_12_code
def yX11_mould : MethodName := ⟨RX11, "mould", "()I"⟩
abbrev cX11_law : ByteArray := prog_1_method_13_code
def yX11_law : MethodName := ⟨RX11, "law", "()I"⟩
abbrev cX11_orders : ByteArray := prog_1_method_14_code
def yX11_orders : MethodName := ⟨RX11, "orders", "()I"⟩
abbrev cX11_fault : ByteArray := prog_1_method_15_code
def yX11_fault : MethodName := ⟨RX11, "fault", "()I"⟩
abbrev cX11_stopped : ByteArray := prog_1_method_16_code
def yX11_stopped : MethodName := ⟨RX11, "stopped", "()I"⟩
abbrev cX11_force : ByteArray := prog_1_method_17_code
def yX11_force : MethodName := ⟨RX11, "force", "(I)I"⟩
abbrev cX11_asks : ByteArray := prog_1_method_18_code
def yX11_asks : MethodName := ⟨RX11, "asks", "(III)I"⟩
abbrev cX11_kin : ByteArray := prog_1_method_19_code
def yX11_kin : MethodName := ⟨RX11, "kin", "(III)I"⟩
abbrev cX11_line : ByteArray := prog_1_method_20_code
def yX11_line : MethodName := ⟨RX11, "line", "(II)I"⟩
abbrev cX11_marry : ByteArray := prog_1_method_21_code
def yX11_marry : MethodName := ⟨RX11, "marry", "(II)I"⟩
abbrev cX11_forged : ByteArray := prog_1_method_22_code
def yX11_forged : MethodName := ⟨RX11, "forged", "()I"⟩
abbrev cX11_buy : ByteArray := prog_1_method_23_code
def yX11_buy : MethodName := ⟨RX11, "buy", "(III)I"⟩
abbrev cX11_undo : ByteArray := prog_1_method_24_code
def yX11_undo : MethodName := ⟨RX11, "undo", "()I"⟩
abbrev cX11_offers : ByteArray := prog_1_method_25_code
def yX11_offers : MethodName := ⟨RX11, "offers", "(II)I"⟩
abbrev cX11_cheap : ByteArray := prog_1_method_26_code
def yX11_cheap : MethodName := ⟨RX11, "cheap", "(III)I"⟩
abbrev cX11_join : ByteArray := prog_1_method_27_code
def yX11_join : MethodName := ⟨RX11, "join", "(III)I"⟩
abbrev cX11_claim : ByteArray := prog_1_method_28_code
def yX11_claim : MethodName := ⟨RX11, "claim", "(II)I"⟩
abbrev cX11_dismiss : ByteArray := prog_1_method_29_code
def yX11_dismiss : MethodName := ⟨RX11, "dismiss", "()I"⟩
abbrev cX11_lies : ByteArray := prog_1_method_30_code
def yX11_lies : MethodName := ⟨RX11, "lies", "(I)I"⟩
abbrev cX11_sight : ByteArray := prog_1_method_31_code
def yX11_sight : MethodName := ⟨RX11, "sight", "(III)I"⟩
abbrev cX11_forget : ByteArray := prog_1_method_32_code
def yX11_forget : MethodName := ⟨RX11, "forget", "()I"⟩
abbrev cX11_secret : ByteArray := prog_1_method_33_code
def yX11_secret : MethodName := ⟨RX11, "secret", "(I)I"⟩
abbrev cX11_fair : ByteArray := prog_1_method_34_code
def yX11_fair : MethodName := ⟨RX11, "fair", "(II)I"⟩
abbrev cX11_drawn : ByteArray := prog_1_method_35_code
def yX11_drawn : MethodName := ⟨RX11, "drawn", "(II)I"⟩
abbrev cX11_image : ByteArray := prog_1_method_36_code
def yX11_image : MethodName := ⟨RX11, "image", "(I)I"⟩
abbrev cX11_back : ByteArray := prog_1_method_37_code
def yX11_back : MethodName := ⟨RX11, "back", "(I)I"⟩
abbrev cX11_count : ByteArray := prog_1_method_38_code
def yX11_count : MethodName := ⟨RX11, "count", "(I)I"⟩
abbrev cX11_status : ByteArray := prog_1_method_39_code
def yX11_status : MethodName := ⟨RX11, "status", "()I"⟩
abbrev cX11_accept : ByteArray := prog_1_method_40_code
def yX11_accept : MethodName := ⟨RX11, "accept", "(I)I"⟩
abbrev cX11_refuse : ByteArray := prog_1_method_41_code
def yX11_refuse : MethodName := ⟨RX11, "refuse", "(I)I"⟩
abbrev cX11_within : ByteArray := prog_1_method_42_code
def yX11_within : MethodName := ⟨RX11, "within", "(III)I"⟩
def RX12 : String := "BoughtKinModel"
def TX12 : u_T := fun k => match k with
  | 0 => ("BoughtKinModel", "status", "I", false)
  | 1 => ("BoughtKinModel", "refused", "[I", true)
  | 2 => ("BoughtKinModel", "kept", "[I", true)
  | 3 => ("BoughtKinModel", "images", "[I", true)
  | 4 => ("BoughtKinModel", "hasImage", "[Z", true)
  | 5 => ("BoughtKinModel", "aside", "[I", true)
  | 6 => ("BoughtKinModel", "mould0", "I", false)
  | 7 => ("BoughtKinModel", "words", "[B", true)
  | 8 => ("BoughtKinModel", "firstWord", "I", false)
  | 9 => ("BoughtKinModel", "lastWord", "I", false)
  | 10 => ("BoughtKinModel", "isOrders", "Z", false)
  | 11 => ("BoughtKinModel", "tape", "[B", true)
  | 12 => ("BoughtKinModel", "five", "[I", true)
  | 13 => ("BoughtKinModel", "taped", "I", false)
  | 14 => ("BoughtKinModel", "fault", "I", false)
  | 15 => ("BoughtKinModel", "code", "[I", true)
  | 16 => ("BoughtKinModel", "value", "[I", true)
  | 17 => ("BoughtKinModel", "placed", "[I", true)
  | 18 => ("BoughtKinModel", "tokens", "I", false)
  | 19 => ("BoughtKinModel", "token", "I", false)
  | 20 => ("BoughtKinModel", "leaves", "I", false)
  | 21 => ("BoughtKinModel", "bad", "I", false)
  | 22 => ("BoughtKinModel", "go", "I", false)
  | 23 => ("BoughtKinModel", "goEnd", "I", false)
  | 24 => ("BoughtKinModel", "broken", "Z", false)
  | 25 => ("BoughtKinModel", "inOrders", "Z", false)
  | 26 => ("BoughtKinModel", "asked", "[I", true)
  | 27 => ("BoughtKinModel", "upOne", "[I", true)
  | 28 => ("BoughtKinModel", "upOther", "[I", true)
  | 29 => ("BoughtKinModel", "queue", "[I", true)
  | 30 => ("BoughtKinModel", "common", "I", false)
  | 31 => ("BoughtKinModel", "left", "[I", true)
  | 32 => ("BoughtKinModel", "leftAhead", "[I", true)
  | 33 => ("BoughtKinModel", "undoMany", "I", false)
  | 34 => ("BoughtKinModel", "prices", "[I", true)
  | 35 => ("BoughtKinModel", "bars", "[Z", true)
  | 36 => ("BoughtKinModel", "cheapRow", "[I", true)
  | 37 => ("BoughtKinModel", "cheapSum", "I", false)
  | 38 => ("BoughtKinModel", "cheapMany", "I", false)
  | 39 => ("BoughtKinModel", "cheapRanked", "I", false)
  | 40 => ("BoughtKinModel", "joinRows", "I", false)
  | 41 => ("BoughtKinModel", "stopped0", "I", false)
  | 42 => ("BoughtKinModel", "orderDone", "I", false)
  | 43 => ("BoughtKinModel", "orderLast", "I", false)
  | 44 => ("BoughtKinModel", "orderAt", "I", false)
  | 45 => ("BoughtKinModel", "timesOf", "I", false)
  | 46 => ("BoughtKinModel", "head", "I", false)
  | 47 => ("BoughtKinModel", "sumsAre", "Z", false)
  | 48 => ("BoughtKinModel", "testIs", "Z", false)
  | 49 => ("BoughtKinModel", "sums", "[J", true)
  | 50 => ("BoughtKinModel", "drawnPurse", "[I", true)
  | 51 => ("BoughtKinModel", "drawnLine", "[I", true)
  | 52 => ("BoughtKinModel", "drawnMany", "I", false)
  | _ => ("BoughtKinModel", "latest", "I", false)
def tyX12 : Nat → FieldType := fun k => match k with
  | 0 => .int
  | 1 => .array .int
  | 2 => .array .int
  | 3 => .array .int
  | 4 => .array .boolean
  | 5 => .array .int
  | 6 => .int
  | 7 => .array .byte
  | 8 => .int
  | 9 => .int
  | 10 => .boolean
  | 11 => .array .byte
  | 12 => .array .int
  | 13 => .int
  | 14 => .int
  | 15 => .array .int
  | 16 => .array .int
  | 17 => .array .int
  | 18 => .int
  | 19 => .int
  | 20 => .int
  | 21 => .int
  | 22 => .int
  | 23 => .int
  | 24 => .boolean
  | 25 => .boolean
  | 26 => .array .int
  | 27 => .array .int
  | 28 => .array .int
  | 29 => .array .int
  | 30 => .int
  | 31 => .array .int
  | 32 => .array .int
  | 33 => .int
  | 34 => .array .int
  | 35 => .array .boolean
  | 36 => .array .int
  | 37 => .int
  | 38 => .int
  | 39 => .int
  | 40 => .int
  | 41 => .int
  | 42 => .int
  | 43 => .int
  | 44 => .int
  | 45 => .int
  | 46 => .int
  | 47 => .boolean
  | 48 => .boolean
  | 49 => .array .long
  | 50 => .array .int
  | 51 => .array .int
  | 52 => .int
  | _ => .int
abbrev wsX120 : List Cond := u_ws RX12 TX12 54
theorem nmX12 : ∀ a, a < 54 → ∀ b, b < 54 → a ≠ b → (TX12 a).2.1 ≠ (TX12 b).2.1 := by decide +kernel
theorem tyX12_ok : ∀ k, k < 54 → parseFieldDescriptor (TX12 k).2.2.1 = some (tyX12 k) := by decide +kernel
abbrev cX12_within : ByteArray := prog_14_method_1_code
def yX12_within : MethodName := ⟨RX12, "within", "(III)Z"⟩
abbrev cX12_refuses : ByteArray := prog_14_method_2_code
def yX12_refuses : MethodName := ⟨RX12, "refuses", "(I)I"⟩
abbrev cX12_good : ByteArray := prog_14_method_3_code
def yX12_good : MethodName := ⟨RX12, "good", "(I)I"⟩
abbrev cX12_settled : ByteArray := prog_14_method_4_code
def yX12_settled : MethodName := ⟨RX12, "settled", "(I)I"⟩
abbrev cX12_isIn : ByteArray := prog_14_method_5_code
def yX12_isIn : MethodName := ⟨RX12, "isIn", "(II)Z"⟩
abbrev cX12_ones : ByteArray := prog_14_method_6_code
def yX12_ones : MethodName := ⟨RX12, "ones", "(I)I"⟩
abbrev cX12_init : ByteArray := prog_14_method_7_code
def yX12_init : MethodName := ⟨RX12, "<init>", "()V"⟩
abbrev cX12_laysAside : ByteArray := prog_14_method_8_code
def yX12_laysAside : MethodName := ⟨RX12, "laysAside", "(I)V"⟩
abbrev cX12_takesBack : ByteArray := prog_14_method_9_code
def yX12_takesBack : MethodName := ⟨RX12, "takesBack", "(I)V"⟩
abbrev cX12_image : ByteArray := prog_14_method_10_code
def yX12_image : MethodName := ⟨RX12, "image", "(I)I"⟩
abbrev cX12_back : ByteArray := prog_14_method_11_code
def yX12_back : MethodName := ⟨RX12, "back", "(I)I"⟩
abbrev cX12_people : ByteArray := prog_14_method_12_code
def yX12_people : MethodName := ⟨RX12, "people", "()I"⟩
abbrev cX12_isPerson : ByteArray := prog_14_method_13_code
def yX12_isPerson : MethodName := ⟨RX12, "isPerson", "(I)Z"⟩
abbrev cX12_fact : ByteArray := prog_14_method_14_code
def yX12_fact : MethodName := ⟨RX12, "fact", "(II)I"⟩
abbrev cX12_canBe : ByteArray := prog_14_method_15_code
def yX12_canBe : MethodName := ⟨RX12, "canBe", "(IIII)Z"⟩
abbrev cX12_adds : ByteArray := prog_14_method_16_code
def yX12_adds : MethodName := ⟨RX12, "adds", "(IIII)V"⟩
abbrev cX12_person : ByteArray := prog_14_method_17_code
def yX12_person : MethodName := ⟨RX12, "person", "(IIII)I"⟩
abbrev cX12_isPut : ByteArray := prog_14_method_18_code
def yX12_isPut : MethodName := ⟨RX12, "isPut", "(II)Z"⟩
abbrev cX12_put : ByteArray := prog_14_method_19_code
def yX12_put : MethodName := ⟨RX12, "put", "(III)I"⟩
abbrev cX12_of : ByteArray := prog_14_method_20_code
def yX12_of : MethodName := ⟨RX12, "of", "(II)I"⟩
abbrev cX12_isTerm : ByteArray := prog_14_method_21_code
def yX12_isTerm : MethodName := ⟨RX12, "isTerm", "(II)Z"⟩
abbrev cX12_terms : ByteArray := prog_14_method_22_code
def yX12_terms : MethodName := ⟨RX12, "terms", "(II)I"⟩
abbrev cX12_chest : ByteArray := prog_14_method_23_code
def yX12_chest : MethodName := ⟨RX12, "chest", "(I)I"⟩
abbrev cX12_row : ByteArray := prog_14_method_24_code
def yX12_row : MethodName := ⟨RX12, "row", "()I"⟩
abbrev cX12_mould : ByteArray := prog_14_method_25_code
def yX12_mould : MethodName := ⟨RX12, "mould", "()I"⟩
abbrev cX12_feed : ByteArray := prog_14_method_26_code
def yX12_feed : MethodName := ⟨RX12, "feed", "(IIIII)I"⟩
abbrev cX12_end : ByteArray := prog_14_method_27_code
def yX12_end : MethodName := ⟨RX12, "end", "(I)I"⟩
abbrev cX12_isSmall : ByteArray := prog_14_method_28_code
def yX12_isSmall : MethodName := ⟨RX12, "isSmall", "(I)Z"⟩
abbrev cX12_isDigit : ByteArray := prog_14_method_29_code
def yX12_isDigit : MethodName := ⟨RX12, "isDigit", "(I)Z"⟩
abbrev cX12_wordOf : ByteArray := prog_14_method_30_code
def yX12_wordOf : MethodName := ⟨RX12, "wordOf", "(II)I"⟩
abbrev cX12_splits : ByteArray := prog_14_method_31_code
def yX12_splits : MethodName := ⟨RX12, "splits", "(I)V"⟩
abbrev cX12_fine : ByteArray := prog_14_method_32_code
def yX12_fine : MethodName := ⟨RX12, "fine", "()Z"⟩
abbrev cX12_faults : ByteArray := prog_14_method_33_code
def yX12_faults : MethodName := ⟨RX12, "faults", "()V"⟩
abbrev cX12_takes0 : ByteArray := prog_14_method_34_code
def yX12_takes0 : MethodName := ⟨RX12, "takes0", "(I)Z"⟩
abbrev cX12_must : ByteArray := prog_14_method_35_code
def yX12_must : MethodName := ⟨RX12, "must", "(I)V"⟩
abbrev cX12_leaf : ByteArray := prog_14_method_36_code
def yX12_leaf : MethodName := ⟨RX12, "leaf", "()V"⟩
abbrev cX12_sign : ByteArray := prog_14_method_37_code
def yX12_sign : MethodName := ⟨RX12, "sign", "(C)I"⟩
abbrev cX12_mustNumber : ByteArray := prog_14_method_38_code
def yX12_mustNumber : MethodName := ⟨RX12, "mustNumber", "(II)V"⟩
abbrev cX12_readClause : ByteArray := prog_14_method_39_code
def yX12_readClause : MethodName := ⟨RX12, "readClause", "()V"⟩
abbrev cX12_readOrder : ByteArray := prog_14_method_40_code
def yX12_readOrder : MethodName := ⟨RX12, "readOrder", "()V"⟩
abbrev cX12_readOne : ByteArray := prog_14_method_41_code
def yX12_readOne : MethodName := ⟨RX12, "readOne", "()V"⟩
abbrev cX12_readTest : ByteArray := prog_14_method_42_code
def yX12_readTest : MethodName := ⟨RX12, "readTest", "(I)V"⟩
abbrev cX12_readBoth : ByteArray := prog_14_method_43_code
def yX12_readBoth : MethodName := ⟨RX12, "readBoth", "(I)V"⟩
abbrev cX12_readPlain : ByteArray := prog_14_method_44_code
def yX12_readPlain : MethodName := ⟨RX12, "readPlain", "(I)V"⟩
abbrev cX12_readSum : ByteArray := prog_14_method_45_code
def yX12_readSum : MethodName := ⟨RX12, "readSum", "(I)V"⟩
abbrev cX12_readTerm : ByteArray := prog_14_method_46_code
def yX12_readTerm : MethodName := ⟨RX12, "readTerm", "(I)V"⟩
abbrev cX12_readPart : ByteArray := prog_14_method_47_code
def yX12_readPart : MethodName := ⟨RX12, "readPart", "(I)V"⟩
abbrev cX12_reads : ByteArray := prog_14_method_48_code
def yX12_reads : MethodName := ⟨RX12, "reads", "()Z"⟩
abbrev cX12_readsAs : ByteArray := prog_14_method_49_code
def yX12_readsAs : MethodName := ⟨RX12, "readsAs", "(Z)Z"⟩
abbrev cX12_lays : ByteArray := prog_14_method_50_code
def yX12_lays : MethodName := ⟨RX12, "lays", "(I)V"⟩
abbrev cX12_law : ByteArray := prog_14_method_51_code
def yX12_law : MethodName := ⟨RX12, "law", "()I"⟩
abbrev cX12_fault : ByteArray := prog_14_method_52_code
def yX12_fault : MethodName := ⟨RX12, "fault", "()I"⟩
abbrev cX12_force : ByteArray := prog_14_method_53_code
def yX12_force : MethodName := ⟨RX12, "force", "(I)I"⟩
abbrev cX12_codeAt : ByteArray := prog_14_method_54_code
def yX12_codeAt : MethodName := ⟨RX12, "codeAt", "(I)I"⟩
abbrev cX12_passes0 : ByteArray := prog_14_method_55_code
def yX12_passes0 : MethodName := ⟨RX12, "passes0", "(I)Z"⟩
abbrev cX12_bounded : ByteArray := prog_14_method_56_code
def yX12_bounded : MethodName := ⟨RX12, "bounded", "(JZ)J"⟩
abbrev cX12_sumOf : ByteArray := prog_14_method_57_code
def yX12_sumOf : MethodName := ⟨RX12, "sumOf", "(Z)J"⟩
abbrev cX12_termOf : ByteArray := prog_14_method_58_code
def yX12_termOf : MethodName := ⟨RX12, "termOf", "(Z)J"⟩
abbrev cX12_partOf : ByteArray := prog_14_method_59_code
def yX12_partOf : MethodName := ⟨RX12, "partOf", "(Z)J"⟩
abbrev cX12_testOf : ByteArray := prog_14_method_60_code
def yX12_testOf : MethodName := ⟨RX12, "testOf", "(Z)Z"⟩
abbrev cX12_bothOf : ByteArray := prog_14_method_61_code
def yX12_bothOf : MethodName := ⟨RX12, "bothOf", "(Z)Z"⟩
abbrev cX12_plainOf : ByteArray := prog_14_method_62_code
def yX12_plainOf : MethodName := ⟨RX12, "plainOf", "(Z)Z"⟩
abbrev cX12_positiveOf : ByteArray := prog_14_method_63_code
def yX12_positiveOf : MethodName := ⟨RX12, "positiveOf", "(Z)Z"⟩
abbrev cX12_sets : ByteArray := prog_14_method_64_code
def yX12_sets : MethodName := ⟨RX12, "sets", "(III)V"⟩
abbrev cX12_tells : ByteArray := prog_14_method_65_code
def yX12_tells : MethodName := ⟨RX12, "tells", "(III)I"⟩
abbrev cX12_priceOf : ByteArray := prog_14_method_66_code
def yX12_priceOf : MethodName := ⟨RX12, "priceOf", "(II)I"⟩
abbrev cX12_isBarred : ByteArray := prog_14_method_67_code
def yX12_isBarred : MethodName := ⟨RX12, "isBarred", "(II)Z"⟩
abbrev cX12_rankOf : ByteArray := prog_14_method_68_code
def yX12_rankOf : MethodName := ⟨RX12, "rankOf", "(I)I"⟩
abbrev cX12_lineOf : ByteArray := prog_14_method_69_code
def yX12_lineOf : MethodName := ⟨RX12, "lineOf", "(I)I"⟩
abbrev cX12_climbs : ByteArray := prog_14_method_70_code
def yX12_climbs : MethodName := ⟨RX12, "climbs", "(I[I)V"⟩
abbrev cX12_kinFar : ByteArray := prog_14_method_71_code
def yX12_kinFar : MethodName := ⟨RX12, "kinFar", "(II)I"⟩
abbrev cX12_areTwo : ByteArray := prog_14_method_72_code
def yX12_areTwo : MethodName := ⟨RX12, "areTwo", "(II)Z"⟩
abbrev cX12_kin : ByteArray := prog_14_method_73_code
def yX12_kin : MethodName := ⟨RX12, "kin", "(III)I"⟩
abbrev cX12_livesIn : ByteArray := prog_14_method_74_code
def yX12_livesIn : MethodName := ⟨RX12, "livesIn", "(II)Z"⟩
abbrev cX12_mayMarry : ByteArray := prog_14_method_75_code
def yX12_mayMarry : MethodName := ⟨RX12, "mayMarry", "(II)Z"⟩
abbrev cX12_marry : ByteArray := prog_14_method_76_code
def yX12_marry : MethodName := ⟨RX12, "marry", "(II)I"⟩
abbrev cX12_ranked : ByteArray := prog_14_method_77_code
def yX12_ranked : MethodName := ⟨RX12, "ranked", "()I"⟩
abbrev cX12_isGrandBy : ByteArray := prog_14_method_78_code
def yX12_isGrandBy : MethodName := ⟨RX12, "isGrandBy", "(II)Z"⟩
abbrev cX12_isGrand : ByteArray := prog_14_method_79_code
def yX12_isGrand : MethodName := ⟨RX12, "isGrand", "(II)Z"⟩
abbrev cX12_quartersOf : ByteArray := prog_14_method_80_code
def yX12_quartersOf : MethodName := ⟨RX12, "quartersOf", "(I)I"⟩
abbrev cX12_heirOf : ByteArray := prog_14_method_81_code
def yX12_heirOf : MethodName := ⟨RX12, "heirOf", "(I)I"⟩
abbrev cX12_debtsOf : ByteArray := prog_14_method_82_code
def yX12_debtsOf : MethodName := ⟨RX12, "debtsOf", "(I)I"⟩
abbrev cX12_childrenOf : ByteArray := prog_14_method_83_code
def yX12_childrenOf : MethodName := ⟨RX12, "childrenOf", "(I)I"⟩
abbrev cX12_line : ByteArray := prog_14_method_84_code
def yX12_line : MethodName := ⟨RX12, "line", "(II)I"⟩
abbrev cX12_placeOf : ByteArray := prog_14_method_85_code
def yX12_placeOf : MethodName := ⟨RX12, "placeOf", "(I)I"⟩
abbrev cX12_datesFit : ByteArray := prog_14_method_86_code
def yX12_datesFit : MethodName := ⟨RX12, "datesFit", "(II)Z"⟩
abbrev cX12_forged : ByteArray := prog_14_method_87_code
def yX12_forged : MethodName := ⟨RX12, "forged", "()I"⟩
abbrev cX12_mayBeParent : ByteArray := prog_14_method_88_code
def yX12_mayBeParent : MethodName := ⟨RX12, "mayBeParent", "(II)Z"⟩
abbrev cX12_parent : ByteArray := prog_14_method_89_code
def yX12_parent : MethodName := ⟨RX12, "parent", "(II)I"⟩
abbrev cX12_canBeHad : ByteArray := prog_14_method_90_code
def yX12_canBeHad : MethodName := ⟨RX12, "canBeHad", "(II)Z"⟩
abbrev cX12_mayPay : ByteArray := prog_14_method_91_code
def yX12_mayPay : MethodName := ⟨RX12, "mayPay", "(II)Z"⟩
abbrev cX12_canBuy : ByteArray := prog_14_method_92_code
def yX12_canBuy : MethodName := ⟨RX12, "canBuy", "(III)Z"⟩
abbrev cX12_has : ByteArray := prog_14_method_93_code
def yX12_has : MethodName := ⟨RX12, "has", "(II)V"⟩
abbrev cX12_buys : ByteArray := prog_14_method_94_code
def yX12_buys : MethodName := ⟨RX12, "buys", "(III)I"⟩
abbrev cX12_asks : ByteArray := prog_14_method_95_code
def yX12_asks : MethodName := ⟨RX12, "asks", "(III)I"⟩
abbrev cX12_keeps : ByteArray := prog_14_method_96_code
def yX12_keeps : MethodName := ⟨RX12, "keeps", "(I)V"⟩
abbrev cX12_buysKept : ByteArray := prog_14_method_97_code
def yX12_buysKept : MethodName := ⟨RX12, "buysKept", "(III)I"⟩
abbrev cX12_buy : ByteArray := prog_14_method_98_code
def yX12_buy : MethodName := ⟨RX12, "buy", "(III)I"⟩
abbrev cX12_undo : ByteArray := prog_14_method_99_code
def yX12_undo : MethodName := ⟨RX12, "undo", "()I"⟩
abbrev cX12_offers : ByteArray := prog_14_method_100_code
def yX12_offers : MethodName := ⟨RX12, "offers", "(II)I"⟩
abbrev cX12_isWell : ByteArray := prog_14_method_101_code
def yX12_isWell : MethodName := ⟨RX12, "isWell", "(II)Z"⟩
abbrev cX12_canPair : ByteArray := prog_14_method_102_code
def yX12_canPair : MethodName := ⟨RX12, "canPair", "(II)Z"⟩
abbrev cX12_triesPair : ByteArray := prog_14_method_103_code
def yX12_triesPair : MethodName := ⟨RX12, "triesPair", "(II)I"⟩
abbrev cX12_isCheaper : ByteArray := prog_14_method_104_code
def yX12_isCheaper : MethodName := ⟨RX12, "isCheaper", "(IIII)V"⟩
abbrev cX12_findsCheap : ByteArray := prog_14_method_105_code
def yX12_findsCheap : MethodName := ⟨RX12, "findsCheap", "(II)V"⟩
abbrev cX12_cheap : ByteArray := prog_14_method_106_code
def yX12_cheap : MethodName := ⟨RX12, "cheap", "(III)I"⟩
abbrev cX12_areKin : ByteArray := prog_14_method_107_code
def yX12_areKin : MethodName := ⟨RX12, "areKin", "(II)Z"⟩
abbrev cX12_canHave : ByteArray := prog_14_method_108_code
def yX12_canHave : MethodName := ⟨RX12, "canHave", "(I)Z"⟩
abbrev cX12_joins : ByteArray := prog_14_method_109_code
def yX12_joins : MethodName := ⟨RX12, "joins", "(III)V"⟩
abbrev cX12_join : ByteArray := prog_14_method_110_code
def yX12_join : MethodName := ⟨RX12, "join", "(III)I"⟩
abbrev cX12_claim : ByteArray := prog_14_method_111_code
def yX12_claim : MethodName := ⟨RX12, "claim", "(II)I"⟩
abbrev cX12_dismiss : ByteArray := prog_14_method_112_code
def yX12_dismiss : MethodName := ⟨RX12, "dismiss", "()I"⟩
abbrev cX12_canBeTrue : ByteArray := prog_14_method_113_code
def yX12_canBeTrue : MethodName := ⟨RX12, "canBeTrue", "(I)Z"⟩
abbrev cX12_lies : ByteArray := prog_14_method_114_code
def yX12_lies : MethodName := ⟨RX12, "lies", "(I)I"⟩
abbrev cX12_sight : ByteArray := prog_14_method_115_code
def yX12_sight : MethodName := ⟨RX12, "sight", "(III)I"⟩
abbrev cX12_forget : ByteArray := prog_14_method_116_code
def yX12_forget : MethodName := ⟨RX12, "forget", "()I"⟩
abbrev cX12_areSo : ByteArray := prog_14_method_117_code
def yX12_areSo : MethodName := ⟨RX12, "areSo", "()Z"⟩
abbrev cX12_secret : ByteArray := prog_14_method_118_code
def yX12_secret : MethodName := ⟨RX12, "secret", "(I)I"⟩
abbrev cX12_stopped : ByteArray := prog_14_method_119_code
def yX12_stopped : MethodName := ⟨RX12, "stopped", "()I"⟩
abbrev cX12_orders : ByteArray := prog_14_method_120_code
def yX12_orders : MethodName := ⟨RX12, "orders", "()I"⟩
abbrev cX12_goesAlong : ByteArray := prog_14_method_121_code
def yX12_goesAlong : MethodName := ⟨RX12, "goesAlong", "(IZ)V"⟩
abbrev cX12_small : ByteArray := prog_14_method_122_code
def yX12_small : MethodName := ⟨RX12, "small", "(J)I"⟩
abbrev cX12_obeys : ByteArray := prog_14_method_123_code
def yX12_obeys : MethodName := ⟨RX12, "obeys", "()Z"⟩
abbrev cX12_runs : ByteArray := prog_14_method_124_code
def yX12_runs : MethodName := ⟨RX12, "runs", "(I)Z"⟩
abbrev cX12_draws : ByteArray := prog_14_method_125_code
def yX12_draws : MethodName := ⟨RX12, "draws", "(I)I"⟩
abbrev cX12_fair : ByteArray := prog_14_method_126_code
def yX12_fair : MethodName := ⟨RX12, "fair", "(II)I"⟩
abbrev cX12_drawn : ByteArray := prog_14_method_127_code
def yX12_drawn : MethodName := ⟨RX12, "drawn", "(II)I"⟩
abbrev cX12_count : ByteArray := prog_14_method_128_code
def yX12_count : MethodName := ⟨RX12, "count", "(I)I"⟩
abbrev cX12_status : ByteArray := prog_14_method_129_code
def yX12_status : MethodName := ⟨RX12, "status", "()I"⟩
def RJx145de : String := "java/io/Serializable"
def RJx9f9b0 : String := "java/lang/CharSequence"
def RJxb160c : String := "java/lang/Comparable"
def RJ6 : String := "java/lang/Integer"
abbrev cJ6_bitCount_0f7a4 : ByteArray := prog_15_method_49_code
def yJ6_bitCount_0f7a4 : MethodName := ⟨RJ6, "bitCount", "(I)I"⟩
def RJ9 : String := "java/lang/Math"
abbrev cJ9_max_7cf53 : ByteArray := prog_16_method_65_code
def yJ9_max_7cf53 : MethodName := ⟨RJ9, "max", "(II)I"⟩
abbrev cJ9_min_7cf53 : ByteArray := prog_16_method_69_code
def yJ9_min_7cf53 : MethodName := ⟨RJ9, "min", "(II)I"⟩
def RJ0 : String := "java/lang/String"
abbrev cJ0_length_8abf5 : ByteArray := prog_17_method_54_code
def yJ0_length_8abf5 : MethodName := ⟨RJ0, "length", "()I"⟩
abbrev cJ0_charAt_5068e : ByteArray := prog_17_method_56_code
def yJ0_charAt_5068e : MethodName := ⟨RJ0, "charAt", "(I)C"⟩
abbrev cJ0_coder_7d493 : ByteArray := prog_17_method_152_code
def yJ0_coder_7d493 : MethodName := ⟨RJ0, "coder", "()B"⟩
abbrev cJ0_isLatin1_aae02 : ByteArray := prog_17_method_154_code
def yJ0_isLatin1_aae02 : MethodName := ⟨RJ0, "isLatin1", "()Z"⟩
abbrev cJ0_checkIndex_df160 : ByteArray := prog_17_method_155_code
def yJ0_checkIndex_df160 : MethodName := ⟨RJ0, "checkIndex", "(II)V"⟩
def RJ1 : String := "java/lang/StringLatin1"
abbrev cJ1_charAt_3b067 : ByteArray := prog_18_method_2_code
def yJ1_charAt_3b067 : MethodName := ⟨RJ1, "charAt", "([BI)C"⟩
def RJ2 : String := "java/lang/StringUTF16"
abbrev cJ2_getChar_3b067 : ByteArray := prog_19_method_5_code
def yJ2_getChar_3b067 : MethodName := ⟨RJ2, "getChar", "([BI)C"⟩
abbrev cJ2_length_9d52b : ByteArray := prog_19_method_6_code
def yJ2_length_9d52b : MethodName := ⟨RJ2, "length", "([B)I"⟩
abbrev cJ2_charAt_3b067 : ByteArray := prog_19_method_83_code
def yJ2_charAt_3b067 : MethodName := ⟨RJ2, "charAt", "([BI)C"⟩
abbrev cJ2_checkIndex_2214a : ByteArray := prog_19_method_91_code
def yJ2_checkIndex_2214a : MethodName := ⟨RJ2, "checkIndex", "(I[B)V"⟩
def RJ10 : String := "java/lang/System"
def RJxfd54e : String := "java/lang/constant/Constable"
def RJx3cf43 : String := "java/lang/constant/ConstantDesc"
def RJ7 : String := "java/util/Arrays"
abbrev cJ7_fill_53178 : ByteArray := prog_21_method_103_code
def yJ7_fill_53178 : MethodName := ⟨RJ7, "fill", "([II)V"⟩
def RJ3 : String := "jdk/internal/util/Preconditions"
abbrev cJ3_checkIndex_8e157 : ByteArray := prog_22_method_11_code
def yJ3_checkIndex_8e157 : MethodName := ⟨RJ3, "checkIndex", "(IILjava/util/function/BiFunction;)I"⟩
def RL : String := "BoughtKinLaw"
abbrev cL_law : ByteArray := code
def yL_law : MethodName := ⟨RL, "law", "([I)Z"⟩
abbrev vwCl : List vw_C := [(RX0, TX0, 10), (RX1, TX1, 12), (RX2, TX2, 3), (RX3, TX3, 4), (RX4, TX4, 5), (RX5, TX5, 13), (RX6, TX6, 6), (RX7, TX7, 2), (RX8, TX8, 8), (RX9, TX9, 18), (RX10, TX10, 8), (RX11, TX11, 15), (RX12, TX12, 54)]
def FL : List (Nat × Nat × Nat × Nat × Nat) := [(9, 62, 5, 0, 168), (5, 45, 5, 0, 169), (3, 47, 5, 0, 170), (0, 148, 5, 0, 171), (2, 94, 5, 0, 172), (11, 288, 5, 0, 173), (5, 59, 5, 1, 174), (11, 356, 5, 1, 175), (5, 9, 5, 2, 176), (2, 46, 5, 2, 177), (11, 132, 5, 2, 178), (3, 54, 5, 2, 179), (5, 15, 5, 3, 180), (2, 29, 5, 3, 181), (11, 135, 5, 3, 182), (3, 61, 5, 3, 183), (5, 18, 5, 4, 184), (2, 34, 5, 4, 185), (11, 138, 5, 4, 186), (5, 21, 5, 5, 187), (2, 37, 5, 5, 188), (11, 123, 5, 5, 189), (5, 24, 5, 6, 190), (2, 40, 5, 6, 191), (11, 126, 5, 6, 192), (5, 27, 5, 7, 193), (2, 43, 5, 7, 194), (4, 43, 5, 7, 195), (11, 141, 5, 7, 196), (5, 30, 5, 8, 197), (11, 129, 5, 8, 198), (4, 37, 5, 8, 199), (0, 145, 5, 8, 200), (9, 120, 5, 8, 201), (2, 114, 5, 8, 202), (5, 33, 5, 9, 203), (3, 27, 5, 9, 204), (11, 144, 5, 9, 205), (5, 36, 5, 10, 206), (3, 32, 5, 10, 207), (11, 147, 5, 10, 208), (5, 39, 5, 11, 209), (9, 75, 5, 11, 210), (11, 244, 5, 11, 211), (5, 42, 5, 12, 212), (4, 40, 5, 12, 213), (11, 170, 5, 12, 214), (1, 12, 1, 0, 245), (2, 23, 1, 0, 246), (9, 49, 1, 0, 247), (11, 105, 1, 0, 248), (0, 96, 1, 0, 249), (1, 18, 1, 1, 250), (2, 49, 1, 1, 251), (9, 69, 1, 1, 252), (0, 90, 1, 1, 253), (11, 167, 1, 1, 254), (1, 24, 1, 2, 255), (11, 199, 1, 2, 256), (1, 57, 1, 3, 257), (11, 189, 1, 3, 258), (1, 28, 1, 4, 259), (11, 220, 1, 4, 260), (1, 32, 1, 5, 261), (9, 186, 1, 5, 262), (11, 313, 1, 5, 263), (1, 35, 1, 6, 264), (9, 189, 1, 6, 265), (11, 316, 1, 6, 266), (1, 60, 1, 7, 267), (9, 172, 1, 7, 268), (11, 310, 1, 7, 269), (1, 38, 1, 8, 270), (9, 199, 1, 8, 271), (11, 330, 1, 8, 272), (1, 41, 1, 9, 273), (9, 202, 1, 9, 274), (11, 333, 1, 9, 275), (1, 44, 1, 10, 276), (9, 209, 1, 10, 277), (11, 336, 1, 10, 278), (1, 63, 1, 11, 279), (9, 196, 1, 11, 280), (11, 327, 1, 11, 281), (10, 9, 10, 0, 314), (10, 25, 10, 1, 315), (11, 173, 10, 1, 316), (10, 15, 10, 2, 317), (10, 18, 10, 3, 318), (10, 30, 10, 4, 319), (10, 52, 10, 5, 320), (10, 21, 10, 6, 321), (6, 66, 10, 6, 322), (6, 72, 10, 7, 323), (10, 73, 10, 7, 324), (8, 34, 8, 0, 364), (0, 60, 8, 0, 365), (2, 56, 8, 0, 366), (8, 38, 8, 1, 367), (7, 24, 8, 1, 368), (8, 13, 8, 2, 369), (2, 62, 8, 2, 370), (0, 84, 8, 2, 371), (8, 19, 8, 3, 372), (0, 65, 8, 3, 373), (8, 22, 8, 4, 374), (7, 15, 8, 4, 375), (0, 119, 8, 4, 376), (8, 25, 8, 5, 377), (7, 21, 8, 5, 378), (0, 122, 8, 5, 379), (8, 28, 8, 6, 380), (7, 37, 8, 6, 381), (0, 128, 8, 6, 382), (8, 31, 8, 7, 383), (7, 40, 8, 7, 384), (0, 125, 8, 7, 385), (6, 24, 6, 0, 403), (6, 14, 6, 1, 404), (11, 203, 6, 1, 405), (6, 20, 6, 2, 406), (11, 196, 6, 2, 407), (6, 28, 6, 3, 408), (6, 32, 6, 4, 409), (6, 35, 6, 5, 410), (3, 9, 3, 0, 430), (3, 15, 3, 1, 431), (3, 18, 3, 2, 432), (3, 35, 3, 3, 433), (4, 9, 4, 0, 449), (4, 15, 4, 1, 450), (4, 18, 4, 2, 451), (4, 21, 4, 3, 452), (4, 24, 4, 4, 453), (0, 48, 4, 4, 454), (11, 359, 4, 4, 455), (7, 9, 7, 0, 473), (7, 51, 7, 1, 474), (0, 79, 7, 1, 475), (2, 75, 7, 1, 476), (2, 15, 2, 0, 489), (2, 19, 2, 1, 490), (2, 9, 2, 2, 491), (0, 25, 0, 0, 507), (0, 28, 0, 1, 508), (0, 32, 0, 2, 509), (0, 36, 0, 3, 510), (0, 40, 0, 4, 511), (0, 12, 0, 5, 512), (0, 18, 0, 6, 513), (0, 22, 0, 7, 514), (0, 54, 0, 8, 515), (11, 217, 0, 8, 516), (0, 57, 0, 9, 517), (9, 37, 9, 0, 547), (9, 41, 9, 1, 548), (9, 45, 9, 2, 549), (9, 12, 9, 3, 550), (9, 18, 9, 4, 551), (9, 22, 9, 5, 552), (9, 58, 9, 6, 553), (9, 25, 9, 7, 554), (9, 28, 9, 8, 555), (9, 108, 9, 9, 556), (9, 110, 9, 10, 557), (11, 292, 9, 10, 558), (9, 153, 9, 11, 559), (11, 295, 9, 11, 560), (9, 156, 9, 12, 561), (11, 298, 9, 12, 562), (9, 159, 9, 13, 563), (11, 301, 9, 13, 564), (9, 162, 9, 14, 565), (11, 307, 9, 14, 566), (9, 31, 9, 15, 567), (11, 342, 9, 15, 568), (9, 34, 9, 16, 569), (11, 349, 9, 16, 570), (9, 212, 9, 17, 571), (11, 12, 11, 0, 609), (11, 16, 11, 1, 610), (11, 20, 11, 2, 611), (11, 27, 11, 3, 612), (11, 36, 11, 4, 613), (11, 43, 11, 5, 614), (11, 50, 11, 6, 615), (11, 73, 11, 7, 616), (11, 82, 11, 8, 617), (11, 91, 11, 9, 618), (11, 54, 11, 10, 619), (11, 58, 11, 11, 620), (11, 62, 11, 12, 621), (11, 183, 11, 13, 622), (11, 360, 11, 14, 623), (12, 3, 12, 0, 1367), (12, 7, 12, 1, 1368), (12, 24, 12, 2, 1369), (12, 27, 12, 3, 1370), (12, 30, 12, 4, 1371), (12, 34, 12, 5, 1372), (12, 142, 12, 6, 1373), (12, 37, 12, 7, 1374), (12, 217, 12, 8, 1375), (12, 220, 12, 9, 1376), (12, 191, 12, 10, 1377), (12, 41, 12, 11, 1378), (12, 44, 12, 12, 1379), (12, 139, 12, 13, 1380), (12, 47, 12, 14, 1381), (12, 50, 12, 15, 1382), (12, 53, 12, 16, 1383), (12, 56, 12, 17, 1384), (12, 145, 12, 18, 1385), (12, 165, 12, 19, 1386), (12, 174, 12, 20, 1387), (12, 158, 12, 21, 1388), (12, 245, 12, 22, 1389), (12, 242, 12, 23, 1390), (12, 255, 12, 24, 1391), (12, 59, 12, 26, 1392), (12, 62, 12, 27, 1393), (12, 65, 12, 28, 1394), (12, 68, 12, 29, 1395), (12, 307, 12, 30, 1396), (12, 71, 12, 31, 1397), (12, 74, 12, 32, 1398), (12, 11, 12, 33, 1399), (12, 77, 12, 34, 1400), (12, 80, 12, 35, 1401), (12, 83, 12, 36, 1402), (12, 385, 12, 37, 1403), (12, 382, 12, 38, 1404), (12, 379, 12, 39, 1405), (12, 409, 12, 40, 1406), (12, 86, 12, 41, 1407), (12, 430, 12, 42, 1408), (12, 433, 12, 43, 1409), (12, 436, 12, 44, 1410), (12, 448, 12, 45, 1411), (12, 442, 12, 46, 1412), (12, 445, 12, 47, 1413), (12, 451, 12, 48, 1414), (12, 89, 12, 49, 1415), (12, 93, 12, 50, 1416), (12, 96, 12, 51, 1417), (12, 476, 12, 52, 1418), (12, 469, 12, 53, 1419)]
end
section
/-! the layer: an abstract heap of numbered cells, and runs of methods over it. Cells 0 .. 3 are cells that were there before the law (the script, two static rows, the bytes of the one text); cell k ≥ 4 is the (k - 4)th that the law made -/
abbrev Cel : Type := (FieldType × vp_A) ⊕ (Nat × List Value)
abbrev Sg : Type := List Cel
abbrev Gw : Type := Nat × Heap × (Nat → Nat) × va_G × (FieldType → ClassId)
abbrev RI : Type := Nat × Instr × Nat × List Nat
abbrev Mt : Type := MethodName × ByteArray × Nat × Option FieldType × List Nat × List RI
def xa (g : Gw) (k : Nat) : Nat := if k < 4 then g.2.2.1 k else if k < 1000000000 then g.1 + (k - 4) else g.2.2.1 (k - 1000000000)
def xv (g : Gw) : Value → Value := fun v => match v with
  | .ref k => .ref (xa g k)
  | w => w
def xr (g : Gw) (x : vp_A) : vp_A := (x.1, match x.2 with
  | .inr (.inr (.inr (.inr f))) => .inr (.inr (.inr (.inr (fun i => (f i).map (xa g)))))
  | z => z)
def xe (g : Gw) (c : Cel) : va_E := match c with
  | .inl q => .inl (g.2.2.2.2 q.1, xr g q.2)
  | .inr o => .inr (o.1, o.2.map (xv g))
/-- the cells that may be written -/
def xA (g : Gw) : Nat → Prop := fun q => g.1 ≤ q
def xH (g : Gw) (S : Sg) (H : Heap) : Prop := H.size = g.1 + (S.length - 4) ∧ 4 ≤ S.length ∧ S.length ≤ 1000000000 ∧ (∀ q : Nat, q < g.1 → H[q]? = g.2.1[q]?) ∧ ∀ (k : Nat) (c : Cel), 4 ≤ k → S[k]? = some c → va_at g.2.2.2.1 vwCl (g.1 + (k - 4), xe g c) H
def xt (g : Gw) : List (ClassId × FieldType) := [(g.2.2.2.2 .int, .int), (g.2.2.2.2 .byte, .byte), (g.2.2.2.2 .boolean, .boolean), (g.2.2.2.2 .long, .long), (g.2.2.2.2 (.object "BoughtKin$Script"), .object "BoughtKin$Script"), (g.2.2.2.2 (.object "BoughtKin$Country"), .object "BoughtKin$Country")]
def wordsText : String := "price ranks bars buy for by times if or and not born lived noble debt family side age own year mood now people done last purse kin "
/-- members of nest mates that are linked: methods, static rows -/
def nstM : List (String × Nat × MethodName) := [(RX11, 11, yX1_init), (RX1, 11, yX5_init), (RX11, 26, yX10_init), (RX8, 9, yX11_within), (RX11, 42, yX3_init), (RX11, 49, yX4_init), (RX11, 67, yX7_init), (RX0, 11, yX1_init), (RX9, 11, yX5_init), (RX2, 86, yX11_within)]
def nstF : List (String × Nat × String) := [(RX1, 66, "LEAST_TERMS"), (RX1, 69, "MOST_TERMS")]
/-- what was there before the law -/
def xO (g : Gw) (S : Sg) (U : State) : Prop :=
  (∀ (k : Nat) (ty : FieldType) (n : Nat) (f : Nat → Int32), k < 4 → S[k]? = some (.inl (ty, n, .inl f)) → va_T ty (g.2.2.1 k) n (fun j => .int (f j)) (xA g) U g.2.1) ∧
  va_Z "BoughtKin" "LEAST_TERMS" "[I" (.ref (g.2.2.1 1)) (xA g) U g.2.1 ∧ va_Z "BoughtKin" "MOST_TERMS" "[I" (.ref (g.2.2.1 2)) (xA g) U g.2.1 ∧
  va_Z "java/lang/String" "COMPACT_STRINGS" "Z" (.int 1) (xA g) U g.2.1 ∧ va_Zq "jdk/internal/util/Preconditions" "SIOOBE_FORMATTER" "Ljava/util/function/BiFunction;" (xA g) U g.2.1 ∧
  (va_O "java/lang/String" (g.2.2.1 4) (xA g) U g.2.1 ∧ va_OF "java/lang/String" "coder" "B" (.int 0) (g.2.2.1 4) (xA g) U g.2.1 ∧ va_OF "java/lang/String" "value" "[B" (.ref (g.2.2.1 3)) (g.2.2.1 4) (xA g) U g.2.1) ∧
  vk_R "BoughtKin$Tape" 28 wordsText (g.2.2.1 4) U ∧ va_AO "BoughtKin$Script" U ∧ va_AO "BoughtKin$Country" U ∧
  (∀ q ∈ nstM, va_Nw (.methodLinkNest q.1 q.2.1 q.2.2 "BoughtKin") U) ∧ (∀ q ∈ nstF, va_Nw (.fieldLinkNest q.1 q.2.1 "BoughtKin" q.2.2 "[I" "BoughtKin") U)
def xK (g : Gw) (S : Sg) (U : State) : Prop := va_K g.2.2.2.1 vwCl (xt g) U ∧ xO g S U
theorem xO.warm {g : Gw} {S : Sg} {s U : State} (hW : s.WarmedH U.vm) (h : xO g S s) : xO g S U := by
  have hA := hW.alike
  obtain ⟨h1, h2, h3, h4, h5, ⟨h6, h7, h8⟩, h9, ha, hb, hm, hf⟩ := h
  refine ⟨fun k ty n f hk hS => va_T.moved hA (h1 k ty n f hk hS), va_Z.moved hA h2, va_Z.moved hA h3, va_Z.moved hA h4, ?_, ⟨va_O.moved hA h6, va_OF.moved hA h7, va_OF.moved hA h8⟩, vk_R.warm hW h9, va_AO.moved hA ha, va_AO.moved hA hb, fun q hq => va_Nw.warmM hW (hm q hq), fun q hq => va_Nw.warmF hW (hf q hq)⟩
  rcases h5 with h | ⟨t, h⟩
  · exact Or.inl (va_Z.moved hA h)
  · exact Or.inr ⟨t, va_Z.moved hA h⟩
theorem xK.warm {g : Gw} {S : Sg} {s U : State} (hW : s.WarmedH U.vm) (h : xK g S s) : xK g S U := ⟨va_K.moved hW.alike h.1, h.2.warm hW⟩
theorem xO.eqS {g : Gw} {S S' : Sg} {U : State} (h : xO g S U) (he : ∀ k, k < 4 → S'[k]? = S[k]?) : xO g S' U := ⟨fun k ty n f hk hS => h.1 k ty n f hk (by rw [← he k hk]; exact hS), h.2⟩
theorem xK.eqS {g : Gw} {S S' : Sg} {U : State} (h : xK g S U) (he : ∀ k, k < 4 → S'[k]? = S[k]?) : xK g S' U := ⟨h.1, h.2.eqS he⟩
/-- one text of the words for all methods: the whole table, but for words that don't stay -/
def wT : List Cond := lw_tbl.filter goodWord
theorem wT_mem {w : Cond} (i : Nat) (h : lw_tbl[i]? = some w) (hg : goodWord w = true) : w ∈ wT := List.mem_filter.mpr ⟨List.mem_of_getElem? h, hg⟩
theorem wT_good {w : Cond} (h : w ∈ wT) : (w.onTables && w.keeps) = true ∨ ∃ ty, w = .arrayClass ty := good_of_word (List.mem_filter.mp h).2
abbrev wsM (M : Mt) : List Cond := Cond.code M.1 M.2.1 M.2.2.1 M.2.2.2.1 :: wT
def pcAt (M : Mt) (k : Nat) : Nat := match M.2.2.2.2.2[k]? with
  | some e => e.1
  | none => 0
theorem wT_app {w : Cond} (h : w ∈ tables_1) (hg : goodWord w = true) : w ∈ wT := List.mem_filter.mpr ⟨List.mem_append_right _ h, hg⟩
theorem memT1 {w : Cond} (j : Nat) (h : tables_1_1[j]? = some w) (hg : goodWord w = true) : w ∈ wT := wT_app (List.mem_append_left _ (List.mem_of_getElem? h)) hg
theorem memT2 {w : Cond} (j : Nat) (h : tables_1_2[j]? = some w) (hg : goodWord w = true) : w ∈ wT := wT_app (List.mem_append_right _ (List.mem_append_left _ (List.mem_of_getElem? h))) hg
theorem memT3 {w : Cond} (j : Nat) (h : tables_1_3[j]? = some w) (hg : goodWord w = true) : w ∈ wT := wT_app (List.mem_append_right _ (List.mem_append_right _ (List.mem_append_left _ (List.mem_of_getElem? h)))) hg
theorem memT4 {w : Cond} (j : Nat) (h : tables_1_4[j]? = some w) (hg : goodWord w = true) : w ∈ wT := wT_app (List.mem_append_right _ (List.mem_append_right _ (List.mem_append_right _ (List.mem_append_left _ (List.mem_of_getElem? h))))) hg
theorem memT5 {w : Cond} (j : Nat) (h : tables_1_5[j]? = some w) (hg : goodWord w = true) : w ∈ wT := wT_app (List.mem_append_right _ (List.mem_append_right _ (List.mem_append_right _ (List.mem_append_right _ (List.mem_append_left _ (List.mem_of_getElem? h)))))) hg
theorem memT6 {w : Cond} (j : Nat) (h : tables_1_6[j]? = some w) (hg : goodWord w = true) : w ∈ wT := wT_app (List.mem_append_right _ (List.mem_append_right _ (List.mem_append_right _ (List.mem_append_right _ (List.mem_append_right _ (List.mem_append_left _ (List.mem_of_getElem? h))))))) hg
theorem memT7 {w : Cond} (j : Nat) (h : tables_1_7[j]? = some w) (hg : goodWord w = true) : w ∈ wT := wT_app (List.mem_append_right _ (List.mem_append_right _ (List.mem_append_right _ (List.mem_append_right _ (List.mem_append_right _ (List.mem_append_right _ (List.mem_append_left _ (List.mem_of_getElem? h)))))))) hg
theorem memT8 {w : Cond} (j : Nat) (h : tables_1_8[j]? = some w) (hg : goodWord w = true) : w ∈ wT := wT_app (List.mem_append_right _ (List.mem_append_right _ (List.mem_append_right _ (List.mem_append_right _ (List.mem_append_right _ (List.mem_append_right _ (List.mem_append_right _ (List.mem_of_getElem? h)))))))) hg
def ckW (j : Nat) (w : Cond) : Bool := decide (lw_tbl[j]? = some w) && goodWord w
theorem ckW_mem {j : Nat} {w : Cond} (h : ckW j w = true) : w ∈ wT := by
  simp only [ckW, Bool.and_eq_true, decide_eq_true_eq] at h
  exact wT_mem j h.1 h.2
def clsN (n : Nat) : String := match vwCl[n]? with
  | some q => q.1
  | none => ""
def cnM (M : Mt) : Nat := M.2.2.2.2.1.getD 0 99
/-- what the program looks at in an entry: fields by (class, field, place in FL), jumps by the entry's number -/
def ckL (M : Mt) (e : RI) : Bool := match e.2.1, e.2.2.2 with
  | .getfield i, [ci, fk, j] => (match FL[j]? with
      | some q => q.1 == cnM M && (q.2.1 == i && (q.2.2.1 == ci && q.2.2.2.1 == fk))
      | none => false)
  | .putfield i, [ci, fk, j] => (match FL[j]? with
      | some q => q.1 == cnM M && (q.2.1 == i && (q.2.2.1 == ci && q.2.2.2.1 == fk))
      | none => false)
  | .new i, [ci, j1, j2, j3] => (match vwCl[ci]? with
      | some q => ckW j1 (.classLink M.1.cls i q.1) && (ckW j2 (.instantiable q.1 q.2.2) && ckW j3 (.initialized q.1))
      | none => false)
  | .if_icmp _ off, [t] => decide ((e.1 : Int) + off = (pcAt M t : Int))
  | .ifCond _ off, [t] => decide ((e.1 : Int) + off = (pcAt M t : Int))
  | .goto off, [t] => decide ((e.1 : Int) + off = (pcAt M t : Int))
  | .ifnonnull off, [t] => decide ((e.1 : Int) + off = (pcAt M t : Int))
  | .getfield _, _ => false
  | .putfield _, _ => false
  | .new _, _ => false
  | .if_icmp _ _, _ => false
  | .ifCond _ _, _ => false
  | .goto _, _ => false
  | .ifnonnull _, _ => false
  | _, _ => true
def isTerm (i : Instr) : Bool := match i with
  | .goto _ => true
  | .ireturn => true
  | .lreturn => true
  | .areturn => true
  | .return_ => true
  | .athrow => true
  | .tableswitch _ _ _ _ => true
  | .lookupswitch _ _ => true
  | _ => false
def ckE (M : Mt) (k : Nat) (e : RI) : Bool := decide (decode M.2.1 e.1 = .ok (e.2.1, e.2.2.1)) && (ckL M e && (match M.2.2.2.2.2[k + 1]? with
  | some e2 => e2.1 == e.1 + e.2.2.1
  | none => isTerm e.2.1))
/-- the entries lo .. lo + n - 1 -/
def ckR (M : Mt) (lo n : Nat) : Bool := (List.range n).all (fun k => match M.2.2.2.2.2[lo + k]? with
  | some e => ckE M (lo + k) e
  | none => true)
/-- of the method itself: its name is plain, its room is small, its code stands among the words; how it is called -/
def ckM (M : Mt) : Bool := plainName M.1.cls && (decide (M.2.2.1 ≤ 22) && (decide (M.1.cls ≠ "java/lang/invoke/MethodHandle" ∧ M.1.cls ≠ "java/lang/invoke/VarHandle") && (match M.2.2.2.2.1 with
  | _ :: j2 :: n :: kd :: j3 :: js => ckW j2 (.initialized M.1.cls) && (decide ((parseMethodDescriptor M.1.desc).map (fun d => d.parameters.length) = some n) && (match kd, js with
      | 0, [j4] => ckW j3 (.instanceMethod M.1) && ckW j4 (.selects M.1.cls M.1 M.1)
      | 1, [] => ckW j3 (.static M.1)
      | 2, [] => ckW j3 (.instanceMethod M.1) && (decide (M.1.name = "<init>") && decide (M.2.2.2.1 = none))
      | _, _ => false))
  | _ => false)))
def okM (M : Mt) : Prop := (cnM M = 99 ∨ clsN (cnM M) = M.1.cls) ∧ ∀ (k : Nat) (e : RI), M.2.2.2.2.2[k]? = some e → ckE M k e = true
def okC (M : Mt) : Prop := ckM M = true ∧ Cond.code M.1 M.2.1 M.2.2.1 M.2.2.2.1 ∈ wT ∧ okM M
def nPar (M : Mt) : Nat := M.2.2.2.2.1.getD 2 0
def kindM (M : Mt) : Nat := M.2.2.2.2.1.getD 3 9
/-- out of chunks of 40 -/
theorem okM.of {M : Mt} {n : Nat} (hc : cnM M = 99 ∨ clsN (cnM M) = M.1.cls) (hl : M.2.2.2.2.2.length ≤ 40 * n) (h : ∀ j, j < n → ckR M (40 * j) 40 = true) : okM M := by
  refine ⟨hc, fun k e he => ?_⟩
  have hk : k < M.2.2.2.2.2.length := (List.getElem?_eq_some_iff.mp he).1
  have h1 := List.all_eq_true.mp (h (k / 40) (by omega)) (k % 40) (List.mem_range.mpr (by omega))
  rw [show 40 * (k / 40) + k % 40 = k by omega, he] at h1
  exact h1
theorem okC.facts {M : Mt} (h : okC M) : plainName M.1.cls = true ∧ M.2.2.1 ≤ 22 ∧ (M.1.cls ≠ "java/lang/invoke/MethodHandle" ∧ M.1.cls ≠ "java/lang/invoke/VarHandle") ∧ Cond.code M.1 M.2.1 M.2.2.1 M.2.2.2.1 ∈ wT ∧ Cond.initialized M.1.cls ∈ wT ∧ (parseMethodDescriptor M.1.desc).map (fun d => d.parameters.length) = some (nPar M) ∧
    (kindM M = 0 → Cond.instanceMethod M.1 ∈ wT ∧ Cond.selects M.1.cls M.1 M.1 ∈ wT) ∧ (kindM M = 1 → Cond.static M.1 ∈ wT) ∧ (kindM M = 2 → Cond.instanceMethod M.1 ∈ wT ∧ M.1.name = "<init>" ∧ M.2.2.2.1 = none) := by
  have h1 := h.1
  obtain ⟨y, bs, ml, rt, ix, tb⟩ := M
  simp only [ckM, Bool.and_eq_true, decide_eq_true_eq] at h1
  obtain ⟨a1, a2, a3, h1⟩ := h1
  refine ⟨a1, a2, a3, ?_⟩
  match ix, h1 with
  | cn :: j2 :: n :: kd :: j3 :: js, h1 =>
    simp only [Bool.and_eq_true, decide_eq_true_eq] at h1
    obtain ⟨b2, b3, h1⟩ := h1
    refine ⟨h.2.1, ckW_mem b2, b3, fun hk => ?_, fun hk => ?_, fun hk => ?_⟩
    · have hk : kd = 0 := hk
      subst hk
      match js, h1 with
      | [j4], h1 =>
        simp only [Bool.and_eq_true] at h1
        exact ⟨ckW_mem h1.1, ckW_mem h1.2⟩
    · have hk : kd = 1 := hk
      subst hk
      match js, h1 with
      | [], h1 => exact ckW_mem h1
    · have hk : kd = 2 := hk
      subst hk
      match js, h1 with
      | [], h1 =>
        simp only [Bool.and_eq_true, decide_eq_true_eq] at h1
        exact ⟨ckW_mem h1.1, h1.2.1, h1.2.2⟩
theorem okM.entry {M : Mt} (h : okM M) {k : Nat} {e : RI} (he : M.2.2.2.2.2[k]? = some e) : decode M.2.1 e.1 = .ok (e.2.1, e.2.2.1) ∧ ckL M e = true ∧ pcAt M k = e.1 ∧ (isTerm e.2.1 = false → pcAt M (k + 1) = e.1 + e.2.2.1) := by
  have h1 := h.2 k e he
  simp only [ckE, Bool.and_eq_true, decide_eq_true_eq] at h1
  refine ⟨h1.1, h1.2.1, by rw [pcAt, he], fun hk2 => ?_⟩
  have h2 := h1.2.2
  cases e3 : M.2.2.2.2.2[k + 1]? with
  | none => rw [e3] at h2; rw [hk2] at h2; cases h2
  | some e2 =>
    rw [e3] at h2
    simp only [beq_iff_eq] at h2
    rw [pcAt, e3]
    exact h2
/-- the locals -/
def xL (g : Gw) (la : Array Slot) (nL : Nat) (ls : List (Option Value)) : Prop := la.size = nL ∧ lv_wf la ∧ ∀ (i : Nat) (v : Value), ls[i]? = some (some v) → la[i]? = some (.val (xv g v))
def xp (g : Gw) (ls : List (Option Value)) : List (Nat × Value) := ls.zipIdx.filterMap (fun q => q.1.map (fun v => (q.2, xv g v)))
theorem xp_mem {g : Gw} {ls : List (Option Value)} {q : Nat × Value} : q ∈ xp g ls ↔ ∃ v, ls[q.1]? = some (some v) ∧ q.2 = xv g v := by
  simp only [xp, List.mem_filterMap]
  constructor
  · rintro ⟨x, hx, hq⟩
    obtain ⟨o, i⟩ := x
    have hx := List.mem_zipIdx_iff_getElem?.mp hx
    simp only at hx hq
    cases o with
    | none => simp at hq
    | some v =>
      simp only [Option.map_some, Option.some.injEq] at hq
      subst hq
      exact ⟨v, hx, rfl⟩
  · rintro ⟨v, hv, he⟩
    exact ⟨(some v, q.1), List.mem_zipIdx_iff_getElem?.mpr hv, by simp [← he]⟩
theorem xL.has {g : Gw} {la : Array Slot} {nL : Nat} {ls : List (Option Value)} (h : xL g la nL ls) : lv_has la nL (xp g ls) := ⟨h.1, h.2.1, fun q hq => by
  obtain ⟨v, hv, he⟩ := xp_mem.mp hq
  rw [he]
  exact h.2.2 _ _ hv⟩
theorem xv_cat (g : Gw) (v : Value) : (xv g v).category = v.category := by cases v <;> rfl
/-- a local that can be written: the one below isn't a long -/
def okS (ls : List (Option Value)) (i : Nat) : Bool := match i with
  | 0 => true
  | j + 1 => match ls[j]? with
    | some (some v) => v.category == 1
    | _ => true
theorem xL.set1 {g : Gw} {la : Array Slot} {nL i : Nat} {ls : List (Option Value)} {v : Value} (h : lv_has la nL ((i, xv g v) :: (xp g ls).filter (fun q => !(q.1 == i) && !(q.1 + 1 == i && q.2.category == 2)))) (hk : okS ls i = true) : xL g la nL (ls.set i (some v)) := by
  refine ⟨h.1, h.2.1, fun j w hj => ?_⟩
  rw [List.getElem?_set] at hj
  by_cases hji : i = j
  · subst hji
    rw [if_pos rfl] at hj
    split at hj
    · cases hj
      exact h.2.2 (i, xv g v) List.mem_cons_self
    · cases hj
  · rw [if_neg hji] at hj
    refine h.2.2 (j, xv g w) (List.mem_cons_of_mem _ (List.mem_filter.mpr ⟨xp_mem.mpr ⟨w, hj, rfl⟩, ?_⟩))
    simp only [xv_cat, Bool.and_eq_true, Bool.not_eq_true', beq_eq_false_iff_ne, ne_eq, Bool.and_eq_false_iff]
    refine ⟨fun e => hji e.symm, ?_⟩
    by_cases h2 : j + 1 = i
    · right
      subst h2
      simp only [okS, hj, beq_iff_eq] at hk
      rw [hk]
      decide
    · left
      exact h2
theorem xL.set2 {g : Gw} {la : Array Slot} {nL i : Nat} {ls : List (Option Value)} {v : Value} (h : lv_has la nL ((i, xv g v) :: (xp g ls).filter (fun q => !(q.1 == i) && (!(q.1 == i + 1) && !(q.1 + 1 == i && q.2.category == 2))))) (hk : okS ls i = true) : xL g la nL ((ls.set i (some v)).set (i + 1) none) := by
  refine ⟨h.1, h.2.1, fun j w hj => ?_⟩
  rw [List.getElem?_set] at hj
  by_cases hj1 : i + 1 = j
  · rw [if_pos hj1] at hj
    split at hj <;> cases hj
  · rw [if_neg hj1, List.getElem?_set] at hj
    by_cases hji : i = j
    · subst hji
      rw [if_pos rfl] at hj
      split at hj
      · cases hj
        exact h.2.2 (i, xv g v) List.mem_cons_self
      · cases hj
    · rw [if_neg hji] at hj
      refine h.2.2 (j, xv g w) (List.mem_cons_of_mem _ (List.mem_filter.mpr ⟨xp_mem.mpr ⟨w, hj, rfl⟩, ?_⟩))
      simp only [xv_cat, Bool.and_eq_true, Bool.not_eq_true', beq_eq_false_iff_ne, ne_eq, Bool.and_eq_false_iff]
      refine ⟨fun e => hji e.symm, fun e => hj1 e.symm, ?_⟩
      by_cases h2 : j + 1 = i
      · right
        subst h2
        simp only [okS, hj, beq_iff_eq] at hk
        rw [hk]
        decide
      · left
        exact h2
/-- what doesn't change while a method runs -/
def xF (g : Gw) (S : Sg) (d : Nat) (M : Mt) (p : Program) (R : Room) (s : State) (m : MethodId) (args : Array Value) (meth : Method) (c : Code) : Prop :=
  p.tables.exec = Jvm.exec ∧ c.code = M.2.1 ∧ c.maxLocals = M.2.2.1 ∧ s.vm.findClass M.1.cls = some m.cls ∧ (∀ w ∈ wT, w.before args s = true) ∧ xK g S s ∧ g.1 ≤ s.heap.size ∧ d ≤ R.frames ∧ 41 * d ≤ R.locals ∧ (∀ q : Nat, q < g.1 → s.heap[q]? = g.2.1[q]?) ∧ (M.1.name = "<init>" → meth.name = "<init>")
/-- an end of the method: at a return, with this answer -/
def xR (M : Mt) (k : Nat) (r : Option Value) : Prop := ∃ e : RI, M.2.2.2.2.2[k]? = some e ∧ e.2.2.1 = 1 ∧ match r with
  | none => e.2.1 = .return_ ∧ M.2.2.2.1 = none
  | some (.int v) => e.2.1 = .ireturn ∧ ∃ ty, M.2.2.2.1 = some ty ∧ narrow ty (.int v) = .int v
  | some (.long _) => e.2.1 = .lreturn ∧ M.2.2.2.1 = some .long
  | some (.ref _) => e.2.1 = .areturn ∧ ∃ n, M.2.2.2.1 = some (.object n)
  | some .null => e.2.1 = .areturn ∧ ∃ n, M.2.2.2.1 = some (.object n)
  | some _ => False
/-- the cells that were there stay, and none goes -/
def xlow (S S' : Sg) : Prop := (∀ k, k < 4 → S'[k]? = S[k]?) ∧ S.length ≤ S'.length
theorem xlow.rf {S : Sg} : xlow S S := ⟨fun _ _ => rfl, Nat.le_refl _⟩
theorem xlow.tr {S S1 S2 : Sg} (h : xlow S S1) (h2 : xlow S1 S2) : xlow S S2 := ⟨fun k hk => (h2.1 k hk).trans (h.1 k hk), Nat.le_trans h.2 h2.2⟩
theorem xlow.st {S : Sg} {k : Nat} {c : Cel} (h4 : 4 ≤ k) : xlow S (S.set k c) := ⟨fun j hj => by rw [List.getElem?_set, if_neg (by omega)], by rw [List.length_set]; exact Nat.le_refl _⟩
theorem xlow.ap {S : Sg} {c : Cel} (h4 : 4 ≤ S.length) : xlow S (S ++ [c]) := ⟨fun j hj => List.getElem?_append_left (by omega), by rw [List.length_append]; exact Nat.le_add_right _ _⟩
/-- from entry k of M, with these locals, this stack and these cells, the method ends with the answer r and the cells S', in d frames, with at most kc new cells of ks slots -/
def Rn (d kc ks : Nat) (M : Mt) (k : Nat) (ls : List (Option Value)) (st : List Value) (S : Sg) (r : Option Value) (S' : Sg) : Prop :=
  xlow S S' ∧ (okM M → ∀ (g : Gw) (p : Program) (l : Launch) (e : Env) (R : Room) (s : State) (m : MethodId) (args : Array Value) (below : List Frame) (meth : Method) (c : Code) (Z : State → Prop),
    xF g S d M p R s m args meth c →
    (∀ (H : Heap) (locs : List Loc) (cells slots k' : Nat) (la : Array Slot), xR M k' r → xH g S' H → va_S (xA g) s.heap H locs → cells ≤ R.cells → slots ≤ R.slots → W p l e R s m args below meth c H locs cells slots Z (F0 m (pcAt M k') la ((r.map (xv g)).toList))) →
    ∀ (H : Heap) (locs : List Loc) (cells slots : Nat) (la : Array Slot), xH g S H → va_S (xA g) s.heap H locs → cells + kc ≤ R.cells → slots + ks ≤ R.slots → xL g la M.2.2.1 ls →
      W p l e R s m args below meth c H locs cells slots Z (F0 m (pcAt M k) la (st.map (xv g))))
/-- what a call of M does -/
def Cl (d kc ks : Nat) (M : Mt) (as : List Value) (S : Sg) (r : Option Value) (S' : Sg) : Prop :=
  okC M ∧ xlow S S' ∧ ∀ (g : Gw) (l : Launch), Met l M.1 (wsM M) { frames := d, cells := kc, slots := ks, locals := 41 * d } (va_Pc (as.map (xv g)) (fun U => xH g S U.heap ∧ xK g S U ∧ g.1 ≤ U.heap.size)) (fun _ _ o t => o = .returned (r.map (xv g)) ∧ xH g S' t.heap) kc ks (xA g)
end
section
theorem Rn.iadd {d kc ks : Nat} {M : Mt} {k pc : Nat} {z : List Nat} {ls : List (Option Value)} {st : List Value} {S : Sg} {r : Option Value} {S' : Sg} {x y : Int32} (h : M.2.2.2.2.2[k]? = some (pc, .iadd, 1, z))  (hn : Rn d kc ks M (k + 1) ls (.int (x + y) :: st) S r S') : Rn d kc ks M k ls (.int y :: .int x :: st) S r S' := by
  refine ⟨hn.1, ?_⟩
  intro hM g p l e R s m args below meth c Z F E H locs cells slots la hP hS hc hs hl
  obtain ⟨hd, -, e1, e2⟩ := hM.entry h
  have e2 := e2 rfl
  have hn := hn.2 hM g p l e R s m args below meth c Z F E H locs cells slots la hP hS hc hs hl
  rw [e2] at hn
  rw [e1]
  exact lv_iadd F.1 F.2.1 hd hn
theorem Rn.isub {d kc ks : Nat} {M : Mt} {k pc : Nat} {z : List Nat} {ls : List (Option Value)} {st : List Value} {S : Sg} {r : Option Value} {S' : Sg} {x y : Int32} (h : M.2.2.2.2.2[k]? = some (pc, .isub, 1, z))  (hn : Rn d kc ks M (k + 1) ls (.int (x - y) :: st) S r S') : Rn d kc ks M k ls (.int y :: .int x :: st) S r S' := by
  refine ⟨hn.1, ?_⟩
  intro hM g p l e R s m args below meth c Z F E H locs cells slots la hP hS hc hs hl
  obtain ⟨hd, -, e1, e2⟩ := hM.entry h
  have e2 := e2 rfl
  have hn := hn.2 hM g p l e R s m args below meth c Z F E H locs cells slots la hP hS hc hs hl
  rw [e2] at hn
  rw [e1]
  exact lv_isub F.1 F.2.1 hd hn
theorem Rn.imul {d kc ks : Nat} {M : Mt} {k pc : Nat} {z : List Nat} {ls : List (Option Value)} {st : List Value} {S : Sg} {r : Option Value} {S' : Sg} {x y : Int32} (h : M.2.2.2.2.2[k]? = some (pc, .imul, 1, z))  (hn : Rn d kc ks M (k + 1) ls (.int (x * y) :: st) S r S') : Rn d kc ks M k ls (.int y :: .int x :: st) S r S' := by
  refine ⟨hn.1, ?_⟩
  intro hM g p l e R s m args below meth c Z F E H locs cells slots la hP hS hc hs hl
  obtain ⟨hd, -, e1, e2⟩ := hM.entry h
  have e2 := e2 rfl
  have hn := hn.2 hM g p l e R s m args below meth c Z F E H locs cells slots la hP hS hc hs hl
  rw [e2] at hn
  rw [e1]
  exact lv_imul F.1 F.2.1 hd hn
theorem Rn.iand {d kc ks : Nat} {M : Mt} {k pc : Nat} {z : List Nat} {ls : List (Option Value)} {st : List Value} {S : Sg} {r : Option Value} {S' : Sg} {x y : Int32} (h : M.2.2.2.2.2[k]? = some (pc, .iand, 1, z))  (hn : Rn d kc ks M (k + 1) ls (.int (x &&& y) :: st) S r S') : Rn d kc ks M k ls (.int y :: .int x :: st) S r S' := by
  refine ⟨hn.1, ?_⟩
  intro hM g p l e R s m args below meth c Z F E H locs cells slots la hP hS hc hs hl
  obtain ⟨hd, -, e1, e2⟩ := hM.entry h
  have e2 := e2 rfl
  have hn := hn.2 hM g p l e R s m args below meth c Z F E H locs cells slots la hP hS hc hs hl
  rw [e2] at hn
  rw [e1]
  exact lv_iand F.1 F.2.1 hd hn
theorem Rn.ior {d kc ks : Nat} {M : Mt} {k pc : Nat} {z : List Nat} {ls : List (Option Value)} {st : List Value} {S : Sg} {r : Option Value} {S' : Sg} {x y : Int32} (h : M.2.2.2.2.2[k]? = some (pc, .ior, 1, z))  (hn : Rn d kc ks M (k + 1) ls (.int (x ||| y) :: st) S r S') : Rn d kc ks M k ls (.int y :: .int x :: st) S r S' := by
  refine ⟨hn.1, ?_⟩
  intro hM g p l e R s m args below meth c Z F E H locs cells slots la hP hS hc hs hl
  obtain ⟨hd, -, e1, e2⟩ := hM.entry h
  have e2 := e2 rfl
  have hn := hn.2 hM g p l e R s m args below meth c Z F E H locs cells slots la hP hS hc hs hl
  rw [e2] at hn
  rw [e1]
  exact lv_ior F.1 F.2.1 hd hn
theorem Rn.ixor {d kc ks : Nat} {M : Mt} {k pc : Nat} {z : List Nat} {ls : List (Option Value)} {st : List Value} {S : Sg} {r : Option Value} {S' : Sg} {x y : Int32} (h : M.2.2.2.2.2[k]? = some (pc, .ixor, 1, z))  (hn : Rn d kc ks M (k + 1) ls (.int (x ^^^ y) :: st) S r S') : Rn d kc ks M k ls (.int y :: .int x :: st) S r S' := by
  refine ⟨hn.1, ?_⟩
  intro hM g p l e R s m args below meth c Z F E H locs cells slots la hP hS hc hs hl
  obtain ⟨hd, -, e1, e2⟩ := hM.entry h
  have e2 := e2 rfl
  have hn := hn.2 hM g p l e R s m args below meth c Z F E H locs cells slots la hP hS hc hs hl
  rw [e2] at hn
  rw [e1]
  exact lv_ixor F.1 F.2.1 hd hn
theorem Rn.ishl {d kc ks : Nat} {M : Mt} {k pc : Nat} {z : List Nat} {ls : List (Option Value)} {st : List Value} {S : Sg} {r : Option Value} {S' : Sg} {x y : Int32} (h : M.2.2.2.2.2[k]? = some (pc, .ishl, 1, z))  (hn : Rn d kc ks M (k + 1) ls (.int (x <<< (y &&& 31)) :: st) S r S') : Rn d kc ks M k ls (.int y :: .int x :: st) S r S' := by
  refine ⟨hn.1, ?_⟩
  intro hM g p l e R s m args below meth c Z F E H locs cells slots la hP hS hc hs hl
  obtain ⟨hd, -, e1, e2⟩ := hM.entry h
  have e2 := e2 rfl
  have hn := hn.2 hM g p l e R s m args below meth c Z F E H locs cells slots la hP hS hc hs hl
  rw [e2] at hn
  rw [e1]
  exact lv_ishl F.1 F.2.1 hd hn
theorem Rn.ishr {d kc ks : Nat} {M : Mt} {k pc : Nat} {z : List Nat} {ls : List (Option Value)} {st : List Value} {S : Sg} {r : Option Value} {S' : Sg} {x y : Int32} (h : M.2.2.2.2.2[k]? = some (pc, .ishr, 1, z))  (hn : Rn d kc ks M (k + 1) ls (.int (x >>> (y &&& 31)) :: st) S r S') : Rn d kc ks M k ls (.int y :: .int x :: st) S r S' := by
  refine ⟨hn.1, ?_⟩
  intro hM g p l e R s m args below meth c Z F E H locs cells slots la hP hS hc hs hl
  obtain ⟨hd, -, e1, e2⟩ := hM.entry h
  have e2 := e2 rfl
  have hn := hn.2 hM g p l e R s m args below meth c Z F E H locs cells slots la hP hS hc hs hl
  rw [e2] at hn
  rw [e1]
  exact lv_ishr F.1 F.2.1 hd hn
theorem Rn.iushr {d kc ks : Nat} {M : Mt} {k pc : Nat} {z : List Nat} {ls : List (Option Value)} {st : List Value} {S : Sg} {r : Option Value} {S' : Sg} {x y : Int32} (h : M.2.2.2.2.2[k]? = some (pc, .iushr, 1, z))  (hn : Rn d kc ks M (k + 1) ls (.int ((x.toUInt32 >>> (y.toUInt32 &&& Int32.toUInt32 31)).toInt32) :: st) S r S') : Rn d kc ks M k ls (.int y :: .int x :: st) S r S' := by
  refine ⟨hn.1, ?_⟩
  intro hM g p l e R s m args below meth c Z F E H locs cells slots la hP hS hc hs hl
  obtain ⟨hd, -, e1, e2⟩ := hM.entry h
  have e2 := e2 rfl
  have hn := hn.2 hM g p l e R s m args below meth c Z F E H locs cells slots la hP hS hc hs hl
  rw [e2] at hn
  rw [e1]
  exact lv_iushr F.1 F.2.1 hd rfl hn
theorem Rn.idiv {d kc ks : Nat} {M : Mt} {k pc : Nat} {z : List Nat} {ls : List (Option Value)} {st : List Value} {S : Sg} {r : Option Value} {S' : Sg} {x y : Int32} (h : M.2.2.2.2.2[k]? = some (pc, .idiv, 1, z)) (hne : ¬ y = 0) (hn : Rn d kc ks M (k + 1) ls (.int (x / y) :: st) S r S') : Rn d kc ks M k ls (.int y :: .int x :: st) S r S' := by
  refine ⟨hn.1, ?_⟩
  intro hM g p l e R s m args below meth c Z F E H locs cells slots la hP hS hc hs hl
  obtain ⟨hd, -, e1, e2⟩ := hM.entry h
  have e2 := e2 rfl
  have hn := hn.2 hM g p l e R s m args below meth c Z F E H locs cells slots la hP hS hc hs hl
  rw [e2] at hn
  rw [e1]
  exact lv_idiv F.1 F.2.1 hd hne hn
theorem Rn.irem {d kc ks : Nat} {M : Mt} {k pc : Nat} {z : List Nat} {ls : List (Option Value)} {st : List Value} {S : Sg} {r : Option Value} {S' : Sg} {x y : Int32} (h : M.2.2.2.2.2[k]? = some (pc, .irem, 1, z)) (hne : ¬ y = 0) (hn : Rn d kc ks M (k + 1) ls (.int (x - x / y * y) :: st) S r S') : Rn d kc ks M k ls (.int y :: .int x :: st) S r S' := by
  refine ⟨hn.1, ?_⟩
  intro hM g p l e R s m args below meth c Z F E H locs cells slots la hP hS hc hs hl
  obtain ⟨hd, -, e1, e2⟩ := hM.entry h
  have e2 := e2 rfl
  have hn := hn.2 hM g p l e R s m args below meth c Z F E H locs cells slots la hP hS hc hs hl
  rw [e2] at hn
  rw [e1]
  exact lv_irem F.1 F.2.1 hd hne hn
theorem Rn.ineg {d kc ks : Nat} {M : Mt} {k pc : Nat} {z : List Nat} {ls : List (Option Value)} {st : List Value} {S : Sg} {r : Option Value} {S' : Sg} {x : Int32} (h : M.2.2.2.2.2[k]? = some (pc, .ineg, 1, z))  (hn : Rn d kc ks M (k + 1) ls (.int (-x) :: st) S r S') : Rn d kc ks M k ls (.int x :: st) S r S' := by
  refine ⟨hn.1, ?_⟩
  intro hM g p l e R s m args below meth c Z F E H locs cells slots la hP hS hc hs hl
  obtain ⟨hd, -, e1, e2⟩ := hM.entry h
  have e2 := e2 rfl
  have hn := hn.2 hM g p l e R s m args below meth c Z F E H locs cells slots la hP hS hc hs hl
  rw [e2] at hn
  rw [e1]
  exact lv_ineg F.1 F.2.1 hd hn
theorem Rn.ladd {d kc ks : Nat} {M : Mt} {k pc : Nat} {z : List Nat} {ls : List (Option Value)} {st : List Value} {S : Sg} {r : Option Value} {S' : Sg} {x y : Int64} (h : M.2.2.2.2.2[k]? = some (pc, .ladd, 1, z))  (hn : Rn d kc ks M (k + 1) ls (.long (x + y) :: st) S r S') : Rn d kc ks M k ls (.long y :: .long x :: st) S r S' := by
  refine ⟨hn.1, ?_⟩
  intro hM g p l e R s m args below meth c Z F E H locs cells slots la hP hS hc hs hl
  obtain ⟨hd, -, e1, e2⟩ := hM.entry h
  have e2 := e2 rfl
  have hn := hn.2 hM g p l e R s m args below meth c Z F E H locs cells slots la hP hS hc hs hl
  rw [e2] at hn
  rw [e1]
  exact lv_ladd F.1 F.2.1 hd hn
theorem Rn.lsub {d kc ks : Nat} {M : Mt} {k pc : Nat} {z : List Nat} {ls : List (Option Value)} {st : List Value} {S : Sg} {r : Option Value} {S' : Sg} {x y : Int64} (h : M.2.2.2.2.2[k]? = some (pc, .lsub, 1, z))  (hn : Rn d kc ks M (k + 1) ls (.long (x - y) :: st) S r S') : Rn d kc ks M k ls (.long y :: .long x :: st) S r S' := by
  refine ⟨hn.1, ?_⟩
  intro hM g p l e R s m args below meth c Z F E H locs cells slots la hP hS hc hs hl
  obtain ⟨hd, -, e1, e2⟩ := hM.entry h
  have e2 := e2 rfl
  have hn := hn.2 hM g p l e R s m args below meth c Z F E H locs cells slots la hP hS hc hs hl
  rw [e2] at hn
  rw [e1]
  exact lv_lsub F.1 F.2.1 hd hn
theorem Rn.lmul {d kc ks : Nat} {M : Mt} {k pc : Nat} {z : List Nat} {ls : List (Option Value)} {st : List Value} {S : Sg} {r : Option Value} {S' : Sg} {x y : Int64} (h : M.2.2.2.2.2[k]? = some (pc, .lmul, 1, z))  (hn : Rn d kc ks M (k + 1) ls (.long (x * y) :: st) S r S') : Rn d kc ks M k ls (.long y :: .long x :: st) S r S' := by
  refine ⟨hn.1, ?_⟩
  intro hM g p l e R s m args below meth c Z F E H locs cells slots la hP hS hc hs hl
  obtain ⟨hd, -, e1, e2⟩ := hM.entry h
  have e2 := e2 rfl
  have hn := hn.2 hM g p l e R s m args below meth c Z F E H locs cells slots la hP hS hc hs hl
  rw [e2] at hn
  rw [e1]
  exact lv_lmul F.1 F.2.1 hd hn
theorem Rn.ldiv {d kc ks : Nat} {M : Mt} {k pc : Nat} {z : List Nat} {ls : List (Option Value)} {st : List Value} {S : Sg} {r : Option Value} {S' : Sg} {x y : Int64} (h : M.2.2.2.2.2[k]? = some (pc, .ldiv, 1, z)) (hne : ¬ y = 0) (hn : Rn d kc ks M (k + 1) ls (.long (x / y) :: st) S r S') : Rn d kc ks M k ls (.long y :: .long x :: st) S r S' := by
  refine ⟨hn.1, ?_⟩
  intro hM g p l e R s m args below meth c Z F E H locs cells slots la hP hS hc hs hl
  obtain ⟨hd, -, e1, e2⟩ := hM.entry h
  have e2 := e2 rfl
  have hn := hn.2 hM g p l e R s m args below meth c Z F E H locs cells slots la hP hS hc hs hl
  rw [e2] at hn
  rw [e1]
  exact lv_ldiv F.1 F.2.1 hd hne hn
theorem Rn.lrem {d kc ks : Nat} {M : Mt} {k pc : Nat} {z : List Nat} {ls : List (Option Value)} {st : List Value} {S : Sg} {r : Option Value} {S' : Sg} {x y : Int64} (h : M.2.2.2.2.2[k]? = some (pc, .lrem, 1, z)) (hne : ¬ y = 0) (hn : Rn d kc ks M (k + 1) ls (.long (x - x / y * y) :: st) S r S') : Rn d kc ks M k ls (.long y :: .long x :: st) S r S' := by
  refine ⟨hn.1, ?_⟩
  intro hM g p l e R s m args below meth c Z F E H locs cells slots la hP hS hc hs hl
  obtain ⟨hd, -, e1, e2⟩ := hM.entry h
  have e2 := e2 rfl
  have hn := hn.2 hM g p l e R s m args below meth c Z F E H locs cells slots la hP hS hc hs hl
  rw [e2] at hn
  rw [e1]
  exact lv_lrem F.1 F.2.1 hd hne hn
theorem Rn.lcmp {d kc ks : Nat} {M : Mt} {k pc : Nat} {z : List Nat} {ls : List (Option Value)} {st : List Value} {S : Sg} {r : Option Value} {S' : Sg} {x y : Int64} (h : M.2.2.2.2.2[k]? = some (pc, .lcmp, 1, z))  (hn : Rn d kc ks M (k + 1) ls (.int (lg_cmp x y) :: st) S r S') : Rn d kc ks M k ls (.long y :: .long x :: st) S r S' := by
  refine ⟨hn.1, ?_⟩
  intro hM g p l e R s m args below meth c Z F E H locs cells slots la hP hS hc hs hl
  obtain ⟨hd, -, e1, e2⟩ := hM.entry h
  have e2 := e2 rfl
  have hn := hn.2 hM g p l e R s m args below meth c Z F E H locs cells slots la hP hS hc hs hl
  rw [e2] at hn
  rw [e1]
  exact W.lcmp F.1 F.2.1 hd hn
theorem Rn.i2l {d kc ks : Nat} {M : Mt} {k pc : Nat} {z : List Nat} {ls : List (Option Value)} {st : List Value} {S : Sg} {r : Option Value} {S' : Sg} {x : Int32} (h : M.2.2.2.2.2[k]? = some (pc, .i2l, 1, z))  (hn : Rn d kc ks M (k + 1) ls (.long x.toInt64 :: st) S r S') : Rn d kc ks M k ls (.int x :: st) S r S' := by
  refine ⟨hn.1, ?_⟩
  intro hM g p l e R s m args below meth c Z F E H locs cells slots la hP hS hc hs hl
  obtain ⟨hd, -, e1, e2⟩ := hM.entry h
  have e2 := e2 rfl
  have hn := hn.2 hM g p l e R s m args below meth c Z F E H locs cells slots la hP hS hc hs hl
  rw [e2] at hn
  rw [e1]
  exact lv_i2l F.1 F.2.1 hd rfl hn
theorem Rn.l2i {d kc ks : Nat} {M : Mt} {k pc : Nat} {z : List Nat} {ls : List (Option Value)} {st : List Value} {S : Sg} {r : Option Value} {S' : Sg} {x : Int64} (h : M.2.2.2.2.2[k]? = some (pc, .l2i, 1, z))  (hn : Rn d kc ks M (k + 1) ls (.int x.toInt32 :: st) S r S') : Rn d kc ks M k ls (.long x :: st) S r S' := by
  refine ⟨hn.1, ?_⟩
  intro hM g p l e R s m args below meth c Z F E H locs cells slots la hP hS hc hs hl
  obtain ⟨hd, -, e1, e2⟩ := hM.entry h
  have e2 := e2 rfl
  have hn := hn.2 hM g p l e R s m args below meth c Z F E H locs cells slots la hP hS hc hs hl
  rw [e2] at hn
  rw [e1]
  exact lv_l2i F.1 F.2.1 hd rfl hn
theorem Rn.i2b {d kc ks : Nat} {M : Mt} {k pc : Nat} {z : List Nat} {ls : List (Option Value)} {st : List Value} {S : Sg} {r : Option Value} {S' : Sg} {x : Int32} (h : M.2.2.2.2.2[k]? = some (pc, .i2b, 1, z))  (hn : Rn d kc ks M (k + 1) ls (.int x.toInt8.toInt32 :: st) S r S') : Rn d kc ks M k ls (.int x :: st) S r S' := by
  refine ⟨hn.1, ?_⟩
  intro hM g p l e R s m args below meth c Z F E H locs cells slots la hP hS hc hs hl
  obtain ⟨hd, -, e1, e2⟩ := hM.entry h
  have e2 := e2 rfl
  have hn := hn.2 hM g p l e R s m args below meth c Z F E H locs cells slots la hP hS hc hs hl
  rw [e2] at hn
  rw [e1]
  exact lv_i2b F.1 F.2.1 hd rfl hn
theorem Rn.i2c {d kc ks : Nat} {M : Mt} {k pc : Nat} {z : List Nat} {ls : List (Option Value)} {st : List Value} {S : Sg} {r : Option Value} {S' : Sg} {x : Int32} (h : M.2.2.2.2.2[k]? = some (pc, .i2c, 1, z))  (hn : Rn d kc ks M (k + 1) ls (.int (x.toUInt32 % 65536).toInt32 :: st) S r S') : Rn d kc ks M k ls (.int x :: st) S r S' := by
  refine ⟨hn.1, ?_⟩
  intro hM g p l e R s m args below meth c Z F E H locs cells slots la hP hS hc hs hl
  obtain ⟨hd, -, e1, e2⟩ := hM.entry h
  have e2 := e2 rfl
  have hn := hn.2 hM g p l e R s m args below meth c Z F E H locs cells slots la hP hS hc hs hl
  rw [e2] at hn
  rw [e1]
  exact lv_i2c F.1 F.2.1 hd rfl hn
theorem Rn.iconst {d kc ks : Nat} {M : Mt} {k pc : Nat} {z : List Nat} {ls : List (Option Value)} {st : List Value} {S : Sg} {r : Option Value} {S' : Sg} {n : Int} {v : Int32} (h : M.2.2.2.2.2[k]? = some (pc, .iconst n, 1, z)) (hv : Int32.ofInt n = v) (hn : Rn d kc ks M (k + 1) ls (.int v :: st) S r S') : Rn d kc ks M k ls st S r S' := by
  refine ⟨hn.1, ?_⟩
  intro hM g p l e R s m args below meth c Z F E H locs cells slots la hP hS hc hs hl
  obtain ⟨hd, -, e1, e2⟩ := hM.entry h
  have e2 := e2 rfl
  have hn := hn.2 hM g p l e R s m args below meth c Z F E H locs cells slots la hP hS hc hs hl
  rw [e2] at hn
  rw [e1]
  exact lv_iconst F.1 F.2.1 hd hv hn
theorem Rn.bipush {d kc ks : Nat} {M : Mt} {k pc : Nat} {z : List Nat} {ls : List (Option Value)} {st : List Value} {S : Sg} {r : Option Value} {S' : Sg} {n : Int} {v : Int32} (h : M.2.2.2.2.2[k]? = some (pc, .bipush n, 2, z)) (hv : (Int8.ofInt n).toInt32 = v) (hn : Rn d kc ks M (k + 1) ls (.int v :: st) S r S') : Rn d kc ks M k ls st S r S' := by
  refine ⟨hn.1, ?_⟩
  intro hM g p l e R s m args below meth c Z F E H locs cells slots la hP hS hc hs hl
  obtain ⟨hd, -, e1, e2⟩ := hM.entry h
  have e2 := e2 rfl
  have hn := hn.2 hM g p l e R s m args below meth c Z F E H locs cells slots la hP hS hc hs hl
  rw [e2] at hn
  rw [e1]
  exact lv_bipush F.1 F.2.1 hd hv hn
theorem Rn.sipush {d kc ks : Nat} {M : Mt} {k pc : Nat} {z : List Nat} {ls : List (Option Value)} {st : List Value} {S : Sg} {r : Option Value} {S' : Sg} {n : Int} {v : Int32} (h : M.2.2.2.2.2[k]? = some (pc, .sipush n, 3, z)) (hv : (Int16.ofInt n).toInt32 = v) (hn : Rn d kc ks M (k + 1) ls (.int v :: st) S r S') : Rn d kc ks M k ls st S r S' := by
  refine ⟨hn.1, ?_⟩
  intro hM g p l e R s m args below meth c Z F E H locs cells slots la hP hS hc hs hl
  obtain ⟨hd, -, e1, e2⟩ := hM.entry h
  have e2 := e2 rfl
  have hn := hn.2 hM g p l e R s m args below meth c Z F E H locs cells slots la hP hS hc hs hl
  rw [e2] at hn
  rw [e1]
  exact lv_sipush F.1 F.2.1 hd hv hn
theorem Rn.lconst {d kc ks : Nat} {M : Mt} {k pc : Nat} {z : List Nat} {ls : List (Option Value)} {st : List Value} {S : Sg} {r : Option Value} {S' : Sg} {n : Fin 2} {v : Int64} (h : M.2.2.2.2.2[k]? = some (pc, .lconst n, 1, z)) (hv : Int64.ofNat (n : Nat) = v) (hn : Rn d kc ks M (k + 1) ls (.long v :: st) S r S') : Rn d kc ks M k ls st S r S' := by
  refine ⟨hn.1, ?_⟩
  intro hM g p l e R s m args below meth c Z F E H locs cells slots la hP hS hc hs hl
  obtain ⟨hd, -, e1, e2⟩ := hM.entry h
  have e2 := e2 rfl
  have hn := hn.2 hM g p l e R s m args below meth c Z F E H locs cells slots la hP hS hc hs hl
  rw [e2] at hn
  rw [e1]
  exact lv_lconst F.1 F.2.1 hd hv hn
theorem Rn.null {d kc ks : Nat} {M : Mt} {k pc : Nat} {z : List Nat} {ls : List (Option Value)} {st : List Value} {S : Sg} {r : Option Value} {S' : Sg}  (h : M.2.2.2.2.2[k]? = some (pc, .aconst_null, 1, z))  (hn : Rn d kc ks M (k + 1) ls (.null :: st) S r S') : Rn d kc ks M k ls st S r S' := by
  refine ⟨hn.1, ?_⟩
  intro hM g p l e R s m args below meth c Z F E H locs cells slots la hP hS hc hs hl
  obtain ⟨hd, -, e1, e2⟩ := hM.entry h
  have e2 := e2 rfl
  have hn := hn.2 hM g p l e R s m args below meth c Z F E H locs cells slots la hP hS hc hs hl
  rw [e2] at hn
  rw [e1]
  exact lv_null F.1 F.2.1 hd hn
theorem Rn.dup {d kc ks : Nat} {M : Mt} {k pc : Nat} {z : List Nat} {ls : List (Option Value)} {st : List Value} {S : Sg} {r : Option Value} {S' : Sg} {v : Value} (h : M.2.2.2.2.2[k]? = some (pc, .dup, 1, z)) (hv : v.category = 1) (hn : Rn d kc ks M (k + 1) ls (v :: v :: st) S r S') : Rn d kc ks M k ls (v :: st) S r S' := by
  refine ⟨hn.1, ?_⟩
  intro hM g p l e R s m args below meth c Z F E H locs cells slots la hP hS hc hs hl
  obtain ⟨hd, -, e1, e2⟩ := hM.entry h
  have e2 := e2 rfl
  have hn := hn.2 hM g p l e R s m args below meth c Z F E H locs cells slots la hP hS hc hs hl
  rw [e2] at hn
  rw [e1]
  exact lv_dup F.1 F.2.1 hd (by rw [xv_cat]; exact hv) hn
theorem Rn.pop {d kc ks : Nat} {M : Mt} {k pc : Nat} {z : List Nat} {ls : List (Option Value)} {st : List Value} {S : Sg} {r : Option Value} {S' : Sg} {v : Value} (h : M.2.2.2.2.2[k]? = some (pc, .pop, 1, z)) (hv : v.category = 1) (hn : Rn d kc ks M (k + 1) ls st S r S') : Rn d kc ks M k ls (v :: st) S r S' := by
  refine ⟨hn.1, ?_⟩
  intro hM g p l e R s m args below meth c Z F E H locs cells slots la hP hS hc hs hl
  obtain ⟨hd, -, e1, e2⟩ := hM.entry h
  have e2 := e2 rfl
  have hn := hn.2 hM g p l e R s m args below meth c Z F E H locs cells slots la hP hS hc hs hl
  rw [e2] at hn
  rw [e1]
  exact lv_pop F.1 F.2.1 hd (by rw [xv_cat]; exact hv) hn
theorem Rn.dup2 {d kc ks : Nat} {M : Mt} {k pc : Nat} {z : List Nat} {ls : List (Option Value)} {st : List Value} {S : Sg} {r : Option Value} {S' : Sg} {v w : Value} (h : M.2.2.2.2.2[k]? = some (pc, .dup2, 1, z)) (hv : v.category = 1) (hw : w.category = 1) (hn : Rn d kc ks M (k + 1) ls (v :: w :: v :: w :: st) S r S') : Rn d kc ks M k ls (v :: w :: st) S r S' := by
  refine ⟨hn.1, ?_⟩
  intro hM g p l e R s m args below meth c Z F E H locs cells slots la hP hS hc hs hl
  obtain ⟨hd, -, e1, e2⟩ := hM.entry h
  have e2 := e2 rfl
  have hn := hn.2 hM g p l e R s m args below meth c Z F E H locs cells slots la hP hS hc hs hl
  rw [e2] at hn
  rw [e1]
  exact lv_dup2_11 F.1 F.2.1 hd (by rw [xv_cat]; exact hv) (by rw [xv_cat]; exact hw) hn
theorem Rn.ldc {d kc ks : Nat} {M : Mt} {k pc : Nat} {z : List Nat} {ls : List (Option Value)} {st : List Value} {S : Sg} {r : Option Value} {S' : Sg} {i : Nat} {v : Int32} (h : M.2.2.2.2.2[k]? = some (pc, .ldc i, 2, z)) (hw : Cond.constant M.1.cls i v ∈ wT) (hn : Rn d kc ks M (k + 1) ls (.int v :: st) S r S') : Rn d kc ks M k ls st S r S' := by
  refine ⟨hn.1, ?_⟩
  intro hM g p l e R s m args below meth c Z F E H locs cells slots la hP hS hc hs hl
  obtain ⟨hd, -, e1, e2⟩ := hM.entry h
  have e2 := e2 rfl
  have hn := hn.2 hM g p l e R s m args below meth c Z F E H locs cells slots la hP hS hc hs hl
  rw [e2] at hn
  rw [e1]
  exact lv_ldc F.1 F.2.1 F.2.2.2.1 (F.2.2.2.2.1 _ hw) hd hn
theorem Rn.ldcw {d kc ks : Nat} {M : Mt} {k pc : Nat} {z : List Nat} {ls : List (Option Value)} {st : List Value} {S : Sg} {r : Option Value} {S' : Sg} {i : Nat} {v : Int32} (h : M.2.2.2.2.2[k]? = some (pc, .ldc_w i, 3, z)) (hw : Cond.constant M.1.cls i v ∈ wT) (hn : Rn d kc ks M (k + 1) ls (.int v :: st) S r S') : Rn d kc ks M k ls st S r S' := by
  refine ⟨hn.1, ?_⟩
  intro hM g p l e R s m args below meth c Z F E H locs cells slots la hP hS hc hs hl
  obtain ⟨hd, -, e1, e2⟩ := hM.entry h
  have e2 := e2 rfl
  have hn := hn.2 hM g p l e R s m args below meth c Z F E H locs cells slots la hP hS hc hs hl
  rw [e2] at hn
  rw [e1]
  exact lv_ldcw F.1 F.2.1 F.2.2.2.1 (F.2.2.2.2.1 _ hw) hd hn
theorem Rn.ldc2 {d kc ks : Nat} {M : Mt} {k pc : Nat} {z : List Nat} {ls : List (Option Value)} {st : List Value} {S : Sg} {r : Option Value} {S' : Sg} {i : Nat} {v : Int64} (h : M.2.2.2.2.2[k]? = some (pc, .ldc2_w i, 3, z)) (hw : Cond.constantLong M.1.cls i v ∈ wT) (hn : Rn d kc ks M (k + 1) ls (.long v :: st) S r S') : Rn d kc ks M k ls st S r S' := by
  refine ⟨hn.1, ?_⟩
  intro hM g p l e R s m args below meth c Z F E H locs cells slots la hP hS hc hs hl
  obtain ⟨hd, -, e1, e2⟩ := hM.entry h
  have e2 := e2 rfl
  have hn := hn.2 hM g p l e R s m args below meth c Z F E H locs cells slots la hP hS hc hs hl
  rw [e2] at hn
  rw [e1]
  exact lv_ldc2 F.1 F.2.1 F.2.2.2.1 (F.2.2.2.2.1 _ hw) hd hn
theorem Rn.iload_n {d kc ks : Nat} {M : Mt} {k pc : Nat} {z : List Nat} {ls : List (Option Value)} {st : List Value} {S : Sg} {r : Option Value} {S' : Sg} {i : Fin 4} {x : Int32} (h : M.2.2.2.2.2[k]? = some (pc, .iload_n i, 1, z)) (hv : ls[(i : Nat)]? = some (some (.int x))) (hn : Rn d kc ks M (k + 1) ls (.int x :: st) S r S') : Rn d kc ks M k ls st S r S' := by
  refine ⟨hn.1, ?_⟩
  intro hM g p l e R s m args below meth c Z F E H locs cells slots la hP hS hc hs hl
  obtain ⟨hd, -, e1, e2⟩ := hM.entry h
  have e2 := e2 rfl
  have hn := hn.2 hM g p l e R s m args below meth c Z F E H locs cells slots la hP hS hc hs hl
  rw [e2] at hn
  rw [e1]
  exact lv_iload_n F.1 F.2.1 hd rfl (hl.2.2 _ _ hv) hn
theorem Rn.iload {d kc ks : Nat} {M : Mt} {k pc : Nat} {z : List Nat} {ls : List (Option Value)} {st : List Value} {S : Sg} {r : Option Value} {S' : Sg} {i : Nat} {x : Int32} (h : M.2.2.2.2.2[k]? = some (pc, .iload i, 2, z)) (hv : ls[i]? = some (some (.int x))) (hn : Rn d kc ks M (k + 1) ls (.int x :: st) S r S') : Rn d kc ks M k ls st S r S' := by
  refine ⟨hn.1, ?_⟩
  intro hM g p l e R s m args below meth c Z F E H locs cells slots la hP hS hc hs hl
  obtain ⟨hd, -, e1, e2⟩ := hM.entry h
  have e2 := e2 rfl
  have hn := hn.2 hM g p l e R s m args below meth c Z F E H locs cells slots la hP hS hc hs hl
  rw [e2] at hn
  rw [e1]
  exact lv_iload F.1 F.2.1 hd (hl.2.2 _ _ hv) hn
theorem Rn.lload_n {d kc ks : Nat} {M : Mt} {k pc : Nat} {z : List Nat} {ls : List (Option Value)} {st : List Value} {S : Sg} {r : Option Value} {S' : Sg} {i : Fin 4} {x : Int64} (h : M.2.2.2.2.2[k]? = some (pc, .lload_n i, 1, z)) (hv : ls[(i : Nat)]? = some (some (.long x))) (hn : Rn d kc ks M (k + 1) ls (.long x :: st) S r S') : Rn d kc ks M k ls st S r S' := by
  refine ⟨hn.1, ?_⟩
  intro hM g p l e R s m args below meth c Z F E H locs cells slots la hP hS hc hs hl
  obtain ⟨hd, -, e1, e2⟩ := hM.entry h
  have e2 := e2 rfl
  have hn := hn.2 hM g p l e R s m args below meth c Z F E H locs cells slots la hP hS hc hs hl
  rw [e2] at hn
  rw [e1]
  exact lv_lload_n F.1 F.2.1 hd rfl (hl.2.2 _ _ hv) hn
theorem Rn.lload {d kc ks : Nat} {M : Mt} {k pc : Nat} {z : List Nat} {ls : List (Option Value)} {st : List Value} {S : Sg} {r : Option Value} {S' : Sg} {i : Nat} {x : Int64} (h : M.2.2.2.2.2[k]? = some (pc, .lload i, 2, z)) (hv : ls[i]? = some (some (.long x))) (hn : Rn d kc ks M (k + 1) ls (.long x :: st) S r S') : Rn d kc ks M k ls st S r S' := by
  refine ⟨hn.1, ?_⟩
  intro hM g p l e R s m args below meth c Z F E H locs cells slots la hP hS hc hs hl
  obtain ⟨hd, -, e1, e2⟩ := hM.entry h
  have e2 := e2 rfl
  have hn := hn.2 hM g p l e R s m args below meth c Z F E H locs cells slots la hP hS hc hs hl
  rw [e2] at hn
  rw [e1]
  exact lv_lload F.1 F.2.1 hd (hl.2.2 _ _ hv) hn
theorem Rn.aload_n {d kc ks : Nat} {M : Mt} {k pc : Nat} {z : List Nat} {ls : List (Option Value)} {st : List Value} {S : Sg} {r : Option Value} {S' : Sg} {i : Fin 4} {x : Nat} (h : M.2.2.2.2.2[k]? = some (pc, .aload_n i, 1, z)) (hv : ls[(i : Nat)]? = some (some (.ref x))) (hn : Rn d kc ks M (k + 1) ls (.ref x :: st) S r S') : Rn d kc ks M k ls st S r S' := by
  refine ⟨hn.1, ?_⟩
  intro hM g p l e R s m args below meth c Z F E H locs cells slots la hP hS hc hs hl
  obtain ⟨hd, -, e1, e2⟩ := hM.entry h
  have e2 := e2 rfl
  have hn := hn.2 hM g p l e R s m args below meth c Z F E H locs cells slots la hP hS hc hs hl
  rw [e2] at hn
  rw [e1]
  exact lv_aload_n F.1 F.2.1 hd rfl (hl.2.2 _ _ hv) hn
theorem Rn.aload {d kc ks : Nat} {M : Mt} {k pc : Nat} {z : List Nat} {ls : List (Option Value)} {st : List Value} {S : Sg} {r : Option Value} {S' : Sg} {i : Nat} {x : Nat} (h : M.2.2.2.2.2[k]? = some (pc, .aload i, 2, z)) (hv : ls[i]? = some (some (.ref x))) (hn : Rn d kc ks M (k + 1) ls (.ref x :: st) S r S') : Rn d kc ks M k ls st S r S' := by
  refine ⟨hn.1, ?_⟩
  intro hM g p l e R s m args below meth c Z F E H locs cells slots la hP hS hc hs hl
  obtain ⟨hd, -, e1, e2⟩ := hM.entry h
  have e2 := e2 rfl
  have hn := hn.2 hM g p l e R s m args below meth c Z F E H locs cells slots la hP hS hc hs hl
  rw [e2] at hn
  rw [e1]
  exact lv_aload F.1 F.2.1 hd (hl.2.2 _ _ hv) hn
theorem Rn.aload_nN {d kc ks : Nat} {M : Mt} {k pc : Nat} {z : List Nat} {ls : List (Option Value)} {st : List Value} {S : Sg} {r : Option Value} {S' : Sg} {i : Fin 4} (h : M.2.2.2.2.2[k]? = some (pc, .aload_n i, 1, z)) (hv : ls[(i : Nat)]? = some (some .null)) (hn : Rn d kc ks M (k + 1) ls (.null :: st) S r S') : Rn d kc ks M k ls st S r S' := by
  refine ⟨hn.1, ?_⟩
  intro hM g p l e R s m args below meth c Z F E H locs cells slots la hP hS hc hs hl
  obtain ⟨hd, -, e1, e2⟩ := hM.entry h
  have e2 := e2 rfl
  have hn := hn.2 hM g p l e R s m args below meth c Z F E H locs cells slots la hP hS hc hs hl
  rw [e2] at hn
  rw [e1]
  exact lv_aload_nN F.1 F.2.1 hd rfl (hl.2.2 _ _ hv) hn
theorem Rn.aloadN {d kc ks : Nat} {M : Mt} {k pc : Nat} {z : List Nat} {ls : List (Option Value)} {st : List Value} {S : Sg} {r : Option Value} {S' : Sg} {i : Nat} (h : M.2.2.2.2.2[k]? = some (pc, .aload i, 2, z)) (hv : ls[i]? = some (some .null)) (hn : Rn d kc ks M (k + 1) ls (.null :: st) S r S') : Rn d kc ks M k ls st S r S' := by
  refine ⟨hn.1, ?_⟩
  intro hM g p l e R s m args below meth c Z F E H locs cells slots la hP hS hc hs hl
  obtain ⟨hd, -, e1, e2⟩ := hM.entry h
  have e2 := e2 rfl
  have hn := hn.2 hM g p l e R s m args below meth c Z F E H locs cells slots la hP hS hc hs hl
  rw [e2] at hn
  rw [e1]
  exact lv_aloadN F.1 F.2.1 hd (hl.2.2 _ _ hv) hn
theorem Rn.istore_n {d kc ks : Nat} {M : Mt} {k pc : Nat} {z : List Nat} {ls : List (Option Value)} {st : List Value} {S : Sg} {r : Option Value} {S' : Sg} {i : Fin 4} {x : Int32} (h : M.2.2.2.2.2[k]? = some (pc, .istore_n i, 1, z)) (hi : (i : Nat) < M.2.2.1) (ho : okS ls (i : Nat) = true) (hn : Rn d kc ks M (k + 1) (ls.set (i : Nat) (some (.int x))) st S r S') : Rn d kc ks M k ls (.int x :: st) S r S' := by
  refine ⟨hn.1, ?_⟩
  intro hM g p l e R s m args below meth c Z F E H locs cells slots la hP hS hc hs hl
  obtain ⟨hd, -, e1, e2⟩ := hM.entry h
  have e2 := e2 rfl
  rw [e1]
  refine lv_istore_n F.1 F.2.1 hd rfl hl.has hi rfl (fun la' hl' => ?_)
  have hn := hn.2 hM g p l e R s m args below meth c Z F E H locs cells slots la' hP hS hc hs (xL.set1 (v := .int x) hl' ho)
  rw [e2] at hn
  exact hn
theorem Rn.istore {d kc ks : Nat} {M : Mt} {k pc : Nat} {z : List Nat} {ls : List (Option Value)} {st : List Value} {S : Sg} {r : Option Value} {S' : Sg} {i : Nat} {x : Int32} (h : M.2.2.2.2.2[k]? = some (pc, .istore i, 2, z)) (hi : (i : Nat) < M.2.2.1) (ho : okS ls (i : Nat) = true) (hn : Rn d kc ks M (k + 1) (ls.set (i : Nat) (some (.int x))) st S r S') : Rn d kc ks M k ls (.int x :: st) S r S' := by
  refine ⟨hn.1, ?_⟩
  intro hM g p l e R s m args below meth c Z F E H locs cells slots la hP hS hc hs hl
  obtain ⟨hd, -, e1, e2⟩ := hM.entry h
  have e2 := e2 rfl
  rw [e1]
  refine lv_istore F.1 F.2.1 hd hl.has hi rfl (fun la' hl' => ?_)
  have hn := hn.2 hM g p l e R s m args below meth c Z F E H locs cells slots la' hP hS hc hs (xL.set1 (v := .int x) hl' ho)
  rw [e2] at hn
  exact hn
theorem Rn.lstore_n {d kc ks : Nat} {M : Mt} {k pc : Nat} {z : List Nat} {ls : List (Option Value)} {st : List Value} {S : Sg} {r : Option Value} {S' : Sg} {i : Fin 4} {x : Int64} (h : M.2.2.2.2.2[k]? = some (pc, .lstore_n i, 1, z)) (hi : (i : Nat) + 1 < M.2.2.1) (ho : okS ls (i : Nat) = true) (hn : Rn d kc ks M (k + 1) ((ls.set (i : Nat) (some (.long x))).set ((i : Nat) + 1) none) st S r S') : Rn d kc ks M k ls (.long x :: st) S r S' := by
  refine ⟨hn.1, ?_⟩
  intro hM g p l e R s m args below meth c Z F E H locs cells slots la hP hS hc hs hl
  obtain ⟨hd, -, e1, e2⟩ := hM.entry h
  have e2 := e2 rfl
  rw [e1]
  refine lv_lstore_n F.1 F.2.1 hd rfl hl.has hi rfl (fun la' hl' => ?_)
  have hn := hn.2 hM g p l e R s m args below meth c Z F E H locs cells slots la' hP hS hc hs (xL.set2 (v := .long x) hl' ho)
  rw [e2] at hn
  exact hn
theorem Rn.lstore {d kc ks : Nat} {M : Mt} {k pc : Nat} {z : List Nat} {ls : List (Option Value)} {st : List Value} {S : Sg} {r : Option Value} {S' : Sg} {i : Nat} {x : Int64} (h : M.2.2.2.2.2[k]? = some (pc, .lstore i, 2, z)) (hi : (i : Nat) + 1 < M.2.2.1) (ho : okS ls (i : Nat) = true) (hn : Rn d kc ks M (k + 1) ((ls.set (i : Nat) (some (.long x))).set ((i : Nat) + 1) none) st S r S') : Rn d kc ks M k ls (.long x :: st) S r S' := by
  refine ⟨hn.1, ?_⟩
  intro hM g p l e R s m args below meth c Z F E H locs cells slots la hP hS hc hs hl
  obtain ⟨hd, -, e1, e2⟩ := hM.entry h
  have e2 := e2 rfl
  rw [e1]
  refine lv_lstore F.1 F.2.1 hd hl.has hi rfl (fun la' hl' => ?_)
  have hn := hn.2 hM g p l e R s m args below meth c Z F E H locs cells slots la' hP hS hc hs (xL.set2 (v := .long x) hl' ho)
  rw [e2] at hn
  exact hn
theorem Rn.astore_n {d kc ks : Nat} {M : Mt} {k pc : Nat} {z : List Nat} {ls : List (Option Value)} {st : List Value} {S : Sg} {r : Option Value} {S' : Sg} {i : Fin 4} {x : Nat} (h : M.2.2.2.2.2[k]? = some (pc, .astore_n i, 1, z)) (hi : (i : Nat) < M.2.2.1) (ho : okS ls (i : Nat) = true) (hn : Rn d kc ks M (k + 1) (ls.set (i : Nat) (some (.ref x))) st S r S') : Rn d kc ks M k ls (.ref x :: st) S r S' := by
  refine ⟨hn.1, ?_⟩
  intro hM g p l e R s m args below meth c Z F E H locs cells slots la hP hS hc hs hl
  obtain ⟨hd, -, e1, e2⟩ := hM.entry h
  have e2 := e2 rfl
  rw [e1]
  refine lv_astore_n F.1 F.2.1 hd rfl hl.has hi rfl (fun la' hl' => ?_)
  have hn := hn.2 hM g p l e R s m args below meth c Z F E H locs cells slots la' hP hS hc hs (xL.set1 (v := .ref x) hl' ho)
  rw [e2] at hn
  exact hn
theorem Rn.astore {d kc ks : Nat} {M : Mt} {k pc : Nat} {z : List Nat} {ls : List (Option Value)} {st : List Value} {S : Sg} {r : Option Value} {S' : Sg} {i : Nat} {x : Nat} (h : M.2.2.2.2.2[k]? = some (pc, .astore i, 2, z)) (hi : (i : Nat) < M.2.2.1) (ho : okS ls (i : Nat) = true) (hn : Rn d kc ks M (k + 1) (ls.set (i : Nat) (some (.ref x))) st S r S') : Rn d kc ks M k ls (.ref x :: st) S r S' := by
  refine ⟨hn.1, ?_⟩
  intro hM g p l e R s m args below meth c Z F E H locs cells slots la hP hS hc hs hl
  obtain ⟨hd, -, e1, e2⟩ := hM.entry h
  have e2 := e2 rfl
  rw [e1]
  refine lv_astore F.1 F.2.1 hd hl.has hi rfl (fun la' hl' => ?_)
  have hn := hn.2 hM g p l e R s m args below meth c Z F E H locs cells slots la' hP hS hc hs (xL.set1 (v := .ref x) hl' ho)
  rw [e2] at hn
  exact hn
theorem Rn.astore_nN {d kc ks : Nat} {M : Mt} {k pc : Nat} {z : List Nat} {ls : List (Option Value)} {st : List Value} {S : Sg} {r : Option Value} {S' : Sg} {i : Fin 4} (h : M.2.2.2.2.2[k]? = some (pc, .astore_n i, 1, z)) (hi : (i : Nat) < M.2.2.1) (ho : okS ls (i : Nat) = true) (hn : Rn d kc ks M (k + 1) (ls.set (i : Nat) (some (.null))) st S r S') : Rn d kc ks M k ls (.null :: st) S r S' := by
  refine ⟨hn.1, ?_⟩
  intro hM g p l e R s m args below meth c Z F E H locs cells slots la hP hS hc hs hl
  obtain ⟨hd, -, e1, e2⟩ := hM.entry h
  have e2 := e2 rfl
  rw [e1]
  refine lv_astore_nN F.1 F.2.1 hd rfl hl.has hi rfl (fun la' hl' => ?_)
  have hn := hn.2 hM g p l e R s m args below meth c Z F E H locs cells slots la' hP hS hc hs (xL.set1 (v := .null) hl' ho)
  rw [e2] at hn
  exact hn
theorem Rn.astoreN {d kc ks : Nat} {M : Mt} {k pc : Nat} {z : List Nat} {ls : List (Option Value)} {st : List Value} {S : Sg} {r : Option Value} {S' : Sg} {i : Nat} (h : M.2.2.2.2.2[k]? = some (pc, .astore i, 2, z)) (hi : (i : Nat) < M.2.2.1) (ho : okS ls (i : Nat) = true) (hn : Rn d kc ks M (k + 1) (ls.set (i : Nat) (some (.null))) st S r S') : Rn d kc ks M k ls (.null :: st) S r S' := by
  refine ⟨hn.1, ?_⟩
  intro hM g p l e R s m args below meth c Z F E H locs cells slots la hP hS hc hs hl
  obtain ⟨hd, -, e1, e2⟩ := hM.entry h
  have e2 := e2 rfl
  rw [e1]
  refine lv_astoreN F.1 F.2.1 hd hl.has hi rfl (fun la' hl' => ?_)
  have hn := hn.2 hM g p l e R s m args below meth c Z F E H locs cells slots la' hP hS hc hs (xL.set1 (v := .null) hl' ho)
  rw [e2] at hn
  exact hn
theorem Rn.iinc {d kc ks : Nat} {M : Mt} {k pc : Nat} {z : List Nat} {ls : List (Option Value)} {st : List Value} {S : Sg} {r : Option Value} {S' : Sg} {i : Nat} {n : Int} {x v : Int32} (h : M.2.2.2.2.2[k]? = some (pc, .iinc i n, 3, z)) (hx : ls[i]? = some (some (.int x))) (hv : x + Int32.ofInt n = v) (hi : i < M.2.2.1) (ho : okS ls i = true) (hn : Rn d kc ks M (k + 1) (ls.set i (some (.int v))) st S r S') : Rn d kc ks M k ls st S r S' := by
  refine ⟨hn.1, ?_⟩
  intro hM g p l e R s m args below meth c Z F E H locs cells slots la hP hS hc hs hl
  obtain ⟨hd, -, e1, e2⟩ := hM.entry h
  have e2 := e2 rfl
  rw [e1]
  obtain ⟨j, hj⟩ := List.getElem?_of_mem (xp_mem.mpr ⟨_, hx, rfl⟩ : (i, xv g (.int x)) ∈ xp g ls)
  refine lv_iinc F.1 F.2.1 hd hl.has hj hv hi rfl (fun la' hl' => ?_)
  have hn := hn.2 hM g p l e R s m args below meth c Z F E H locs cells slots la' hP hS hc hs (xL.set1 (v := .int v) hl' ho)
  rw [e2] at hn
  exact hn
theorem Rn.if_eq {d kc ks : Nat} {M : Mt} {k pc : Nat} {ls : List (Option Value)} {st : List Value} {S : Sg} {r : Option Value} {S' : Sg} {off : Int} {t : Nat} {x : Int32} (h : M.2.2.2.2.2[k]? = some (pc, .ifCond .eq off, 3, [t])) (kt : x = 0 → Rn d kc ks M t ls st S r S') (kf : ¬ x = 0 → Rn d kc ks M (k + 1) ls st S r S') : Rn d kc ks M k ls (.int x :: st) S r S' := by
  refine ⟨by rcases Classical.em (x = 0) with q | q; exact (kt q).1; first | exact (kf q).1 | exact (kf (Classical.not_not.mp q)).1, ?_⟩
  intro hM g p l e R s m args below meth c Z F E H locs cells slots la hP hS hc hs hl
  obtain ⟨hd, hL, e1, e2⟩ := hM.entry h
  have e2 := e2 rfl
  rw [e1]
  have ht : (pc : Int) + off = (pcAt M t : Int) := of_decide_eq_true hL
  refine lv_if_eq F.1 F.2.1 hd ht (fun q => (kt q).2 hM g p l e R s m args below meth c Z F E H locs cells slots la hP hS hc hs hl) (fun q => ?_)
  have hn := (kf q).2 hM g p l e R s m args below meth c Z F E H locs cells slots la hP hS hc hs hl
  rw [e2] at hn
  exact hn
theorem Rn.if_ne {d kc ks : Nat} {M : Mt} {k pc : Nat} {ls : List (Option Value)} {st : List Value} {S : Sg} {r : Option Value} {S' : Sg} {off : Int} {t : Nat} {x : Int32} (h : M.2.2.2.2.2[k]? = some (pc, .ifCond .ne off, 3, [t])) (kt : ¬ x = 0 → Rn d kc ks M t ls st S r S') (kf : x = 0 → Rn d kc ks M (k + 1) ls st S r S') : Rn d kc ks M k ls (.int x :: st) S r S' := by
  refine ⟨by rcases Classical.em (¬ x = 0) with q | q; exact (kt q).1; first | exact (kf q).1 | exact (kf (Classical.not_not.mp q)).1, ?_⟩
  intro hM g p l e R s m args below meth c Z F E H locs cells slots la hP hS hc hs hl
  obtain ⟨hd, hL, e1, e2⟩ := hM.entry h
  have e2 := e2 rfl
  rw [e1]
  have ht : (pc : Int) + off = (pcAt M t : Int) := of_decide_eq_true hL
  refine lv_if_ne F.1 F.2.1 hd ht (fun q => (kt q).2 hM g p l e R s m args below meth c Z F E H locs cells slots la hP hS hc hs hl) (fun q => ?_)
  have hn := (kf q).2 hM g p l e R s m args below meth c Z F E H locs cells slots la hP hS hc hs hl
  rw [e2] at hn
  exact hn
theorem Rn.if_lt {d kc ks : Nat} {M : Mt} {k pc : Nat} {ls : List (Option Value)} {st : List Value} {S : Sg} {r : Option Value} {S' : Sg} {off : Int} {t : Nat} {x : Int32} (h : M.2.2.2.2.2[k]? = some (pc, .ifCond .lt off, 3, [t])) (kt : x < 0 → Rn d kc ks M t ls st S r S') (kf : ¬ x < 0 → Rn d kc ks M (k + 1) ls st S r S') : Rn d kc ks M k ls (.int x :: st) S r S' := by
  refine ⟨by rcases Classical.em (x < 0) with q | q; exact (kt q).1; first | exact (kf q).1 | exact (kf (Classical.not_not.mp q)).1, ?_⟩
  intro hM g p l e R s m args below meth c Z F E H locs cells slots la hP hS hc hs hl
  obtain ⟨hd, hL, e1, e2⟩ := hM.entry h
  have e2 := e2 rfl
  rw [e1]
  have ht : (pc : Int) + off = (pcAt M t : Int) := of_decide_eq_true hL
  refine lv_if_lt F.1 F.2.1 hd ht (fun q => (kt q).2 hM g p l e R s m args below meth c Z F E H locs cells slots la hP hS hc hs hl) (fun q => ?_)
  have hn := (kf q).2 hM g p l e R s m args below meth c Z F E H locs cells slots la hP hS hc hs hl
  rw [e2] at hn
  exact hn
theorem Rn.if_ge {d kc ks : Nat} {M : Mt} {k pc : Nat} {ls : List (Option Value)} {st : List Value} {S : Sg} {r : Option Value} {S' : Sg} {off : Int} {t : Nat} {x : Int32} (h : M.2.2.2.2.2[k]? = some (pc, .ifCond .ge off, 3, [t])) (kt : 0 ≤ x → Rn d kc ks M t ls st S r S') (kf : ¬ 0 ≤ x → Rn d kc ks M (k + 1) ls st S r S') : Rn d kc ks M k ls (.int x :: st) S r S' := by
  refine ⟨by rcases Classical.em (0 ≤ x) with q | q; exact (kt q).1; first | exact (kf q).1 | exact (kf (Classical.not_not.mp q)).1, ?_⟩
  intro hM g p l e R s m args below meth c Z F E H locs cells slots la hP hS hc hs hl
  obtain ⟨hd, hL, e1, e2⟩ := hM.entry h
  have e2 := e2 rfl
  rw [e1]
  have ht : (pc : Int) + off = (pcAt M t : Int) := of_decide_eq_true hL
  refine lv_if_ge F.1 F.2.1 hd ht (fun q => (kt q).2 hM g p l e R s m args below meth c Z F E H locs cells slots la hP hS hc hs hl) (fun q => ?_)
  have hn := (kf q).2 hM g p l e R s m args below meth c Z F E H locs cells slots la hP hS hc hs hl
  rw [e2] at hn
  exact hn
theorem Rn.if_gt {d kc ks : Nat} {M : Mt} {k pc : Nat} {ls : List (Option Value)} {st : List Value} {S : Sg} {r : Option Value} {S' : Sg} {off : Int} {t : Nat} {x : Int32} (h : M.2.2.2.2.2[k]? = some (pc, .ifCond .gt off, 3, [t])) (kt : 0 < x → Rn d kc ks M t ls st S r S') (kf : ¬ 0 < x → Rn d kc ks M (k + 1) ls st S r S') : Rn d kc ks M k ls (.int x :: st) S r S' := by
  refine ⟨by rcases Classical.em (0 < x) with q | q; exact (kt q).1; first | exact (kf q).1 | exact (kf (Classical.not_not.mp q)).1, ?_⟩
  intro hM g p l e R s m args below meth c Z F E H locs cells slots la hP hS hc hs hl
  obtain ⟨hd, hL, e1, e2⟩ := hM.entry h
  have e2 := e2 rfl
  rw [e1]
  have ht : (pc : Int) + off = (pcAt M t : Int) := of_decide_eq_true hL
  refine lv_if_gt F.1 F.2.1 hd ht (fun q => (kt q).2 hM g p l e R s m args below meth c Z F E H locs cells slots la hP hS hc hs hl) (fun q => ?_)
  have hn := (kf q).2 hM g p l e R s m args below meth c Z F E H locs cells slots la hP hS hc hs hl
  rw [e2] at hn
  exact hn
theorem Rn.if_le {d kc ks : Nat} {M : Mt} {k pc : Nat} {ls : List (Option Value)} {st : List Value} {S : Sg} {r : Option Value} {S' : Sg} {off : Int} {t : Nat} {x : Int32} (h : M.2.2.2.2.2[k]? = some (pc, .ifCond .le off, 3, [t])) (kt : x ≤ 0 → Rn d kc ks M t ls st S r S') (kf : ¬ x ≤ 0 → Rn d kc ks M (k + 1) ls st S r S') : Rn d kc ks M k ls (.int x :: st) S r S' := by
  refine ⟨by rcases Classical.em (x ≤ 0) with q | q; exact (kt q).1; first | exact (kf q).1 | exact (kf (Classical.not_not.mp q)).1, ?_⟩
  intro hM g p l e R s m args below meth c Z F E H locs cells slots la hP hS hc hs hl
  obtain ⟨hd, hL, e1, e2⟩ := hM.entry h
  have e2 := e2 rfl
  rw [e1]
  have ht : (pc : Int) + off = (pcAt M t : Int) := of_decide_eq_true hL
  refine lv_if_le F.1 F.2.1 hd ht (fun q => (kt q).2 hM g p l e R s m args below meth c Z F E H locs cells slots la hP hS hc hs hl) (fun q => ?_)
  have hn := (kf q).2 hM g p l e R s m args below meth c Z F E H locs cells slots la hP hS hc hs hl
  rw [e2] at hn
  exact hn
theorem Rn.icmp_eq {d kc ks : Nat} {M : Mt} {k pc : Nat} {ls : List (Option Value)} {st : List Value} {S : Sg} {r : Option Value} {S' : Sg} {off : Int} {t : Nat} {x y : Int32} (h : M.2.2.2.2.2[k]? = some (pc, .if_icmp .eq off, 3, [t])) (kt : x = y → Rn d kc ks M t ls st S r S') (kf : ¬ x = y → Rn d kc ks M (k + 1) ls st S r S') : Rn d kc ks M k ls (.int y :: .int x :: st) S r S' := by
  refine ⟨by rcases Classical.em (x = y) with q | q; exact (kt q).1; first | exact (kf q).1 | exact (kf (Classical.not_not.mp q)).1, ?_⟩
  intro hM g p l e R s m args below meth c Z F E H locs cells slots la hP hS hc hs hl
  obtain ⟨hd, hL, e1, e2⟩ := hM.entry h
  have e2 := e2 rfl
  rw [e1]
  have ht : (pc : Int) + off = (pcAt M t : Int) := of_decide_eq_true hL
  refine lv_icmp_eq F.1 F.2.1 hd ht (fun q => (kt q).2 hM g p l e R s m args below meth c Z F E H locs cells slots la hP hS hc hs hl) (fun q => ?_)
  have hn := (kf q).2 hM g p l e R s m args below meth c Z F E H locs cells slots la hP hS hc hs hl
  rw [e2] at hn
  exact hn
theorem Rn.icmp_ne {d kc ks : Nat} {M : Mt} {k pc : Nat} {ls : List (Option Value)} {st : List Value} {S : Sg} {r : Option Value} {S' : Sg} {off : Int} {t : Nat} {x y : Int32} (h : M.2.2.2.2.2[k]? = some (pc, .if_icmp .ne off, 3, [t])) (kt : ¬ x = y → Rn d kc ks M t ls st S r S') (kf : x = y → Rn d kc ks M (k + 1) ls st S r S') : Rn d kc ks M k ls (.int y :: .int x :: st) S r S' := by
  refine ⟨by rcases Classical.em (¬ x = y) with q | q; exact (kt q).1; first | exact (kf q).1 | exact (kf (Classical.not_not.mp q)).1, ?_⟩
  intro hM g p l e R s m args below meth c Z F E H locs cells slots la hP hS hc hs hl
  obtain ⟨hd, hL, e1, e2⟩ := hM.entry h
  have e2 := e2 rfl
  rw [e1]
  have ht : (pc : Int) + off = (pcAt M t : Int) := of_decide_eq_true hL
  refine lv_icmp_ne F.1 F.2.1 hd ht (fun q => (kt q).2 hM g p l e R s m args below meth c Z F E H locs cells slots la hP hS hc hs hl) (fun q => ?_)
  have hn := (kf q).2 hM g p l e R s m args below meth c Z F E H locs cells slots la hP hS hc hs hl
  rw [e2] at hn
  exact hn
theorem Rn.icmp_lt {d kc ks : Nat} {M : Mt} {k pc : Nat} {ls : List (Option Value)} {st : List Value} {S : Sg} {r : Option Value} {S' : Sg} {off : Int} {t : Nat} {x y : Int32} (h : M.2.2.2.2.2[k]? = some (pc, .if_icmp .lt off, 3, [t])) (kt : x < y → Rn d kc ks M t ls st S r S') (kf : ¬ x < y → Rn d kc ks M (k + 1) ls st S r S') : Rn d kc ks M k ls (.int y :: .int x :: st) S r S' := by
  refine ⟨by rcases Classical.em (x < y) with q | q; exact (kt q).1; first | exact (kf q).1 | exact (kf (Classical.not_not.mp q)).1, ?_⟩
  intro hM g p l e R s m args below meth c Z F E H locs cells slots la hP hS hc hs hl
  obtain ⟨hd, hL, e1, e2⟩ := hM.entry h
  have e2 := e2 rfl
  rw [e1]
  have ht : (pc : Int) + off = (pcAt M t : Int) := of_decide_eq_true hL
  refine lv_icmp_lt F.1 F.2.1 hd ht (fun q => (kt q).2 hM g p l e R s m args below meth c Z F E H locs cells slots la hP hS hc hs hl) (fun q => ?_)
  have hn := (kf q).2 hM g p l e R s m args below meth c Z F E H locs cells slots la hP hS hc hs hl
  rw [e2] at hn
  exact hn
theorem Rn.icmp_ge {d kc ks : Nat} {M : Mt} {k pc : Nat} {ls : List (Option Value)} {st : List Value} {S : Sg} {r : Option Value} {S' : Sg} {off : Int} {t : Nat} {x y : Int32} (h : M.2.2.2.2.2[k]? = some (pc, .if_icmp .ge off, 3, [t])) (kt : y ≤ x → Rn d kc ks M t ls st S r S') (kf : ¬ y ≤ x → Rn d kc ks M (k + 1) ls st S r S') : Rn d kc ks M k ls (.int y :: .int x :: st) S r S' := by
  refine ⟨by rcases Classical.em (y ≤ x) with q | q; exact (kt q).1; first | exact (kf q).1 | exact (kf (Classical.not_not.mp q)).1, ?_⟩
  intro hM g p l e R s m args below meth c Z F E H locs cells slots la hP hS hc hs hl
  obtain ⟨hd, hL, e1, e2⟩ := hM.entry h
  have e2 := e2 rfl
  rw [e1]
  have ht : (pc : Int) + off = (pcAt M t : Int) := of_decide_eq_true hL
  refine lv_icmp_ge F.1 F.2.1 hd ht (fun q => (kt q).2 hM g p l e R s m args below meth c Z F E H locs cells slots la hP hS hc hs hl) (fun q => ?_)
  have hn := (kf q).2 hM g p l e R s m args below meth c Z F E H locs cells slots la hP hS hc hs hl
  rw [e2] at hn
  exact hn
theorem Rn.icmp_gt {d kc ks : Nat} {M : Mt} {k pc : Nat} {ls : List (Option Value)} {st : List Value} {S : Sg} {r : Option Value} {S' : Sg} {off : Int} {t : Nat} {x y : Int32} (h : M.2.2.2.2.2[k]? = some (pc, .if_icmp .gt off, 3, [t])) (kt : y < x → Rn d kc ks M t ls st S r S') (kf : ¬ y < x → Rn d kc ks M (k + 1) ls st S r S') : Rn d kc ks M k ls (.int y :: .int x :: st) S r S' := by
  refine ⟨by rcases Classical.em (y < x) with q | q; exact (kt q).1; first | exact (kf q).1 | exact (kf (Classical.not_not.mp q)).1, ?_⟩
  intro hM g p l e R s m args below meth c Z F E H locs cells slots la hP hS hc hs hl
  obtain ⟨hd, hL, e1, e2⟩ := hM.entry h
  have e2 := e2 rfl
  rw [e1]
  have ht : (pc : Int) + off = (pcAt M t : Int) := of_decide_eq_true hL
  refine lv_icmp_gt F.1 F.2.1 hd ht (fun q => (kt q).2 hM g p l e R s m args below meth c Z F E H locs cells slots la hP hS hc hs hl) (fun q => ?_)
  have hn := (kf q).2 hM g p l e R s m args below meth c Z F E H locs cells slots la hP hS hc hs hl
  rw [e2] at hn
  exact hn
theorem Rn.icmp_le {d kc ks : Nat} {M : Mt} {k pc : Nat} {ls : List (Option Value)} {st : List Value} {S : Sg} {r : Option Value} {S' : Sg} {off : Int} {t : Nat} {x y : Int32} (h : M.2.2.2.2.2[k]? = some (pc, .if_icmp .le off, 3, [t])) (kt : x ≤ y → Rn d kc ks M t ls st S r S') (kf : ¬ x ≤ y → Rn d kc ks M (k + 1) ls st S r S') : Rn d kc ks M k ls (.int y :: .int x :: st) S r S' := by
  refine ⟨by rcases Classical.em (x ≤ y) with q | q; exact (kt q).1; first | exact (kf q).1 | exact (kf (Classical.not_not.mp q)).1, ?_⟩
  intro hM g p l e R s m args below meth c Z F E H locs cells slots la hP hS hc hs hl
  obtain ⟨hd, hL, e1, e2⟩ := hM.entry h
  have e2 := e2 rfl
  rw [e1]
  have ht : (pc : Int) + off = (pcAt M t : Int) := of_decide_eq_true hL
  refine lv_icmp_le F.1 F.2.1 hd ht (fun q => (kt q).2 hM g p l e R s m args below meth c Z F E H locs cells slots la hP hS hc hs hl) (fun q => ?_)
  have hn := (kf q).2 hM g p l e R s m args below meth c Z F E H locs cells slots la hP hS hc hs hl
  rw [e2] at hn
  exact hn
theorem Rn.goto {d kc ks : Nat} {M : Mt} {k pc : Nat} {ls : List (Option Value)} {st : List Value} {S : Sg} {r : Option Value} {S' : Sg} {off : Int} {t : Nat} (h : M.2.2.2.2.2[k]? = some (pc, .goto off, 3, [t])) (kt : Rn d kc ks M t ls st S r S') : Rn d kc ks M k ls st S r S' := by
  refine ⟨kt.1, ?_⟩
  intro hM g p l e R s m args below meth c Z F E H locs cells slots la hP hS hc hs hl
  obtain ⟨hd, hL, e1, -⟩ := hM.entry h
  rw [e1]
  have ht : (pc : Int) + off = (pcAt M t : Int) := of_decide_eq_true hL
  exact lv_goto F.1 F.2.1 hd ht (kt.2 hM g p l e R s m args below meth c Z F E H locs cells slots la hP hS hc hs hl)
theorem Rn.ifnonnull {d kc ks : Nat} {M : Mt} {k pc : Nat} {ls : List (Option Value)} {st : List Value} {S : Sg} {r : Option Value} {S' : Sg} {off : Int} {t x : Nat} (h : M.2.2.2.2.2[k]? = some (pc, .ifnonnull off, 3, [t])) (kt : Rn d kc ks M t ls st S r S') : Rn d kc ks M k ls (.ref x :: st) S r S' := by
  refine ⟨kt.1, ?_⟩
  intro hM g p l e R s m args below meth c Z F E H locs cells slots la hP hS hc hs hl
  obtain ⟨hd, hL, e1, -⟩ := hM.entry h
  rw [e1]
  have ht : (pc : Int) + off = (pcAt M t : Int) := of_decide_eq_true hL
  exact lv_ifnonnull F.1 F.2.1 hd ht (kt.2 hM g p l e R s m args below meth c Z F E H locs cells slots la hP hS hc hs hl)
theorem Rn.ifnonnullN {d kc ks : Nat} {M : Mt} {k pc : Nat} {z : List Nat} {ls : List (Option Value)} {st : List Value} {S : Sg} {r : Option Value} {S' : Sg} {off : Int} (h : M.2.2.2.2.2[k]? = some (pc, .ifnonnull off, 3, z))  (hn : Rn d kc ks M (k + 1) ls st S r S') : Rn d kc ks M k ls (.null :: st) S r S' := by
  refine ⟨hn.1, ?_⟩
  intro hM g p l e R s m args below meth c Z F E H locs cells slots la hP hS hc hs hl
  obtain ⟨hd, -, e1, e2⟩ := hM.entry h
  have e2 := e2 rfl
  have hn := hn.2 hM g p l e R s m args below meth c Z F E H locs cells slots la hP hS hc hs hl
  rw [e2] at hn
  rw [e1]
  exact lv_ifnonnullN F.1 F.2.1 hd hn
theorem Rn.tableOut {d kc ks : Nat} {M : Mt} {k pc : Nat} {z : List Nat} {ls : List (Option Value)} {st : List Value} {S : Sg} {r : Option Value} {S' : Sg} {dflt lo hi : Int} {offs : Array Int} {len t : Nat} {x : Int32} (h : M.2.2.2.2.2[k]? = some (pc, .tableswitch dflt lo hi offs, len, z)) (hx : x.toInt < lo ∨ hi < x.toInt) (ht : (pc : Int) + dflt = (pcAt M t : Int)) (kt : Rn d kc ks M t ls st S r S') : Rn d kc ks M k ls (.int x :: st) S r S' := by
  refine ⟨kt.1, ?_⟩
  intro hM g p l e R s m args below meth c Z F E H locs cells slots la hP hS hc hs hl
  obtain ⟨hd, hL, e1, -⟩ := hM.entry h
  rw [e1]
  exact lv_tableOut F.1 F.2.1 hd hx ht (kt.2 hM g p l e R s m args below meth c Z F E H locs cells slots la hP hS hc hs hl)
theorem Rn.tableIn {d kc ks : Nat} {M : Mt} {k pc : Nat} {z : List Nat} {ls : List (Option Value)} {st : List Value} {S : Sg} {r : Option Value} {S' : Sg} {dflt lo hi : Int} {offs : Array Int} {len t : Nat} {x : Int32} {off : Int} (h : M.2.2.2.2.2[k]? = some (pc, .tableswitch dflt lo hi offs, len, z)) (h1 : ¬ x.toInt < lo) (h2 : ¬ hi < x.toInt) (ho : offs[(x.toInt - lo).toNat]? = some off) (ht : (pc : Int) + off = (pcAt M t : Int)) (kt : Rn d kc ks M t ls st S r S') : Rn d kc ks M k ls (.int x :: st) S r S' := by
  refine ⟨kt.1, ?_⟩
  intro hM g p l e R s m args below meth c Z F E H locs cells slots la hP hS hc hs hl
  obtain ⟨hd, hL, e1, -⟩ := hM.entry h
  rw [e1]
  exact lv_tableIn F.1 F.2.1 hd h1 h2 ho ht (kt.2 hM g p l e R s m args below meth c Z F E H locs cells slots la hP hS hc hs hl)
theorem Rn.lookup {d kc ks : Nat} {M : Mt} {k pc : Nat} {z : List Nat} {ls : List (Option Value)} {st : List Value} {S : Sg} {r : Option Value} {S' : Sg} {dflt : Int} {ps : Array (Int × Int)} {len t : Nat} {x : Int32} {off : Int} (h : M.2.2.2.2.2[k]? = some (pc, .lookupswitch dflt ps, len, z)) (hp : (ps.toList.zip (ps.toList.drop 1)).all (fun (a, next) => a.1 < next.1) = true) (ho : Op.lookupswitch.offset ps.toList dflt x.toInt = off) (ht : (pc : Int) + off = (pcAt M t : Int)) (kt : Rn d kc ks M t ls st S r S') : Rn d kc ks M k ls (.int x :: st) S r S' := by
  refine ⟨kt.1, ?_⟩
  intro hM g p l e R s m args below meth c Z F E H locs cells slots la hP hS hc hs hl
  obtain ⟨hd, hL, e1, -⟩ := hM.entry h
  rw [e1]
  exact lv_lookup F.1 F.2.1 hd hp ho ht (kt.2 hM g p l e R s m args below meth c Z F E H locs cells slots la hP hS hc hs hl)
theorem Rn.reti {d kc ks : Nat} {M : Mt} {k pc : Nat} {z : List Nat} {ls : List (Option Value)} {S : Sg} {v : Int32} {ty : FieldType} (h : M.2.2.2.2.2[k]? = some (pc, .ireturn, 1, z)) (ht : M.2.2.2.1 = some ty) (hn : narrow ty (.int v) = .int v) : Rn d kc ks M k ls [.int v] S (some (.int v)) S := by
  refine ⟨xlow.rf, ?_⟩
  intro hM g p l e R s m args below meth c Z F E H locs cells slots la hP hS hc hs hl
  exact E H locs cells slots k la ⟨_, h, rfl, rfl, ty, ht, hn⟩ hP hS (by omega) (by omega)
theorem Rn.retl {d kc ks : Nat} {M : Mt} {k pc : Nat} {z : List Nat} {ls : List (Option Value)} {S : Sg} {v : Int64} (h : M.2.2.2.2.2[k]? = some (pc, .lreturn, 1, z)) (ht : M.2.2.2.1 = some .long) : Rn d kc ks M k ls [.long v] S (some (.long v)) S := by
  refine ⟨xlow.rf, ?_⟩
  intro hM g p l e R s m args below meth c Z F E H locs cells slots la hP hS hc hs hl
  exact E H locs cells slots k la ⟨_, h, rfl, rfl, ht⟩ hP hS (by omega) (by omega)
theorem Rn.reta {d kc ks : Nat} {M : Mt} {k pc a : Nat} {z : List Nat} {ls : List (Option Value)} {S : Sg} {n : String} (h : M.2.2.2.2.2[k]? = some (pc, .areturn, 1, z)) (ht : M.2.2.2.1 = some (.object n)) : Rn d kc ks M k ls [.ref a] S (some (.ref a)) S := by
  refine ⟨xlow.rf, ?_⟩
  intro hM g p l e R s m args below meth c Z F E H locs cells slots la hP hS hc hs hl
  exact E H locs cells slots k la ⟨_, h, rfl, rfl, n, ht⟩ hP hS (by omega) (by omega)
theorem Rn.retN {d kc ks : Nat} {M : Mt} {k pc : Nat} {z : List Nat} {ls : List (Option Value)} {S : Sg} {n : String} (h : M.2.2.2.2.2[k]? = some (pc, .areturn, 1, z)) (ht : M.2.2.2.1 = some (.object n)) : Rn d kc ks M k ls [.null] S (some .null) S := by
  refine ⟨xlow.rf, ?_⟩
  intro hM g p l e R s m args below meth c Z F E H locs cells slots la hP hS hc hs hl
  exact E H locs cells slots k la ⟨_, h, rfl, rfl, n, ht⟩ hP hS (by omega) (by omega)
theorem Rn.retv {d kc ks : Nat} {M : Mt} {k pc : Nat} {z : List Nat} {ls : List (Option Value)} {S : Sg} (h : M.2.2.2.2.2[k]? = some (pc, .return_, 1, z)) (ht : M.2.2.2.1 = none) : Rn d kc ks M k ls [] S none S := by
  refine ⟨xlow.rf, ?_⟩
  intro hM g p l e R s m args below meth c Z F E H locs cells slots la hP hS hc hs hl
  exact E H locs cells slots k la ⟨_, h, rfl, rfl, ht⟩ hP hS (by omega) (by omega)
end
section
/-! rules that read and write cells -/
theorem xa_new {g : Gw} {k : Nat} (h4 : 4 ≤ k) (h : k < 1000000000) : xa g k = g.1 + (k - 4) := by
  unfold xa
  rw [if_neg (by omega), if_pos h]
theorem xa_old {g : Gw} {k : Nat} (h4 : k < 4) : xa g k = g.2.2.1 k := by
  unfold xa
  rw [if_pos h4]
/-- the cells as a world of the kit -/
def xw (g : Gw) (S : Sg) : va_W := (S.drop 4).zipIdx.map (fun q => (g.1 + q.2, xe g q.1))
theorem xw_get {g : Gw} {S : Sg} {k : Nat} {c : Cel} (h4 : 4 ≤ k) (h : S[k]? = some c) : (xw g S)[k - 4]? = some (g.1 + (k - 4), xe g c) := by
  unfold xw
  rw [List.getElem?_map, List.getElem?_zipIdx, List.getElem?_drop, show 4 + (k - 4) = k by omega, h]
  simp
theorem xw_inv {g : Gw} {S : Sg} {j : Nat} {q : Nat × va_E} (h : (xw g S)[j]? = some q) : ∃ c, S[4 + j]? = some c ∧ q = (g.1 + j, xe g c) := by
  unfold xw at h
  rw [List.getElem?_map, List.getElem?_zipIdx, List.getElem?_drop] at h
  cases hc : S[4 + j]? with
  | none => rw [hc] at h; simp at h
  | some c =>
    rw [hc] at h
    simp only [Option.map_some, Nat.zero_add, Option.some.injEq] at h
    exact ⟨c, rfl, h.symm⟩
theorem xH.P {g : Gw} {S : Sg} {H : Heap} (h : xH g S H) : va_P g.2.2.2.1 vwCl (xw g S) H := by
  intro j q hq
  obtain ⟨c, hc, rfl⟩ := xw_inv hq
  have := h.2.2.2.2 (4 + j) c (by omega) hc
  rw [show 4 + j - 4 = j by omega] at this
  exact this
theorem xH.D {g : Gw} {S : Sg} : va_D (xA g) (xw g S) := by
  refine ⟨fun i j p q hp hq e => ?_, fun k q hq => ?_⟩
  · obtain ⟨_, _, rfl⟩ := xw_inv hp
    obtain ⟨_, _, rfl⟩ := xw_inv hq
    simp only at e
    omega
  · obtain ⟨_, _, rfl⟩ := xw_inv hq
    exact Nat.le_add_right _ _
theorem xH.lt {g : Gw} {S : Sg} {H : Heap} (h : xH g S H) {k : Nat} {c : Cel} (hk : S[k]? = some c) : k < 1000000000 := Nat.lt_of_lt_of_le (List.getElem?_eq_some_iff.mp hk).1 h.2.2.1
/-- one cell written -/
theorem xH.upd {g : Gw} {S : Sg} {H H1 : Heap} {k : Nat} {c c1 : Cel} (h : xH g S H) (h4 : 4 ≤ k) (hk : S[k]? = some c) (hz : H1.size = H.size) (oq : ∀ q : Nat, q ≠ g.1 + (k - 4) → H1[q]? = H[q]?) (hc : va_at g.2.2.2.1 vwCl (g.1 + (k - 4), xe g c1) H1) : xH g (S.set k c1) H1 := by
  obtain ⟨e1, e2, e3, e4, e5⟩ := h
  refine ⟨by rw [hz, e1, List.length_set], by rw [List.length_set]; exact e2, by rw [List.length_set]; exact e3, fun q hq => by rw [oq q (by omega)]; exact e4 q hq, fun j cj hj hcj => ?_⟩
  rw [List.getElem?_set] at hcj
  by_cases hkj : k = j
  · subst hkj
    rw [if_pos rfl] at hcj
    split at hcj
    · cases hcj
      exact hc
    · cases hcj
  · rw [if_neg hkj] at hcj
    exact (e5 j cj hj hcj).kept (oq _ (by simp only; omega))
/-- one cell made -/
theorem xH.push {g : Gw} {S : Sg} {H H1 : Heap} {c1 : Cel} (h : xH g S H) (hl : S.length + 1 ≤ 1000000000) (hz : H1.size = H.size + 1) (oq : ∀ q : Nat, q < H.size → H1[q]? = H[q]?) (hc : va_at g.2.2.2.1 vwCl (H.size, xe g c1) H1) : xH g (S ++ [c1]) H1 := by
  obtain ⟨e1, e2, e3, e4, e5⟩ := h
  refine ⟨by rw [hz, e1, List.length_append, List.length_singleton]; omega, by rw [List.length_append, List.length_singleton]; omega, by rw [List.length_append, List.length_singleton]; exact hl, fun q hq => by rw [oq q (by omega)]; exact e4 q hq, fun j cj hj hcj => ?_⟩
  by_cases hjl : j < S.length
  · rw [List.getElem?_append_left hjl] at hcj
    exact (e5 j cj hj hcj).kept (oq _ (by simp only; omega))
  · rw [List.getElem?_append_right (by omega)] at hcj
    have hz : j - S.length < 1 := (List.getElem?_eq_some_iff.mp hcj).1
    rw [show j - S.length = 0 by omega] at hcj
    cases hcj
    rw [show g.1 + (j - 4) = H.size by omega]
    exact hc
theorem xF.eqS {g : Gw} {S S' : Sg} {d : Nat} {M : Mt} {p : Program} {R : Room} {s : State} {m : MethodId} {args : Array Value} {meth : Method} {c : Code} (F : xF g S d M p R s m args meth c) (he : ∀ k, k < 4 → S'[k]? = S[k]?) : xF g S' d M p R s m args meth c := by
  obtain ⟨a1, a2, a3, a4, a5, a6, a7⟩ := F
  exact ⟨a1, a2, a3, a4, a5, a6.eqS he, a7⟩
theorem set_low {S : Sg} {k : Nat} {c : Cel} (h4 : 4 ≤ k) : ∀ j, j < 4 → (S.set k c)[j]? = S[j]? := fun j hj => by rw [List.getElem?_set, if_neg (by omega)]
theorem app_low {S : Sg} {c : Cel} (h4 : 4 ≤ S.length) : ∀ j, j < 4 → (S ++ [c])[j]? = S[j]? := fun j hj => List.getElem?_append_left (by omega)
/-- the classes' fields: their types, their names, their words -/
def vwTy (ci : Nat) : Nat → FieldType := match ci with
  | 0 => tyX0 | 1 => tyX1 | 2 => tyX2 | 3 => tyX3 | 4 => tyX4 | 5 => tyX5 | 6 => tyX6 | 7 => tyX7 | 8 => tyX8 | 9 => tyX9 | 10 => tyX10 | 11 => tyX11 | _ => tyX12
theorem vwTy_ok {ci : Nat} {q : vw_C} (h : vwCl[ci]? = some q) : (∀ k, k < q.2.2 → parseFieldDescriptor (q.2.1 k).2.2.1 = some (vwTy ci k)) ∧ ∀ a, a < q.2.2 → ∀ b, b < q.2.2 → a ≠ b → (q.2.1 a).2.1 ≠ (q.2.1 b).2.1 := by
  match ci, h with
  | 0, h => cases h; exact ⟨tyX0_ok, nmX0⟩
  | 1, h => cases h; exact ⟨tyX1_ok, nmX1⟩
  | 2, h => cases h; exact ⟨tyX2_ok, nmX2⟩
  | 3, h => cases h; exact ⟨tyX3_ok, nmX3⟩
  | 4, h => cases h; exact ⟨tyX4_ok, nmX4⟩
  | 5, h => cases h; exact ⟨tyX5_ok, nmX5⟩
  | 6, h => cases h; exact ⟨tyX6_ok, nmX6⟩
  | 7, h => cases h; exact ⟨tyX7_ok, nmX7⟩
  | 8, h => cases h; exact ⟨tyX8_ok, nmX8⟩
  | 9, h => cases h; exact ⟨tyX9_ok, nmX9⟩
  | 10, h => cases h; exact ⟨tyX10_ok, nmX10⟩
  | 11, h => cases h; exact ⟨tyX11_ok, nmX11⟩
  | 12, h => cases h; exact ⟨tyX12_ok, nmX12⟩
  | n + 13, h => simp [vwCl] at h
theorem wT_of {ws : List Cond} (h : ws.all (fun w => decide (w ∈ lw_tbl) && goodWord w) = true) : ∀ w ∈ ws, w ∈ wT := fun w hw => by
  have := List.all_eq_true.mp h w hw
  simp only [Bool.and_eq_true, decide_eq_true_eq] at this
  exact List.mem_filter.mpr this
theorem lay0 : ∀ w ∈ u_ws RX0 TX0 10, w ∈ wT := wT_of (by decide +kernel)
theorem lay1 : ∀ w ∈ u_ws RX1 TX1 12, w ∈ wT := wT_of (by decide +kernel)
theorem lay2 : ∀ w ∈ u_ws RX2 TX2 3, w ∈ wT := wT_of (by decide +kernel)
theorem lay3 : ∀ w ∈ u_ws RX3 TX3 4, w ∈ wT := wT_of (by decide +kernel)
theorem lay4 : ∀ w ∈ u_ws RX4 TX4 5, w ∈ wT := wT_of (by decide +kernel)
theorem lay5 : ∀ w ∈ u_ws RX5 TX5 13, w ∈ wT := wT_of (by decide +kernel)
theorem lay6 : ∀ w ∈ u_ws RX6 TX6 6, w ∈ wT := wT_of (by decide +kernel)
theorem lay7 : ∀ w ∈ u_ws RX7 TX7 2, w ∈ wT := wT_of (by decide +kernel)
theorem lay8 : ∀ w ∈ u_ws RX8 TX8 8, w ∈ wT := wT_of (by decide +kernel)
theorem lay9 : ∀ w ∈ u_ws RX9 TX9 18, w ∈ wT := wT_of (by decide +kernel)
theorem lay10 : ∀ w ∈ u_ws RX10 TX10 8, w ∈ wT := wT_of (by decide +kernel)
theorem lay11 : ∀ w ∈ u_ws RX11 TX11 15, w ∈ wT := wT_of (by decide +kernel)
theorem lay12 : ∀ w ∈ u_ws RX12 TX12 54, w ∈ wT := wT_of (by decide +kernel)
theorem lay_ok {ci : Nat} {q : vw_C} (h : vwCl[ci]? = some q) : ∀ w ∈ u_ws q.1 q.2.1 q.2.2, w ∈ wT := by
  match ci, h with
  | 0, h => cases h; exact lay0
  | 1, h => cases h; exact lay1
  | 2, h => cases h; exact lay2
  | 3, h => cases h; exact lay3
  | 4, h => cases h; exact lay4
  | 5, h => cases h; exact lay5
  | 6, h => cases h; exact lay6
  | 7, h => cases h; exact lay7
  | 8, h => cases h; exact lay8
  | 9, h => cases h; exact lay9
  | 10, h => cases h; exact lay10
  | 11, h => cases h; exact lay11
  | 12, h => cases h; exact lay12
  | n + 13, h => simp [vwCl] at h
theorem narrow_xv (g : Gw) (ty : FieldType) (v : Value) (h : narrow ty v = v) : narrow ty (xv g v) = xv g v := by
  cases v <;> first | exact h | (cases ty <;> rfl)
theorem fits_xv (g : Gw) (ty : FieldType) (v : Value) (h : fits ty v = true) : fits ty (xv g v) = true := by
  cases v <;> first | exact h | (cases ty <;> first | exact h | rfl | (simp [fits, xv] at h ⊢))
def flE (q : Nat × Nat × Nat × Nat × Nat) : Bool := match vwCl[q.2.2.1]? with
  | some c => decide (q.2.2.2.1 < c.2.2) && ckW q.2.2.2.2 (.fieldLink (clsN q.1) q.2.1 (c.2.1 q.2.2.2.1).1 (c.2.1 q.2.2.2.1).2.1 (c.2.1 q.2.2.2.1).2.2.1)
  | none => false
theorem flP0 : ((FL.drop 0).take 40).all flE = true := by decide +kernel
theorem flP1 : ((FL.drop 40).take 40).all flE = true := by decide +kernel
theorem flP2 : ((FL.drop 80).take 40).all flE = true := by decide +kernel
theorem flP3 : ((FL.drop 120).take 40).all flE = true := by decide +kernel
theorem flP4 : ((FL.drop 160).take 40).all flE = true := by decide +kernel
theorem flP5 : ((FL.drop 200).take 40).all flE = true := by decide +kernel
theorem flP6 : ((FL.drop 240).take 40).all flE = true := by decide +kernel
theorem FL_ok {j : Nat} {q : Nat × Nat × Nat × Nat × Nat} (h : FL[j]? = some q) : flE q = true := by
  have hj : j < FL.length := (List.getElem?_eq_some_iff.mp h).1
  have hl : FL.length ≤ 280 := by decide +kernel
  have go : ∀ n, ((FL.drop n).take 40).all flE = true → n ≤ j → j < n + 40 → flE q = true := by
    intro n hn h1 h2
    refine List.all_eq_true.mp hn q (List.mem_of_getElem? (i := j - n) ?_)
    rw [List.getElem?_take, if_pos (by omega), List.getElem?_drop, show n + (j - n) = j by omega]
    exact h
  rcases (show j < 40 ∨ (40 ≤ j ∧ j < 80) ∨ (80 ≤ j ∧ j < 120) ∨ (120 ≤ j ∧ j < 160) ∨ (160 ≤ j ∧ j < 200) ∨ (200 ≤ j ∧ j < 240) ∨ (240 ≤ j ∧ j < 280) by omega) with h1 | h1 | h1 | h1 | h1 | h1 | h1
  · exact go 0 flP0 (by omega) (by omega)
  · exact go 40 flP1 (by omega) (by omega)
  · exact go 80 flP2 (by omega) (by omega)
  · exact go 120 flP3 (by omega) (by omega)
  · exact go 160 flP4 (by omega) (by omega)
  · exact go 200 flP5 (by omega) (by omega)
  · exact go 240 flP6 (by omega) (by omega)
theorem FL_lt {j : Nat} {q : Nat × Nat × Nat × Nat × Nat} (h : FL[j]? = some q) : q.1 < 13 := by
  have : FL.all (fun q => decide (q.1 < 13)) = true := by decide +kernel
  exact of_decide_eq_true (List.all_eq_true.mp this q (List.mem_of_getElem? h))
theorem FL_use {M : Mt} (hM : okM M) {i ci fk j : Nat} (h : (match FL[j]? with
      | some q => q.1 == cnM M && (q.2.1 == i && (q.2.2.1 == ci && q.2.2.2.1 == fk))
      | none => false) = true) : ∃ q : vw_C, vwCl[ci]? = some q ∧ fk < q.2.2 ∧ Cond.fieldLink M.1.cls i (q.2.1 fk).1 (q.2.1 fk).2.1 (q.2.1 fk).2.2.1 ∈ wT := by
  cases hq : FL[j]? with
  | none => rw [hq] at h; cases h
  | some q =>
    rw [hq] at h
    simp only [Bool.and_eq_true, beq_iff_eq] at h
    obtain ⟨h1, rfl, rfl, rfl⟩ := h
    have h2 := FL_ok hq
    unfold flE at h2
    cases hc : vwCl[q.2.2.1]? with
    | none => rw [hc] at h2; cases h2
    | some c =>
      rw [hc] at h2
      simp only [Bool.and_eq_true, decide_eq_true_eq] at h2
      have h3 := ckW_mem h2.2
      rcases hM.1 with h99 | hcl
      · rw [← h1] at h99
        rw [h99] at h3
        exfalso
        have := FL_lt hq
        omega
      · rw [h1, hcl] at h3
        exact ⟨c, rfl, h2.1, h3⟩
end
section
/-! rules that read and write cells -/
section CELLS
variable {d kc ks : Nat} {M : Mt} {k pc : Nat} {z : List Nat} {ls : List (Option Value)} {st : List Value} {S : Sg} {r : Option Value} {S' : Sg}
theorem Rn.getf {i ci fk j a : Nat} {fs : List Value} {v : Value} (h : M.2.2.2.2.2[k]? = some (pc, .getfield i, 3, [ci, fk, j])) (h4 : 4 ≤ a) (ha : S[a]? = some (.inr (ci, fs))) (hv : fs[fk]? = some v) (hn : Rn d kc ks M (k + 1) ls (v :: st) S r S') : Rn d kc ks M k ls (.ref a :: st) S r S' := by
  refine ⟨hn.1, ?_⟩
  intro hM g p l e R s m args below meth c Z F E H locs cells slots la hP hS hc hs hl
  obtain ⟨hd, hL, e1, e2⟩ := hM.entry h
  have e2 := e2 rfl
  obtain ⟨⟨C, T, N⟩, hq, hfk, hw⟩ := FL_use hM hL
  have hn := hn.2 hM g p l e R s m args below meth c Z F E H locs cells slots la hP hS hc hs hl
  rw [e2] at hn
  rw [e1]
  show W p l e R s m args below meth c H locs cells slots Z (F0 m pc la (.ref (xa g a) :: st.map (xv g)))
  rw [xa_new h4 (hP.lt ha)]
  exact va_get F.1 F.2.1 F.2.2.2.2.1 (lay_ok hq) F.2.2.2.1 F.2.2.2.2.2.1.1 hP.P (a - 4) (fs := fs.map (xv g)) (xw_get h4 ha) hq fk hfk (F.2.2.2.2.1 _ hw) (fun _ h => h) (v := xv g v) (by rw [List.getElem?_map, hv]; rfl) hd hn
theorem set_map (g : Gw) (fs : List Value) (k : Nat) (v : Value) : (fs.set k v).map (xv g) = (fs.map (xv g)).set k (xv g v) := List.map_set
/-- a field that isn't final -/
theorem Rn.putf {i ci fk j a : Nat} {fs : List Value} {v : Value} (h : M.2.2.2.2.2[k]? = some (pc, .putfield i, 3, [ci, fk, j])) (h4 : 4 ≤ a) (ha : S[a]? = some (.inr (ci, fs))) (hfin : ∀ q, vwCl[ci]? = some q → (q.2.1 fk).2.2.2 = false) (hlen : fk < fs.length) (hna : narrow (vwTy ci fk) v = v) (hfit : fits (vwTy ci fk) v = true) (hn : Rn d kc ks M (k + 1) ls st (S.set a (.inr (ci, fs.set fk v))) r S') : Rn d kc ks M k ls (v :: .ref a :: st) S r S' := by
  refine ⟨(xlow.st h4).tr hn.1, ?_⟩
  intro hM g p l e R s m args below meth c Z F E H locs cells slots la hP hS hc hs hl
  obtain ⟨hd, hL, e1, e2⟩ := hM.entry h
  have e2 := e2 rfl
  obtain ⟨⟨C, T, N⟩, hq, hfk, hw⟩ := FL_use hM hL
  obtain ⟨hty, hnm⟩ := vwTy_ok hq
  have hts := F.2.2.2.2.1
  have hK := F.2.2.2.2.2.1.1
  have hown := F.2.2.2.1
  have hin := lay_ok hq
  have hap := va_apart (own := M.1.cls) hts hin (vwTy ci) hty hnm hK hq
  obtain ⟨rr, h1, cell, q1, q2, q3, q4⟩ := hP.P (a - 4) _ (xw_get h4 ha)
  have hr : rr = (C, T, N) := Option.some.inj (h1.symm.trans hq)
  subst hr
  obtain ⟨hSl, hfc, kC, hkC, hkind⟩ := hK.1 ci _ hq
  obtain ⟨cf, kf, fi, f, hi, hsl⟩ := hSl fk hfk
  have hlay := hts _ (hin _ (u_in_lay hfk))
  unfold u_lay at hlay
  rw [if_neg (by rw [hfin _ hq]; decide)] at hlay
  have hst := (u_facts hfc hkC (u_lays hts hin hfk) hi).1
  have h6 := u_store hfc hkC hkind hlay hi (hty fk hfk) (narrow_xv g _ v hna) (fits_xv g _ v hfit)
  rw [e1]
  show W p l e R s m args below meth c H locs cells slots Z (F0 m pc la (xv g v :: .ref (xa g a) :: st.map (xv g)))
  rw [xa_new h4 (hP.lt ha)]
  refine W.putK F.1 F.2.1 (f := f) ⟨hown, hts _ hw, ⟨_, _, _, hi⟩, hst⟩ (by rw [q2]; exact h6) q1 q3 (by rw [hsl]; exact k2_hasslot (q4 fk hfk)) rfl rfl hd fun H' e3 e4 e5 => ?_
  rw [hsl] at e3
  have hat : va_at g.2.2.2.1 vwCl (g.1 + (a - 4), xe g (.inr (ci, fs.set fk v))) H' := by
    refine ⟨_, hq, ?_⟩
    show t_OB (g.1 + (a - 4)) _ _ _ _ (vp_V ((fs.set fk v).map (xv g)))
    rw [set_map]
    exact t_OB.to (V := updV (vp_V (fs.map (xv g))) fk (xv g v)) ⟨_, e3, q2, q3, t_set q4 hap hfk _⟩ (fun jj _ => vp_updV_set (by rw [List.length_map]; exact hlen) _ jj)
  have hn := hn.2 hM g p l e R s m args below meth c Z (F.eqS (set_low h4)) E H' _ cells slots la (hP.upd h4 ha e4 e5 hat) (hS.put (k := f.slot) e4 e5 (Nat.le_add_right _ _)) hc hs hl
  rw [e2] at hn
  exact hn
/-- a final field, in its class's constructor -/
theorem Rn.putfF {i ci fk j a : Nat} {fs : List Value} {v : Value} (h : M.2.2.2.2.2[k]? = some (pc, .putfield i, 3, [ci, fk, j])) (h4 : 4 ≤ a) (ha : S[a]? = some (.inr (ci, fs))) (hfin : ∀ q, vwCl[ci]? = some q → (q.2.1 fk).2.2.2 = true ∧ (q.2.1 fk).1 = M.1.cls) (hini : M.1.name = "<init>") (hlen : fk < fs.length) (hna : narrow (vwTy ci fk) v = v) (hfit : fits (vwTy ci fk) v = true) (hn : Rn d kc ks M (k + 1) ls st (S.set a (.inr (ci, fs.set fk v))) r S') : Rn d kc ks M k ls (v :: .ref a :: st) S r S' := by
  refine ⟨(xlow.st h4).tr hn.1, ?_⟩
  intro hM g p l e R s m args below meth c Z F E H locs cells slots la hP hS hc hs hl
  obtain ⟨hd, hL, e1, e2⟩ := hM.entry h
  have e2 := e2 rfl
  obtain ⟨⟨C, T, N⟩, hq, hfk, hw⟩ := FL_use hM hL
  obtain ⟨hty, hnm⟩ := vwTy_ok hq
  have hts := F.2.2.2.2.1
  have hK := F.2.2.2.2.2.1.1
  have hown := F.2.2.2.1
  have hin := lay_ok hq
  have hap := va_apart (own := M.1.cls) hts hin (vwTy ci) hty hnm hK hq
  obtain ⟨rr, h1, cell, q1, q2, q3, q4⟩ := hP.P (a - 4) _ (xw_get h4 ha)
  have hr : rr = (C, T, N) := Option.some.inj (h1.symm.trans hq)
  subst hr
  obtain ⟨hSl, hfc, kC, hkC, hkind⟩ := hK.1 ci _ hq
  obtain ⟨cf, kf, fi, f, hi, hsl⟩ := hSl fk hfk
  have hlay := hts _ (hin _ (u_in_lay hfk))
  unfold u_lay at hlay
  rw [if_pos (hfin _ hq).1] at hlay
  have hst := (u_facts hfc hkC (u_lays hts hin hfk) hi).1
  have hcf : m.cls = cf := by
    obtain ⟨_, _, c', _, _, _, -, -, hf', -, -, -, hown2, -⟩ := Cond.laysFinal_spec hlay
    have e1 : c' = cf := by have := hi.symm.trans hf'; simp at this; exact this.1.symm
    rw [(hfin _ hq).2] at hown2
    rw [← e1]; exact Option.some.inj (hown.symm.trans hown2)
  have h6 := u_fits hfc hkC hkind (Or.inr hlay) hi (hty fk hfk) (narrow_xv g _ v hna) (fits_xv g _ v hfit)
  rw [e1]
  show W p l e R s m args below meth c H locs cells slots Z (F0 m pc la (xv g v :: .ref (xa g a) :: st.map (xv g)))
  rw [xa_new h4 (hP.lt ha)]
  refine W.putFinK F.1 F.2.1 hown (hts _ hw) hi hst hcf (F.2.2.2.2.2.2.2.2.2.2 hini) (by rw [q2]; exact h6) q1 q3 (by rw [hsl]; exact k2_hasslot (q4 fk hfk)) rfl rfl hd fun H' e3 e4 e5 => ?_
  rw [hsl] at e3
  have hat : va_at g.2.2.2.1 vwCl (g.1 + (a - 4), xe g (.inr (ci, fs.set fk v))) H' := by
    refine ⟨_, hq, ?_⟩
    show t_OB (g.1 + (a - 4)) _ _ _ _ (vp_V ((fs.set fk v).map (xv g)))
    rw [set_map]
    exact t_OB.to (V := updV (vp_V (fs.map (xv g))) fk (xv g v)) ⟨_, e3, q2, q3, t_set q4 hap hfk _⟩ (fun jj _ => vp_updV_set (by rw [List.length_map]; exact hlen) _ jj)
  have hn := hn.2 hM g p l e R s m args below meth c Z (F.eqS (set_low h4)) E H' _ cells slots la (hP.upd h4 ha e4 e5 hat) (hS.put (k := f.slot) e4 e5 (Nat.le_add_right _ _)) hc hs hl
  rw [e2] at hn
  exact hn
/-- the index as a number, within a row -/
theorem in_lt {i : Int32} {n : Nat} (h : vp_in i n) : i.toNatClampNeg < n := Nat.not_le.mp fun q => h (Or.inr q)
/-- a row that was there before -/
theorem old_T {g : Gw} {s : State} {H : Heap} {locs : List Loc} {a n : Nat} {ty : FieldType} {f : Nat → Int32} (hP : xH g S H) (hO : xO g S s) (h4 : a < 4) (ha : S[a]? = some (.inl (ty, n, .inl f))) : ∃ cell : Cell, H[xa g a]? = some cell ∧ s.isArrayOf cell ty ∧ cell.vm ≠ .unknown ∧ n ≤ cell.slots.size ∧ cell.slots.size.toInt32 = Int32.ofNat n ∧ ∀ j : Nat, j < n → cell.slots[j]? = some (.int (f j)) := by
  obtain ⟨cell, t1, t2, t3, t4, t5, t6, t7⟩ := hO.1 a ty n f h4 ha
  rw [xa_old h4]
  refine ⟨cell, ?_, t2, t3, t4, t5, t6⟩
  rw [hP.2.2.2.1 _ (Nat.not_le.mp t7)]
  exact t1
theorem Rn.iald {a n : Nat} {f : Nat → Int32} {i : Int32} (h : M.2.2.2.2.2[k]? = some (pc, .iaload, 1, z)) (ha : S[a]? = some (.inl (.int, n, .inl f))) (hin : vp_in i n) (hn : Rn d kc ks M (k + 1) ls (.int (f i.toNatClampNeg) :: st) S r S') : Rn d kc ks M k ls (.int i :: .ref a :: st) S r S' := by
  refine ⟨hn.1, ?_⟩
  intro hM g p l e R s m args below meth c Z F E H locs cells slots la hP hS hc hs hl
  obtain ⟨hd, hL, e1, e2⟩ := hM.entry h
  have e2 := e2 rfl
  have hn := hn.2 hM g p l e R s m args below meth c Z F E H locs cells slots la hP hS hc hs hl
  rw [e2] at hn
  rw [e1]
  show W p l e R s m args below meth c H locs cells slots Z (F0 m pc la (.int i :: .ref (xa g a) :: st.map (xv g)))
  by_cases h4 : a < 4
  · obtain ⟨cell, t1, t2, t3, t4, t5, t6⟩ := old_T (locs := locs) hP F.2.2.2.2.2.1.2 h4 ha
    have hlt := in_lt hin
    exact W.iald F.1 F.2.1 t1 t2 t3 (fun q => by rcases q with q | q; exact hin (Or.inl q); omega) (t6 _ hlt) rfl rfl hd hn
  · rw [xa_new (by omega) (hP.lt ha)]
    exact va_iald F.1 F.2.1 F.2.2.2.2.2.1.1 hP.P (a - 4) 0 (n := n) (f := f) (xw_get (by omega) ha) rfl hin hd hn
theorem Rn.bald {a n : Nat} {f : Nat → Int32} {i : Int32} (h : M.2.2.2.2.2[k]? = some (pc, .baload, 1, z)) (ha : S[a]? = some (.inl (.byte, n, .inl f))) (hin : vp_in i n) (hn : Rn d kc ks M (k + 1) ls (.int (f i.toNatClampNeg) :: st) S r S') : Rn d kc ks M k ls (.int i :: .ref a :: st) S r S' := by
  refine ⟨hn.1, ?_⟩
  intro hM g p l e R s m args below meth c Z F E H locs cells slots la hP hS hc hs hl
  obtain ⟨hd, hL, e1, e2⟩ := hM.entry h
  have e2 := e2 rfl
  have hn := hn.2 hM g p l e R s m args below meth c Z F E H locs cells slots la hP hS hc hs hl
  rw [e2] at hn
  rw [e1]
  show W p l e R s m args below meth c H locs cells slots Z (F0 m pc la (.int i :: .ref (xa g a) :: st.map (xv g)))
  by_cases h4 : a < 4
  · obtain ⟨cell, t1, t2, t3, t4, t5, t6⟩ := old_T (locs := locs) hP F.2.2.2.2.2.1.2 h4 ha
    have hlt := in_lt hin
    exact W.bald F.1 F.2.1 t1 t2 t3 (fun q => by rcases q with q | q; exact hin (Or.inl q); omega) (t6 _ hlt) rfl rfl hd hn
  · rw [xa_new (by omega) (hP.lt ha)]
    exact va_bald F.1 F.2.1 F.2.2.2.2.2.1.1 hP.P (a - 4) 1 (n := n) (f := f) (xw_get (by omega) ha) rfl hin hd hn
theorem Rn.zald {a n : Nat} {f : Nat → Int32} {i : Int32} (h : M.2.2.2.2.2[k]? = some (pc, .baload, 1, z)) (h4 : 4 ≤ a) (ha : S[a]? = some (.inl (.boolean, n, .inl f))) (hin : vp_in i n) (hn : Rn d kc ks M (k + 1) ls (.int (f i.toNatClampNeg) :: st) S r S') : Rn d kc ks M k ls (.int i :: .ref a :: st) S r S' := by
  refine ⟨hn.1, ?_⟩
  intro hM g p l e R s m args below meth c Z F E H locs cells slots la hP hS hc hs hl
  obtain ⟨hd, hL, e1, e2⟩ := hM.entry h
  have e2 := e2 rfl
  have hn := hn.2 hM g p l e R s m args below meth c Z F E H locs cells slots la hP hS hc hs hl
  rw [e2] at hn
  rw [e1]
  show W p l e R s m args below meth c H locs cells slots Z (F0 m pc la (.int i :: .ref (xa g a) :: st.map (xv g)))
  rw [xa_new h4 (hP.lt ha)]
  exact va_zald F.1 F.2.1 F.2.2.2.2.2.1.1 hP.P (a - 4) 2 (n := n) (f := f) (xw_get h4 ha) rfl hin hd hn
theorem Rn.lald {a n : Nat} {f : Nat → Int64} {i : Int32} (h : M.2.2.2.2.2[k]? = some (pc, .laload, 1, z)) (h4 : 4 ≤ a) (ha : S[a]? = some (.inl (.long, n, .inr (.inl f)))) (hin : vp_in i n) (hn : Rn d kc ks M (k + 1) ls (.long (f i.toNatClampNeg) :: st) S r S') : Rn d kc ks M k ls (.int i :: .ref a :: st) S r S' := by
  refine ⟨hn.1, ?_⟩
  intro hM g p l e R s m args below meth c Z F E H locs cells slots la hP hS hc hs hl
  obtain ⟨hd, hL, e1, e2⟩ := hM.entry h
  have e2 := e2 rfl
  have hn := hn.2 hM g p l e R s m args below meth c Z F E H locs cells slots la hP hS hc hs hl
  rw [e2] at hn
  rw [e1]
  show W p l e R s m args below meth c H locs cells slots Z (F0 m pc la (.int i :: .ref (xa g a) :: st.map (xv g)))
  rw [xa_new h4 (hP.lt ha)]
  exact va_lald F.1 F.2.1 F.2.2.2.2.2.1.1 hP.P (a - 4) 3 (n := n) (f := f) (xw_get h4 ha) rfl hin hd hn
theorem Rn.alen {a n : Nat} {ty : FieldType} {x : (Nat → Int32) ⊕ (Nat → Int64) ⊕ (Nat → UInt32) ⊕ (Nat → UInt64) ⊕ (Nat → Option Nat)} {v : Int32} (h : M.2.2.2.2.2[k]? = some (pc, .arraylength, 1, z)) (h4 : 4 ≤ a) (ha : S[a]? = some (.inl (ty, n, x))) (hty : ty = .int ∨ ty = .byte ∨ ty = .boolean ∨ ty = .long) (hv : Int32.ofNat n = v) (hn : Rn d kc ks M (k + 1) ls (.int v :: st) S r S') : Rn d kc ks M k ls (.ref a :: st) S r S' := by
  refine ⟨hn.1, ?_⟩
  intro hM g p l e R s m args below meth c Z F E H locs cells slots la hP hS hc hs hl
  obtain ⟨hd, hL, e1, e2⟩ := hM.entry h
  have e2 := e2 rfl
  have hn := hn.2 hM g p l e R s m args below meth c Z F E H locs cells slots la hP hS hc hs hl
  rw [e2] at hn
  rw [e1]
  show W p l e R s m args below meth c H locs cells slots Z (F0 m pc la (.ref (xa g a) :: st.map (xv g)))
  rw [xa_new h4 (hP.lt ha)]
  rcases hty with rfl | rfl | rfl | rfl
  · exact va_alen F.1 F.2.1 F.2.2.2.2.2.1.1 hP.P (a - 4) 0 (xw_get h4 ha) (ty := .int) rfl hv hd hn
  · exact va_alen F.1 F.2.1 F.2.2.2.2.2.1.1 hP.P (a - 4) 1 (xw_get h4 ha) (ty := .byte) rfl hv hd hn
  · exact va_alen F.1 F.2.1 F.2.2.2.2.2.1.1 hP.P (a - 4) 2 (xw_get h4 ha) (ty := .boolean) rfl hv hd hn
  · exact va_alen F.1 F.2.1 F.2.2.2.2.2.1.1 hP.P (a - 4) 3 (xw_get h4 ha) (ty := .long) rfl hv hd hn
/-- the length of the script -/
theorem Rn.slen {a n : Nat} {f : Nat → Int32} {v : Int32} (h : M.2.2.2.2.2[k]? = some (pc, .arraylength, 1, z)) (h4 : a < 4) (ha : S[a]? = some (.inl (.int, n, .inl f))) (hv : Int32.ofNat n = v) (hn : Rn d kc ks M (k + 1) ls (.int v :: st) S r S') : Rn d kc ks M k ls (.ref a :: st) S r S' := by
  refine ⟨hn.1, ?_⟩
  intro hM g p l e R s m args below meth c Z F E H locs cells slots la hP hS hc hs hl
  obtain ⟨hd, hL, e1, e2⟩ := hM.entry h
  have e2 := e2 rfl
  have hn := hn.2 hM g p l e R s m args below meth c Z F E H locs cells slots la hP hS hc hs hl
  rw [e2] at hn
  rw [e1]
  obtain ⟨cell, t1, t2, t3, t4, t5, t6⟩ := old_T (locs := locs) hP F.2.2.2.2.2.1.2 h4 ha
  exact W.alen F.1 F.2.1 t1 t2 (t5.trans hv) rfl rfl hd hn
end CELLS
end
section
/-! rules that write rows, make cells, call -/
section STORES
variable {d kc ks : Nat} {M : Mt} {k pc : Nat} {z : List Nat} {ls : List (Option Value)} {st : List Value} {S : Sg} {r : Option Value} {S' : Sg}
theorem Rn.iast {a n : Nat} {f : Nat → Int32} {i : Int32} {x : Int32} (h : M.2.2.2.2.2[k]? = some (pc, .iastore, 1, z)) (h4 : 4 ≤ a) (ha : S[a]? = some (.inl (.int, n, .inl (f)))) (hin : vp_in i n) (hn : Rn d kc ks M (k + 1) ls st (S.set a (.inl (.int, n, .inl (upd f i.toNatClampNeg x)))) r S') : Rn d kc ks M k ls (.int x :: .int i :: .ref a :: st) S r S' := by
  refine ⟨(xlow.st h4).tr hn.1, ?_⟩
  intro hM g p l e R s m args below meth c Z F E H locs cells slots la hP hS hc hs hl
  obtain ⟨hd, hL, e1, e2⟩ := hM.entry h
  have e2 := e2 rfl
  rw [e1]
  show W p l e R s m args below meth c H locs cells slots Z (F0 m pc la (.int x :: .int i :: .ref (xa g a) :: st.map (xv g)))
  rw [xa_new h4 (hP.lt ha)]
  refine W.iast F.1 F.2.1 (hP.P (a - 4) _ (xw_get h4 ha)) ((F.2.2.2.2.2.1.1.2 0 _ rfl).1 n _) (fun q => by cases q) (by show ¬ (i < 0 ∨ (arrV _ _ _).slots.size ≤ _); rw [arrV_size]; exact hin) rfl rfl hd fun H1 e3 z1 oq => ?_
  have hat : va_at g.2.2.2.1 vwCl (g.1 + (a - 4), xe g (.inl (.int, n, .inl (upd f i.toNatClampNeg x)))) H1 := by
    show H1[g.1 + (a - 4)]? = some (vp_cell _ _)
    refine e3.trans ?_
    show some ((arrV _ n (fun j => .int (f j))).setSlot _ _) = some (arrV _ n (fun j => .int (upd f i.toNatClampNeg x j)))
    rw [arrV_store]
    congr 2
    funext q
    by_cases hq : q = i.toNatClampNeg
    · subst hq
      simp [updV, upd]
      try rfl
    · simp [updV, upd, hq]
  have hn := hn.2 hM g p l e R s m args below meth c Z (F.eqS (set_low h4)) E H1 _ cells slots la (hP.upd h4 ha z1 oq hat) (hS.put (k := i.toNatClampNeg) z1 oq (Nat.le_add_right _ _)) hc hs hl
  rw [e2] at hn
  exact hn
theorem Rn.bast {a n : Nat} {f : Nat → Int32} {i : Int32} {x : Int32} (h : M.2.2.2.2.2[k]? = some (pc, .bastore, 1, z)) (h4 : 4 ≤ a) (ha : S[a]? = some (.inl (.byte, n, .inl (f)))) (hin : vp_in i n) (hn : Rn d kc ks M (k + 1) ls st (S.set a (.inl (.byte, n, .inl (upd f i.toNatClampNeg (vp_nar .byte x))))) r S') : Rn d kc ks M k ls (.int x :: .int i :: .ref a :: st) S r S' := by
  refine ⟨(xlow.st h4).tr hn.1, ?_⟩
  intro hM g p l e R s m args below meth c Z F E H locs cells slots la hP hS hc hs hl
  obtain ⟨hd, hL, e1, e2⟩ := hM.entry h
  have e2 := e2 rfl
  rw [e1]
  show W p l e R s m args below meth c H locs cells slots Z (F0 m pc la (.int x :: .int i :: .ref (xa g a) :: st.map (xv g)))
  rw [xa_new h4 (hP.lt ha)]
  refine W.bast F.1 F.2.1 (hP.P (a - 4) _ (xw_get h4 ha)) ((F.2.2.2.2.2.1.1.2 1 _ rfl).1 n _) (fun q => by cases q) (by show ¬ (i < 0 ∨ (arrV _ _ _).slots.size ≤ _); rw [arrV_size]; exact hin) rfl rfl hd fun H1 e3 z1 oq => ?_
  have hat : va_at g.2.2.2.1 vwCl (g.1 + (a - 4), xe g (.inl (.byte, n, .inl (upd f i.toNatClampNeg (vp_nar .byte x))))) H1 := by
    show H1[g.1 + (a - 4)]? = some (vp_cell _ _)
    refine e3.trans ?_
    show some ((arrV _ n (fun j => .int (f j))).setSlot _ _) = some (arrV _ n (fun j => .int (upd f i.toNatClampNeg (vp_nar .byte x) j)))
    rw [arrV_store]
    congr 2
    funext q
    by_cases hq : q = i.toNatClampNeg
    · subst hq
      simp [updV, upd, vp_nar]
      try rfl
    · simp [updV, upd, vp_nar, hq]
  have hn := hn.2 hM g p l e R s m args below meth c Z (F.eqS (set_low h4)) E H1 _ cells slots la (hP.upd h4 ha z1 oq hat) (hS.put (k := i.toNatClampNeg) z1 oq (Nat.le_add_right _ _)) hc hs hl
  rw [e2] at hn
  exact hn
theorem Rn.zast {a n : Nat} {f : Nat → Int32} {i : Int32} {x : Int32} (h : M.2.2.2.2.2[k]? = some (pc, .bastore, 1, z)) (h4 : 4 ≤ a) (ha : S[a]? = some (.inl (.boolean, n, .inl (f)))) (hin : vp_in i n) (hn : Rn d kc ks M (k + 1) ls st (S.set a (.inl (.boolean, n, .inl (upd f i.toNatClampNeg (vp_nar .boolean x))))) r S') : Rn d kc ks M k ls (.int x :: .int i :: .ref a :: st) S r S' := by
  refine ⟨(xlow.st h4).tr hn.1, ?_⟩
  intro hM g p l e R s m args below meth c Z F E H locs cells slots la hP hS hc hs hl
  obtain ⟨hd, hL, e1, e2⟩ := hM.entry h
  have e2 := e2 rfl
  rw [e1]
  show W p l e R s m args below meth c H locs cells slots Z (F0 m pc la (.int x :: .int i :: .ref (xa g a) :: st.map (xv g)))
  rw [xa_new h4 (hP.lt ha)]
  refine W.zast F.1 F.2.1 (hP.P (a - 4) _ (xw_get h4 ha)) ((F.2.2.2.2.2.1.1.2 2 _ rfl).1 n _) (fun q => by cases q) (by show ¬ (i < 0 ∨ (arrV _ _ _).slots.size ≤ _); rw [arrV_size]; exact hin) rfl rfl hd fun H1 e3 z1 oq => ?_
  have hat : va_at g.2.2.2.1 vwCl (g.1 + (a - 4), xe g (.inl (.boolean, n, .inl (upd f i.toNatClampNeg (vp_nar .boolean x))))) H1 := by
    show H1[g.1 + (a - 4)]? = some (vp_cell _ _)
    refine e3.trans ?_
    show some ((arrV _ n (fun j => .int (f j))).setSlot _ _) = some (arrV _ n (fun j => .int (upd f i.toNatClampNeg (vp_nar .boolean x) j)))
    rw [arrV_store]
    congr 2
    funext q
    by_cases hq : q = i.toNatClampNeg
    · subst hq
      simp [updV, upd, vp_nar]
      try rfl
    · simp [updV, upd, vp_nar, hq]
  have hn := hn.2 hM g p l e R s m args below meth c Z (F.eqS (set_low h4)) E H1 _ cells slots la (hP.upd h4 ha z1 oq hat) (hS.put (k := i.toNatClampNeg) z1 oq (Nat.le_add_right _ _)) hc hs hl
  rw [e2] at hn
  exact hn
theorem Rn.last {a n : Nat} {f : Nat → Int64} {i : Int32} {x : Int64} (h : M.2.2.2.2.2[k]? = some (pc, .lastore, 1, z)) (h4 : 4 ≤ a) (ha : S[a]? = some (.inl (.long, n, .inr (.inl (f))))) (hin : vp_in i n) (hn : Rn d kc ks M (k + 1) ls st (S.set a (.inl (.long, n, .inr (.inl (va_up f i.toNatClampNeg x))))) r S') : Rn d kc ks M k ls (.long x :: .int i :: .ref a :: st) S r S' := by
  refine ⟨(xlow.st h4).tr hn.1, ?_⟩
  intro hM g p l e R s m args below meth c Z F E H locs cells slots la hP hS hc hs hl
  obtain ⟨hd, hL, e1, e2⟩ := hM.entry h
  have e2 := e2 rfl
  rw [e1]
  show W p l e R s m args below meth c H locs cells slots Z (F0 m pc la (.long x :: .int i :: .ref (xa g a) :: st.map (xv g)))
  rw [xa_new h4 (hP.lt ha)]
  refine W.last F.1 F.2.1 (hP.P (a - 4) _ (xw_get h4 ha)) ((F.2.2.2.2.2.1.1.2 3 _ rfl).1 n _) (fun q => by cases q) (by show ¬ (i < 0 ∨ (arrV _ _ _).slots.size ≤ _); rw [arrV_size]; exact hin) rfl rfl hd fun H1 e3 z1 oq => ?_
  have hat : va_at g.2.2.2.1 vwCl (g.1 + (a - 4), xe g (.inl (.long, n, .inr (.inl (va_up f i.toNatClampNeg x))))) H1 := by
    show H1[g.1 + (a - 4)]? = some (vp_cell _ _)
    refine e3.trans ?_
    show some ((arrV _ n (fun j => .long (f j))).setSlot _ _) = some (arrV _ n (fun j => .long (va_up f i.toNatClampNeg x j)))
    rw [arrV_store]
    congr 2
    funext q
    by_cases hq : q = i.toNatClampNeg
    · subst hq
      simp [updV, va_up]
      try rfl
    · simp [updV, va_up, hq]
  have hn := hn.2 hM g p l e R s m args below meth c Z (F.eqS (set_low h4)) E H1 _ cells slots la (hP.upd h4 ha z1 oq hat) (hS.put (k := i.toNatClampNeg) z1 oq (Nat.le_add_right _ _)) hc hs hl
  rw [e2] at hn
  exact hn
/-- rows of references: which class's -/
def tR (ty : FieldType) : Nat := if ty = .object "BoughtKin$Script" then 4 else 5
theorem xt_R {g : Gw} {C : String} (hC : C = "BoughtKin$Script" ∨ C = "BoughtKin$Country") : ∃ t0 : Nat, (xt g)[t0]? = some (g.2.2.2.2 (.object C), .object C) := by
  rcases hC with rfl | rfl
  · exact ⟨4, rfl⟩
  · exact ⟨5, rfl⟩
theorem Rn.aald {a n : Nat} {C : String} {f : Nat → Option Nat} {i : Int32} (h : M.2.2.2.2.2[k]? = some (pc, .aaload, 1, z)) (h4 : 4 ≤ a) (hC : C = "BoughtKin$Script" ∨ C = "BoughtKin$Country") (ha : S[a]? = some (.inl (.object C, n, .inr (.inr (.inr (.inr f)))))) (hin : vp_in i n) (hn : Rn d kc ks M (k + 1) ls (va_rf (f i.toNatClampNeg) :: st) S r S') : Rn d kc ks M k ls (.int i :: .ref a :: st) S r S' := by
  refine ⟨hn.1, ?_⟩
  intro hM g p l e R s m args below meth c Z F E H locs cells slots la hP hS hc hs hl
  obtain ⟨hd, hL, e1, e2⟩ := hM.entry h
  have e2 := e2 rfl
  have hn := hn.2 hM g p l e R s m args below meth c Z F E H locs cells slots la hP hS hc hs hl
  rw [e2] at hn
  rw [e1]
  obtain ⟨t0, ht⟩ := xt_R (g := g) hC
  show W p l e R s m args below meth c H locs cells slots Z (F0 m pc la (.int i :: .ref (xa g a) :: st.map (xv g)))
  rw [xa_new h4 (hP.lt ha)]
  have hv : xv g (va_rf (f i.toNatClampNeg)) = va_rf ((f i.toNatClampNeg).map (xa g)) := by cases f i.toNatClampNeg <;> rfl
  have hn : W p l e R s m args below meth c H locs cells slots Z (F0 m (pc + 1) la (xv g (va_rf (f i.toNatClampNeg)) :: st.map (xv g))) := hn
  rw [hv] at hn
  exact va_aldq F.1 F.2.1 F.2.2.2.2.2.1.1 hP.P (a - 4) t0 (n := n) (f := fun j => (f j).map (xa g)) (xw_get h4 ha) ht hin hd hn
theorem Rn.aast {a n v ci : Nat} {q : vw_C} {vs : List Value} {f : Nat → Option Nat} {i : Int32} (h : M.2.2.2.2.2[k]? = some (pc, .aastore, 1, z)) (h4 : 4 ≤ a) (hC : q.1 = "BoughtKin$Script" ∨ q.1 = "BoughtKin$Country") (ha : S[a]? = some (.inl (.object q.1, n, .inr (.inr (.inr (.inr f)))))) (hv4 : 4 ≤ v) (hv : S[v]? = some (.inr (ci, vs))) (hq : vwCl[ci]? = some q) (hin : vp_in i n) (hn : Rn d kc ks M (k + 1) ls st (S.set a (.inl (.object q.1, n, .inr (.inr (.inr (.inr (va_up f i.toNatClampNeg (some v)))))))) r S') : Rn d kc ks M k ls (.ref v :: .int i :: .ref a :: st) S r S' := by
  refine ⟨(xlow.st h4).tr hn.1, ?_⟩
  intro hM g p l e R s m args below meth c Z F E H locs cells slots la hP hS hc hs hl
  obtain ⟨hd, hL, e1, e2⟩ := hM.entry h
  have e2 := e2 rfl
  rw [e1]
  obtain ⟨t0, ht⟩ := xt_R (g := g) hC
  have hK := F.2.2.2.2.2.1.1
  have hlt : i.toNatClampNeg < n := in_lt hin
  have h0 : ¬ i < 0 := fun q => hin (Or.inl q)
  show W p l e R s m args below meth c H locs cells slots Z (F0 m pc la (.ref (xa g v) :: .int i :: .ref (xa g a) :: st.map (xv g)))
  rw [xa_new h4 (hP.lt ha), xa_new hv4 (hP.lt hv)]
  obtain ⟨r', hr', cellV, g1, g2, g3, -⟩ := hP.P (v - 4) _ (xw_get hv4 hv)
  have hcls := (hK.1 ci q hq).2
  obtain ⟨kA, comp, k1, k2, k3, -⟩ := (hK.2 t0 _ ht).2
  have hcomp : comp = g.2.2.2.1.1 ci := Option.some.inj (k3.symm.trans hcls.1)
  subst hcomp
  obtain ⟨kC, hkC, -⟩ := hcls.2
  refine W.aast F.1 F.2.1 (hP.P (a - 4) _ (xw_get h4 ha)) (fun q h => by cases h) (fun h => by cases h) k1 k2 rfl hkC ⟨h0, by show _ < (arrV _ _ _).slots.size; rw [arrV_size]; exact hlt⟩ g1 (fun q h => by rw [g3] at h; cases h) (by rw [g2]; exact hkC) (by rw [g2]; exact va_assign hcls) rfl rfl hd fun H1 e3 z1 oq => ?_
  have hat : va_at g.2.2.2.1 vwCl (g.1 + (a - 4), xe g (.inl (.object q.1, n, .inr (.inr (.inr (.inr (va_up f i.toNatClampNeg (some v)))))))) H1 := by
    show H1[g.1 + (a - 4)]? = some (vp_cell _ _)
    refine e3.trans ?_
    show some ((arrV _ n (fun j => va_rf ((f j).map (xa g)))).setSlot _ _) = some (arrV _ n (fun j => va_rf ((va_up f i.toNatClampNeg (some v) j).map (xa g))))
    rw [arrV_store]
    congr 2
    funext j
    by_cases hq : j = i.toNatClampNeg
    · subst hq
      simp [updV, va_up, va_rf, xa_new hv4 (hP.lt hv)]
    · simp [updV, va_up, hq]
  have hn := hn.2 hM g p l e R s m args below meth c Z (F.eqS (set_low h4)) E H1 _ cells slots la (hP.upd h4 ha z1 oq hat) (hS.put (k := i.toNatClampNeg) z1 oq (Nat.le_add_right _ _)) hc hs hl
  rw [e2] at hn
  exact hn
theorem Rn.aastN {a n : Nat} {C : String} {f : Nat → Option Nat} {i : Int32} (h : M.2.2.2.2.2[k]? = some (pc, .aastore, 1, z)) (h4 : 4 ≤ a) (hC : C = "BoughtKin$Script" ∨ C = "BoughtKin$Country") (ha : S[a]? = some (.inl (.object C, n, .inr (.inr (.inr (.inr f)))))) (hin : vp_in i n) (hn : Rn d kc ks M (k + 1) ls st (S.set a (.inl (.object C, n, .inr (.inr (.inr (.inr (va_up f i.toNatClampNeg none))))))) r S') : Rn d kc ks M k ls (.null :: .int i :: .ref a :: st) S r S' := by
  refine ⟨(xlow.st h4).tr hn.1, ?_⟩
  intro hM g p l e R s m args below meth c Z F E H locs cells slots la hP hS hc hs hl
  obtain ⟨hd, hL, e1, e2⟩ := hM.entry h
  have e2 := e2 rfl
  rw [e1]
  obtain ⟨t0, ht⟩ := xt_R (g := g) hC
  show W p l e R s m args below meth c H locs cells slots Z (F0 m pc la (.null :: .int i :: .ref (xa g a) :: st.map (xv g)))
  rw [xa_new h4 (hP.lt ha)]
  refine va_WaastN (C := C) F.1 F.2.1 (hP.P (a - 4) _ (xw_get h4 ha)) ((F.2.2.2.2.2.1.1.2 t0 _ ht).1 n _) (fun h => by cases h) (by show ¬ (i < 0 ∨ (arrV _ _ _).slots.size ≤ _); rw [arrV_size]; exact hin) rfl rfl hd fun H1 e3 z1 oq => ?_
  have hat : va_at g.2.2.2.1 vwCl (g.1 + (a - 4), xe g (.inl (.object C, n, .inr (.inr (.inr (.inr (va_up f i.toNatClampNeg none))))))) H1 := by
    show H1[g.1 + (a - 4)]? = some (vp_cell _ _)
    refine e3.trans ?_
    show some ((arrV _ n (fun j => va_rf ((f j).map (xa g)))).setSlot _ _) = some (arrV _ n (fun j => va_rf ((va_up f i.toNatClampNeg none j).map (xa g))))
    rw [arrV_store]
    congr 2
    funext j
    by_cases hq : j = i.toNatClampNeg
    · subst hq
      simp [updV, va_up, va_rf]
    · simp [updV, va_up, hq]
  have hn := hn.2 hM g p l e R s m args below meth c Z (F.eqS (set_low h4)) E H1 _ cells slots la (hP.upd h4 ha z1 oq hat) (hS.put (k := i.toNatClampNeg) z1 oq (Nat.le_add_right _ _)) hc hs hl
  rw [e2] at hn
  exact hn
theorem va_S.pushed {A : Nat → Prop} {H0 H H1 : Heap} {locs : List Loc} (h : va_S A H0 H locs) (z : H1.size = H.size + 1) (oq : ∀ q : Nat, q < H.size → H1[q]? = H[q]?) : va_S A H0 H1 locs := ⟨by have := h.1; omega, fun q h1 h2 => (oq q (Nat.lt_of_lt_of_le h1 h.1)).trans (h.2.1 q h1 h2), h.2.2⟩
/-- an object, its fields as they are at first -/
theorem Rn.new {i ci j1 j2 j3 N : Nat} {C : String} {T : u_T} {fs : List Value} (h : M.2.2.2.2.2[k]? = some (pc, .new i, 3, [ci, j1, j2, j3])) (hq : vwCl[ci]? = some (C, T, N)) (hfs : ∀ j, j < N → defaultValue (vwTy ci j) = vp_V fs j) (hfr : fs.all (fun v => match v with | .ref _ => false | _ => true) = true) (hl4 : 4 ≤ S.length) (hll : S.length + 1 ≤ 1000000000) (hn : Rn d kc ks M (k + 1) ls (.ref S.length :: st) (S ++ [.inr (ci, fs)]) r S') : Rn d (kc + 1) (ks + N) M k ls st S r S' := by
  refine ⟨(xlow.ap hl4).tr hn.1, ?_⟩
  intro hM g p l e R s m args below meth c Z F E H locs cells slots la hP hS hc hs hl
  obtain ⟨hd, hL, e1, e2⟩ := hM.entry h
  have e2 := e2 rfl
  rw [e1]
  have hw : Cond.classLink M.1.cls i C ∈ wT ∧ Cond.instantiable C N ∈ wT ∧ Cond.initialized C ∈ wT := by
    simp only [ckL] at hL
    rw [hq] at hL
    simp only [Bool.and_eq_true] at hL
    exact ⟨ckW_mem hL.1, ckW_mem hL.2.1, ckW_mem hL.2.2⟩
  have hts := F.2.2.2.2.1
  have hKn := F.2.2.2.2.2.1.1.1 ci _ hq
  refine W.newcK F.1 F.2.1 F.2.2.2.1 (hts _ hw.1) (hts _ hw.2.1) (hts _ hw.2.2) rfl hd (by omega) (by omega) hKn.2.1 rfl fun H1 kC hkC e3 z1 o1 => ?_
  have hfm : fs.map (xv g) = fs := by
    rw [List.map_congr_left (g := id), List.map_id]
    intro v hv
    have := List.all_eq_true.mp hfr v hv
    cases v <;> first | rfl | cases this
  have hat : va_at g.2.2.2.1 vwCl (H.size, xe g (.inr (ci, fs))) H1 := by
    refine ⟨_, hq, ?_⟩
    show t_OB H.size _ _ _ _ (vp_V (fs.map (xv g)))
    rw [hfm]
    exact (u_born (vwTy ci) hts (lay_ok hq) hKn hkC e3 (vwTy_ok hq).1).to hfs
  have hn := hn.2 hM g p l e R s m args below meth c Z (F.eqS (app_low hl4)) E H1 _ (cells + 1) (slots + N) la (hP.push hll z1 o1 hat) (hS.pushed z1 o1) (by omega) (by omega) hl
  rw [e2] at hn
  have hx : xa g S.length = H.size := by rw [xa_new hl4 (by omega), hP.1]
  have hn : W p l e R s m args below meth c H1 locs (cells + 1) (slots + N) Z (F0 m (pc + 3) la (.ref (xa g S.length) :: st.map (xv g))) := hn
  rw [hx] at hn
  exact hn
/-- a row of numbers, all 0 -/
theorem Rn.newa {at_ : ArrayType} {ty : FieldType} {a0 : (Nat → Int32) ⊕ (Nat → Int64) ⊕ (Nat → UInt32) ⊕ (Nat → UInt64) ⊕ (Nat → Option Nat)} {n : Int32} {N : Nat} (h : M.2.2.2.2.2[k]? = some (pc, .newarray at_, 2, z)) (hty : newarray.typeOf at_ = ty) (h0 : (ty = .int ∧ a0 = .inl (fun _ => 0)) ∨ (ty = .byte ∧ a0 = .inl (fun _ => 0)) ∨ (ty = .boolean ∧ a0 = .inl (fun _ => 0)) ∨ (ty = .long ∧ a0 = .inr (.inl (fun _ => 0)))) (hw : Cond.arrayClass ty ∈ wT) (hneg : ¬ n < 0) (hN : n.toNatClampNeg = N) (hb8 : N * 8 ≤ 536870912) (hl4 : 4 ≤ S.length) (hll : S.length + 1 ≤ 1000000000) (hn : Rn d kc ks M (k + 1) ls (.ref S.length :: st) (S ++ [.inl (ty, N, a0)]) r S') : Rn d (kc + 1) (ks + N) M k ls (.int n :: st) S r S' := by
  refine ⟨(xlow.ap hl4).tr hn.1, ?_⟩
  intro hM g p l e R s m args below meth c Z F E H locs cells slots la hP hS hc hs hl
  obtain ⟨hd, hL, e1, e2⟩ := hM.entry h
  have e2 := e2 rfl
  rw [e1]
  subst hty
  have hts := F.2.2.2.2.1
  have hK := F.2.2.2.2.2.1.1
  have hbytes : N * componentBytes (newarray.typeOf at_) ≤ 536870912 := by
    have : componentBytes (newarray.typeOf at_) ≤ 8 := by cases at_ <;> decide
    exact Nat.le_trans (Nat.mul_le_mul_left N this) hb8
  refine va_newaK F.1 F.2.1 (hts _ hw) rfl hd rfl hneg hN hbytes (by omega) (by omega) rfl fun H1 cA e3 z1 o1 hAr hNm => ?_
  have hat : va_at g.2.2.2.1 vwCl (H.size, xe g (.inl (newarray.typeOf at_, N, a0))) H1 := by
    show H1[H.size]? = some (vp_cell _ _)
    refine e3.trans ?_
    rcases h0 with ⟨ht, rfl⟩ | ⟨ht, rfl⟩ | ⟨ht, rfl⟩ | ⟨ht, rfl⟩
    · have hcid : cA = g.2.2.2.2 (newarray.typeOf at_) := by rw [ht] at hNm ⊢; exact Option.some.inj (hNm.symm.trans (hK.2 0 _ rfl).2)
      rw [hcid, ht]; rfl
    · have hcid : cA = g.2.2.2.2 (newarray.typeOf at_) := by rw [ht] at hNm ⊢; exact Option.some.inj (hNm.symm.trans (hK.2 1 _ rfl).2)
      rw [hcid, ht]; rfl
    · have hcid : cA = g.2.2.2.2 (newarray.typeOf at_) := by rw [ht] at hNm ⊢; exact Option.some.inj (hNm.symm.trans (hK.2 2 _ rfl).2)
      rw [hcid, ht]; rfl
    · have hcid : cA = g.2.2.2.2 (newarray.typeOf at_) := by rw [ht] at hNm ⊢; exact Option.some.inj (hNm.symm.trans (hK.2 3 _ rfl).2)
      rw [hcid, ht]; rfl
  have hn := hn.2 hM g p l e R s m args below meth c Z (F.eqS (app_low hl4)) E H1 _ (cells + 1) (slots + N) la (hP.push hll z1 o1 hat) (hS.pushed z1 o1) (by omega) (by omega) hl
  rw [e2] at hn
  have hx : xa g S.length = H.size := by rw [xa_new hl4 (by omega), hP.1]
  have hn : W p l e R s m args below meth c H1 locs (cells + 1) (slots + N) Z (F0 m (pc + 2) la (.ref (xa g S.length) :: st.map (xv g))) := hn
  rw [hx] at hn
  exact hn
/-- a row of references, all null -/
theorem Rn.anewa {i : Nat} {C : String} {n : Int32} {N : Nat} (h : M.2.2.2.2.2[k]? = some (pc, .anewarray i, 3, z)) (hC : C = "BoughtKin$Script" ∨ C = "BoughtKin$Country") (hw : Cond.classLink M.1.cls i C ∈ wT) (hneg : ¬ n < 0) (hN : n.toNatClampNeg = N) (hb8 : N * 8 ≤ 536870912) (hl4 : 4 ≤ S.length) (hll : S.length + 1 ≤ 1000000000) (hn : Rn d kc ks M (k + 1) ls (.ref S.length :: st) (S ++ [.inl (.object C, N, .inr (.inr (.inr (.inr (fun _ => none)))))]) r S') : Rn d (kc + 1) (ks + N) M k ls (.int n :: st) S r S' := by
  refine ⟨(xlow.ap hl4).tr hn.1, ?_⟩
  intro hM g p l e R s m args below meth c Z F E H locs cells slots la hP hS hc hs hl
  obtain ⟨hd, hL, e1, e2⟩ := hM.entry h
  have e2 := e2 rfl
  rw [e1]
  obtain ⟨t0, ht⟩ := xt_R (g := g) hC
  have hts := F.2.2.2.2.1
  have hK := F.2.2.2.2.2.1.1
  have hAO : va_AO C s := by
    obtain ⟨-, -, -, -, -, -, -, ha, hb, -⟩ := F.2.2.2.2.2.1.2
    rcases hC with rfl | rfl
    · exact ha
    · exact hb
  subst hN
  refine W.anew F.1 F.2.1 F.2.2.2.1 (hts _ hw) (va_AO.use hAO) rfl hd rfl hneg (by omega) (by omega) (by omega) fun cA kA comp f1 f2 f3 f4 => ?_
  generalize hH1 : H.push ({ cls := cA, slots := Array.replicate n.toNatClampNeg .null, vm := .none } : Cell) = H1
  have z1 : H1.size = H.size + 1 := by rw [← hH1, Array.size_push]
  have e3 : H1[H.size]? = some (arrV cA n.toNatClampNeg (fun _ => .null)) := by rw [← hH1, Array.getElem?_push_size, ← arrV_new]
  have o1 : ∀ q : Nat, q < H.size → H1[q]? = H[q]? := fun q hq => by rw [← hH1, Array.getElem?_push, if_neg (Nat.ne_of_lt hq)]
  have hcid : cA = g.2.2.2.2 (.object C) := by
    obtain ⟨_, _, -, -, -, k4⟩ := (hK.2 t0 _ ht).2
    exact Option.some.inj (f1.symm.trans k4)
  have hat : va_at g.2.2.2.1 vwCl (H.size, xe g (.inl (.object C, n.toNatClampNeg, .inr (.inr (.inr (.inr (fun _ => none))))))) H1 := by
    show H1[H.size]? = some (vp_cell _ _)
    refine e3.trans ?_
    rw [hcid]
    rfl
  have hn := hn.2 hM g p l e R s m args below meth c Z (F.eqS (app_low hl4)) E H1 _ (cells + 1) (slots + n.toNatClampNeg) la (hP.push hll z1 o1 hat) (hS.pushed z1 o1) (by omega) (by omega) hl
  rw [e2] at hn
  have hx : xa g S.length = H.size := by rw [xa_new hl4 (by omega), hP.1]
  have hn : W p l e R s m args below meth c H1 locs (cells + 1) (slots + n.toNatClampNeg) Z (F0 m (pc + 3) la (.ref (xa g S.length) :: st.map (xv g))) := hn
  rw [hx] at hn
  exact hn
end STORES
end
section
/-! calls, and a method's contract out of its run -/
theorem xK.calling {g : Gw} {S : Sg} {U : State} {g' : JFrame} {mk : MethodId} {a : Array Value} (h : xK g S U) : xK g S (U.calling g' mk a) := xK.warm (s := U) (U := U.calling g' mk a) (State.WarmedH.refl U) h
theorem goodAll {M : Mt} (h : okC M) : GoodIn wT (wsM M) := fun w hw => by
  rcases List.mem_cons.mp hw with rfl | hw
  · exact ⟨h.facts.2.2.2.1, wT_good h.facts.2.2.2.1⟩
  · exact ⟨hw, wT_good hw⟩
theorem toList_map (g : Gw) (r : Option Value) (st : List Value) : (r.toList ++ st).map (xv g) = (r.map (xv g)).toList ++ st.map (xv g) := by cases r <;> rfl
theorem cat_map (g : Gw) (st : List Value) : ((st.map (xv g)).map fun v => v.category).sum = (st.map fun v => v.category).sum := by
  rw [List.map_map]
  congr 1
  apply List.map_congr_left
  intro v _
  exact xv_cat g v
section CALLS
variable {d kc ks d1 kc1 ks1 : Nat} {M M' : Mt} {k pc i : Nat} {z : List Nat} {ls : List (Option Value)} {st as stk : List Value} {S S1 : Sg} {r r1 : Option Value} {S' : Sg}
/-- what every call has -/
theorem call_B {g : Gw} {p : Program} {R : Room} {s : State} {m : MethodId} {args : Array Value} {meth : Method} {c : Code} (hM' : okC M') (F : xF g S d M p R s m args meth c) (hl : Cond.methodLink M.1.cls i M'.1 ∈ wT) (hd1 : d1 + 1 ≤ d) : CallB R s args M.1.cls i M'.1 M'.2.1 M'.2.2.1 M'.2.2.2.1 (wsM M') { frames := d1, cells := kc1, slots := ks1, locals := 41 * d1 } kc1 ks1 (nPar M') := by
  obtain ⟨f1, f2, f3, f4, f5, f6, -⟩ := hM'.facts
  have hts := F.2.2.2.2.1
  have hR1 := F.2.2.2.2.2.2.2.1
  have hR2 := F.2.2.2.2.2.2.2.2.1
  refine callB_of (nPar M') hts (goodAll hM') rfl rfl rfl (hts _ f5) (hts _ hl) ⟨f3.1, f3.2, f6⟩ ⟨by show d1 + 1 ≤ R.frames; omega, ?_⟩
  show 8 + (M'.2.2.1 + 11) + 41 * d1 ≤ R.locals
  omega
theorem call_N {g : Gw} {p : Program} {R : Room} {s : State} {m : MethodId} {args : Array Value} {meth : Method} {c : Code} (hM' : okC M') (F : xF g S d M p R s m args meth c) (hl : (M.1.cls, i, M'.1) ∈ nstM) (hd1 : d1 + 1 ≤ d) : va_CN R s args M.1.cls i M'.1 "BoughtKin" M'.2.1 M'.2.2.1 M'.2.2.2.1 (wsM M') { frames := d1, cells := kc1, slots := ks1, locals := 41 * d1 } kc1 ks1 (nPar M') := by
  obtain ⟨f1, f2, f3, f4, f5, f6, -⟩ := hM'.facts
  have hts := F.2.2.2.2.1
  have hR1 := F.2.2.2.2.2.2.2.1
  have hR2 := F.2.2.2.2.2.2.2.2.1
  obtain ⟨-, -, -, -, -, -, -, -, -, hm, -⟩ := F.2.2.2.2.2.1.2
  refine va_cnB (nPar M') hts (goodAll hM') rfl rfl rfl (hm _ hl) (hts _ f5) ⟨f3.1, f3.2, f6⟩ ⟨by show d1 + 1 ≤ R.frames; omega, ?_⟩
  show 8 + (M'.2.2.1 + 11) + 41 * d1 ≤ R.locals
  omega
/-- the way on behind a call -/
theorem call_on {g : Gw} {p : Program} {l : Launch} {e : Env} {R : Room} {s : State} {m : MethodId} {args : Array Value} {below : List Frame} {meth : Method} {c : Code} {Z : State → Prop} {H : Heap} {locs : List Loc} {cells slots : Nat} {la : Array Slot} {st0 : List Value} {a : Array Value} (hM : okM M) (F : xF g S d M p R s m args meth c) (hlow : xlow S S1) (hP : xH g S H) (hS : va_S (xA g) s.heap H locs) (hl : xL g la M.2.2.1 ls) (hc : cells + (kc1 + kc) ≤ R.cells) (hs : slots + (ks1 + ks) ≤ R.slots)
    (E : ∀ (H : Heap) (locs : List Loc) (cells slots k' : Nat) (la : Array Slot), xR M k' r → xH g S' H → va_S (xA g) s.heap H locs → cells ≤ R.cells → slots ≤ R.slots → W p l e R s m args below meth c H locs cells slots Z (F0 m (pcAt M k') la ((r.map (xv g)).toList)))
    (hr : va_Run p l e R s m args below meth c H locs cells slots kc1 ks1 (F0 m pc la st0) (st.map (xv g)) ((fun _ _ o t => o = .returned (r1.map (xv g)) ∧ xH g S1 t.heap : Array Value → State → Outcome → State → Prop) a) (xA g)) (e2 : pcAt M (k + 1) = pc + 3) (hn : Rn d kc ks M (k + 1) ls (r1.toList ++ st) S1 r S') : W p l e R s m args below meth c H locs cells slots Z (F0 m pc la st0) := by
  intro T hT X
  obtain ⟨v, st₀, t, T', L, h0, X', hL, e3, e4, ⟨hv, hH⟩, stp⟩ := hr T hT X
  cases hv
  have hH' : xH g S1 T'.heap := by rw [e3]; exact hH
  have hS' : va_S (xA g) s.heap T'.heap (locs ++ L) := by
    refine ⟨?_, fun q h1 h2 => ?_, fun q hq => ?_⟩
    · have := hS.1
      have := hP.1
      have := hH'.1
      have := hlow.2
      omega
    · have hq : q < g.1 := Nat.not_le.mp h2
      rw [hH'.2.2.2.1 q hq, F.2.2.2.2.2.2.2.2.2.1 q hq]
    · rcases List.mem_append.mp hq with h | h
      · exact hS.2.2 q h
      · exact hL q h
  have hn := hn.2 hM g p l e R s m args below meth c Z (F.eqS hlow.1) E T'.heap (locs ++ L) (cells + kc1) (slots + ks1) la hH' hS' (by omega) (by omega) hl
  rw [e2, toList_map] at hn
  obtain ⟨t2, a1, b1⟩ := hn T' rfl X'
  exact ⟨t2, stp t2 a1, b1⟩
theorem Rn.callV {q ci N : Nat} {T : u_T} {fs : List Value} (h : M.2.2.2.2.2[k]? = some (pc, .invokevirtual i, 3, z)) (hl : Cond.methodLink M.1.cls i M'.1 ∈ wT) (hkd : kindM M' = 0) (h4 : 4 ≤ q) (hq : S[q]? = some (.inr (ci, fs))) (hci : vwCl[ci]? = some (M'.1.cls, T, N)) (hC : Cl d1 kc1 ks1 M' (.ref q :: as) S r1 S1) (hd1 : d1 + 1 ≤ d) (hst : stk = as.reverse ++ .ref q :: st) (hlen : as.length = nPar M') (hcat : (st.map fun v => v.category).sum ≤ 8) (hn : Rn d kc ks M (k + 1) ls (r1.toList ++ st) S1 r S') : Rn d (kc1 + kc) (ks1 + ks) M k ls stk S r S' := by
  refine ⟨hC.2.1.tr hn.1, ?_⟩
  intro hM g p l e R s m args below meth c Z F E H locs cells slots la hP hS hc hs hla
  obtain ⟨hd, -, e1, e2⟩ := hM.entry h
  have e2 := e2 rfl
  rw [e1]
  subst hst
  obtain ⟨hM', hlow, hMet⟩ := hC
  have hts := F.2.2.2.2.1
  obtain ⟨g1, g2⟩ := hM'.facts.2.2.2.2.2.2.1 hkd
  have hrec := va_recv F.2.2.2.2.2.1.1 hP.P (q0 := q - 4) hci (xw_get h4 hq)
  rw [← xa_new (g := g) h4 (hP.lt hq)] at hrec
  refine call_on hM F hlow hP hS hla (by omega) (by omega) E (a := (Value.ref (xa g q) :: as.map (xv g)).toArray) (va_runV (As := as.map (xv g)) (rest := st.map (xv g)) ⟨F.1, F.2.1, F.2.2.1, F.2.2.2.1, hts⟩ (hMet g l) ⟨call_B hM' F hl hd1, hts _ g1, hts _ g2⟩ ⟨fun a U g' mk q => ⟨q.1, q.2.1, xK.calling q.2.2.1, q.2.2.2⟩, hrec, fun U hU hW => ⟨rfl, by rw [hU]; exact hP, xK.warm hW F.2.2.2.2.2.1, ?_⟩⟩ rfl (by rw [List.length_map]; exact hlen) hla.1 ?_ ?_ hd ⟨by omega, by omega⟩) e2 hn
  · rw [hU]
    have := hP.1
    omega
  · show List.map (xv g) (as.reverse ++ .ref q :: st) = _
    rw [List.map_append, List.map_reverse]
    rfl
  · show 2 * 0 + _ ≤ 8
    rw [cat_map]
    omega
theorem Rn.callS (h : M.2.2.2.2.2[k]? = some (pc, .invokestatic i, 3, z)) (hl : Cond.methodLink M.1.cls i M'.1 ∈ wT) (hkd : kindM M' = 1) (hC : Cl d1 kc1 ks1 M' as S r1 S1) (hd1 : d1 + 1 ≤ d) (hst : stk = as.reverse ++ st) (hlen : as.length = nPar M') (hcat : (st.map fun v => v.category).sum ≤ 8) (hn : Rn d kc ks M (k + 1) ls (r1.toList ++ st) S1 r S') : Rn d (kc1 + kc) (ks1 + ks) M k ls stk S r S' := by
  refine ⟨hC.2.1.tr hn.1, ?_⟩
  intro hM g p l e R s m args below meth c Z F E H locs cells slots la hP hS hc hs hla
  obtain ⟨hd, -, e1, e2⟩ := hM.entry h
  have e2 := e2 rfl
  rw [e1]
  subst hst
  obtain ⟨hM', hlow, hMet⟩ := hC
  have hts := F.2.2.2.2.1
  have g1 := hM'.facts.2.2.2.2.2.2.2.1 hkd
  refine call_on hM F hlow hP hS hla (by omega) (by omega) E (a := (as.map (xv g)).toArray) (va_runS (As := as.map (xv g)) (rest := st.map (xv g)) ⟨F.1, F.2.1, F.2.2.1, F.2.2.2.1, hts⟩ (hMet g l) ⟨call_B hM' F hl hd1, hts _ g1⟩ ⟨fun a U g' mk q => ⟨q.1, q.2.1, xK.calling q.2.2.1, q.2.2.2⟩, fun U hU hW => ⟨rfl, by rw [hU]; exact hP, xK.warm hW F.2.2.2.2.2.1, ?_⟩⟩ rfl (by rw [List.length_map]; exact hlen) hla.1 ?_ ?_ hd ⟨by omega, by omega⟩) e2 hn
  · rw [hU]
    have := hP.1
    omega
  · show List.map (xv g) (as.reverse ++ st) = _
    rw [List.map_append, List.map_reverse]
  · show 2 * 0 + _ ≤ 8
    rw [cat_map]
    omega
theorem Rn.callI {q : Nat} (h : M.2.2.2.2.2[k]? = some (pc, .invokespecial i, 3, z)) (hl : Cond.methodLink M.1.cls i M'.1 ∈ wT) (hkd : kindM M' = 2) (hC : Cl d1 kc1 ks1 M' (.ref q :: as) S none S1) (hd1 : d1 + 1 ≤ d) (hst : stk = as.reverse ++ .ref q :: st) (hlen : as.length = nPar M') (hcat : (st.map fun v => v.category).sum ≤ 8) (hn : Rn d kc ks M (k + 1) ls st S1 r S') : Rn d (kc1 + kc) (ks1 + ks) M k ls stk S r S' := by
  refine ⟨hC.2.1.tr hn.1, ?_⟩
  intro hM g p l e R s m args below meth c Z F E H locs cells slots la hP hS hc hs hla
  obtain ⟨hd, -, e1, e2⟩ := hM.entry h
  have e2 := e2 rfl
  rw [e1]
  subst hst
  obtain ⟨hM', hlow, hMet⟩ := hC
  have hts := F.2.2.2.2.1
  obtain ⟨g1, g2, g3⟩ := hM'.facts.2.2.2.2.2.2.2.2 hkd
  have hB := call_B (kc1 := kc1) (ks1 := ks1) hM' F hl hd1
  rw [g3] at hB
  refine call_on (r1 := none) hM F hlow hP hS hla (by omega) (by omega) E (a := (Value.ref (xa g q) :: as.map (xv g)).toArray) (va_runI (As := as.map (xv g)) (rest := st.map (xv g)) ⟨F.1, F.2.1, F.2.2.1, F.2.2.2.1, hts⟩ (hMet g l) ⟨hB, g2, hts _ g1⟩ ⟨fun a U g' mk q => ⟨q.1, q.2.1, xK.calling q.2.2.1, q.2.2.2⟩, fun U hU hW => ⟨rfl, by rw [hU]; exact hP, xK.warm hW F.2.2.2.2.2.1, ?_⟩⟩ rfl (by rw [List.length_map]; exact hlen) hla.1 ?_ ?_ hd ⟨by omega, by omega⟩) e2 hn
  · rw [hU]
    have := hP.1
    omega
  · show List.map (xv g) (as.reverse ++ .ref q :: st) = _
    rw [List.map_append, List.map_reverse]
    rfl
  · show 2 * 0 + _ ≤ 8
    rw [cat_map]
    omega
theorem Rn.callSN (h : M.2.2.2.2.2[k]? = some (pc, .invokestatic i, 3, z)) (hl : (M.1.cls, i, M'.1) ∈ nstM) (hkd : kindM M' = 1) (hC : Cl d1 kc1 ks1 M' as S r1 S1) (hd1 : d1 + 1 ≤ d) (hst : stk = as.reverse ++ st) (hlen : as.length = nPar M') (hcat : (st.map fun v => v.category).sum ≤ 8) (hn : Rn d kc ks M (k + 1) ls (r1.toList ++ st) S1 r S') : Rn d (kc1 + kc) (ks1 + ks) M k ls stk S r S' := by
  refine ⟨hC.2.1.tr hn.1, ?_⟩
  intro hM g p l e R s m args below meth c Z F E H locs cells slots la hP hS hc hs hla
  obtain ⟨hd, -, e1, e2⟩ := hM.entry h
  have e2 := e2 rfl
  rw [e1]
  subst hst
  obtain ⟨hM', hlow, hMet⟩ := hC
  have hts := F.2.2.2.2.1
  have g1 := hM'.facts.2.2.2.2.2.2.2.1 hkd
  refine call_on hM F hlow hP hS hla (by omega) (by omega) E (a := (as.map (xv g)).toArray) (va_runSN (As := as.map (xv g)) (rest := st.map (xv g)) ⟨F.1, F.2.1, F.2.2.1, F.2.2.2.1, hts⟩ (hMet g l) ⟨call_N hM' F hl hd1, hts _ g1, trivial⟩ ⟨fun a U g' mk q => ⟨q.1, q.2.1, xK.calling q.2.2.1, q.2.2.2⟩, fun U hU hW => ⟨rfl, by rw [hU]; exact hP, xK.warm hW F.2.2.2.2.2.1, ?_⟩⟩ rfl (by rw [List.length_map]; exact hlen) hla.1 ?_ ?_ hd ⟨by omega, by omega⟩) e2 hn
  · rw [hU]
    have := hP.1
    omega
  · show List.map (xv g) (as.reverse ++ st) = _
    rw [List.map_append, List.map_reverse]
  · show 2 * 0 + _ ≤ 8
    rw [cat_map]
    omega
theorem Rn.callIN {q : Nat} (h : M.2.2.2.2.2[k]? = some (pc, .invokespecial i, 3, z)) (hl : (M.1.cls, i, M'.1) ∈ nstM) (hkd : kindM M' = 2) (hC : Cl d1 kc1 ks1 M' (.ref q :: as) S none S1) (hd1 : d1 + 1 ≤ d) (hst : stk = as.reverse ++ .ref q :: st) (hlen : as.length = nPar M') (hcat : (st.map fun v => v.category).sum ≤ 8) (hn : Rn d kc ks M (k + 1) ls st S1 r S') : Rn d (kc1 + kc) (ks1 + ks) M k ls stk S r S' := by
  refine ⟨hC.2.1.tr hn.1, ?_⟩
  intro hM g p l e R s m args below meth c Z F E H locs cells slots la hP hS hc hs hla
  obtain ⟨hd, -, e1, e2⟩ := hM.entry h
  have e2 := e2 rfl
  rw [e1]
  subst hst
  obtain ⟨hM', hlow, hMet⟩ := hC
  have hts := F.2.2.2.2.1
  obtain ⟨g1, g2, g3⟩ := hM'.facts.2.2.2.2.2.2.2.2 hkd
  have hB := call_N (kc1 := kc1) (ks1 := ks1) hM' F hl hd1
  rw [g3] at hB
  refine call_on (r1 := none) hM F hlow hP hS hla (by omega) (by omega) E (a := (Value.ref (xa g q) :: as.map (xv g)).toArray) (va_runIN (As := as.map (xv g)) (rest := st.map (xv g)) ⟨F.1, F.2.1, F.2.2.1, F.2.2.2.1, hts⟩ (hMet g l) ⟨hB, g2, hts _ g1⟩ ⟨fun a U g' mk q => ⟨q.1, q.2.1, xK.calling q.2.2.1, q.2.2.2⟩, fun U hU hW => ⟨rfl, by rw [hU]; exact hP, xK.warm hW F.2.2.2.2.2.1, ?_⟩⟩ rfl (by rw [List.length_map]; exact hlen) hla.1 ?_ ?_ hd ⟨by omega, by omega⟩) e2 hn
  · rw [hU]
    have := hP.1
    omega
  · show List.map (xv g) (as.reverse ++ .ref q :: st) = _
    rw [List.map_append, List.map_reverse]
    rfl
  · show 2 * 0 + _ ≤ 8
    rw [cat_map]
    omega
end CALLS
/-- the locals at a method's entry -/
def xls : List Value → List (Option Value)
  | [] => []
  | v :: vs => if v.category = 2 then some v :: none :: xls vs else some v :: xls vs
theorem xls_at : ∀ (as : List Value) (g : Gw) (b i : Nat) (v : Value), (xls as)[i]? = some (some v) → (b + i, xv g v) ∈ lv_args b (as.map (xv g))
  | [], _, _, _, _, h => by simp [xls] at h
  | w :: ws, g, b, i, v, h => by
    unfold xls at h
    show (b + i, xv g v) ∈ (b, xv g w) :: lv_args (if (xv g w).category = 2 then b + 2 else b + 1) (ws.map (xv g))
    rw [xv_cat]
    by_cases hc : w.category = 2
    · rw [if_pos hc] at h ⊢
      match i, h with
      | 0, h => simp at h; subst h; exact List.mem_cons_self
      | 1, h => simp at h
      | j + 2, h =>
        have := xls_at ws g (b + 2) j v (by simpa using h)
        rw [show b + (j + 2) = b + 2 + j by omega]
        exact List.mem_cons_of_mem _ this
    · rw [if_neg hc] at h ⊢
      match i, h with
      | 0, h => simp at h; subst h; exact List.mem_cons_self
      | j + 1, h =>
        have := xls_at ws g (b + 1) j v (by simpa using h)
        rw [show b + (j + 1) = b + 1 + j by omega]
        exact List.mem_cons_of_mem _ this
theorem lg_len (g : Gw) : ∀ as : List Value, (lg_sl (as.map (xv g))).length = (lg_sl as).length
  | [] => rfl
  | v :: vs => by
    have := lg_len g vs
    simp only [lg_sl, List.map_cons, List.flatMap_cons, List.length_append, xv_cat] at this ⊢
    rw [this]
    congr 1
    split <;> rfl
set_option maxHeartbeats 1000000 in
theorem Cl.of {d kc ks : Nat} {M : Mt} {as : List Value} {ls : List (Option Value)} {S S' : Sg} {r : Option Value} (hM : okC M) (hls : ∀ (i : Nat) (v : Value), ls[i]? = some (some v) → (xls as)[i]? = some (some v)) (hlen : (lg_sl as).length ≤ M.2.2.1) (h0 : pcAt M 0 = 0) (hn : Rn d kc ks M 0 ls [] S r S') : Cl d kc ks M as S r S' := by
  refine ⟨hM, hn.1, fun g l => ?_⟩
  refine Met.ofW (cc := M.2.1) (maxL := M.2.2.1) (ret := M.2.2.2.1) hM.facts.1 rfl ?_
  intro p e s m args below meth c s₁ B hml hv
  obtain ⟨rfl, hH, hK, hsz⟩ := hv
  have hts := atoms_spec (ws := wsM M) B.pre
  have hr := B.returns
  have hlocks := B.notSynchronized
  have hl := lv_entry (as.map (xv g)) (n := M.2.2.1) (by rw [lg_len]; exact hlen)
  rw [lg_entry_eq]
  generalize (lg_sl (as.map (xv g)) ++ List.replicate (M.2.2.1 - (lg_sl (as.map (xv g))).length) Slot.unset).toArray = la at hl ⊢
  have hL : xL g la M.2.2.1 ls := ⟨hl.1, hl.2.1, fun i v h => by
    have := hl.2.2 _ (xls_at as g 0 i v (hls i v h))
    simpa using this⟩
  have hF : xF g S d M p (headSpec (wsM M) { frames := d, cells := kc, slots := ks, locals := 41 * d }).room s m (as.map (xv g)).toArray meth c := ⟨B.exec, B.bytes, hml, findClass_of_methodNamed B.named, fun w hw => hts w (List.mem_cons_of_mem _ hw), hK, hsz, Nat.le_refl _, Nat.le_refl _, hH.2.2.2.1, fun h => ((name_of_methodNamed B.named B.method).1).trans h⟩
  have := hn.2 hM.2.2 g p l e _ s m _ below meth c (MQ below (fun _ _ o t => o = .returned (r.map (xv g)) ∧ xH g S' t.heap) (as.map (xv g)).toArray s kc ks (xA g)) hF ?_ s.heap [] 0 0 la hH va_S.rf (by show 0 + kc ≤ kc; omega) (by show 0 + ks ≤ ks; omega) hL
  · rw [h0] at this
    exact this
  · intro H locs cells slots k' la' hx hH' hS' hcc hss
    obtain ⟨en, he, hle, hx⟩ := hx
    obtain ⟨hd, -, e1, -⟩ := okM.entry hM.2.2 he
    obtain ⟨pc, ins, len, zz⟩ := en
    have hle : len = 1 := hle
    subst hle
    rw [e1]
    have hcc : cells ≤ kc := hcc
    have hss : slots ≤ ks := hss
    refine W.widen hcc hss ?_
    match r, hx with
    | none, ⟨h1, h2⟩ =>
      have h1 : ins = .return_ := h1
      subst h1
      exact W.vret B.exec B.bytes (hr.trans h2) (fun t ht _ => ⟨rfl, by rw [ht]; exact hH'⟩) hS'.2.2 hd
    | some (.int v), ⟨h1, ty, h2, h3⟩ =>
      have h1 : ins = .ireturn := h1
      subst h1
      exact W.zret B.exec B.bytes (hr.trans h2) h3 (fun t ht _ => ⟨rfl, by rw [ht]; exact hH'⟩) hS'.2.2 hd
    | some (.long v), ⟨h1, h2⟩ =>
      have h1 : ins = .lreturn := h1
      subst h1
      exact W.lret B.exec B.bytes (hr.trans h2) (fun t ht _ => ⟨rfl, by rw [ht]; exact hH'⟩) hS'.2.2 hd
    | some (.ref v), ⟨h1, nn, h2⟩ =>
      have h1 : ins = .areturn := h1
      subst h1
      exact W.aret (v := .ref (xa g v)) B.exec B.bytes (hr.trans h2) (Or.inl ⟨nn, rfl⟩) (Or.inr ⟨_, rfl⟩) (fun t ht _ => ⟨rfl, by rw [ht]; exact hH'⟩) hS'.2.2 hd
    | some .null, ⟨h1, nn, h2⟩ =>
      have h1 : ins = .areturn := h1
      subst h1
      exact W.aret (v := .null) B.exec B.bytes (hr.trans h2) (Or.inl ⟨nn, rfl⟩) (Or.inl rfl) (fun t ht _ => ⟨rfl, by rw [ht]; exact hH'⟩) hS'.2.2 hd
end
section
/-! Object's constructor, the JDK's own static members, statics -/
section NAT
variable {d kc ks : Nat} {M : Mt} {k pc i : Nat} {z : List Nat} {ls : List (Option Value)} {st : List Value} {S : Sg} {r : Option Value} {S' : Sg}
theorem Rn.objInit {q : Nat} (h : M.2.2.2.2.2[k]? = some (pc, .invokespecial i, 3, z)) (hw : Cond.methodLink M.1.cls i Lib.objectInit ∈ wT ∧ Cond.instanceMethod Lib.objectInit ∈ wT ∧ Cond.code Lib.objectInit ⟨#[0xb1]⟩ 1 none ∈ wT) (hd1 : 1 ≤ d) (hcat : (st.map fun v => v.category).sum ≤ 8) (hn : Rn d kc ks M (k + 1) ls st S r S') : Rn d kc ks M k ls (.ref q :: st) S r S' := by
  refine ⟨hn.1, ?_⟩
  intro hM g p l e R s m args below meth c Z F E H locs cells slots la hP hS hc hs hl
  obtain ⟨hd, -, e1, e2⟩ := hM.entry h
  have e2 := e2 rfl
  have hn := hn.2 hM g p l e R s m args below meth c Z F E H locs cells slots la hP hS hc hs hl
  rw [e2] at hn
  rw [e1]
  have hts := F.2.2.2.2.1
  have hR1 := F.2.2.2.2.2.2.2.1
  have hR2 := F.2.2.2.2.2.2.2.2.1
  refine W.objInit F.1 F.2.1 F.2.2.2.1 (hts _ hw.1) (hts _ hw.2.1) (hts _ hw.2.2) rfl (hl.1.trans F.2.2.1.symm) (a := xa g q) (rest := st.map (xv g)) rfl hd (by omega) ?_ hn
  show 2 * 0 + _ + 12 ≤ R.locals
  rw [cat_map]
  omega
theorem Rn.mmax {x y : Int32} (h : M.2.2.2.2.2[k]? = some (pc, .invokestatic i, 3, z)) (hw : Cond.methodLink M.1.cls i Lib.Math.max.name ∈ wT ∧ Cond.static Lib.Math.max.name ∈ wT ∧ Cond.initialized "java/lang/Math" ∈ wT ∧ Cond.code Lib.Math.max.name Lib.Math.max.code 2 (some .int) ∈ wT) (hd1 : 1 ≤ d) (hcat : (st.map fun v => v.category).sum ≤ 8) (hn : Rn d kc ks M (k + 1) ls (.int (if x < y then y else x) :: st) S r S') : Rn d kc ks M k ls (.int y :: .int x :: st) S r S' := by
  refine ⟨hn.1, ?_⟩
  intro hM g p l e R s m args below meth c Z F E H locs cells slots la hP hS hc hs hl
  obtain ⟨hd, -, e1, e2⟩ := hM.entry h
  have e2 := e2 rfl
  have hn := hn.2 hM g p l e R s m args below meth c Z F E H locs cells slots la hP hS hc hs hl
  rw [e2] at hn
  rw [e1]
  have hts := F.2.2.2.2.1
  have hR1 := F.2.2.2.2.2.2.2.1
  have hR2 := F.2.2.2.2.2.2.2.2.1
  exact va_mmax F.1 F.2.1 (F.2.2.1.trans hl.1.symm) F.2.2.2.1 (hts _ hw.1) (hts _ hw.2.1) (hts _ hw.2.2.1) (hts _ hw.2.2.2) (by omega) (by rw [cat_map]; omega) (by omega) (by omega) hd hn
theorem Rn.mmin {x y : Int32} (h : M.2.2.2.2.2[k]? = some (pc, .invokestatic i, 3, z)) (hw : Cond.methodLink M.1.cls i Lib.Math.min.name ∈ wT ∧ Cond.static Lib.Math.min.name ∈ wT ∧ Cond.initialized "java/lang/Math" ∈ wT ∧ Cond.code Lib.Math.min.name Lib.Math.min.code 2 (some .int) ∈ wT) (hd1 : 1 ≤ d) (hcat : (st.map fun v => v.category).sum ≤ 8) (hn : Rn d kc ks M (k + 1) ls (.int (if y < x then y else x) :: st) S r S') : Rn d kc ks M k ls (.int y :: .int x :: st) S r S' := by
  refine ⟨hn.1, ?_⟩
  intro hM g p l e R s m args below meth c Z F E H locs cells slots la hP hS hc hs hl
  obtain ⟨hd, -, e1, e2⟩ := hM.entry h
  have e2 := e2 rfl
  have hn := hn.2 hM g p l e R s m args below meth c Z F E H locs cells slots la hP hS hc hs hl
  rw [e2] at hn
  rw [e1]
  have hts := F.2.2.2.2.1
  have hR1 := F.2.2.2.2.2.2.2.1
  have hR2 := F.2.2.2.2.2.2.2.2.1
  exact va_mmin F.1 F.2.1 (F.2.2.1.trans hl.1.symm) F.2.2.2.1 (hts _ hw.1) (hts _ hw.2.1) (hts _ hw.2.2.1) (hts _ hw.2.2.2) (by omega) (by rw [cat_map]; omega) (by omega) (by omega) hd hn
/-- a static row of numbers -/
theorem Rn.gets {n : String} {v : Nat} (h : M.2.2.2.2.2[k]? = some (pc, .getstatic i, 3, z)) (hn' : (n = "LEAST_TERMS" ∧ v = 1) ∨ (n = "MOST_TERMS" ∧ v = 2)) (hw : (M.1.cls, i, n) ∈ nstF) (hn : Rn d kc ks M (k + 1) ls (.ref v :: st) S r S') : Rn d kc ks M k ls st S r S' := by
  refine ⟨hn.1, ?_⟩
  intro hM g p l e R s m args below meth c Z F E H locs cells slots la hP hS hc hs hl
  obtain ⟨hd, -, e1, e2⟩ := hM.entry h
  have e2 := e2 rfl
  have hn := hn.2 hM g p l e R s m args below meth c Z F E H locs cells slots la hP hS hc hs hl
  rw [e2] at hn
  rw [e1]
  have hts := F.2.2.2.2.1
  have hO := F.2.2.2.2.2.1.2
  have hold := F.2.2.2.2.2.2.2.2.2.1
  have hZ : va_Z "BoughtKin" n "[I" (.ref (xa g v)) (xA g) s s.heap := by
    have hz : va_Z "BoughtKin" n "[I" (.ref (xa g v)) (xA g) s g.2.1 := by
      rcases hn' with ⟨rfl, rfl⟩ | ⟨rfl, rfl⟩
      · exact hO.2.1
      · exact hO.2.2.1
    obtain ⟨cf, kf, fi, f, a, cell, h1, h2, h3, h4, h5, h6, h7, h8⟩ := hz
    exact ⟨cf, kf, fi, f, a, cell, h1, h2, h3, h4, by rw [hold a (Nat.not_le.mp h8)]; exact h5, h6, h7, h8⟩
  obtain ⟨-, -, -, -, -, -, -, -, -, -, hf⟩ := hO
  exact va_getsN F.1 F.2.1 hZ hS F.2.2.2.1 (va_Nw.use rfl (hf _ hw)) (fun _ h => h) hd hn
/-- System.arraycopy of numbers -/
theorem Rn.acopy {a0 a n0 n1 : Nat} {f f1 : Nat → Int32} {sp dp n : Int32} (h : M.2.2.2.2.2[k]? = some (pc, .invokestatic i, 3, z)) (hw : Cond.methodLink M.1.cls i arraycopyName ∈ wT ∧ Cond.native arraycopyName ∈ wT ∧ Cond.static arraycopyName ∈ wT ∧ Cond.initialized "java/lang/System" ∈ wT) (hd1 : 1 ≤ d) (hcat : (st.map fun v => v.category).sum ≤ 8) (h40 : 4 ≤ a0) (h41 : 4 ≤ a) (ha0 : S[a0]? = some (.inl (.int, n0, .inl f))) (ha1 : S[a]? = some (.inl (.int, n1, .inl f1))) (h1 : ¬ sp < 0) (h2 : ¬ dp < 0) (h3 : ¬ n < 0) (h4 : sp.toNatClampNeg + n.toNatClampNeg ≤ n0) (h5 : dp.toNatClampNeg + n.toNatClampNeg ≤ n1)
    (hn : Rn d kc ks M (k + 1) ls st (S.set a (.inl (.int, n1, .inl (va_cpy f f1 sp.toNatClampNeg dp.toNatClampNeg n.toNatClampNeg)))) r S') : Rn d kc ks M k ls (.int n :: .int dp :: .ref a :: .int sp :: .ref a0 :: st) S r S' := by
  refine ⟨(xlow.st h41).tr hn.1, ?_⟩
  intro hM g p l e R s m args below meth c Z F E H locs cells slots la hP hS hc hs hl
  obtain ⟨hd, -, e1, e2⟩ := hM.entry h
  have e2 := e2 rfl
  rw [e1]
  have hts := F.2.2.2.2.1
  have hK := F.2.2.2.2.2.1.1
  have hR1 := F.2.2.2.2.2.2.2.1
  have hR2 := F.2.2.2.2.2.2.2.2.1
  have nn : ∀ z : Int32, ¬ z < 0 → z.toInt = (z.toNatClampNeg : Int) := by
    intro z hz
    have hz0 : (0 : Int) ≤ z.toInt := by
      have := Int32.not_lt.mp hz
      simpa using Int32.le_iff_toInt_le.mp this
    show z.toInt = ((z.toInt.toNat : Nat) : Int)
    omega
  show W p l e R s m args below meth c H locs cells slots Z (F0 m pc la (.int n :: .int dp :: .ref (xa g a) :: .int sp :: .ref (xa g a0) :: st.map (xv g)))
  rw [xa_new h40 (hP.lt ha0), xa_new h41 (hP.lt ha1)]
  intro T hT X
  have hc0 : H[g.1 + (a0 - 4)]? = some (vp_cell (g.2.2.2.2 .int) (n0, .inl f)) := hP.P (a0 - 4) _ (xw_get h40 ha0)
  have hc1 : H[g.1 + (a - 4)]? = some (vp_cell (g.2.2.2.2 .int) (n1, .inl f1)) := hP.P (a - 4) _ (xw_get h41 ha1)
  obtain ⟨-, k0, hk0, cm0, hkk0⟩ := (hK.2 0 _ rfl).1 n0 (fun j => .int (f j))
  obtain ⟨-, k1, hk1, cm1, hkk1⟩ := (hK.2 0 _ rfl).1 n1 (fun j => .int (f1 j))
  obtain ⟨vm', X', step⟩ := X.arraycopy F.1 F.2.2.2.1 (hts _ hw.1) (hts _ hw.2.1) (hts _ hw.2.2.1) (hts _ hw.2.2.2) (src := g.1 + (a0 - 4)) (dst := g.1 + (a - 4)) (cs := vp_cell (g.2.2.2.2 .int) (n0, .inl f)) (cd := vp_cell (g.2.2.2.2 .int) (n1, .inl f1)) (srcPos := sp) (destPos := dp) (n := n) (by rw [hT]; exact hc0) (by rw [hT]; exact hc1)
    (fun _ h => by cases h) (fun _ h => by cases h) (fun h => by cases h) (fun h => by cases h) hk0 hk1 hkk0 hkk1 (by simp [refKind]) h1 h2 h3
    (by rw [nn sp h1, nn n h3]; show ¬ _ > ((arrV _ n0 (fun j => .int (f j))).slots.size : Int); rw [arrV_size]; omega)
    (by rw [nn dp h2, nn n h3]; show ¬ _ > ((arrV _ n1 (fun j => .int (f1 j))).slots.size : Int); rw [arrV_size]; omega)
    (fun vm₁ _ i hi => by
      have e : (vp_cell (g.2.2.2.2 .int) (n0, .inl f)).slots.getD (sp.toNatClampNeg + i) .null = .int (f (sp.toNatClampNeg + i)) := by
        show (arrV _ n0 (fun j => .int (f j))).slots.getD _ _ = _
        rw [Array.getD_eq_getD_getElem?, arrV_read _ _ (by omega)]
        rfl
      refine ⟨?_, ?_⟩
      · rw [e]
        rfl
      · rw [e]
        exact trivial)
    (g := F0 m pc la (.int n :: .int dp :: .ref (g.1 + (a - 4)) :: .int sp :: .ref (g.1 + (a0 - 4)) :: st.map (xv g))) rfl (hl.1.trans F.2.2.1.symm) (rest := st.map (xv g)) rfl (by rw [F.2.1]; exact hd) (by omega) (by
      show 2 * 0 + _ + _ ≤ _
      have hnf : nativeFrameWords "java/lang/System" "arraycopy" 5 + 11 ≤ 33 := by decide +kernel
      rw [cat_map]
      omega)
  have e3 : copied (vp_cell (g.2.2.2.2 .int) (n0, .inl f)) (vp_cell (g.2.2.2.2 .int) (n1, .inl f1)) sp dp n = vp_cell (g.2.2.2.2 .int) (n1, .inl (va_cpy f f1 sp.toNatClampNeg dp.toNatClampNeg n.toNatClampNeg)) := va_copied (fun z => .int z) _ _ f f1 h4
  rw [e3] at X' step
  have hlt : g.1 + (a - 4) < H.size := (Array.getElem?_eq_some_iff.mp hc1).1
  have hheap : ((T.setVm vm').setCell (g.1 + (a - 4)) (vp_cell (g.2.2.2.2 .int) (n1, .inl (va_cpy f f1 sp.toNatClampNeg dp.toNatClampNeg n.toNatClampNeg)))).heap = H.setIfInBounds (g.1 + (a - 4)) (vp_cell (g.2.2.2.2 .int) (n1, .inl (va_cpy f f1 sp.toNatClampNeg dp.toNatClampNeg n.toNatClampNeg))) := by rw [← hT]; rfl
  have oq : ∀ q : Nat, q ≠ g.1 + (a - 4) → (H.setIfInBounds (g.1 + (a - 4)) (vp_cell (g.2.2.2.2 .int) (n1, .inl (va_cpy f f1 sp.toNatClampNeg dp.toNatClampNeg n.toNatClampNeg))))[q]? = H[q]? := fun q hq => by simp [Array.getElem?_setIfInBounds, Ne.symm hq]
  have hat : va_at g.2.2.2.1 vwCl (g.1 + (a - 4), xe g (.inl (.int, n1, .inl (va_cpy f f1 sp.toNatClampNeg dp.toNatClampNeg n.toNatClampNeg)))) (H.setIfInBounds (g.1 + (a - 4)) (vp_cell (g.2.2.2.2 .int) (n1, .inl (va_cpy f f1 sp.toNatClampNeg dp.toNatClampNeg n.toNatClampNeg)))) := by
    show (H.setIfInBounds (g.1 + (a - 4)) _)[g.1 + (a - 4)]? = some _
    simp [Array.getElem?_setIfInBounds, hlt]
    rfl
  have key := fun locs1 hS1 => hn.2 hM g p l e R s m args below meth c Z (F.eqS (set_low h41)) E _ locs1 cells slots la (hP.upd h41 ha1 (by simp) oq hat) hS1 hc hs hl
  rw [e2] at key
  refine Exists.elim (key _ ?_ _ hheap X') (fun t ht => ⟨t, step t ht.1, ht.2⟩)
  refine ⟨by simp; exact hS.1, fun q g1 g2 => ?_, fun q hq => ?_⟩
  · rw [oq q (fun e => g2 (by rw [e]; exact Nat.le_add_right _ _))]
    exact hS.2.1 q g1 g2
  · rcases List.mem_append.mp hq with h | h
    · exact hS.2.2 q h
    · obtain ⟨z, -, hz⟩ := List.mem_map.mp h
      rw [← hz]
      exact Nat.le_add_right _ _
end NAT
end
section
theorem lkX0_3 : Cond.methodLink RX0 3 Lib.objectInit ∈ wT := memT2 138 rfl rfl
theorem lkX0_44 : Cond.methodLink RX0 44 yX1_copyFrom ∈ wT := memT4 156 rfl rfl
theorem lkX0_68 : Cond.methodLink RX0 68 yX0_obeyed ∈ wT := memT4 170 rfl rfl
theorem lkX0_72 : Cond.methodLink RX0 72 yX8_lacks ∈ wT := memT4 174 rfl rfl
theorem lkX0_76 : Cond.methodLink RX0 76 yX0_reckoned ∈ wT := memT4 175 rfl rfl
theorem lkX0_87 : Cond.methodLink RX0 87 yX1_termCanBe ∈ wT := memT4 197 rfl rfl
theorem lkX0_93 : Cond.methodLink RX0 93 yX0_areThreePeople ∈ wT := memT4 198 rfl rfl
theorem lkX0_100 : Cond.methodLink RX0 100 yX2_offer ∈ wT := memT4 202 rfl rfl
theorem lkX0_106 : Cond.methodLink RX0 106 yX5_trade ∈ wT := memT4 229 rfl rfl
theorem lkX0_112 : Cond.methodLink RX0 112 yX4_write ∈ wT := memT4 238 rfl rfl
theorem lkX0_115 : Cond.methodLink RX0 115 yX5_has ∈ wT := memT4 183 rfl rfl
theorem lkX0_131 : Cond.methodLink RX0 131 yX0_valueOf ∈ wT := memT4 179 rfl rfl
theorem lkX0_135 : Cond.methodLink RX0 135 yX7_reckon ∈ wT := memT4 196 rfl rfl
theorem lkX0_139 : Cond.methodLink RX0 139 yX3_apart ∈ wT := memT4 184 rfl rfl
theorem lkX1_3 : Cond.methodLink RX1 3 Lib.objectInit ∈ wT := memT1 35 rfl rfl
theorem lkX1_47 : Cond.methodLink RX1 47 yX5_copyFrom ∈ wT := memT4 160 rfl rfl
theorem lkX1_51 : Cond.methodLink RX1 51 arraycopyName ∈ wT := memT4 169 rfl rfl
theorem lkX2_3 : Cond.methodLink RX2 3 Lib.objectInit ∈ wT := memT2 122 rfl rfl
theorem lkX2_52 : Cond.methodLink RX2 52 yX1_lawInForce ∈ wT := memT3 100 rfl rfl
theorem lkX2_65 : Cond.methodLink RX2 65 yX8_lacks ∈ wT := memT3 104 rfl rfl
theorem lkX2_69 : Cond.methodLink RX2 69 yX7_reckon ∈ wT := memT3 108 rfl rfl
theorem lkX2_78 : Cond.methodLink RX2 78 yX2_setWords ∈ wT := memT3 92 rfl rfl
theorem lkX2_82 : Cond.methodLink RX2 82 yX2_anyHolds ∈ wT := memT3 96 rfl rfl
theorem lkX2_90 : Cond.methodLink RX2 90 yX2_priceWithoutLaw ∈ wT := memT4 225 rfl rfl
theorem lkX2_97 : Cond.methodLink RX2 97 yX2_rank ∈ wT := memT5 55 rfl rfl
theorem lkX2_100 : Cond.methodLink RX2 100 yX5_isSelfOrInLine ∈ wT := memT4 206 rfl rfl
theorem lkX2_103 : Cond.methodLink RX2 103 yX5_couldBeBought ∈ wT := memT4 207 rfl rfl
theorem lkX2_107 : Cond.methodLink RX2 107 yX2_isBarred ∈ wT := memT4 217 rfl rfl
theorem lkX2_110 : Cond.methodLink RX2 110 yX2_price ∈ wT := memT4 221 rfl rfl
theorem lkX3_3 : Cond.methodLink RX3 3 Lib.objectInit ∈ wT := memT2 63 rfl rfl
theorem lkX3_21 : Cond.methodLink RX3 21 yJ7_fill_53178 ∈ wT := memT4 193 rfl rfl
theorem lkX3_39 : Cond.methodLink RX3 39 yX5_withLine ∈ wT := memT4 188 rfl rfl
theorem lkX3_43 : Cond.methodLink RX3 43 yX3_climb ∈ wT := memT4 189 rfl rfl
theorem lkX3_50 : Cond.methodLink RX3 50 yX3_apart ∈ wT := memT5 30 rfl rfl
theorem lkX3_57 : Cond.methodLink RX3 57 yX5_livesIn ∈ wT := memT5 72 rfl rfl
theorem lkX4_3 : Cond.methodLink RX4 3 Lib.objectInit ∈ wT := memT2 82 rfl rfl
theorem lkX4_28 : Cond.methodLink RX4 28 yX5_unsell ∈ wT := memT5 107 rfl rfl
theorem lkX4_34 : Cond.methodLink RX4 34 yX5_reckonLines ∈ wT := memT5 111 rfl rfl
theorem lkX5_3 : Cond.methodLink RX5 3 Lib.objectInit ∈ wT := memT1 41 rfl rfl
theorem lkX5_49 : Cond.methodLink RX5 49 arraycopyName ∈ wT := memT4 164 rfl rfl
theorem lkX5_55 : Cond.methodLink RX5 55 yX5_copyTiesFrom ∈ wT := memT4 165 rfl rfl
theorem lkX5_62 : Cond.methodLink RX5 62 yX5_parentOf ∈ wT := memT3 129 rfl rfl
theorem lkX5_66 : Cond.methodLink RX5 66 yX5_isSelfOrInLine ∈ wT := memT3 133 rfl rfl
theorem lkX5_70 : Cond.methodLink RX5 70 yX5_isSold ∈ wT := memT4 211 rfl rfl
theorem lkX5_74 : Cond.methodLink RX5 74 yX5_hasPlaceFor ∈ wT := memT4 212 rfl rfl
theorem lkX5_77 : Cond.methodLink RX5 77 yX5_datesFit ∈ wT := memT4 213 rfl rfl
theorem lkX5_81 : Cond.methodLink RX5 81 yX5_setParent ∈ wT := memT3 141 rfl rfl
theorem lkX5_85 : Cond.methodLink RX5 85 yX5_withLine ∈ wT := memT3 145 rfl rfl
theorem lkX5_89 : Cond.methodLink RX5 89 yX5_tie ∈ wT := memT4 237 rfl rfl
theorem lkX5_93 : Cond.methodLink RX5 93 yX5_sell ∈ wT := memT4 233 rfl rfl
theorem lkX5_96 : Cond.methodLink RX5 96 yJ7_fill_53178 ∈ wT := memT5 115 rfl rfl
theorem lkX5_102 : Cond.methodLink RX5 102 yX5_isInLine ∈ wT := memT5 43 rfl rfl
theorem lkX5_105 : Cond.methodLink RX5 105 yX5_rankedParents ∈ wT := memT5 60 rfl rfl
theorem lkX6_3 : Cond.methodLink RX6 3 Lib.objectInit ∈ wT := memT1 222 rfl rfl
theorem lkX6_11 : Cond.methodLink RX6 11 yX8_init ∈ wT := memT1 225 rfl rfl
theorem lkX6_38 : Cond.methodLink RX6 38 yX8_clear ∈ wT := memT3 201 rfl rfl
theorem lkX6_41 : Cond.methodLink RX6 41 yX10_split ∈ wT := memT3 205 rfl rfl
theorem lkX6_46 : Cond.methodLink RX6 46 yX6_orderHead ∈ wT := memT4 41 rfl rfl
theorem lkX6_49 : Cond.methodLink RX6 49 yX6_lawHead ∈ wT := memT4 114 rfl rfl
theorem lkX6_52 : Cond.methodLink RX6 52 yX6_took ∈ wT := memT4 45 rfl rfl
theorem lkX6_56 : Cond.methodLink RX6 56 yX8_openSegment ∈ wT := memT4 58 rfl rfl
theorem lkX6_60 : Cond.methodLink RX6 60 yX6_test ∈ wT := memT4 118 rfl rfl
theorem lkX6_63 : Cond.methodLink RX6 63 yX8_closeSegment ∈ wT := memT4 106 rfl rfl
theorem lkX6_69 : Cond.methodLink RX6 69 yX6_blame ∈ wT := memT4 78 rfl rfl
theorem lkX6_75 : Cond.methodLink RX6 75 yX10_step ∈ wT := memT4 49 rfl rfl
theorem lkX6_78 : Cond.methodLink RX6 78 yX8_begin ∈ wT := memT4 50 rfl rfl
theorem lkX6_81 : Cond.methodLink RX6 81 yX6_sumInto ∈ wT := memT4 54 rfl rfl
theorem lkX6_84 : Cond.methodLink RX6 84 yX6_need ∈ wT := memT4 82 rfl rfl
theorem lkX6_87 : Cond.methodLink RX6 87 yX6_neededNumber ∈ wT := memT4 86 rfl rfl
theorem lkX6_91 : Cond.methodLink RX6 91 yX8_setTimes ∈ wT := memT4 110 rfl rfl
theorem lkX6_94 : Cond.methodLink RX6 94 yX6_sum ∈ wT := memT4 62 rfl rfl
theorem lkX6_97 : Cond.methodLink RX6 97 yX6_both ∈ wT := memT4 122 rfl rfl
theorem lkX6_100 : Cond.methodLink RX6 100 yX8_add ∈ wT := memT4 90 rfl rfl
theorem lkX6_103 : Cond.methodLink RX6 103 yX8_landHere ∈ wT := memT4 134 rfl rfl
theorem lkX6_106 : Cond.methodLink RX6 106 yX6_plain ∈ wT := memT4 126 rfl rfl
theorem lkX6_109 : Cond.methodLink RX6 109 yX6_entered ∈ wT := memT4 74 rfl rfl
theorem lkX6_112 : Cond.methodLink RX6 112 yX6_tookComparison ∈ wT := memT4 130 rfl rfl
theorem lkX6_116 : Cond.methodLink RX6 116 yX6_term ∈ wT := memT4 66 rfl rfl
theorem lkX6_119 : Cond.methodLink RX6 119 yX6_sees ∈ wT := memT4 102 rfl rfl
theorem lkX6_122 : Cond.methodLink RX6 122 yX6_part ∈ wT := memT4 70 rfl rfl
theorem lkX6_125 : Cond.methodLink RX6 125 yX6_orderWord ∈ wT := memT4 94 rfl rfl
theorem lkX6_128 : Cond.methodLink RX6 128 yX6_lawWord ∈ wT := memT4 98 rfl rfl
theorem lkX7_3 : Cond.methodLink RX7 3 Lib.objectInit ∈ wT := memT2 106 rfl rfl
theorem lkX7_28 : Cond.methodLink RX7 28 Lib.Math.min.name ∈ wT := memT3 112 rfl rfl
theorem lkX7_34 : Cond.methodLink RX7 34 Lib.Math.max.name ∈ wT := memT3 113 rfl rfl
theorem lkX7_43 : Cond.methodLink RX7 43 yX7_combined ∈ wT := memT3 114 rfl rfl
theorem lkX8_3 : Cond.methodLink RX8 3 Lib.objectInit ∈ wT := memT1 228 rfl rfl
theorem lkX8_41 : Cond.methodLink RX8 41 yX8_init ∈ wT := memT4 143 rfl rfl
theorem lkX8_44 : Cond.methodLink RX8 44 arraycopyName ∈ wT := memT4 144 rfl rfl
theorem lkX9_3 : Cond.methodLink RX9 3 Lib.objectInit ∈ wT := memT2 178 rfl rfl
theorem lkX9_54 : Cond.methodLink RX9 54 yX5_copyFrom ∈ wT := memT5 132 rfl rfl
theorem lkX9_65 : Cond.methodLink RX9 65 yX9_couldBeBought ∈ wT := memT5 133 rfl rfl
theorem lkX9_72 : Cond.methodLink RX9 72 yX5_couldBeBought ∈ wT := memT5 137 rfl rfl
theorem lkX9_78 : Cond.methodLink RX9 78 arraycopyName ∈ wT := memT5 164 rfl rfl
theorem lkX9_84 : Cond.methodLink RX9 84 yX5_sell ∈ wT := memT5 165 rfl rfl
theorem lkX9_88 : Cond.methodLink RX9 88 yX5_unsell ∈ wT := memT5 174 rfl rfl
theorem lkX9_91 : Cond.methodLink RX9 91 yX2_price ∈ wT := memT5 157 rfl rfl
theorem lkX9_97 : Cond.methodLink RX9 97 yX2_isBarred ∈ wT := memT5 158 rfl rfl
theorem lkX9_101 : Cond.methodLink RX9 101 yX9_gatherPairs ∈ wT := memT5 128 rfl rfl
theorem lkX9_104 : Cond.methodLink RX9 104 yX2_ranked ∈ wT := memT5 138 rfl rfl
theorem lkX9_113 : Cond.methodLink RX9 113 yX9_isThere ∈ wT := memT5 139 rfl rfl
theorem lkX9_116 : Cond.methodLink RX9 116 yX9_note ∈ wT := memT5 145 rfl rfl
theorem lkX9_123 : Cond.methodLink RX9 123 yX9_keepAffordable ∈ wT := memT5 153 rfl rfl
theorem lkX9_127 : Cond.methodLink RX9 127 yX5_isSelfOrInLine ∈ wT := memT5 159 rfl rfl
theorem lkX9_130 : Cond.methodLink RX9 130 yX9_isLess ∈ wT := memT5 149 rfl rfl
theorem lkX9_133 : Cond.methodLink RX9 133 yX9_tryOut ∈ wT := memT5 160 rfl rfl
theorem lkX9_137 : Cond.methodLink RX9 137 yX9_findCheapSecond ∈ wT := memT5 166 rfl rfl
theorem lkX9_141 : Cond.methodLink RX9 141 yX9_takeBack ∈ wT := memT5 170 rfl rfl
theorem lkX9_144 : Cond.methodLink RX9 144 yX5_isGrand ∈ wT := memT5 143 rfl rfl
theorem lkX9_147 : Cond.methodLink RX9 147 yX3_mayMarry ∈ wT := memT5 144 rfl rfl
theorem lkX9_165 : Cond.methodLink RX9 165 yX5_withLine ∈ wT := memT5 183 rfl rfl
theorem lkX9_169 : Cond.methodLink RX9 169 yX9_joiningPairs ∈ wT := memT5 184 rfl rfl
theorem lkX9_175 : Cond.methodLink RX9 175 yJ6_bitCount_0f7a4 ∈ wT := memT5 204 rfl rfl
theorem lkX9_180 : Cond.methodLink RX9 180 yX9_canAllBe ∈ wT := memT5 210 rfl rfl
theorem lkX9_183 : Cond.methodLink RX9 183 yX5_copyTiesFrom ∈ wT := memT5 214 rfl rfl
theorem lkX9_192 : Cond.methodLink RX9 192 yX9_areAllSightsSo ∈ wT := memT5 232 rfl rfl
theorem lkX9_205 : Cond.methodLink RX9 205 yX3_apart ∈ wT := memT5 236 rfl rfl
theorem lkX9_215 : Cond.methodLink RX9 215 yX9_drawPerson ∈ wT := memT6 6 rfl rfl
theorem lkX9_218 : Cond.methodLink RX9 218 yX2_offer ∈ wT := memT6 12 rfl rfl
theorem lkX9_222 : Cond.methodLink RX9 222 yX5_trade ∈ wT := memT6 13 rfl rfl
theorem lkX9_227 : Cond.methodLink RX9 227 Lib.Math.max.name ∈ wT := memT6 11 rfl rfl
theorem lkX10_3 : Cond.methodLink RX10 3 Lib.objectInit ∈ wT := memT1 187 rfl rfl
theorem lkX10_33 : Cond.methodLink RX10 33 yX10_isLetter ∈ wT := memT3 210 rfl rfl
theorem lkX10_37 : Cond.methodLink RX10 37 yX10_behindRow ∈ wT := memT3 213 rfl rfl
theorem lkX10_41 : Cond.methodLink RX10 41 yX10_wordToken ∈ wT := memT3 220 rfl rfl
theorem lkX10_45 : Cond.methodLink RX10 45 yX10_isDigit ∈ wT := memT3 217 rfl rfl
theorem lkX10_48 : Cond.methodLink RX10 48 yX10_numberToken ∈ wT := memT4 32 rfl rfl
theorem lkX10_55 : Cond.methodLink RX10 55 yX10_step ∈ wT := memT4 37 rfl rfl
theorem lkX10_58 : Cond.methodLink RX10 58 yJ0_length_8abf5 ∈ wT := memT3 224 rfl rfl
theorem lkX10_64 : Cond.methodLink RX10 64 yJ0_charAt_5068e ∈ wT := memT3 234 rfl rfl
theorem lkX10_68 : Cond.methodLink RX10 68 Lib.Math.min.name ∈ wT := memT4 36 rfl rfl
theorem lkX11_3 : Cond.methodLink RX11 3 Lib.objectInit ∈ wT := memT1 27 rfl rfl
theorem lkX11_33 : Cond.methodLink RX11 33 yX6_init ∈ wT := memT1 219 rfl rfl
theorem lkX11_70 : Cond.methodLink RX11 70 yX2_init ∈ wT := memT2 119 rfl rfl
theorem lkX11_79 : Cond.methodLink RX11 79 yX0_init ∈ wT := memT2 135 rfl rfl
theorem lkX11_88 : Cond.methodLink RX11 88 yX9_init ∈ wT := memT2 175 rfl rfl
theorem lkX11_95 : Cond.methodLink RX11 95 yX5_canBe ∈ wT := memT3 53 rfl rfl
theorem lkX11_101 : Cond.methodLink RX11 101 yX11_refuse ∈ wT := memT3 56 rfl rfl
theorem lkX11_109 : Cond.methodLink RX11 109 yX5_settle ∈ wT := memT3 60 rfl rfl
theorem lkX11_113 : Cond.methodLink RX11 113 yX4_clear ∈ wT := memT3 64 rfl rfl
theorem lkX11_116 : Cond.methodLink RX11 116 yX11_accept ∈ wT := memT3 68 rfl rfl
theorem lkX11_119 : Cond.methodLink RX11 119 yX5_has ∈ wT := memT3 76 rfl rfl
theorem lkX11_150 : Cond.methodLink RX11 150 yX5_isSold ∈ wT := memT3 84 rfl rfl
theorem lkX11_153 : Cond.methodLink RX11 153 yX2_rank ∈ wT := memT3 88 rfl rfl
theorem lkX11_156 : Cond.methodLink RX11 156 yX5_hasPlaceFor ∈ wT := memT3 125 rfl rfl
theorem lkX11_160 : Cond.methodLink RX11 160 yX5_tie ∈ wT := memT3 137 rfl rfl
theorem lkX11_164 : Cond.methodLink RX11 164 yX1_termCanBe ∈ wT := memT3 153 rfl rfl
theorem lkX11_176 : Cond.methodLink RX11 176 yX10_append ∈ wT := memT3 169 rfl rfl
theorem lkX11_180 : Cond.methodLink RX11 180 yX11_settleFromTape ∈ wT := memT3 181 rfl rfl
theorem lkX11_186 : Cond.methodLink RX11 186 yX10_byteAt ∈ wT := memT3 185 rfl rfl
theorem lkX11_192 : Cond.methodLink RX11 192 yX6_read ∈ wT := memT3 197 rfl rfl
theorem lkX11_207 : Cond.methodLink RX11 207 yX8_trimmed ∈ wT := memT4 138 rfl rfl
theorem lkX11_213 : Cond.methodLink RX11 213 yX0_obey ∈ wT := memT4 152 rfl rfl
theorem lkX11_223 : Cond.methodLink RX11 223 yX2_price ∈ wT := memT5 18 rfl rfl
theorem lkX11_227 : Cond.methodLink RX11 227 yX2_isBarred ∈ wT := memT5 19 rfl rfl
theorem lkX11_230 : Cond.methodLink RX11 230 yX5_datesFit ∈ wT := memT5 20 rfl rfl
theorem lkX11_234 : Cond.methodLink RX11 234 yX3_apart ∈ wT := memT5 25 rfl rfl
theorem lkX11_238 : Cond.methodLink RX11 238 yX3_nearestCommon ∈ wT := memT5 26 rfl rfl
theorem lkX11_241 : Cond.methodLink RX11 241 yX3_stepsUp ∈ wT := memT5 31 rfl rfl
theorem lkX11_247 : Cond.methodLink RX11 247 yX5_descendants ∈ wT := memT5 39 rfl rfl
theorem lkX11_250 : Cond.methodLink RX11 250 yX5_debtsOf ∈ wT := memT5 47 rfl rfl
theorem lkX11_253 : Cond.methodLink RX11 253 yX2_ranked ∈ wT := memT5 51 rfl rfl
theorem lkX11_257 : Cond.methodLink RX11 257 yX5_quarters ∈ wT := memT5 56 rfl rfl
theorem lkX11_260 : Cond.methodLink RX11 260 yX5_isGrand ∈ wT := memT5 64 rfl rfl
theorem lkX11_263 : Cond.methodLink RX11 263 yX3_heir ∈ wT := memT5 68 rfl rfl
theorem lkX11_266 : Cond.methodLink RX11 266 yX3_mayMarry ∈ wT := memT5 80 rfl rfl
theorem lkX11_270 : Cond.methodLink RX11 270 yX5_forgedChildren ∈ wT := memT5 88 rfl rfl
theorem lkX11_273 : Cond.methodLink RX11 273 yX2_offer ∈ wT := memT5 96 rfl rfl
theorem lkX11_277 : Cond.methodLink RX11 277 yX5_trade ∈ wT := memT5 97 rfl rfl
theorem lkX11_281 : Cond.methodLink RX11 281 yX4_write ∈ wT := memT5 98 rfl rfl
theorem lkX11_284 : Cond.methodLink RX11 284 yX4_undoLatest ∈ wT := memT5 103 rfl rfl
theorem lkX11_289 : Cond.methodLink RX11 289 yX9_findCheap ∈ wT := memT5 124 rfl rfl
theorem lkX11_304 : Cond.methodLink RX11 304 yX9_findJoin ∈ wT := memT5 179 rfl rfl
theorem lkX11_319 : Cond.methodLink RX11 319 yX9_findLies ∈ wT := memT5 200 rfl rfl
theorem lkX11_322 : Cond.methodLink RX11 322 yJ6_bitCount_0f7a4 ∈ wT := memT5 215 rfl rfl
theorem lkX11_339 : Cond.methodLink RX11 339 yX9_findSecrets ∈ wT := memT5 228 rfl rfl
theorem lkX11_346 : Cond.methodLink RX11 346 yX9_holdFair ∈ wT := memT6 2 rfl rfl
theorem lkX11_352 : Cond.methodLink RX11 352 yX1_copyFrom ∈ wT := memT6 22 rfl rfl
theorem lkX11_363 : Cond.methodLink RX11 363 Lib.Math.min.name ∈ wT := memT1 232 rfl rfl
theorem lkX11_368 : Cond.methodLink RX11 368 Lib.Math.max.name ∈ wT := memT1 235 rfl rfl
theorem lkX12_14 : Cond.methodLink RX12 14 yX12_good ∈ wT := memT6 214 rfl rfl
theorem lkX12_18 : Cond.methodLink RX12 18 Lib.objectInit ∈ wT := memT6 40 rfl rfl
theorem lkX12_99 : Cond.methodLink RX12 99 yX12_within ∈ wT := memT6 207 rfl rfl
theorem lkX12_103 : Cond.methodLink RX12 103 yX12_refuses ∈ wT := memT6 210 rfl rfl
theorem lkX12_106 : Cond.methodLink RX12 106 yX12_settled ∈ wT := memT6 222 rfl rfl
theorem lkX12_109 : Cond.methodLink RX12 109 yX12_people ∈ wT := memT6 233 rfl rfl
theorem lkX12_113 : Cond.methodLink RX12 113 yX12_canBe ∈ wT := memT6 230 rfl rfl
theorem lkX12_117 : Cond.methodLink RX12 117 yX12_adds ∈ wT := memT6 237 rfl rfl
theorem lkX12_121 : Cond.methodLink RX12 121 yX12_isPut ∈ wT := memT7 5 rfl rfl
theorem lkX12_125 : Cond.methodLink RX12 125 yX12_isPerson ∈ wT := memT7 8 rfl rfl
theorem lkX12_129 : Cond.methodLink RX12 129 yX12_fact ∈ wT := memT7 16 rfl rfl
theorem lkX12_133 : Cond.methodLink RX12 133 yX12_rankOf ∈ wT := memT7 20 rfl rfl
theorem lkX12_136 : Cond.methodLink RX12 136 yX12_isTerm ∈ wT := memT7 91 rfl rfl
theorem lkX12_148 : Cond.methodLink RX12 148 yX12_isSmall ∈ wT := memT7 130 rfl rfl
theorem lkX12_151 : Cond.methodLink RX12 151 yX12_isDigit ∈ wT := memT7 133 rfl rfl
theorem lkX12_154 : Cond.methodLink RX12 154 yX12_wordOf ∈ wT := memT7 136 rfl rfl
theorem lkX12_161 : Cond.methodLink RX12 161 yX12_fine ∈ wT := memT7 152 rfl rfl
theorem lkX12_168 : Cond.methodLink RX12 168 yX12_takes0 ∈ wT := memT7 148 rfl rfl
theorem lkX12_171 : Cond.methodLink RX12 171 yX12_faults ∈ wT := memT7 168 rfl rfl
theorem lkX12_177 : Cond.methodLink RX12 177 yX12_readSum ∈ wT := memT7 156 rfl rfl
theorem lkX12_181 : Cond.methodLink RX12 181 yX12_must ∈ wT := memT7 172 rfl rfl
theorem lkX12_184 : Cond.methodLink RX12 184 yX12_readTest ∈ wT := memT7 184 rfl rfl
theorem lkX12_187 : Cond.methodLink RX12 187 yX12_mustNumber ∈ wT := memT7 180 rfl rfl
theorem lkX12_195 : Cond.methodLink RX12 195 yX12_readOrder ∈ wT := memT7 144 rfl rfl
theorem lkX12_198 : Cond.methodLink RX12 198 yX12_readClause ∈ wT := memT7 196 rfl rfl
theorem lkX12_201 : Cond.methodLink RX12 201 yX12_readBoth ∈ wT := memT7 188 rfl rfl
theorem lkX12_204 : Cond.methodLink RX12 204 yX12_readPlain ∈ wT := memT7 192 rfl rfl
theorem lkX12_207 : Cond.methodLink RX12 207 yX12_sign ∈ wT := memT7 48 rfl rfl
theorem lkX12_211 : Cond.methodLink RX12 211 yX12_readTerm ∈ wT := memT7 160 rfl rfl
theorem lkX12_214 : Cond.methodLink RX12 214 yX12_readPart ∈ wT := memT7 164 rfl rfl
theorem lkX12_223 : Cond.methodLink RX12 223 yX12_leaf ∈ wT := memT7 176 rfl rfl
theorem lkX12_226 : Cond.methodLink RX12 226 yX12_splits ∈ wT := memT7 126 rfl rfl
theorem lkX12_229 : Cond.methodLink RX12 229 yX12_readOne ∈ wT := memT7 140 rfl rfl
theorem lkX12_232 : Cond.methodLink RX12 232 yX12_reads ∈ wT := memT7 122 rfl rfl
theorem lkX12_235 : Cond.methodLink RX12 235 yX12_readsAs ∈ wT := memT7 118 rfl rfl
theorem lkX12_239 : Cond.methodLink RX12 239 yX12_lays ∈ wT := memT7 200 rfl rfl
theorem lkX12_248 : Cond.methodLink RX12 248 yX12_codeAt ∈ wT := memT7 32 rfl rfl
theorem lkX12_258 : Cond.methodLink RX12 258 yX12_termOf ∈ wT := memT7 40 rfl rfl
theorem lkX12_262 : Cond.methodLink RX12 262 yX12_bounded ∈ wT := memT7 65 rfl rfl
theorem lkX12_266 : Cond.methodLink RX12 266 yX12_partOf ∈ wT := memT7 44 rfl rfl
theorem lkX12_269 : Cond.methodLink RX12 269 yX12_passes0 ∈ wT := memT7 51 rfl rfl
theorem lkX12_272 : Cond.methodLink RX12 272 yX12_sumOf ∈ wT := memT7 36 rfl rfl
theorem lkX12_277 : Cond.methodLink RX12 277 yX12_kinFar ∈ wT := memT7 56 rfl rfl
theorem lkX12_280 : Cond.methodLink RX12 280 yX12_bothOf ∈ wT := memT7 75 rfl rfl
theorem lkX12_283 : Cond.methodLink RX12 283 yX12_plainOf ∈ wT := memT7 79 rfl rfl
theorem lkX12_286 : Cond.methodLink RX12 286 yX12_positiveOf ∈ wT := memT7 83 rfl rfl
theorem lkX12_289 : Cond.methodLink RX12 289 yX12_testOf ∈ wT := memT7 71 rfl rfl
theorem lkX12_292 : Cond.methodLink RX12 292 yX12_sets ∈ wT := memT7 24 rfl rfl
theorem lkX12_296 : Cond.methodLink RX12 296 yX12_tells ∈ wT := memT7 28 rfl rfl
theorem lkX12_300 : Cond.methodLink RX12 300 yX12_isIn ∈ wT := memT7 236 rfl rfl
theorem lkX12_303 : Cond.methodLink RX12 303 yX12_climbs ∈ wT := memT7 60 rfl rfl
theorem lkX12_310 : Cond.methodLink RX12 310 yX12_livesIn ∈ wT := memT7 224 rfl rfl
theorem lkX12_313 : Cond.methodLink RX12 313 yX12_mayMarry ∈ wT := memT7 220 rfl rfl
theorem lkX12_316 : Cond.methodLink RX12 316 yX12_lineOf ∈ wT := memT7 232 rfl rfl
theorem lkX12_319 : Cond.methodLink RX12 319 yX12_isGrandBy ∈ wT := memT8 19 rfl rfl
theorem lkX12_322 : Cond.methodLink RX12 322 yX12_ranked ∈ wT := memT8 11 rfl rfl
theorem lkX12_325 : Cond.methodLink RX12 325 yX12_childrenOf ∈ wT := memT7 239 rfl rfl
theorem lkX12_328 : Cond.methodLink RX12 328 yX12_debtsOf ∈ wT := memT8 3 rfl rfl
theorem lkX12_331 : Cond.methodLink RX12 331 yX12_quartersOf ∈ wT := memT8 7 rfl rfl
theorem lkX12_334 : Cond.methodLink RX12 334 yX12_isGrand ∈ wT := memT8 15 rfl rfl
theorem lkX12_337 : Cond.methodLink RX12 337 yX12_heirOf ∈ wT := memT8 23 rfl rfl
theorem lkX12_340 : Cond.methodLink RX12 340 yX12_datesFit ∈ wT := memT8 31 rfl rfl
theorem lkX12_343 : Cond.methodLink RX12 343 yX12_placeOf ∈ wT := memT8 43 rfl rfl
theorem lkX12_346 : Cond.methodLink RX12 346 yX12_mayBeParent ∈ wT := memT8 39 rfl rfl
theorem lkX12_349 : Cond.methodLink RX12 349 yX12_mayPay ∈ wT := memT8 74 rfl rfl
theorem lkX12_352 : Cond.methodLink RX12 352 yX12_canBeHad ∈ wT := memT8 78 rfl rfl
theorem lkX12_355 : Cond.methodLink RX12 355 yX12_isBarred ∈ wT := memT8 58 rfl rfl
theorem lkX12_358 : Cond.methodLink RX12 358 yX12_priceOf ∈ wT := memT8 54 rfl rfl
theorem lkX12_361 : Cond.methodLink RX12 361 yX12_has ∈ wT := memT8 90 rfl rfl
theorem lkX12_364 : Cond.methodLink RX12 364 yX12_areTwo ∈ wT := memT8 50 rfl rfl
theorem lkX12_367 : Cond.methodLink RX12 367 yX12_canBuy ∈ wT := memT8 70 rfl rfl
theorem lkX12_370 : Cond.methodLink RX12 370 yX12_keeps ∈ wT := memT8 82 rfl rfl
theorem lkX12_373 : Cond.methodLink RX12 373 yX12_buys ∈ wT := memT8 86 rfl rfl
theorem lkX12_376 : Cond.methodLink RX12 376 yX12_buysKept ∈ wT := memT8 66 rfl rfl
theorem lkX12_388 : Cond.methodLink RX12 388 yX12_isWell ∈ wT := memT8 110 rfl rfl
theorem lkX12_391 : Cond.methodLink RX12 391 yX12_isCheaper ∈ wT := memT8 114 rfl rfl
theorem lkX12_394 : Cond.methodLink RX12 394 yX12_laysAside ∈ wT := memT8 118 rfl rfl
theorem lkX12_397 : Cond.methodLink RX12 397 yX12_canPair ∈ wT := memT8 122 rfl rfl
theorem lkX12_400 : Cond.methodLink RX12 400 yX12_triesPair ∈ wT := memT8 126 rfl rfl
theorem lkX12_403 : Cond.methodLink RX12 403 yX12_takesBack ∈ wT := memT8 130 rfl rfl
theorem lkX12_406 : Cond.methodLink RX12 406 yX12_findsCheap ∈ wT := memT8 106 rfl rfl
theorem lkX12_412 : Cond.methodLink RX12 412 yX12_canHave ∈ wT := memT8 146 rfl rfl
theorem lkX12_415 : Cond.methodLink RX12 415 yX12_areKin ∈ wT := memT8 138 rfl rfl
theorem lkX12_418 : Cond.methodLink RX12 418 yX12_joins ∈ wT := memT8 142 rfl rfl
theorem lkX12_421 : Cond.methodLink RX12 421 yX12_ones ∈ wT := memT8 162 rfl rfl
theorem lkX12_424 : Cond.methodLink RX12 424 yX12_canBeTrue ∈ wT := memT8 165 rfl rfl
theorem lkX12_427 : Cond.methodLink RX12 427 yX12_areSo ∈ wT := memT8 181 rfl rfl
theorem lkX12_439 : Cond.methodLink RX12 439 yX12_runs ∈ wT := memT8 193 rfl rfl
theorem lkX12_456 : Cond.methodLink RX12 456 yX12_small ∈ wT := memT8 205 rfl rfl
theorem lkX12_460 : Cond.methodLink RX12 460 yX12_goesAlong ∈ wT := memT8 197 rfl rfl
theorem lkX12_464 : Cond.methodLink RX12 464 yX12_obeys ∈ wT := memT8 201 rfl rfl
theorem lkX12_479 : Cond.methodLink RX12 479 yX12_draws ∈ wT := memT8 213 rfl rfl
theorem lkL_9 : Cond.methodLink RL 9 yX11_init ∈ wT := memT1 24 rfl rfl
theorem lkL_12 : Cond.methodLink RL 12 yX12_init ∈ wT := memT6 37 rfl rfl
theorem lkL_13 : Cond.methodLink RL 13 yX11_person ∈ wT := memT3 49 rfl rfl
theorem lkL_17 : Cond.methodLink RL 17 yX12_person ∈ wT := memT6 226 rfl rfl
theorem lkL_18 : Cond.methodLink RL 18 yX11_put ∈ wT := memT3 72 rfl rfl
theorem lkL_22 : Cond.methodLink RL 22 yX12_put ∈ wT := memT7 1 rfl rfl
theorem lkL_23 : Cond.methodLink RL 23 yX11_of ∈ wT := memT3 80 rfl rfl
theorem lkL_27 : Cond.methodLink RL 27 yX12_of ∈ wT := memT7 12 rfl rfl
theorem lkL_28 : Cond.methodLink RL 28 yX11_parent ∈ wT := memT3 121 rfl rfl
theorem lkL_31 : Cond.methodLink RL 31 yX12_parent ∈ wT := memT8 35 rfl rfl
theorem lkL_32 : Cond.methodLink RL 32 yX11_terms ∈ wT := memT3 149 rfl rfl
theorem lkL_35 : Cond.methodLink RL 35 yX12_terms ∈ wT := memT7 87 rfl rfl
theorem lkL_36 : Cond.methodLink RL 36 yX11_chest ∈ wT := memT3 161 rfl rfl
theorem lkL_40 : Cond.methodLink RL 40 yX12_chest ∈ wT := memT7 94 rfl rfl
theorem lkL_41 : Cond.methodLink RL 41 yX11_feed ∈ wT := memT3 165 rfl rfl
theorem lkL_45 : Cond.methodLink RL 45 yX12_feed ∈ wT := memT7 106 rfl rfl
theorem lkL_46 : Cond.methodLink RL 46 yX11_end ∈ wT := memT3 173 rfl rfl
theorem lkL_49 : Cond.methodLink RL 49 yX12_end ∈ wT := memT7 110 rfl rfl
theorem lkL_50 : Cond.methodLink RL 50 yX11_row ∈ wT := memT3 177 rfl rfl
theorem lkL_54 : Cond.methodLink RL 54 yX12_row ∈ wT := memT7 98 rfl rfl
theorem lkL_55 : Cond.methodLink RL 55 yX11_mould ∈ wT := memT3 189 rfl rfl
theorem lkL_58 : Cond.methodLink RL 58 yX12_mould ∈ wT := memT7 102 rfl rfl
theorem lkL_59 : Cond.methodLink RL 59 yX11_law ∈ wT := memT3 193 rfl rfl
theorem lkL_62 : Cond.methodLink RL 62 yX12_law ∈ wT := memT7 114 rfl rfl
theorem lkL_63 : Cond.methodLink RL 63 yX11_orders ∈ wT := memT4 148 rfl rfl
theorem lkL_66 : Cond.methodLink RL 66 yX12_orders ∈ wT := memT8 189 rfl rfl
theorem lkL_67 : Cond.methodLink RL 67 yX11_fault ∈ wT := memT5 2 rfl rfl
theorem lkL_70 : Cond.methodLink RL 70 yX12_fault ∈ wT := memT7 204 rfl rfl
theorem lkL_71 : Cond.methodLink RL 71 yX11_stopped ∈ wT := memT5 6 rfl rfl
theorem lkL_74 : Cond.methodLink RL 74 yX12_stopped ∈ wT := memT8 185 rfl rfl
theorem lkL_75 : Cond.methodLink RL 75 yX11_force ∈ wT := memT5 10 rfl rfl
theorem lkL_78 : Cond.methodLink RL 78 yX12_force ∈ wT := memT7 208 rfl rfl
theorem lkL_79 : Cond.methodLink RL 79 yX11_asks ∈ wT := memT5 14 rfl rfl
theorem lkL_82 : Cond.methodLink RL 82 yX12_asks ∈ wT := memT8 46 rfl rfl
theorem lkL_83 : Cond.methodLink RL 83 yX11_kin ∈ wT := memT5 21 rfl rfl
theorem lkL_86 : Cond.methodLink RL 86 yX12_kin ∈ wT := memT7 212 rfl rfl
theorem lkL_87 : Cond.methodLink RL 87 yX11_line ∈ wT := memT5 35 rfl rfl
theorem lkL_90 : Cond.methodLink RL 90 yX12_line ∈ wT := memT7 228 rfl rfl
theorem lkL_91 : Cond.methodLink RL 91 yX11_marry ∈ wT := memT5 76 rfl rfl
theorem lkL_94 : Cond.methodLink RL 94 yX12_marry ∈ wT := memT7 216 rfl rfl
theorem lkL_95 : Cond.methodLink RL 95 yX11_forged ∈ wT := memT5 84 rfl rfl
theorem lkL_98 : Cond.methodLink RL 98 yX12_forged ∈ wT := memT8 27 rfl rfl
theorem lkL_99 : Cond.methodLink RL 99 yX11_buy ∈ wT := memT5 92 rfl rfl
theorem lkL_102 : Cond.methodLink RL 102 yX12_buy ∈ wT := memT8 62 rfl rfl
theorem lkL_103 : Cond.methodLink RL 103 yX11_undo ∈ wT := memT5 99 rfl rfl
theorem lkL_106 : Cond.methodLink RL 106 yX12_undo ∈ wT := memT8 94 rfl rfl
theorem lkL_107 : Cond.methodLink RL 107 yX11_offers ∈ wT := memT5 116 rfl rfl
theorem lkL_110 : Cond.methodLink RL 110 yX12_offers ∈ wT := memT8 98 rfl rfl
theorem lkL_111 : Cond.methodLink RL 111 yX11_cheap ∈ wT := memT5 120 rfl rfl
theorem lkL_114 : Cond.methodLink RL 114 yX12_cheap ∈ wT := memT8 102 rfl rfl
theorem lkL_115 : Cond.methodLink RL 115 yX11_join ∈ wT := memT5 175 rfl rfl
theorem lkL_118 : Cond.methodLink RL 118 yX12_join ∈ wT := memT8 134 rfl rfl
theorem lkL_119 : Cond.methodLink RL 119 yX11_claim ∈ wT := memT5 188 rfl rfl
theorem lkL_122 : Cond.methodLink RL 122 yX12_claim ∈ wT := memT8 150 rfl rfl
theorem lkL_123 : Cond.methodLink RL 123 yX11_dismiss ∈ wT := memT5 192 rfl rfl
theorem lkL_126 : Cond.methodLink RL 126 yX12_dismiss ∈ wT := memT8 154 rfl rfl
theorem lkL_127 : Cond.methodLink RL 127 yX11_lies ∈ wT := memT5 196 rfl rfl
theorem lkL_130 : Cond.methodLink RL 130 yX12_lies ∈ wT := memT8 158 rfl rfl
theorem lkL_131 : Cond.methodLink RL 131 yX11_sight ∈ wT := memT5 216 rfl rfl
theorem lkL_134 : Cond.methodLink RL 134 yX12_sight ∈ wT := memT8 169 rfl rfl
theorem lkL_135 : Cond.methodLink RL 135 yX11_forget ∈ wT := memT5 220 rfl rfl
theorem lkL_138 : Cond.methodLink RL 138 yX12_forget ∈ wT := memT8 173 rfl rfl
theorem lkL_139 : Cond.methodLink RL 139 yX11_secret ∈ wT := memT5 224 rfl rfl
theorem lkL_142 : Cond.methodLink RL 142 yX12_secret ∈ wT := memT8 177 rfl rfl
theorem lkL_143 : Cond.methodLink RL 143 yX11_fair ∈ wT := memT5 237 rfl rfl
theorem lkL_146 : Cond.methodLink RL 146 yX12_fair ∈ wT := memT8 209 rfl rfl
theorem lkL_147 : Cond.methodLink RL 147 yX11_drawn ∈ wT := memT6 14 rfl rfl
theorem lkL_150 : Cond.methodLink RL 150 yX12_drawn ∈ wT := memT8 220 rfl rfl
theorem lkL_151 : Cond.methodLink RL 151 yX11_image ∈ wT := memT6 18 rfl rfl
theorem lkL_154 : Cond.methodLink RL 154 yX12_image ∈ wT := memT6 203 rfl rfl
theorem lkL_155 : Cond.methodLink RL 155 yX11_back ∈ wT := memT6 23 rfl rfl
theorem lkL_158 : Cond.methodLink RL 158 yX12_back ∈ wT := memT6 218 rfl rfl
theorem lkL_159 : Cond.methodLink RL 159 yX11_count ∈ wT := memT6 27 rfl rfl
theorem lkL_162 : Cond.methodLink RL 162 yX12_count ∈ wT := memT8 224 rfl rfl
theorem lkL_163 : Cond.methodLink RL 163 yX11_status ∈ wT := memT6 31 rfl rfl
theorem lkL_166 : Cond.methodLink RL 166 yX12_status ∈ wT := memT8 228 rfl rfl
theorem ctJ6_265 : Cond.constant RJ6 265 (1431655765) ∈ wT := memT5 207 rfl rfl
theorem ctJ6_266 : Cond.constant RJ6 266 (858993459) ∈ wT := memT5 208 rfl rfl
theorem ctJ6_267 : Cond.constant RJ6 267 (252645135) ∈ wT := memT5 209 rfl rfl
theorem ctX11_345 : Cond.constant RX11 345 (1000000) ∈ wT := memT6 1 rfl rfl
theorem ctX9_226 : Cond.constant RX9 226 (1000003) ∈ wT := memT6 10 rfl rfl
theorem ctX12_157 : Cond.constant RX12 157 (1000000) ∈ wT := memT7 64 rfl rfl
theorem ctX7_54 : Cond.constantLong RX7 54 (1000000001) ∈ wT := memT3 117 rfl rfl
theorem ctX7_47 : Cond.constantLong RX7 47 (1000000000) ∈ wT := memT3 118 rfl rfl
theorem ctX7_49 : Cond.constantLong RX7 49 (-1000000000) ∈ wT := memT3 119 rfl rfl
theorem ctX12_275 : Cond.constantLong RX12 275 (-1) ∈ wT := memT7 55 rfl rfl
theorem ctX12_251 : Cond.constantLong RX12 251 (1000000000) ∈ wT := memT7 69 rfl rfl
theorem ctX12_253 : Cond.constantLong RX12 253 (-1000000000) ∈ wT := memT7 70 rfl rfl
theorem ctX12_454 : Cond.constantLong RX12 454 (1000000) ∈ wT := memT8 208 rfl rfl
theorem ctX12_467 : Cond.constantLong RX12 467 (1103) ∈ wT := memT8 217 rfl rfl
theorem ctX12_472 : Cond.constantLong RX12 472 (12345) ∈ wT := memT8 218 rfl rfl
theorem ctX12_474 : Cond.constantLong RX12 474 (1000003) ∈ wT := memT8 219 rfl rfl
theorem w_oi : Cond.instanceMethod Lib.objectInit ∈ wT := memT1 28 rfl rfl
theorem w_oc : Cond.code Lib.objectInit ⟨#[0xb1]⟩ 1 none ∈ wT := memT1 29 rfl rfl
theorem w_maxs : Cond.static Lib.Math.max.name ∈ wT := memT1 236 rfl rfl
theorem w_maxc : Cond.code Lib.Math.max.name Lib.Math.max.code 2 (some .int) ∈ wT := memT1 237 rfl rfl
theorem w_mins : Cond.static Lib.Math.min.name ∈ wT := memT1 233 rfl rfl
theorem w_minc : Cond.code Lib.Math.min.name Lib.Math.min.code 2 (some .int) ∈ wT := memT1 234 rfl rfl
theorem w_mi : Cond.initialized "java/lang/Math" ∈ wT := memT1 7 rfl rfl
theorem w_an : Cond.native arraycopyName ∈ wT := memT4 146 rfl rfl
theorem w_as : Cond.static arraycopyName ∈ wT := memT4 145 rfl rfl
theorem w_ai : Cond.initialized "java/lang/System" ∈ wT := memT1 19 rfl rfl
theorem w_int : Cond.arrayClass .int ∈ wT := memT1 116 rfl rfl
theorem w_byte : Cond.arrayClass .byte ∈ wT := memT4 147 rfl rfl
theorem w_boolean : Cond.arrayClass .boolean ∈ wT := memT1 216 rfl rfl
theorem w_long : Cond.arrayClass .long ∈ wT := memT2 116 rfl rfl
end
section
set_option maxRecDepth 20000 in
def mJ6_bitCount_0f7a4 : Mt := (yJ6_bitCount_0f7a4, cJ6_bitCount_0f7a4, 1, (some .int), [99, 147, 1, 1, 1291], [(0, .iload_n 0, 1, []), (1, .iload_n 0, 1, []), (2, .iconst 1, 1, []), (3, .iushr, 1, []), (4, .ldc_w 265, 3, []), (7, .iand, 1, []), (8, .isub, 1, []), (9, .istore_n 0, 1, []), (10, .iload_n 0, 1, []), (11, .ldc_w 266, 3, []), (14, .iand, 1, []), (15, .iload_n 0, 1, []), (16, .iconst 2, 1, []), (17, .iushr, 1, []), (18, .ldc_w 266, 3, []), (21, .iand, 1, []), (22, .iadd, 1, []), (23, .istore_n 0, 1, []), (24, .iload_n 0, 1, []), (25, .iload_n 0, 1, []), (26, .iconst 4, 1, []), (27, .iushr, 1, []), (28, .iadd, 1, []), (29, .ldc_w 267, 3, []), (32, .iand, 1, []), (33, .istore_n 0, 1, []), (34, .iload_n 0, 1, []), (35, .iload_n 0, 1, []), (36, .bipush 8, 2, []), (38, .iushr, 1, []), (39, .iadd, 1, []), (40, .istore_n 0, 1, []), (41, .iload_n 0, 1, []), (42, .iload_n 0, 1, []), (43, .bipush 16, 2, []), (45, .iushr, 1, []), (46, .iadd, 1, []), (47, .istore_n 0, 1, []), (48, .iload_n 0, 1, []), (49, .bipush 63, 2, []), (51, .iand, 1, []), (52, .ireturn, 1, [])])
set_option maxRecDepth 20000 in
theorem ckJ6_bitCount_0f7a4_0 : ckR mJ6_bitCount_0f7a4 0 40 = true := by decide +kernel
set_option maxRecDepth 20000 in
theorem ckJ6_bitCount_0f7a4_1 : ckR mJ6_bitCount_0f7a4 40 40 = true := by decide +kernel
set_option maxRecDepth 20000 in
theorem okJ6_bitCount_0f7a4 : okC mJ6_bitCount_0f7a4 := ⟨by decide +kernel, memT5 206 rfl rfl, okM.of (n := 2) (Or.inl rfl) (by decide) (fun j hj => by match j, hj with | 0, _ => exact ckJ6_bitCount_0f7a4_0 | 1, _ => exact ckJ6_bitCount_0f7a4_1 | _ + 2, hj => exact absurd hj (by omega))⟩
set_option maxRecDepth 20000 in
def mJ7_fill_53178 : Mt := (yJ7_fill_53178, cJ7_fill_53178, 4, none, [99, 146, 2, 1, 1040], [(0, .iconst 0, 1, []), (1, .istore_n 2, 1, []), (2, .aload_n 0, 1, []), (3, .arraylength, 1, []), (4, .istore_n 3, 1, []), (5, .iload_n 2, 1, []), (6, .iload_n 3, 1, []), (7, .if_icmp .ge 13, 3, [14]), (10, .aload_n 0, 1, []), (11, .iload_n 2, 1, []), (12, .iload_n 1, 1, []), (13, .iastore, 1, []), (14, .iinc 2 1, 3, []), (17, .goto (-12), 3, [5]), (20, .return_, 1, [])])
set_option maxRecDepth 20000 in
theorem ckJ7_fill_53178_0 : ckR mJ7_fill_53178 0 40 = true := by decide +kernel
set_option maxRecDepth 20000 in
theorem okJ7_fill_53178 : okC mJ7_fill_53178 := ⟨by decide +kernel, memT4 195 rfl rfl, okM.of (n := 1) (Or.inl rfl) (by decide) (fun j hj => by match j, hj with | 0, _ => exact ckJ7_fill_53178_0 | _ + 1, hj => exact absurd hj (by omega))⟩
set_option maxRecDepth 20000 in
def mX0_init : Mt := (yX0_init, cX0_init, 6, none, [0, 138, 5, 2, 502], [(0, .aload_n 0, 1, []), (1, .invokespecial 3, 3, []), (4, .aload_n 0, 1, []), (5, .new 9, 3, [1, 505, 157, 128]), (8, .dup, 1, []), (9, .invokespecial 11, 3, []), (12, .putfield 12, 3, [0, 5, 148]), (15, .aload_n 0, 1, []), (16, .sipush 276, 3, []), (19, .newarray .int, 2, []), (21, .putfield 18, 3, [0, 6, 149]), (24, .aload_n 0, 1, []), (25, .iconst 3, 1, []), (26, .newarray .int, 2, []), (28, .putfield 22, 3, [0, 7, 150]), (31, .aload_n 0, 1, []), (32, .aload_n 1, 1, []), (33, .putfield 25, 3, [0, 0, 143]), (36, .aload_n 0, 1, []), (37, .aload_n 2, 1, []), (38, .putfield 28, 3, [0, 1, 144]), (41, .aload_n 0, 1, []), (42, .aload_n 3, 1, []), (43, .putfield 32, 3, [0, 2, 145]), (46, .aload_n 0, 1, []), (47, .aload 4, 2, []), (49, .putfield 36, 3, [0, 3, 146]), (52, .aload_n 0, 1, []), (53, .aload 5, 2, []), (55, .putfield 40, 3, [0, 4, 147]), (58, .return_, 1, [])])
set_option maxRecDepth 20000 in
theorem ckX0_init_0 : ckR mX0_init 0 40 = true := by decide +kernel
set_option maxRecDepth 20000 in
theorem okX0_init : okC mX0_init := ⟨by decide +kernel, memT2 137 rfl rfl, okM.of (n := 1) (Or.inr rfl) (by decide) (fun j hj => by match j, hj with | 0, _ => exact ckX0_init_0 | _ + 1, hj => exact absurd hj (by omega))⟩
set_option maxRecDepth 20000 in
def mX0_obey : Mt := (yX0_obey, cX0_obey, 5, (some .int), [0, 138, 1, 0, 999, 1000], [(0, .aload_n 0, 1, []), (1, .getfield 12, 3, [0, 5, 148]), (4, .aload_n 0, 1, []), (5, .getfield 25, 3, [0, 0, 143]), (8, .invokevirtual 44, 3, []), (11, .aload_n 0, 1, []), (12, .getfield 40, 3, [0, 4, 147]), (15, .getfield 48, 3, [4, 4, 134]), (18, .istore_n 2, 1, []), (19, .aload_n 0, 1, []), (20, .iconst 0, 1, []), (21, .putfield 54, 3, [0, 8, 151]), (24, .aload_n 0, 1, []), (25, .iconst (-1), 1, []), (26, .putfield 57, 3, [0, 9, 153]), (29, .iconst 0, 1, []), (30, .istore_n 3, 1, []), (31, .iload_n 3, 1, []), (32, .aload_n 1, 1, []), (33, .getfield 60, 3, [8, 0, 96]), (36, .if_icmp .ge 59, 3, [49]), (39, .iconst 0, 1, []), (40, .istore 4, 2, []), (42, .iload 4, 2, []), (44, .aload_n 1, 1, []), (45, .getfield 65, 3, [8, 3, 104]), (48, .iload_n 3, 1, []), (49, .iaload, 1, []), (50, .if_icmp .ge 39, 3, [47]), (53, .aload_n 0, 1, []), (54, .aload_n 1, 1, []), (55, .iload_n 3, 1, []), (56, .invokevirtual 68, 3, []), (59, .ifCond .ne 24, 3, [45]), (62, .aload_n 0, 1, []), (63, .getfield 25, 3, [0, 0, 143]), (66, .aload_n 0, 1, []), (67, .getfield 12, 3, [0, 5, 148]), (70, .invokevirtual 44, 3, []), (73, .aload_n 0, 1, []), (74, .getfield 40, 3, [0, 4, 147]), (77, .iload_n 2, 1, []), (78, .putfield 48, 3, [4, 4, 134]), (81, .iload_n 3, 1, []), (82, .ireturn, 1, []), (83, .iinc 4 1, 3, []), (86, .goto (-44), 3, [23]), (89, .iinc 3 1, 3, []), (92, .goto (-61), 3, [17]), (95, .iconst (-1), 1, []), (96, .ireturn, 1, [])])
set_option maxRecDepth 20000 in
theorem ckX0_obey_0 : ckR mX0_obey 0 40 = true := by decide +kernel
set_option maxRecDepth 20000 in
theorem ckX0_obey_1 : ckR mX0_obey 40 40 = true := by decide +kernel
set_option maxRecDepth 20000 in
theorem okX0_obey : okC mX0_obey := ⟨by decide +kernel, memT4 155 rfl rfl, okM.of (n := 2) (Or.inr rfl) (by decide) (fun j hj => by match j, hj with | 0, _ => exact ckX0_obey_0 | 1, _ => exact ckX0_obey_1 | _ + 2, hj => exact absurd hj (by omega))⟩
set_option maxRecDepth 20000 in
def mX0_obeyed : Mt := (yX0_obeyed, cX0_obeyed, 6, (some .boolean), [0, 138, 2, 0, 1018, 26], [(0, .iload_n 2, 1, []), (1, .iconst 4, 1, []), (2, .imul, 1, []), (3, .istore_n 3, 1, []), (4, .aload_n 1, 1, []), (5, .iload_n 2, 1, []), (6, .iconst 3, 1, []), (7, .invokevirtual 72, 3, []), (10, .ifCond .ne 25, 3, [21]), (13, .aload_n 0, 1, []), (14, .aload_n 1, 1, []), (15, .iload_n 3, 1, []), (16, .iconst 3, 1, []), (17, .iadd, 1, []), (18, .invokevirtual 76, 3, []), (21, .ifCond .eq 18, 3, [23]), (24, .aload_n 0, 1, []), (25, .getfield 36, 3, [0, 3, 146]), (28, .getfield 79, 3, [7, 1, 138]), (31, .iconst 1, 1, []), (32, .if_icmp .ne 7, 3, [23]), (35, .iconst 1, 1, []), (36, .goto 4, 3, [24]), (39, .iconst 0, 1, []), (40, .istore 4, 2, []), (42, .iload 4, 2, []), (44, .ifCond .ne 5, 3, [29]), (47, .iconst 1, 1, []), (48, .ireturn, 1, []), (49, .aload_n 1, 1, []), (50, .getfield 84, 3, [8, 2, 102]), (53, .iload_n 2, 1, []), (54, .iaload, 1, []), (55, .iconst 4, 1, []), (56, .if_icmp .ne 51, 3, [59]), (59, .aload_n 0, 1, []), (60, .aload_n 1, 1, []), (61, .iload_n 3, 1, []), (62, .invokevirtual 76, 3, []), (65, .ifCond .eq 21, 3, [48]), (68, .aload_n 0, 1, []), (69, .getfield 25, 3, [0, 0, 143]), (72, .iconst 0, 1, []), (73, .aload_n 0, 1, []), (74, .getfield 36, 3, [0, 3, 146]), (77, .getfield 79, 3, [7, 1, 138]), (80, .invokevirtual 87, 3, []), (83, .ifCond .ne 5, 3, [50]), (86, .iconst 0, 1, []), (87, .ireturn, 1, []), (88, .aload_n 0, 1, []), (89, .getfield 25, 3, [0, 0, 143]), (92, .getfield 90, 3, [1, 1, 55]), (95, .iconst 0, 1, []), (96, .aload_n 0, 1, []), (97, .getfield 36, 3, [0, 3, 146]), (100, .getfield 79, 3, [7, 1, 138]), (103, .iastore, 1, []), (104, .goto 119, 3, [126]), (107, .aload_n 0, 1, []), (108, .aload_n 1, 1, []), (109, .iload_n 3, 1, []), (110, .invokevirtual 93, 3, []), (113, .ifCond .ne 5, 3, [66]), (116, .iconst 0, 1, []), (117, .ireturn, 1, []), (118, .aload_n 0, 1, []), (119, .getfield 28, 3, [0, 1, 144]), (122, .aload_n 0, 1, []), (123, .getfield 25, 3, [0, 0, 143]), (126, .getfield 96, 3, [1, 0, 51]), (129, .aload_n 0, 1, []), (130, .getfield 22, 3, [0, 7, 150]), (133, .iconst 0, 1, []), (134, .iaload, 1, []), (135, .aload_n 0, 1, []), (136, .getfield 22, 3, [0, 7, 150]), (139, .iconst 1, 1, []), (140, .iaload, 1, []), (141, .aload_n 0, 1, []), (142, .getfield 22, 3, [0, 7, 150]), (145, .iconst 2, 1, []), (146, .iaload, 1, []), (147, .invokevirtual 100, 3, []), (150, .istore 5, 2, []), (152, .iload 5, 2, []), (154, .iconst (-1), 1, []), (155, .if_icmp .ne 5, 3, [90]), (158, .iconst 0, 1, []), (159, .ireturn, 1, []), (160, .aload_n 0, 1, []), (161, .getfield 25, 3, [0, 0, 143]), (164, .getfield 96, 3, [1, 0, 51]), (167, .aload_n 0, 1, []), (168, .getfield 22, 3, [0, 7, 150]), (171, .iconst 0, 1, []), (172, .iaload, 1, []), (173, .aload_n 0, 1, []), (174, .getfield 22, 3, [0, 7, 150]), (177, .iconst 1, 1, []), (178, .iaload, 1, []), (179, .aload_n 0, 1, []), (180, .getfield 22, 3, [0, 7, 150]), (183, .iconst 2, 1, []), (184, .iaload, 1, []), (185, .iload 5, 2, []), (187, .invokevirtual 106, 3, []), (190, .aload_n 0, 1, []), (191, .getfield 40, 3, [0, 4, 147]), (194, .aload_n 0, 1, []), (195, .getfield 22, 3, [0, 7, 150]), (198, .iconst 0, 1, []), (199, .iaload, 1, []), (200, .aload_n 0, 1, []), (201, .getfield 22, 3, [0, 7, 150]), (204, .iconst 1, 1, []), (205, .iaload, 1, []), (206, .aload_n 0, 1, []), (207, .getfield 22, 3, [0, 7, 150]), (210, .iconst 2, 1, []), (211, .iaload, 1, []), (212, .iload 5, 2, []), (214, .invokevirtual 112, 3, []), (217, .aload_n 0, 1, []), (218, .iload 5, 2, []), (220, .putfield 57, 3, [0, 9, 153]), (223, .aload_n 0, 1, []), (224, .dup, 1, []), (225, .getfield 54, 3, [0, 8, 151]), (228, .iconst 1, 1, []), (229, .iadd, 1, []), (230, .putfield 54, 3, [0, 8, 151]), (233, .iconst 1, 1, []), (234, .ireturn, 1, [])])
set_option maxRecDepth 20000 in
theorem ckX0_obeyed_0 : ckR mX0_obeyed 0 40 = true := by decide +kernel
set_option maxRecDepth 20000 in
theorem ckX0_obeyed_1 : ckR mX0_obeyed 40 40 = true := by decide +kernel
set_option maxRecDepth 20000 in
theorem ckX0_obeyed_2 : ckR mX0_obeyed 80 40 = true := by decide +kernel
set_option maxRecDepth 20000 in
theorem ckX0_obeyed_3 : ckR mX0_obeyed 120 40 = true := by decide +kernel
set_option maxRecDepth 20000 in
theorem okX0_obeyed : okC mX0_obeyed := ⟨by decide +kernel, memT4 173 rfl rfl, okM.of (n := 4) (Or.inr rfl) (by decide) (fun j hj => by match j, hj with | 0, _ => exact ckX0_obeyed_0 | 1, _ => exact ckX0_obeyed_1 | 2, _ => exact ckX0_obeyed_2 | 3, _ => exact ckX0_obeyed_3 | _ + 4, hj => exact absurd hj (by omega))⟩
set_option maxRecDepth 20000 in
def mX0_areThreePeople : Mt := (yX0_areThreePeople, cX0_areThreePeople, 4, (some .boolean), [0, 138, 2, 0, 1046, 30], [(0, .iconst 0, 1, []), (1, .istore_n 3, 1, []), (2, .iload_n 3, 1, []), (3, .aload_n 0, 1, []), (4, .getfield 22, 3, [0, 7, 150]), (7, .arraylength, 1, []), (8, .if_icmp .ge 55, 3, [33]), (11, .aload_n 0, 1, []), (12, .aload_n 1, 1, []), (13, .iload_n 2, 1, []), (14, .iload_n 3, 1, []), (15, .iadd, 1, []), (16, .invokevirtual 76, 3, []), (19, .ifCond .eq 23, 3, [22]), (22, .aload_n 0, 1, []), (23, .getfield 25, 3, [0, 0, 143]), (26, .getfield 96, 3, [1, 0, 51]), (29, .aload_n 0, 1, []), (30, .getfield 36, 3, [0, 3, 146]), (33, .getfield 79, 3, [7, 1, 138]), (36, .invokevirtual 115, 3, []), (39, .ifCond .ne 5, 3, [24]), (42, .iconst 0, 1, []), (43, .ireturn, 1, []), (44, .aload_n 0, 1, []), (45, .getfield 22, 3, [0, 7, 150]), (48, .iload_n 3, 1, []), (49, .aload_n 0, 1, []), (50, .getfield 36, 3, [0, 3, 146]), (53, .getfield 79, 3, [7, 1, 138]), (56, .iastore, 1, []), (57, .iinc 3 1, 3, []), (60, .goto (-58), 3, [2]), (63, .iconst 1, 1, []), (64, .ireturn, 1, [])])
set_option maxRecDepth 20000 in
theorem ckX0_areThreePeople_0 : ckR mX0_areThreePeople 0 40 = true := by decide +kernel
set_option maxRecDepth 20000 in
theorem okX0_areThreePeople : okC mX0_areThreePeople := ⟨by decide +kernel, memT4 201 rfl rfl, okM.of (n := 1) (Or.inr rfl) (by decide) (fun j hj => by match j, hj with | 0, _ => exact ckX0_areThreePeople_0 | _ + 1, hj => exact absurd hj (by omega))⟩
set_option maxRecDepth 20000 in
def mX0_reckoned : Mt := (yX0_reckoned, cX0_reckoned, 5, (some .boolean), [0, 138, 2, 0, 1023, 27], [(0, .iload_n 2, 1, []), (1, .ifCond .lt 12, 3, [7]), (4, .iload_n 2, 1, []), (5, .aload_n 1, 1, []), (6, .getfield 119, 3, [8, 4, 107]), (9, .arraylength, 1, []), (10, .if_icmp .lt 5, 3, [9]), (13, .iconst 0, 1, []), (14, .ireturn, 1, []), (15, .aload_n 1, 1, []), (16, .getfield 119, 3, [8, 4, 107]), (19, .iload_n 2, 1, []), (20, .iaload, 1, []), (21, .istore_n 3, 1, []), (22, .iload_n 3, 1, []), (23, .aload_n 1, 1, []), (24, .getfield 122, 3, [8, 5, 110]), (27, .iload_n 2, 1, []), (28, .iaload, 1, []), (29, .if_icmp .ge 53, 3, [45]), (32, .aload_n 1, 1, []), (33, .getfield 125, 3, [8, 7, 116]), (36, .iload_n 3, 1, []), (37, .iaload, 1, []), (38, .istore 4, 2, []), (40, .aload_n 1, 1, []), (41, .getfield 128, 3, [8, 6, 113]), (44, .iload_n 3, 1, []), (45, .iaload, 1, []), (46, .iconst 1, 1, []), (47, .if_icmp .ne 29, 3, [43]), (50, .iload 4, 2, []), (52, .ifCond .lt 24, 3, [43]), (55, .iload 4, 2, []), (57, .sipush 276, 3, []), (60, .if_icmp .ge 16, 3, [43]), (63, .aload_n 0, 1, []), (64, .getfield 18, 3, [0, 6, 149]), (67, .iload 4, 2, []), (69, .aload_n 0, 1, []), (70, .iload 4, 2, []), (72, .invokevirtual 131, 3, []), (75, .iastore, 1, []), (76, .iinc 3 1, 3, []), (79, .goto (-57), 3, [14]), (82, .aload_n 0, 1, []), (83, .getfield 36, 3, [0, 3, 146]), (86, .aload_n 1, 1, []), (87, .iload_n 2, 1, []), (88, .aload_n 0, 1, []), (89, .getfield 18, 3, [0, 6, 149]), (92, .invokevirtual 135, 3, []), (95, .ireturn, 1, [])])
set_option maxRecDepth 20000 in
theorem ckX0_reckoned_0 : ckR mX0_reckoned 0 40 = true := by decide +kernel
set_option maxRecDepth 20000 in
theorem ckX0_reckoned_1 : ckR mX0_reckoned 40 40 = true := by decide +kernel
set_option maxRecDepth 20000 in
theorem okX0_reckoned : okC mX0_reckoned := ⟨by decide +kernel, memT4 178 rfl rfl, okM.of (n := 2) (Or.inr rfl) (by decide) (fun j hj => by match j, hj with | 0, _ => exact ckX0_reckoned_0 | 1, _ => exact ckX0_reckoned_1 | _ + 2, hj => exact absurd hj (by omega))⟩
set_option maxRecDepth 20000 in
def mX0_valueOf : Mt := (yX0_valueOf, cX0_valueOf, 5, (some .int), [0, 138, 1, 0, 1027, 28], [(0, .aload_n 0, 1, []), (1, .getfield 25, 3, [0, 0, 143]), (4, .getfield 96, 3, [1, 0, 51]), (7, .astore_n 2, 1, []), (8, .iload_n 1, 1, []), (9, .bipush 20, 2, []), (11, .if_icmp .lt 53, 3, [36]), (14, .iload_n 1, 1, []), (15, .bipush 20, 2, []), (17, .isub, 1, []), (18, .bipush 16, 2, []), (20, .idiv, 1, []), (21, .istore_n 3, 1, []), (22, .iload_n 1, 1, []), (23, .bipush 20, 2, []), (25, .isub, 1, []), (26, .bipush 16, 2, []), (28, .irem, 1, []), (29, .istore 4, 2, []), (31, .aload_n 2, 1, []), (32, .iload_n 3, 1, []), (33, .invokevirtual 115, 3, []), (36, .ifCond .eq 26, 3, [34]), (39, .aload_n 2, 1, []), (40, .iload 4, 2, []), (42, .invokevirtual 115, 3, []), (45, .ifCond .eq 17, 3, [34]), (48, .aload_n 0, 1, []), (49, .getfield 32, 3, [0, 2, 145]), (52, .aload_n 2, 1, []), (53, .iload_n 3, 1, []), (54, .iload 4, 2, []), (56, .invokevirtual 139, 3, []), (59, .goto 4, 3, [35]), (62, .iconst (-1), 1, []), (63, .ireturn, 1, []), (64, .iload_n 1, 1, []), (65, .iconst 4, 1, []), (66, .if_icmp .lt 26, 3, [54]), (69, .aload_n 2, 1, []), (70, .iload_n 1, 1, []), (71, .iconst 4, 1, []), (72, .isub, 1, []), (73, .invokevirtual 115, 3, []), (76, .ifCond .eq 14, 3, [52]), (79, .aload_n 2, 1, []), (80, .getfield 145, 3, [5, 8, 32]), (83, .iload_n 1, 1, []), (84, .iconst 4, 1, []), (85, .isub, 1, []), (86, .iaload, 1, []), (87, .goto 4, 3, [53]), (90, .iconst (-1), 1, []), (91, .ireturn, 1, []), (92, .iload_n 1, 1, []), (93, .tableswitch 47 0 2 #[27, 37, 42], 27, []), (120, .aload_n 0, 1, []), (121, .getfield 25, 3, [0, 0, 143]), (124, .getfield 90, 3, [1, 1, 55]), (127, .iconst 0, 1, []), (128, .iaload, 1, []), (129, .ireturn, 1, []), (130, .aload_n 2, 1, []), (131, .getfield 148, 3, [5, 0, 3]), (134, .ireturn, 1, []), (135, .aload_n 0, 1, []), (136, .getfield 54, 3, [0, 8, 151]), (139, .ireturn, 1, []), (140, .aload_n 0, 1, []), (141, .getfield 57, 3, [0, 9, 153]), (144, .ireturn, 1, [])])
set_option maxRecDepth 20000 in
theorem ckX0_valueOf_0 : ckR mX0_valueOf 0 40 = true := by decide +kernel
set_option maxRecDepth 20000 in
theorem ckX0_valueOf_1 : ckR mX0_valueOf 40 40 = true := by decide +kernel
set_option maxRecDepth 20000 in
theorem okX0_valueOf : okC mX0_valueOf := ⟨by decide +kernel, memT4 182 rfl rfl, okM.of (n := 2) (Or.inr rfl) (by decide) (fun j hj => by match j, hj with | 0, _ => exact ckX0_valueOf_0 | 1, _ => exact ckX0_valueOf_1 | _ + 2, hj => exact absurd hj (by omega))⟩
set_option maxRecDepth 20000 in
def mX1_init : Mt := (yX1_init, cX1_init, 1, none, [1, 128, 0, 2, 159], [(0, .aload_n 0, 1, []), (1, .invokespecial 3, 3, []), (4, .aload_n 0, 1, []), (5, .new 9, 3, [5, 162, 163, 129]), (8, .dup, 1, []), (9, .invokespecial 11, 3, []), (12, .putfield 12, 3, [1, 0, 47]), (15, .aload_n 0, 1, []), (16, .iconst 4, 1, []), (17, .newarray .int, 2, []), (19, .dup, 1, []), (20, .iconst 0, 1, []), (21, .sipush 500, 3, []), (24, .iastore, 1, []), (25, .dup, 1, []), (26, .iconst 1, 1, []), (27, .iconst 4, 1, []), (28, .iastore, 1, []), (29, .dup, 1, []), (30, .iconst 2, 1, []), (31, .bipush 16, 2, []), (33, .iastore, 1, []), (34, .dup, 1, []), (35, .iconst 3, 1, []), (36, .iconst 0, 1, []), (37, .iastore, 1, []), (38, .putfield 18, 3, [1, 1, 52]), (41, .aload_n 0, 1, []), (42, .bipush 6, 2, []), (44, .anewarray 22, 3, []), (47, .putfield 24, 3, [1, 2, 57]), (50, .aload_n 0, 1, []), (51, .iconst (-1), 1, []), (52, .putfield 28, 3, [1, 4, 61]), (55, .aload_n 0, 1, []), (56, .bipush 8, 2, []), (58, .newarray .int, 2, []), (60, .putfield 32, 3, [1, 5, 63]), (63, .aload_n 0, 1, []), (64, .bipush 8, 2, []), (66, .newarray .int, 2, []), (68, .putfield 35, 3, [1, 6, 66]), (71, .aload_n 0, 1, []), (72, .bipush 8, 2, []), (74, .newarray .int, 2, []), (76, .putfield 38, 3, [1, 8, 72]), (79, .aload_n 0, 1, []), (80, .bipush 8, 2, []), (82, .newarray .int, 2, []), (84, .putfield 41, 3, [1, 9, 75]), (87, .aload_n 0, 1, []), (88, .bipush 8, 2, []), (90, .newarray .int, 2, []), (92, .putfield 44, 3, [1, 10, 78]), (95, .return_, 1, [])])
set_option maxRecDepth 20000 in
theorem ckX1_init_0 : ckR mX1_init 0 40 = true := by decide +kernel
set_option maxRecDepth 20000 in
theorem ckX1_init_1 : ckR mX1_init 40 40 = true := by decide +kernel
set_option maxRecDepth 20000 in
theorem okX1_init : okC mX1_init := ⟨by decide +kernel, memT1 34 rfl rfl, okM.of (n := 2) (Or.inr rfl) (by decide) (fun j hj => by match j, hj with | 0, _ => exact ckX1_init_0 | 1, _ => exact ckX1_init_1 | _ + 2, hj => exact absurd hj (by omega))⟩
set_option maxRecDepth 20000 in
def mX1_copyFrom : Mt := (yX1_copyFrom, cX1_copyFrom, 3, none, [1, 128, 1, 0, 1003, 1004], [(0, .aload_n 0, 1, []), (1, .getfield 12, 3, [1, 0, 47]), (4, .aload_n 1, 1, []), (5, .getfield 12, 3, [1, 0, 47]), (8, .invokevirtual 47, 3, []), (11, .aload_n 1, 1, []), (12, .getfield 18, 3, [1, 1, 52]), (15, .iconst 0, 1, []), (16, .aload_n 0, 1, []), (17, .getfield 18, 3, [1, 1, 52]), (20, .iconst 0, 1, []), (21, .aload_n 0, 1, []), (22, .getfield 18, 3, [1, 1, 52]), (25, .arraylength, 1, []), (26, .invokestatic 51, 3, []), (29, .iconst 0, 1, []), (30, .istore_n 2, 1, []), (31, .iload_n 2, 1, []), (32, .bipush 6, 2, []), (34, .if_icmp .ge 21, 3, [30]), (37, .aload_n 0, 1, []), (38, .getfield 24, 3, [1, 2, 57]), (41, .iload_n 2, 1, []), (42, .aload_n 1, 1, []), (43, .getfield 24, 3, [1, 2, 57]), (46, .iload_n 2, 1, []), (47, .aaload, 1, []), (48, .aastore, 1, []), (49, .iinc 2 1, 3, []), (52, .goto (-21), 3, [17]), (55, .aload_n 0, 1, []), (56, .aload_n 1, 1, []), (57, .getfield 57, 3, [1, 3, 59]), (60, .putfield 57, 3, [1, 3, 59]), (63, .aload_n 0, 1, []), (64, .aload_n 1, 1, []), (65, .getfield 28, 3, [1, 4, 61]), (68, .putfield 28, 3, [1, 4, 61]), (71, .aload_n 1, 1, []), (72, .getfield 32, 3, [1, 5, 63]), (75, .iconst 0, 1, []), (76, .aload_n 0, 1, []), (77, .getfield 32, 3, [1, 5, 63]), (80, .iconst 0, 1, []), (81, .bipush 8, 2, []), (83, .invokestatic 51, 3, []), (86, .aload_n 1, 1, []), (87, .getfield 35, 3, [1, 6, 66]), (90, .iconst 0, 1, []), (91, .aload_n 0, 1, []), (92, .getfield 35, 3, [1, 6, 66]), (95, .iconst 0, 1, []), (96, .bipush 8, 2, []), (98, .invokestatic 51, 3, []), (101, .aload_n 0, 1, []), (102, .aload_n 1, 1, []), (103, .getfield 60, 3, [1, 7, 69]), (106, .putfield 60, 3, [1, 7, 69]), (109, .aload_n 1, 1, []), (110, .getfield 38, 3, [1, 8, 72]), (113, .iconst 0, 1, []), (114, .aload_n 0, 1, []), (115, .getfield 38, 3, [1, 8, 72]), (118, .iconst 0, 1, []), (119, .bipush 8, 2, []), (121, .invokestatic 51, 3, []), (124, .aload_n 1, 1, []), (125, .getfield 41, 3, [1, 9, 75]), (128, .iconst 0, 1, []), (129, .aload_n 0, 1, []), (130, .getfield 41, 3, [1, 9, 75]), (133, .iconst 0, 1, []), (134, .bipush 8, 2, []), (136, .invokestatic 51, 3, []), (139, .aload_n 1, 1, []), (140, .getfield 44, 3, [1, 10, 78]), (143, .iconst 0, 1, []), (144, .aload_n 0, 1, []), (145, .getfield 44, 3, [1, 10, 78]), (148, .iconst 0, 1, []), (149, .bipush 8, 2, []), (151, .invokestatic 51, 3, []), (154, .aload_n 0, 1, []), (155, .aload_n 1, 1, []), (156, .getfield 63, 3, [1, 11, 81]), (159, .putfield 63, 3, [1, 11, 81]), (162, .return_, 1, [])])
set_option maxRecDepth 20000 in
theorem ckX1_copyFrom_0 : ckR mX1_copyFrom 0 40 = true := by decide +kernel
set_option maxRecDepth 20000 in
theorem ckX1_copyFrom_1 : ckR mX1_copyFrom 40 40 = true := by decide +kernel
set_option maxRecDepth 20000 in
theorem ckX1_copyFrom_2 : ckR mX1_copyFrom 80 40 = true := by decide +kernel
set_option maxRecDepth 20000 in
theorem okX1_copyFrom : okC mX1_copyFrom := ⟨by decide +kernel, memT4 159 rfl rfl, okM.of (n := 3) (Or.inr rfl) (by decide) (fun j hj => by match j, hj with | 0, _ => exact ckX1_copyFrom_0 | 1, _ => exact ckX1_copyFrom_1 | 2, _ => exact ckX1_copyFrom_2 | _ + 3, hj => exact absurd hj (by omega))⟩
set_option maxRecDepth 20000 in
def mX1_termCanBe : Mt := (yX1_termCanBe, cX1_termCanBe, 3, (some .boolean), [1, 128, 2, 0, 760, 761], [(0, .iload_n 1, 1, []), (1, .ifCond .lt 30, 3, [17]), (4, .iload_n 1, 1, []), (5, .iconst 3, 1, []), (6, .if_icmp .gt 25, 3, [17]), (9, .iload_n 2, 1, []), (10, .getstatic 66, 3, []), (13, .iload_n 1, 1, []), (14, .iaload, 1, []), (15, .if_icmp .lt 16, 3, [17]), (18, .iload_n 2, 1, []), (19, .getstatic 69, 3, []), (22, .iload_n 1, 1, []), (23, .iaload, 1, []), (24, .if_icmp .gt 7, 3, [17]), (27, .iconst 1, 1, []), (28, .goto 4, 3, [18]), (31, .iconst 0, 1, []), (32, .ireturn, 1, [])])
set_option maxRecDepth 20000 in
theorem ckX1_termCanBe_0 : ckR mX1_termCanBe 0 40 = true := by decide +kernel
set_option maxRecDepth 20000 in
theorem okX1_termCanBe : okC mX1_termCanBe := ⟨by decide +kernel, memT3 156 rfl rfl, okM.of (n := 1) (Or.inr rfl) (by decide) (fun j hj => by match j, hj with | 0, _ => exact ckX1_termCanBe_0 | _ + 1, hj => exact absurd hj (by omega))⟩
set_option maxRecDepth 20000 in
def mX1_lawInForce : Mt := (yX1_lawInForce, cX1_lawInForce, 1, (some (.object "BoughtKin$Script")), [1, 128, 0, 0, 707, 708], [(0, .aload_n 0, 1, []), (1, .getfield 28, 3, [1, 4, 61]), (4, .ifCond .lt 14, 3, [8]), (7, .aload_n 0, 1, []), (8, .getfield 28, 3, [1, 4, 61]), (11, .aload_n 0, 1, []), (12, .getfield 57, 3, [1, 3, 59]), (15, .if_icmp .lt 7, 3, [10]), (18, .aconst_null, 1, []), (19, .goto 12, 3, [15]), (22, .aload_n 0, 1, []), (23, .getfield 24, 3, [1, 2, 57]), (26, .aload_n 0, 1, []), (27, .getfield 28, 3, [1, 4, 61]), (30, .aaload, 1, []), (31, .areturn, 1, [])])
set_option maxRecDepth 20000 in
theorem ckX1_lawInForce_0 : ckR mX1_lawInForce 0 40 = true := by decide +kernel
set_option maxRecDepth 20000 in
theorem okX1_lawInForce : okC mX1_lawInForce := ⟨by decide +kernel, memT3 103 rfl rfl, okM.of (n := 1) (Or.inr rfl) (by decide) (fun j hj => by match j, hj with | 0, _ => exact ckX1_lawInForce_0 | _ + 1, hj => exact absurd hj (by omega))⟩
set_option maxRecDepth 20000 in
def mX2_init : Mt := (yX2_init, cX2_init, 3, none, [2, 137, 2, 2, 486], [(0, .aload_n 0, 1, []), (1, .invokespecial 3, 3, []), (4, .aload_n 0, 1, []), (5, .bipush 10, 2, []), (7, .newarray .int, 2, []), (9, .putfield 9, 3, [2, 2, 142]), (12, .aload_n 0, 1, []), (13, .aload_n 1, 1, []), (14, .putfield 15, 3, [2, 0, 140]), (17, .aload_n 0, 1, []), (18, .aload_n 2, 1, []), (19, .putfield 19, 3, [2, 1, 141]), (22, .return_, 1, [])])
set_option maxRecDepth 20000 in
theorem ckX2_init_0 : ckR mX2_init 0 40 = true := by decide +kernel
set_option maxRecDepth 20000 in
theorem okX2_init : okC mX2_init := ⟨by decide +kernel, memT2 121 rfl rfl, okM.of (n := 1) (Or.inr rfl) (by decide) (fun j hj => by match j, hj with | 0, _ => exact ckX2_init_0 | _ + 1, hj => exact absurd hj (by omega))⟩
set_option maxRecDepth 20000 in
def mX2_setWords : Mt := (yX2_setWords, cX2_setWords, 4, none, [2, 137, 2, 0, 700, 2], [(0, .aload_n 0, 1, []), (1, .getfield 15, 3, [2, 0, 140]), (4, .getfield 23, 3, [1, 0, 48]), (7, .astore_n 3, 1, []), (8, .aload_n 0, 1, []), (9, .getfield 9, 3, [2, 2, 142]), (12, .iconst 0, 1, []), (13, .aload_n 3, 1, []), (14, .getfield 29, 3, [5, 3, 13]), (17, .iload_n 1, 1, []), (18, .iaload, 1, []), (19, .iastore, 1, []), (20, .aload_n 0, 1, []), (21, .getfield 9, 3, [2, 2, 142]), (24, .iconst 1, 1, []), (25, .aload_n 3, 1, []), (26, .getfield 34, 3, [5, 4, 17]), (29, .iload_n 1, 1, []), (30, .iaload, 1, []), (31, .iastore, 1, []), (32, .aload_n 0, 1, []), (33, .getfield 9, 3, [2, 2, 142]), (36, .iconst 2, 1, []), (37, .aload_n 3, 1, []), (38, .getfield 37, 3, [5, 5, 20]), (41, .iload_n 1, 1, []), (42, .iaload, 1, []), (43, .iastore, 1, []), (44, .aload_n 0, 1, []), (45, .getfield 9, 3, [2, 2, 142]), (48, .iconst 3, 1, []), (49, .aload_n 3, 1, []), (50, .getfield 40, 3, [5, 6, 23]), (53, .iload_n 1, 1, []), (54, .iaload, 1, []), (55, .iastore, 1, []), (56, .aload_n 0, 1, []), (57, .getfield 9, 3, [2, 2, 142]), (60, .iconst 4, 1, []), (61, .aload_n 3, 1, []), (62, .getfield 43, 3, [5, 7, 26]), (65, .iload_n 1, 1, []), (66, .iaload, 1, []), (67, .iastore, 1, []), (68, .aload_n 0, 1, []), (69, .getfield 9, 3, [2, 2, 142]), (72, .iconst 5, 1, []), (73, .aload_n 3, 1, []), (74, .getfield 46, 3, [5, 2, 9]), (77, .iload_n 1, 1, []), (78, .iaload, 1, []), (79, .iastore, 1, []), (80, .aload_n 0, 1, []), (81, .getfield 9, 3, [2, 2, 142]), (84, .bipush 6, 2, []), (86, .iload_n 2, 1, []), (87, .iconst (-1), 1, []), (88, .if_icmp .ne 7, 3, [60]), (91, .iconst (-1), 1, []), (92, .goto 16, 3, [69]), (95, .aload_n 3, 1, []), (96, .getfield 29, 3, [5, 3, 13]), (99, .iload_n 2, 1, []), (100, .iaload, 1, []), (101, .aload_n 3, 1, []), (102, .getfield 29, 3, [5, 3, 13]), (105, .iload_n 1, 1, []), (106, .iaload, 1, []), (107, .isub, 1, []), (108, .iastore, 1, []), (109, .aload_n 0, 1, []), (110, .getfield 9, 3, [2, 2, 142]), (113, .bipush 7, 2, []), (115, .iload_n 2, 1, []), (116, .iconst (-1), 1, []), (117, .if_icmp .ne 7, 3, [78]), (120, .iconst (-1), 1, []), (121, .goto 9, 3, [82]), (124, .aload_n 3, 1, []), (125, .getfield 43, 3, [5, 7, 26]), (128, .iload_n 2, 1, []), (129, .iaload, 1, []), (130, .iastore, 1, []), (131, .aload_n 0, 1, []), (132, .getfield 9, 3, [2, 2, 142]), (135, .bipush 8, 2, []), (137, .aload_n 0, 1, []), (138, .getfield 15, 3, [2, 0, 140]), (141, .getfield 49, 3, [1, 1, 53]), (144, .iconst 0, 1, []), (145, .iaload, 1, []), (146, .iastore, 1, []), (147, .aload_n 0, 1, []), (148, .getfield 9, 3, [2, 2, 142]), (151, .bipush 9, 2, []), (153, .aload_n 0, 1, []), (154, .getfield 15, 3, [2, 0, 140]), (157, .getfield 49, 3, [1, 1, 53]), (160, .iconst 3, 1, []), (161, .iaload, 1, []), (162, .iastore, 1, []), (163, .return_, 1, [])])
set_option maxRecDepth 20000 in
theorem ckX2_setWords_0 : ckR mX2_setWords 0 40 = true := by decide +kernel
set_option maxRecDepth 20000 in
theorem ckX2_setWords_1 : ckR mX2_setWords 40 40 = true := by decide +kernel
set_option maxRecDepth 20000 in
theorem ckX2_setWords_2 : ckR mX2_setWords 80 40 = true := by decide +kernel
set_option maxRecDepth 20000 in
theorem okX2_setWords : okC mX2_setWords := ⟨by decide +kernel, memT3 95 rfl rfl, okM.of (n := 3) (Or.inr rfl) (by decide) (fun j hj => by match j, hj with | 0, _ => exact ckX2_setWords_0 | 1, _ => exact ckX2_setWords_1 | 2, _ => exact ckX2_setWords_2 | _ + 3, hj => exact absurd hj (by omega))⟩
set_option maxRecDepth 20000 in
def mX2_anyHolds : Mt := (yX2_anyHolds, cX2_anyHolds, 6, (some .boolean), [2, 137, 1, 0, 704, 3], [(0, .aload_n 0, 1, []), (1, .getfield 15, 3, [2, 0, 140]), (4, .invokevirtual 52, 3, []), (7, .astore_n 2, 1, []), (8, .aload_n 2, 1, []), (9, .ifnonnull 5, 3, [8]), (12, .iconst 0, 1, []), (13, .ireturn, 1, []), (14, .aload_n 2, 1, []), (15, .getfield 56, 3, [8, 0, 97]), (18, .iconst 1, 1, []), (19, .isub, 1, []), (20, .istore_n 3, 1, []), (21, .iload_n 3, 1, []), (22, .ifCond .lt 103, 3, [68]), (25, .iload_n 3, 1, []), (26, .iconst 4, 1, []), (27, .imul, 1, []), (28, .istore 4, 2, []), (30, .aload_n 2, 1, []), (31, .getfield 62, 3, [8, 2, 101]), (34, .iload_n 3, 1, []), (35, .iaload, 1, []), (36, .iload_n 1, 1, []), (37, .if_icmp .ne 72, 3, [60]), (40, .aload_n 2, 1, []), (41, .iload_n 3, 1, []), (42, .iconst 3, 1, []), (43, .invokevirtual 65, 3, []), (46, .ifCond .ne 33, 3, [45]), (49, .aload_n 0, 1, []), (50, .getfield 19, 3, [2, 1, 141]), (53, .aload_n 2, 1, []), (54, .iload 4, 2, []), (56, .iconst 3, 1, []), (57, .iadd, 1, []), (58, .aload_n 0, 1, []), (59, .getfield 9, 3, [2, 2, 142]), (62, .invokevirtual 69, 3, []), (65, .ifCond .eq 44, 3, [60]), (68, .aload_n 0, 1, []), (69, .getfield 19, 3, [2, 1, 141]), (72, .getfield 75, 3, [7, 1, 139]), (75, .iconst 1, 1, []), (76, .if_icmp .ne 33, 3, [60]), (79, .aload_n 2, 1, []), (80, .iload_n 3, 1, []), (81, .iconst 0, 1, []), (82, .invokevirtual 65, 3, []), (85, .ifCond .ne 20, 3, [58]), (88, .aload_n 0, 1, []), (89, .getfield 19, 3, [2, 1, 141]), (92, .aload_n 2, 1, []), (93, .iload 4, 2, []), (95, .aload_n 0, 1, []), (96, .getfield 9, 3, [2, 2, 142]), (99, .invokevirtual 69, 3, []), (102, .ifCond .eq 7, 3, [60]), (105, .iconst 1, 1, []), (106, .goto 4, 3, [61]), (109, .iconst 0, 1, []), (110, .istore 5, 2, []), (112, .iload 5, 2, []), (114, .ifCond .eq 5, 3, [66]), (117, .iconst 1, 1, []), (118, .ireturn, 1, []), (119, .iinc 3 (-1), 3, []), (122, .goto (-101), 3, [13]), (125, .iconst 0, 1, []), (126, .ireturn, 1, [])])
set_option maxRecDepth 20000 in
theorem ckX2_anyHolds_0 : ckR mX2_anyHolds 0 40 = true := by decide +kernel
set_option maxRecDepth 20000 in
theorem ckX2_anyHolds_1 : ckR mX2_anyHolds 40 40 = true := by decide +kernel
set_option maxRecDepth 20000 in
theorem okX2_anyHolds : okC mX2_anyHolds := ⟨by decide +kernel, memT3 99 rfl rfl, okM.of (n := 2) (Or.inr rfl) (by decide) (fun j hj => by match j, hj with | 0, _ => exact ckX2_anyHolds_0 | 1, _ => exact ckX2_anyHolds_1 | _ + 2, hj => exact absurd hj (by omega))⟩
set_option maxRecDepth 20000 in
def mX2_price : Mt := (yX2_price, cX2_price, 3, (some .int), [2, 137, 2, 0, 1068, 1069], [(0, .aload_n 0, 1, []), (1, .iload_n 1, 1, []), (2, .iload_n 2, 1, []), (3, .invokevirtual 78, 3, []), (6, .aload_n 0, 1, []), (7, .iconst 0, 1, []), (8, .invokevirtual 82, 3, []), (11, .ifCond .eq 20, 3, [15]), (14, .aload_n 0, 1, []), (15, .getfield 19, 3, [2, 1, 141]), (18, .getfield 75, 3, [7, 1, 139]), (21, .iconst 0, 1, []), (22, .sipush 9999, 3, []), (25, .invokestatic 86, 3, []), (28, .goto 8, 3, [18]), (31, .aload_n 0, 1, []), (32, .iload_n 1, 1, []), (33, .invokevirtual 90, 3, []), (36, .ireturn, 1, [])])
set_option maxRecDepth 20000 in
theorem ckX2_price_0 : ckR mX2_price 0 40 = true := by decide +kernel
set_option maxRecDepth 20000 in
theorem okX2_price : okC mX2_price := ⟨by decide +kernel, memT4 224 rfl rfl, okM.of (n := 1) (Or.inr rfl) (by decide) (fun j hj => by match j, hj with | 0, _ => exact ckX2_price_0 | _ + 1, hj => exact absurd hj (by omega))⟩
set_option maxRecDepth 20000 in
def mX2_priceWithoutLaw : Mt := (yX2_priceWithoutLaw, cX2_priceWithoutLaw, 2, (some .int), [2, 137, 1, 0, 1073, 31], [(0, .aload_n 0, 1, []), (1, .getfield 15, 3, [2, 0, 140]), (4, .getfield 23, 3, [1, 0, 48]), (7, .getfield 37, 3, [5, 5, 20]), (10, .iload_n 1, 1, []), (11, .iaload, 1, []), (12, .iconst 1, 1, []), (13, .if_icmp .ne 9, 3, [10]), (16, .sipush 200, 3, []), (19, .goto 5, 3, [11]), (22, .bipush 100, 2, []), (24, .ireturn, 1, [])])
set_option maxRecDepth 20000 in
theorem ckX2_priceWithoutLaw_0 : ckR mX2_priceWithoutLaw 0 40 = true := by decide +kernel
set_option maxRecDepth 20000 in
theorem okX2_priceWithoutLaw : okC mX2_priceWithoutLaw := ⟨by decide +kernel, memT4 228 rfl rfl, okM.of (n := 1) (Or.inr rfl) (by decide) (fun j hj => by match j, hj with | 0, _ => exact ckX2_priceWithoutLaw_0 | _ + 1, hj => exact absurd hj (by omega))⟩
set_option maxRecDepth 20000 in
def mX2_isBarred : Mt := (yX2_isBarred, cX2_isBarred, 3, (some .boolean), [2, 137, 2, 0, 1064, 1065], [(0, .aload_n 0, 1, []), (1, .iload_n 1, 1, []), (2, .iload_n 2, 1, []), (3, .invokevirtual 78, 3, []), (6, .aload_n 0, 1, []), (7, .iconst 2, 1, []), (8, .invokevirtual 82, 3, []), (11, .ireturn, 1, [])])
set_option maxRecDepth 20000 in
theorem ckX2_isBarred_0 : ckR mX2_isBarred 0 40 = true := by decide +kernel
set_option maxRecDepth 20000 in
theorem okX2_isBarred : okC mX2_isBarred := ⟨by decide +kernel, memT4 220 rfl rfl, okM.of (n := 1) (Or.inr rfl) (by decide) (fun j hj => by match j, hj with | 0, _ => exact ckX2_isBarred_0 | _ + 1, hj => exact absurd hj (by omega))⟩
set_option maxRecDepth 20000 in
def mX2_rank : Mt := (yX2_rank, cX2_rank, 2, (some .int), [2, 137, 1, 0, 695, 696], [(0, .aload_n 0, 1, []), (1, .iload_n 1, 1, []), (2, .iconst (-1), 1, []), (3, .invokevirtual 78, 3, []), (6, .aload_n 0, 1, []), (7, .iconst 1, 1, []), (8, .invokevirtual 82, 3, []), (11, .ifCond .eq 19, 3, [15]), (14, .aload_n 0, 1, []), (15, .getfield 19, 3, [2, 1, 141]), (18, .getfield 75, 3, [7, 1, 139]), (21, .iconst 0, 1, []), (22, .bipush 99, 2, []), (24, .invokestatic 86, 3, []), (27, .goto 15, 3, [21]), (30, .aload_n 0, 1, []), (31, .getfield 15, 3, [2, 0, 140]), (34, .getfield 23, 3, [1, 0, 48]), (37, .getfield 37, 3, [5, 5, 20]), (40, .iload_n 1, 1, []), (41, .iaload, 1, []), (42, .ireturn, 1, [])])
set_option maxRecDepth 20000 in
theorem ckX2_rank_0 : ckR mX2_rank 0 40 = true := by decide +kernel
set_option maxRecDepth 20000 in
theorem okX2_rank : okC mX2_rank := ⟨by decide +kernel, memT3 91 rfl rfl, okM.of (n := 1) (Or.inr rfl) (by decide) (fun j hj => by match j, hj with | 0, _ => exact ckX2_rank_0 | _ + 1, hj => exact absurd hj (by omega))⟩
set_option maxRecDepth 20000 in
def mX2_ranked : Mt := (yX2_ranked, cX2_ranked, 3, (some .int), [2, 137, 0, 0, 1138, 1139], [(0, .iconst 0, 1, []), (1, .istore_n 1, 1, []), (2, .iconst 0, 1, []), (3, .istore_n 2, 1, []), (4, .iload_n 2, 1, []), (5, .aload_n 0, 1, []), (6, .getfield 15, 3, [2, 0, 140]), (9, .getfield 23, 3, [1, 0, 48]), (12, .getfield 94, 3, [5, 0, 4]), (15, .if_icmp .ge 23, 3, [22]), (18, .aload_n 0, 1, []), (19, .iload_n 2, 1, []), (20, .invokevirtual 97, 3, []), (23, .ifCond .le 9, 3, [20]), (26, .iload_n 1, 1, []), (27, .iconst 1, 1, []), (28, .iload_n 2, 1, []), (29, .ishl, 1, []), (30, .ior, 1, []), (31, .istore_n 1, 1, []), (32, .iinc 2 1, 3, []), (35, .goto (-31), 3, [4]), (38, .iload_n 1, 1, []), (39, .ireturn, 1, [])])
set_option maxRecDepth 20000 in
theorem ckX2_ranked_0 : ckR mX2_ranked 0 40 = true := by decide +kernel
set_option maxRecDepth 20000 in
theorem okX2_ranked : okC mX2_ranked := ⟨by decide +kernel, memT5 54 rfl rfl, okM.of (n := 1) (Or.inr rfl) (by decide) (fun j hj => by match j, hj with | 0, _ => exact ckX2_ranked_0 | _ + 1, hj => exact absurd hj (by omega))⟩
set_option maxRecDepth 20000 in
def mX2_offer : Mt := (yX2_offer, cX2_offer, 6, (some .int), [2, 137, 4, 0, 1049, 1050], [(0, .aload_n 1, 1, []), (1, .iload_n 3, 1, []), (2, .iload 4, 2, []), (4, .invokevirtual 100, 3, []), (7, .ifCond .eq 30, 3, [20]), (10, .aload_n 1, 1, []), (11, .iload_n 2, 1, []), (12, .iload_n 3, 1, []), (13, .aload_n 0, 1, []), (14, .getfield 15, 3, [2, 0, 140]), (17, .getfield 49, 3, [1, 1, 53]), (20, .iconst 2, 1, []), (21, .iaload, 1, []), (22, .invokevirtual 103, 3, []), (25, .ifCond .eq 12, 3, [20]), (28, .aload_n 0, 1, []), (29, .iload_n 2, 1, []), (30, .iload_n 3, 1, []), (31, .invokevirtual 107, 3, []), (34, .ifCond .eq 5, 3, [22]), (37, .iconst (-1), 1, []), (38, .ireturn, 1, []), (39, .aload_n 0, 1, []), (40, .iload_n 2, 1, []), (41, .iload_n 3, 1, []), (42, .invokevirtual 110, 3, []), (45, .istore 5, 2, []), (47, .iload 5, 2, []), (49, .aload_n 1, 1, []), (50, .getfield 114, 3, [5, 8, 34]), (53, .iload 4, 2, []), (55, .iaload, 1, []), (56, .if_icmp .gt 8, 3, [35]), (59, .iload 5, 2, []), (61, .goto 4, 3, [36]), (64, .iconst (-1), 1, []), (65, .ireturn, 1, [])])
set_option maxRecDepth 20000 in
theorem ckX2_offer_0 : ckR mX2_offer 0 40 = true := by decide +kernel
set_option maxRecDepth 20000 in
theorem okX2_offer : okC mX2_offer := ⟨by decide +kernel, memT4 205 rfl rfl, okM.of (n := 1) (Or.inr rfl) (by decide) (fun j hj => by match j, hj with | 0, _ => exact ckX2_offer_0 | _ + 1, hj => exact absurd hj (by omega))⟩
set_option maxRecDepth 20000 in
def mX3_init : Mt := (yX3_init, cX3_init, 1, none, [3, 134, 0, 2, 427], [(0, .aload_n 0, 1, []), (1, .invokespecial 3, 3, []), (4, .aload_n 0, 1, []), (5, .bipush 16, 2, []), (7, .newarray .int, 2, []), (9, .putfield 9, 3, [3, 0, 125]), (12, .aload_n 0, 1, []), (13, .bipush 16, 2, []), (15, .newarray .int, 2, []), (17, .putfield 15, 3, [3, 1, 126]), (20, .aload_n 0, 1, []), (21, .bipush 16, 2, []), (23, .newarray .int, 2, []), (25, .putfield 18, 3, [3, 2, 127]), (28, .return_, 1, [])])
set_option maxRecDepth 20000 in
theorem ckX3_init_0 : ckR mX3_init 0 40 = true := by decide +kernel
set_option maxRecDepth 20000 in
theorem okX3_init : okC mX3_init := ⟨by decide +kernel, memT2 62 rfl rfl, okM.of (n := 1) (Or.inr rfl) (by decide) (fun j hj => by match j, hj with | 0, _ => exact ckX3_init_0 | _ + 1, hj => exact absurd hj (by omega))⟩
set_option maxRecDepth 20000 in
def mX3_climb : Mt := (yX3_climb, cX3_climb, 9, none, [3, 134, 3, 0, 1037, 29], [(0, .aload_n 3, 1, []), (1, .iconst (-1), 1, []), (2, .invokestatic 21, 3, []), (5, .aload_n 3, 1, []), (6, .iload_n 2, 1, []), (7, .iconst 0, 1, []), (8, .iastore, 1, []), (9, .aload_n 0, 1, []), (10, .getfield 18, 3, [3, 2, 127]), (13, .iconst 0, 1, []), (14, .iload_n 2, 1, []), (15, .iastore, 1, []), (16, .iconst 1, 1, []), (17, .istore 4, 2, []), (19, .iconst 0, 1, []), (20, .istore 5, 2, []), (22, .iload 5, 2, []), (24, .iload 4, 2, []), (26, .if_icmp .ge 107, 3, [73]), (29, .iload 5, 2, []), (31, .bipush 16, 2, []), (33, .if_icmp .ge 100, 3, [73]), (36, .aload_n 0, 1, []), (37, .getfield 18, 3, [3, 2, 127]), (40, .iload 5, 2, []), (42, .iaload, 1, []), (43, .istore 6, 2, []), (45, .iconst 0, 1, []), (46, .istore 7, 2, []), (48, .iload 7, 2, []), (50, .iconst 2, 1, []), (51, .if_icmp .ge 76, 3, [71]), (54, .iload 7, 2, []), (56, .ifCond .ne 13, 3, [39]), (59, .aload_n 1, 1, []), (60, .getfield 27, 3, [5, 9, 36]), (63, .iload 6, 2, []), (65, .iaload, 1, []), (66, .goto 10, 3, [43]), (69, .aload_n 1, 1, []), (70, .getfield 32, 3, [5, 10, 39]), (73, .iload 6, 2, []), (75, .iaload, 1, []), (76, .istore 8, 2, []), (78, .iload 8, 2, []), (80, .iconst (-1), 1, []), (81, .if_icmp .eq 40, 3, [69]), (84, .aload_n 3, 1, []), (85, .iload 8, 2, []), (87, .iaload, 1, []), (88, .iconst (-1), 1, []), (89, .if_icmp .ne 32, 3, [69]), (92, .iload 4, 2, []), (94, .bipush 16, 2, []), (96, .if_icmp .ge 25, 3, [69]), (99, .aload_n 3, 1, []), (100, .iload 8, 2, []), (102, .aload_n 3, 1, []), (103, .iload 6, 2, []), (105, .iaload, 1, []), (106, .iconst 1, 1, []), (107, .iadd, 1, []), (108, .iastore, 1, []), (109, .aload_n 0, 1, []), (110, .getfield 18, 3, [3, 2, 127]), (113, .iload 4, 2, []), (115, .iload 8, 2, []), (117, .iastore, 1, []), (118, .iinc 4 1, 3, []), (121, .iinc 7 1, 3, []), (124, .goto (-76), 3, [29]), (127, .iinc 5 1, 3, []), (130, .goto (-108), 3, [16]), (133, .return_, 1, [])])
set_option maxRecDepth 20000 in
theorem ckX3_climb_0 : ckR mX3_climb 0 40 = true := by decide +kernel
set_option maxRecDepth 20000 in
theorem ckX3_climb_1 : ckR mX3_climb 40 40 = true := by decide +kernel
set_option maxRecDepth 20000 in
theorem okX3_climb : okC mX3_climb := ⟨by decide +kernel, memT4 192 rfl rfl, okM.of (n := 2) (Or.inr rfl) (by decide) (fun j hj => by match j, hj with | 0, _ => exact ckX3_climb_0 | 1, _ => exact ckX3_climb_1 | _ + 2, hj => exact absurd hj (by omega))⟩
set_option maxRecDepth 20000 in
def mX3_apart : Mt := (yX3_apart, cX3_apart, 8, (some .int), [3, 134, 3, 0, 1031, 1032], [(0, .aload_n 0, 1, []), (1, .iconst (-1), 1, []), (2, .putfield 35, 3, [3, 3, 128]), (5, .aload_n 1, 1, []), (6, .iload_n 2, 1, []), (7, .invokevirtual 39, 3, []), (10, .aload_n 1, 1, []), (11, .iload_n 3, 1, []), (12, .invokevirtual 39, 3, []), (15, .iand, 1, []), (16, .ifCond .ne 5, 3, [13]), (19, .iconst (-1), 1, []), (20, .ireturn, 1, []), (21, .aload_n 0, 1, []), (22, .aload_n 1, 1, []), (23, .iload_n 2, 1, []), (24, .aload_n 0, 1, []), (25, .getfield 9, 3, [3, 0, 125]), (28, .invokevirtual 43, 3, []), (31, .aload_n 0, 1, []), (32, .aload_n 1, 1, []), (33, .iload_n 3, 1, []), (34, .aload_n 0, 1, []), (35, .getfield 15, 3, [3, 1, 126]), (38, .invokevirtual 43, 3, []), (41, .iconst (-1), 1, []), (42, .istore 4, 2, []), (44, .iconst 0, 1, []), (45, .istore 5, 2, []), (47, .iload 5, 2, []), (49, .aload_n 1, 1, []), (50, .getfield 47, 3, [5, 0, 2]), (53, .if_icmp .ge 83, 3, [74]), (56, .aload_n 0, 1, []), (57, .getfield 9, 3, [3, 0, 125]), (60, .iload 5, 2, []), (62, .iaload, 1, []), (63, .aload_n 0, 1, []), (64, .getfield 15, 3, [3, 1, 126]), (67, .iload 5, 2, []), (69, .iaload, 1, []), (70, .iadd, 1, []), (71, .istore 6, 2, []), (73, .aload_n 0, 1, []), (74, .getfield 9, 3, [3, 0, 125]), (77, .iload 5, 2, []), (79, .iaload, 1, []), (80, .iconst (-1), 1, []), (81, .if_icmp .eq 18, 3, [57]), (84, .aload_n 0, 1, []), (85, .getfield 15, 3, [3, 1, 126]), (88, .iload 5, 2, []), (90, .iaload, 1, []), (91, .iconst (-1), 1, []), (92, .if_icmp .eq 7, 3, [57]), (95, .iconst 1, 1, []), (96, .goto 4, 3, [58]), (99, .iconst 0, 1, []), (100, .istore 7, 2, []), (102, .iload 7, 2, []), (104, .ifCond .eq 26, 3, [72]), (107, .iload 4, 2, []), (109, .iconst (-1), 1, []), (110, .if_icmp .eq 10, 3, [67]), (113, .iload 6, 2, []), (115, .iload 4, 2, []), (117, .if_icmp .ge 13, 3, [72]), (120, .iload 6, 2, []), (122, .istore 4, 2, []), (124, .aload_n 0, 1, []), (125, .iload 5, 2, []), (127, .putfield 35, 3, [3, 3, 128]), (130, .iinc 5 1, 3, []), (133, .goto (-86), 3, [29]), (136, .iload 4, 2, []), (138, .ireturn, 1, [])])
set_option maxRecDepth 20000 in
theorem ckX3_apart_0 : ckR mX3_apart 0 40 = true := by decide +kernel
set_option maxRecDepth 20000 in
theorem ckX3_apart_1 : ckR mX3_apart 40 40 = true := by decide +kernel
set_option maxRecDepth 20000 in
theorem okX3_apart : okC mX3_apart := ⟨by decide +kernel, memT4 187 rfl rfl, okM.of (n := 2) (Or.inr rfl) (by decide) (fun j hj => by match j, hj with | 0, _ => exact ckX3_apart_0 | 1, _ => exact ckX3_apart_1 | _ + 2, hj => exact absurd hj (by omega))⟩
set_option maxRecDepth 20000 in
def mX3_nearestCommon : Mt := (yX3_nearestCommon, cX3_nearestCommon, 4, (some .int), [3, 134, 3, 0, 1113, 1114], [(0, .aload_n 0, 1, []), (1, .aload_n 1, 1, []), (2, .iload_n 2, 1, []), (3, .iload_n 3, 1, []), (4, .invokevirtual 50, 3, []), (7, .pop, 1, []), (8, .aload_n 0, 1, []), (9, .getfield 35, 3, [3, 3, 128]), (12, .ireturn, 1, [])])
set_option maxRecDepth 20000 in
theorem ckX3_nearestCommon_0 : ckR mX3_nearestCommon 0 40 = true := by decide +kernel
set_option maxRecDepth 20000 in
theorem okX3_nearestCommon : okC mX3_nearestCommon := ⟨by decide +kernel, memT5 29 rfl rfl, okM.of (n := 1) (Or.inr rfl) (by decide) (fun j hj => by match j, hj with | 0, _ => exact ckX3_nearestCommon_0 | _ + 1, hj => exact absurd hj (by omega))⟩
set_option maxRecDepth 20000 in
def mX3_stepsUp : Mt := (yX3_stepsUp, cX3_stepsUp, 4, (some .int), [3, 134, 3, 0, 1118, 1119], [(0, .aload_n 0, 1, []), (1, .aload_n 1, 1, []), (2, .iload_n 2, 1, []), (3, .aload_n 0, 1, []), (4, .getfield 9, 3, [3, 0, 125]), (7, .invokevirtual 43, 3, []), (10, .aload_n 0, 1, []), (11, .getfield 9, 3, [3, 0, 125]), (14, .iload_n 3, 1, []), (15, .iaload, 1, []), (16, .ireturn, 1, [])])
set_option maxRecDepth 20000 in
theorem ckX3_stepsUp_0 : ckR mX3_stepsUp 0 40 = true := by decide +kernel
set_option maxRecDepth 20000 in
theorem okX3_stepsUp : okC mX3_stepsUp := ⟨by decide +kernel, memT5 34 rfl rfl, okM.of (n := 1) (Or.inr rfl) (by decide) (fun j hj => by match j, hj with | 0, _ => exact ckX3_stepsUp_0 | _ + 1, hj => exact absurd hj (by omega))⟩
set_option maxRecDepth 20000 in
def mX3_mayMarry : Mt := (yX3_mayMarry, cX3_mayMarry, 6, (some .boolean), [3, 134, 4, 0, 1167, 1168], [(0, .aload_n 1, 1, []), (1, .getfield 54, 3, [5, 2, 11]), (4, .iload_n 2, 1, []), (5, .iaload, 1, []), (6, .aload_n 1, 1, []), (7, .getfield 54, 3, [5, 2, 11]), (10, .iload_n 3, 1, []), (11, .iaload, 1, []), (12, .if_icmp .eq 27, 3, [23]), (15, .aload_n 1, 1, []), (16, .iload_n 2, 1, []), (17, .aload 4, 2, []), (19, .iconst 0, 1, []), (20, .iaload, 1, []), (21, .invokevirtual 57, 3, []), (24, .ifCond .eq 15, 3, [23]), (27, .aload_n 1, 1, []), (28, .iload_n 3, 1, []), (29, .aload 4, 2, []), (31, .iconst 0, 1, []), (32, .iaload, 1, []), (33, .invokevirtual 57, 3, []), (36, .ifCond .ne 5, 3, [25]), (39, .iconst 0, 1, []), (40, .ireturn, 1, []), (41, .aload_n 0, 1, []), (42, .aload_n 1, 1, []), (43, .iload_n 2, 1, []), (44, .iload_n 3, 1, []), (45, .invokevirtual 50, 3, []), (48, .istore 5, 2, []), (50, .iload 5, 2, []), (52, .iconst (-1), 1, []), (53, .if_icmp .eq 12, 3, [39]), (56, .iload 5, 2, []), (58, .aload 4, 2, []), (60, .iconst 1, 1, []), (61, .iaload, 1, []), (62, .if_icmp .le 7, 3, [41]), (65, .iconst 1, 1, []), (66, .goto 4, 3, [42]), (69, .iconst 0, 1, []), (70, .ireturn, 1, [])])
set_option maxRecDepth 20000 in
theorem ckX3_mayMarry_0 : ckR mX3_mayMarry 0 40 = true := by decide +kernel
set_option maxRecDepth 20000 in
theorem ckX3_mayMarry_1 : ckR mX3_mayMarry 40 40 = true := by decide +kernel
set_option maxRecDepth 20000 in
theorem okX3_mayMarry : okC mX3_mayMarry := ⟨by decide +kernel, memT5 83 rfl rfl, okM.of (n := 2) (Or.inr rfl) (by decide) (fun j hj => by match j, hj with | 0, _ => exact ckX3_mayMarry_0 | 1, _ => exact ckX3_mayMarry_1 | _ + 2, hj => exact absurd hj (by omega))⟩
set_option maxRecDepth 20000 in
def mX3_heir : Mt := (yX3_heir, cX3_heir, 9, (some .int), [3, 134, 3, 0, 1155, 1156], [(0, .iconst (-1), 1, []), (1, .istore 4, 2, []), (3, .iconst (-1), 1, []), (4, .istore 5, 2, []), (6, .iconst 0, 1, []), (7, .istore 6, 2, []), (9, .iload 6, 2, []), (11, .aload_n 1, 1, []), (12, .getfield 47, 3, [5, 0, 2]), (15, .if_icmp .ge 102, 3, [59]), (18, .iload 6, 2, []), (20, .iload_n 2, 1, []), (21, .if_icmp .eq 13, 3, [18]), (24, .aload_n 1, 1, []), (25, .iload 6, 2, []), (27, .iload_n 3, 1, []), (28, .invokevirtual 57, 3, []), (31, .ifCond .ne 7, 3, [20]), (34, .iconst (-1), 1, []), (35, .goto 11, 3, [25]), (38, .aload_n 0, 1, []), (39, .aload_n 1, 1, []), (40, .iload_n 2, 1, []), (41, .iload 6, 2, []), (43, .invokevirtual 50, 3, []), (46, .istore 7, 2, []), (48, .iload 7, 2, []), (50, .iconst (-1), 1, []), (51, .if_icmp .eq 44, 3, [49]), (54, .iload 4, 2, []), (56, .iconst (-1), 1, []), (57, .if_icmp .eq 34, 3, [47]), (60, .iload 7, 2, []), (62, .iload 5, 2, []), (64, .if_icmp .lt 27, 3, [47]), (67, .iload 7, 2, []), (69, .iload 5, 2, []), (71, .if_icmp .ne 24, 3, [49]), (74, .aload_n 1, 1, []), (75, .getfield 61, 3, [5, 3, 15]), (78, .iload 6, 2, []), (80, .iaload, 1, []), (81, .aload_n 1, 1, []), (82, .getfield 61, 3, [5, 3, 15]), (85, .iload 4, 2, []), (87, .iaload, 1, []), (88, .if_icmp .ge 7, 3, [49]), (91, .iconst 1, 1, []), (92, .goto 4, 3, [50]), (95, .iconst 0, 1, []), (96, .istore 8, 2, []), (98, .iload 8, 2, []), (100, .ifCond .eq 11, 3, [57]), (103, .iload 6, 2, []), (105, .istore 4, 2, []), (107, .iload 7, 2, []), (109, .istore 5, 2, []), (111, .iinc 6 1, 3, []), (114, .goto (-105), 3, [6]), (117, .iload 4, 2, []), (119, .ireturn, 1, [])])
set_option maxRecDepth 20000 in
theorem ckX3_heir_0 : ckR mX3_heir 0 40 = true := by decide +kernel
set_option maxRecDepth 20000 in
theorem ckX3_heir_1 : ckR mX3_heir 40 40 = true := by decide +kernel
set_option maxRecDepth 20000 in
theorem okX3_heir : okC mX3_heir := ⟨by decide +kernel, memT5 71 rfl rfl, okM.of (n := 2) (Or.inr rfl) (by decide) (fun j hj => by match j, hj with | 0, _ => exact ckX3_heir_0 | 1, _ => exact ckX3_heir_1 | _ + 2, hj => exact absurd hj (by omega))⟩
end
section
set_option maxRecDepth 20000 in
def mX4_init : Mt := (yX4_init, cX4_init, 1, none, [4, 135, 0, 2, 446], [(0, .aload_n 0, 1, []), (1, .invokespecial 3, 3, []), (4, .aload_n 0, 1, []), (5, .bipush 16, 2, []), (7, .newarray .int, 2, []), (9, .putfield 9, 3, [4, 0, 129]), (12, .aload_n 0, 1, []), (13, .bipush 16, 2, []), (15, .newarray .int, 2, []), (17, .putfield 15, 3, [4, 1, 130]), (20, .aload_n 0, 1, []), (21, .bipush 16, 2, []), (23, .newarray .int, 2, []), (25, .putfield 18, 3, [4, 2, 131]), (28, .aload_n 0, 1, []), (29, .bipush 16, 2, []), (31, .newarray .int, 2, []), (33, .putfield 21, 3, [4, 3, 132]), (36, .return_, 1, [])])
set_option maxRecDepth 20000 in
theorem ckX4_init_0 : ckR mX4_init 0 40 = true := by decide +kernel
set_option maxRecDepth 20000 in
theorem okX4_init : okC mX4_init := ⟨by decide +kernel, memT2 81 rfl rfl, okM.of (n := 1) (Or.inr rfl) (by decide) (fun j hj => by match j, hj with | 0, _ => exact ckX4_init_0 | _ + 1, hj => exact absurd hj (by omega))⟩
set_option maxRecDepth 20000 in
def mX4_clear : Mt := (yX4_clear, cX4_clear, 1, none, [4, 135, 0, 0, 671, 672], [(0, .aload_n 0, 1, []), (1, .iconst 0, 1, []), (2, .putfield 24, 3, [4, 4, 133]), (5, .return_, 1, [])])
set_option maxRecDepth 20000 in
theorem ckX4_clear_0 : ckR mX4_clear 0 40 = true := by decide +kernel
set_option maxRecDepth 20000 in
theorem okX4_clear : okC mX4_clear := ⟨by decide +kernel, memT3 67 rfl rfl, okM.of (n := 1) (Or.inr rfl) (by decide) (fun j hj => by match j, hj with | 0, _ => exact ckX4_clear_0 | _ + 1, hj => exact absurd hj (by omega))⟩
set_option maxRecDepth 20000 in
def mX4_write : Mt := (yX4_write, cX4_write, 5, none, [4, 135, 4, 0, 1085, 1086], [(0, .aload_n 0, 1, []), (1, .getfield 24, 3, [4, 4, 133]), (4, .bipush 16, 2, []), (6, .if_icmp .lt 4, 3, [5]), (9, .return_, 1, []), (10, .aload_n 0, 1, []), (11, .getfield 9, 3, [4, 0, 129]), (14, .aload_n 0, 1, []), (15, .getfield 24, 3, [4, 4, 133]), (18, .iload_n 1, 1, []), (19, .iastore, 1, []), (20, .aload_n 0, 1, []), (21, .getfield 15, 3, [4, 1, 130]), (24, .aload_n 0, 1, []), (25, .getfield 24, 3, [4, 4, 133]), (28, .iload_n 2, 1, []), (29, .iastore, 1, []), (30, .aload_n 0, 1, []), (31, .getfield 18, 3, [4, 2, 131]), (34, .aload_n 0, 1, []), (35, .getfield 24, 3, [4, 4, 133]), (38, .iload_n 3, 1, []), (39, .iastore, 1, []), (40, .aload_n 0, 1, []), (41, .getfield 21, 3, [4, 3, 132]), (44, .aload_n 0, 1, []), (45, .getfield 24, 3, [4, 4, 133]), (48, .iload 4, 2, []), (50, .iastore, 1, []), (51, .aload_n 0, 1, []), (52, .dup, 1, []), (53, .getfield 24, 3, [4, 4, 133]), (56, .iconst 1, 1, []), (57, .iadd, 1, []), (58, .putfield 24, 3, [4, 4, 133]), (61, .return_, 1, [])])
set_option maxRecDepth 20000 in
theorem ckX4_write_0 : ckR mX4_write 0 40 = true := by decide +kernel
set_option maxRecDepth 20000 in
theorem okX4_write : okC mX4_write := ⟨by decide +kernel, memT5 1 rfl rfl, okM.of (n := 1) (Or.inr rfl) (by decide) (fun j hj => by match j, hj with | 0, _ => exact ckX4_write_0 | _ + 1, hj => exact absurd hj (by omega))⟩
set_option maxRecDepth 20000 in
def mX4_undoLatest : Mt := (yX4_undoLatest, cX4_undoLatest, 3, (some .int), [4, 135, 1, 0, 1190, 1191], [(0, .aload_n 0, 1, []), (1, .getfield 24, 3, [4, 4, 133]), (4, .iconst 1, 1, []), (5, .if_icmp .lt 12, 3, [8]), (8, .aload_n 0, 1, []), (9, .getfield 24, 3, [4, 4, 133]), (12, .bipush 16, 2, []), (14, .if_icmp .le 5, 3, [10]), (17, .iconst (-1), 1, []), (18, .ireturn, 1, []), (19, .aload_n 0, 1, []), (20, .dup, 1, []), (21, .getfield 24, 3, [4, 4, 133]), (24, .iconst 1, 1, []), (25, .isub, 1, []), (26, .putfield 24, 3, [4, 4, 133]), (29, .aload_n 0, 1, []), (30, .getfield 9, 3, [4, 0, 129]), (33, .aload_n 0, 1, []), (34, .getfield 24, 3, [4, 4, 133]), (37, .iaload, 1, []), (38, .istore_n 2, 1, []), (39, .aload_n 1, 1, []), (40, .iload_n 2, 1, []), (41, .aload_n 0, 1, []), (42, .getfield 15, 3, [4, 1, 130]), (45, .aload_n 0, 1, []), (46, .getfield 24, 3, [4, 4, 133]), (49, .iaload, 1, []), (50, .invokevirtual 28, 3, []), (53, .aload_n 1, 1, []), (54, .invokevirtual 34, 3, []), (57, .aload_n 1, 1, []), (58, .getfield 37, 3, [5, 8, 31]), (61, .aload_n 0, 1, []), (62, .getfield 18, 3, [4, 2, 131]), (65, .aload_n 0, 1, []), (66, .getfield 24, 3, [4, 4, 133]), (69, .iaload, 1, []), (70, .dup2, 1, []), (71, .iaload, 1, []), (72, .aload_n 0, 1, []), (73, .getfield 21, 3, [4, 3, 132]), (76, .aload_n 0, 1, []), (77, .getfield 24, 3, [4, 4, 133]), (80, .iaload, 1, []), (81, .iadd, 1, []), (82, .iastore, 1, []), (83, .aload_n 1, 1, []), (84, .getfield 40, 3, [5, 12, 45]), (87, .aload_n 1, 1, []), (88, .getfield 43, 3, [5, 7, 27]), (91, .iload_n 2, 1, []), (92, .iaload, 1, []), (93, .dup2, 1, []), (94, .iaload, 1, []), (95, .aload_n 0, 1, []), (96, .getfield 21, 3, [4, 3, 132]), (99, .aload_n 0, 1, []), (100, .getfield 24, 3, [4, 4, 133]), (103, .iaload, 1, []), (104, .isub, 1, []), (105, .iastore, 1, []), (106, .iload_n 2, 1, []), (107, .ireturn, 1, [])])
set_option maxRecDepth 20000 in
theorem ckX4_undoLatest_0 : ckR mX4_undoLatest 0 40 = true := by decide +kernel
set_option maxRecDepth 20000 in
theorem ckX4_undoLatest_1 : ckR mX4_undoLatest 40 40 = true := by decide +kernel
set_option maxRecDepth 20000 in
theorem okX4_undoLatest : okC mX4_undoLatest := ⟨by decide +kernel, memT5 106 rfl rfl, okM.of (n := 2) (Or.inr rfl) (by decide) (fun j hj => by match j, hj with | 0, _ => exact ckX4_undoLatest_0 | 1, _ => exact ckX4_undoLatest_1 | _ + 2, hj => exact absurd hj (by omega))⟩
set_option maxRecDepth 20000 in
def mX5_init : Mt := (yX5_init, cX5_init, 1, none, [5, 129, 0, 2, 165], [(0, .aload_n 0, 1, []), (1, .invokespecial 3, 3, []), (4, .aload_n 0, 1, []), (5, .bipush 16, 2, []), (7, .newarray .int, 2, []), (9, .putfield 9, 3, [5, 2, 8]), (12, .aload_n 0, 1, []), (13, .bipush 16, 2, []), (15, .newarray .int, 2, []), (17, .putfield 15, 3, [5, 3, 12]), (20, .aload_n 0, 1, []), (21, .bipush 16, 2, []), (23, .newarray .int, 2, []), (25, .putfield 18, 3, [5, 4, 16]), (28, .aload_n 0, 1, []), (29, .bipush 16, 2, []), (31, .newarray .int, 2, []), (33, .putfield 21, 3, [5, 5, 19]), (36, .aload_n 0, 1, []), (37, .bipush 16, 2, []), (39, .newarray .int, 2, []), (41, .putfield 24, 3, [5, 6, 22]), (44, .aload_n 0, 1, []), (45, .bipush 16, 2, []), (47, .newarray .int, 2, []), (49, .putfield 27, 3, [5, 7, 25]), (52, .aload_n 0, 1, []), (53, .bipush 16, 2, []), (55, .newarray .int, 2, []), (57, .putfield 30, 3, [5, 8, 29]), (60, .aload_n 0, 1, []), (61, .bipush 16, 2, []), (63, .newarray .int, 2, []), (65, .putfield 33, 3, [5, 9, 35]), (68, .aload_n 0, 1, []), (69, .bipush 16, 2, []), (71, .newarray .int, 2, []), (73, .putfield 36, 3, [5, 10, 38]), (76, .aload_n 0, 1, []), (77, .bipush 16, 2, []), (79, .newarray .int, 2, []), (81, .putfield 39, 3, [5, 11, 41]), (84, .aload_n 0, 1, []), (85, .bipush 6, 2, []), (87, .newarray .int, 2, []), (89, .putfield 42, 3, [5, 12, 44]), (92, .return_, 1, [])])
set_option maxRecDepth 20000 in
theorem ckX5_init_0 : ckR mX5_init 0 40 = true := by decide +kernel
set_option maxRecDepth 20000 in
theorem ckX5_init_1 : ckR mX5_init 40 40 = true := by decide +kernel
set_option maxRecDepth 20000 in
theorem okX5_init : okC mX5_init := ⟨by decide +kernel, memT1 40 rfl rfl, okM.of (n := 2) (Or.inr rfl) (by decide) (fun j hj => by match j, hj with | 0, _ => exact ckX5_init_0 | 1, _ => exact ckX5_init_1 | _ + 2, hj => exact absurd hj (by omega))⟩
set_option maxRecDepth 20000 in
def mX5_canBe : Mt := (yX5_canBe, cX5_canBe, 4, (some .boolean), [5, 129, 4, 1, 660], [(0, .iload_n 0, 1, []), (1, .ifCond .lt 43, 3, [22]), (4, .iload_n 0, 1, []), (5, .iconst 1, 1, []), (6, .if_icmp .gt 38, 3, [22]), (9, .iload_n 1, 1, []), (10, .ifCond .lt 34, 3, [22]), (13, .iload_n 1, 1, []), (14, .sipush 999, 3, []), (17, .if_icmp .gt 27, 3, [22]), (20, .iload_n 2, 1, []), (21, .ifCond .lt 23, 3, [22]), (24, .iload_n 2, 1, []), (25, .bipush 120, 2, []), (27, .if_icmp .gt 17, 3, [22]), (30, .iload_n 3, 1, []), (31, .ifCond .lt 13, 3, [22]), (34, .iload_n 3, 1, []), (35, .bipush 6, 2, []), (37, .if_icmp .ge 7, 3, [22]), (40, .iconst 1, 1, []), (41, .goto 4, 3, [23]), (44, .iconst 0, 1, []), (45, .ireturn, 1, [])])
set_option maxRecDepth 20000 in
theorem ckX5_canBe_0 : ckR mX5_canBe 0 40 = true := by decide +kernel
set_option maxRecDepth 20000 in
theorem okX5_canBe : okC mX5_canBe := ⟨by decide +kernel, memT3 55 rfl rfl, okM.of (n := 1) (Or.inr rfl) (by decide) (fun j hj => by match j, hj with | 0, _ => exact ckX5_canBe_0 | _ + 1, hj => exact absurd hj (by omega))⟩
set_option maxRecDepth 20000 in
def mX5_copyFrom : Mt := (yX5_copyFrom, cX5_copyFrom, 2, none, [5, 129, 1, 0, 1007, 1008], [(0, .aload_n 0, 1, []), (1, .aload_n 1, 1, []), (2, .getfield 45, 3, [5, 0, 1]), (5, .putfield 45, 3, [5, 0, 1]), (8, .aload_n 1, 1, []), (9, .getfield 9, 3, [5, 2, 8]), (12, .iconst 0, 1, []), (13, .aload_n 0, 1, []), (14, .getfield 9, 3, [5, 2, 8]), (17, .iconst 0, 1, []), (18, .bipush 16, 2, []), (20, .invokestatic 49, 3, []), (23, .aload_n 1, 1, []), (24, .getfield 15, 3, [5, 3, 12]), (27, .iconst 0, 1, []), (28, .aload_n 0, 1, []), (29, .getfield 15, 3, [5, 3, 12]), (32, .iconst 0, 1, []), (33, .bipush 16, 2, []), (35, .invokestatic 49, 3, []), (38, .aload_n 1, 1, []), (39, .getfield 18, 3, [5, 4, 16]), (42, .iconst 0, 1, []), (43, .aload_n 0, 1, []), (44, .getfield 18, 3, [5, 4, 16]), (47, .iconst 0, 1, []), (48, .bipush 16, 2, []), (50, .invokestatic 49, 3, []), (53, .aload_n 1, 1, []), (54, .getfield 21, 3, [5, 5, 19]), (57, .iconst 0, 1, []), (58, .aload_n 0, 1, []), (59, .getfield 21, 3, [5, 5, 19]), (62, .iconst 0, 1, []), (63, .bipush 16, 2, []), (65, .invokestatic 49, 3, []), (68, .aload_n 1, 1, []), (69, .getfield 24, 3, [5, 6, 22]), (72, .iconst 0, 1, []), (73, .aload_n 0, 1, []), (74, .getfield 24, 3, [5, 6, 22]), (77, .iconst 0, 1, []), (78, .bipush 16, 2, []), (80, .invokestatic 49, 3, []), (83, .aload_n 1, 1, []), (84, .getfield 27, 3, [5, 7, 25]), (87, .iconst 0, 1, []), (88, .aload_n 0, 1, []), (89, .getfield 27, 3, [5, 7, 25]), (92, .iconst 0, 1, []), (93, .bipush 16, 2, []), (95, .invokestatic 49, 3, []), (98, .aload_n 1, 1, []), (99, .getfield 30, 3, [5, 8, 29]), (102, .iconst 0, 1, []), (103, .aload_n 0, 1, []), (104, .getfield 30, 3, [5, 8, 29]), (107, .iconst 0, 1, []), (108, .bipush 16, 2, []), (110, .invokestatic 49, 3, []), (113, .aload_n 1, 1, []), (114, .getfield 42, 3, [5, 12, 44]), (117, .iconst 0, 1, []), (118, .aload_n 0, 1, []), (119, .getfield 42, 3, [5, 12, 44]), (122, .iconst 0, 1, []), (123, .bipush 6, 2, []), (125, .invokestatic 49, 3, []), (128, .aload_n 0, 1, []), (129, .aload_n 1, 1, []), (130, .invokevirtual 55, 3, []), (133, .return_, 1, [])])
set_option maxRecDepth 20000 in
theorem ckX5_copyFrom_0 : ckR mX5_copyFrom 0 40 = true := by decide +kernel
set_option maxRecDepth 20000 in
theorem ckX5_copyFrom_1 : ckR mX5_copyFrom 40 40 = true := by decide +kernel
set_option maxRecDepth 20000 in
theorem okX5_copyFrom : okC mX5_copyFrom := ⟨by decide +kernel, memT4 163 rfl rfl, okM.of (n := 2) (Or.inr rfl) (by decide) (fun j hj => by match j, hj with | 0, _ => exact ckX5_copyFrom_0 | 1, _ => exact ckX5_copyFrom_1 | _ + 2, hj => exact absurd hj (by omega))⟩
set_option maxRecDepth 20000 in
def mX5_copyTiesFrom : Mt := (yX5_copyTiesFrom, cX5_copyTiesFrom, 2, none, [5, 129, 1, 0, 1012, 1013], [(0, .aload_n 0, 1, []), (1, .aload_n 1, 1, []), (2, .getfield 59, 3, [5, 1, 6]), (5, .putfield 59, 3, [5, 1, 6]), (8, .aload_n 1, 1, []), (9, .getfield 33, 3, [5, 9, 35]), (12, .iconst 0, 1, []), (13, .aload_n 0, 1, []), (14, .getfield 33, 3, [5, 9, 35]), (17, .iconst 0, 1, []), (18, .bipush 16, 2, []), (20, .invokestatic 49, 3, []), (23, .aload_n 1, 1, []), (24, .getfield 36, 3, [5, 10, 38]), (27, .iconst 0, 1, []), (28, .aload_n 0, 1, []), (29, .getfield 36, 3, [5, 10, 38]), (32, .iconst 0, 1, []), (33, .bipush 16, 2, []), (35, .invokestatic 49, 3, []), (38, .aload_n 1, 1, []), (39, .getfield 39, 3, [5, 11, 41]), (42, .iconst 0, 1, []), (43, .aload_n 0, 1, []), (44, .getfield 39, 3, [5, 11, 41]), (47, .iconst 0, 1, []), (48, .bipush 16, 2, []), (50, .invokestatic 49, 3, []), (53, .return_, 1, [])])
set_option maxRecDepth 20000 in
theorem ckX5_copyTiesFrom_0 : ckR mX5_copyTiesFrom 0 40 = true := by decide +kernel
set_option maxRecDepth 20000 in
theorem okX5_copyTiesFrom : okC mX5_copyTiesFrom := ⟨by decide +kernel, memT4 168 rfl rfl, okM.of (n := 1) (Or.inr rfl) (by decide) (fun j hj => by match j, hj with | 0, _ => exact ckX5_copyTiesFrom_0 | _ + 1, hj => exact absurd hj (by omega))⟩
set_option maxRecDepth 20000 in
def mX5_has : Mt := (yX5_has, cX5_has, 2, (some .boolean), [5, 129, 1, 0, 683, 684], [(0, .iload_n 1, 1, []), (1, .ifCond .lt 15, 3, [8]), (4, .iload_n 1, 1, []), (5, .aload_n 0, 1, []), (6, .getfield 45, 3, [5, 0, 1]), (9, .if_icmp .ge 7, 3, [8]), (12, .iconst 1, 1, []), (13, .goto 4, 3, [9]), (16, .iconst 0, 1, []), (17, .ireturn, 1, [])])
set_option maxRecDepth 20000 in
theorem ckX5_has_0 : ckR mX5_has 0 40 = true := by decide +kernel
set_option maxRecDepth 20000 in
theorem okX5_has : okC mX5_has := ⟨by decide +kernel, memT3 79 rfl rfl, okM.of (n := 1) (Or.inr rfl) (by decide) (fun j hj => by match j, hj with | 0, _ => exact ckX5_has_0 | _ + 1, hj => exact absurd hj (by omega))⟩
set_option maxRecDepth 20000 in
def mX5_settle : Mt := (yX5_settle, cX5_settle, 6, (some .int), [5, 129, 4, 0, 667, 668], [(0, .aload_n 0, 1, []), (1, .getfield 45, 3, [5, 0, 1]), (4, .bipush 16, 2, []), (6, .if_icmp .lt 5, 3, [6]), (9, .iconst (-1), 1, []), (10, .ireturn, 1, []), (11, .aload_n 0, 1, []), (12, .getfield 45, 3, [5, 0, 1]), (15, .istore 5, 2, []), (17, .aload_n 0, 1, []), (18, .getfield 9, 3, [5, 2, 8]), (21, .iload 5, 2, []), (23, .iload_n 1, 1, []), (24, .iastore, 1, []), (25, .aload_n 0, 1, []), (26, .getfield 15, 3, [5, 3, 12]), (29, .iload 5, 2, []), (31, .iload_n 2, 1, []), (32, .iastore, 1, []), (33, .aload_n 0, 1, []), (34, .getfield 18, 3, [5, 4, 16]), (37, .iload 5, 2, []), (39, .iload_n 3, 1, []), (40, .iastore, 1, []), (41, .aload_n 0, 1, []), (42, .getfield 27, 3, [5, 7, 25]), (45, .iload 5, 2, []), (47, .iload 4, 2, []), (49, .iastore, 1, []), (50, .aload_n 0, 1, []), (51, .getfield 21, 3, [5, 5, 19]), (54, .iload 5, 2, []), (56, .iconst 0, 1, []), (57, .iastore, 1, []), (58, .aload_n 0, 1, []), (59, .getfield 24, 3, [5, 6, 22]), (62, .iload 5, 2, []), (64, .iconst 0, 1, []), (65, .iastore, 1, []), (66, .aload_n 0, 1, []), (67, .getfield 30, 3, [5, 8, 29]), (70, .iload 5, 2, []), (72, .iconst 0, 1, []), (73, .iastore, 1, []), (74, .aload_n 0, 1, []), (75, .getfield 33, 3, [5, 9, 35]), (78, .iload 5, 2, []), (80, .iconst (-1), 1, []), (81, .iastore, 1, []), (82, .aload_n 0, 1, []), (83, .getfield 36, 3, [5, 10, 38]), (86, .iload 5, 2, []), (88, .iconst (-1), 1, []), (89, .iastore, 1, []), (90, .aload_n 0, 1, []), (91, .getfield 39, 3, [5, 11, 41]), (94, .iload 5, 2, []), (96, .iconst 0, 1, []), (97, .iastore, 1, []), (98, .aload_n 0, 1, []), (99, .iload 5, 2, []), (101, .iconst 1, 1, []), (102, .iadd, 1, []), (103, .putfield 45, 3, [5, 0, 1]), (106, .iload 5, 2, []), (108, .ireturn, 1, [])])
set_option maxRecDepth 20000 in
theorem ckX5_settle_0 : ckR mX5_settle 0 40 = true := by decide +kernel
set_option maxRecDepth 20000 in
theorem ckX5_settle_1 : ckR mX5_settle 40 40 = true := by decide +kernel
set_option maxRecDepth 20000 in
theorem okX5_settle : okC mX5_settle := ⟨by decide +kernel, memT3 63 rfl rfl, okM.of (n := 2) (Or.inr rfl) (by decide) (fun j hj => by match j, hj with | 0, _ => exact ckX5_settle_0 | 1, _ => exact ckX5_settle_1 | _ + 2, hj => exact absurd hj (by omega))⟩
set_option maxRecDepth 20000 in
def mX5_isSold : Mt := (yX5_isSold, cX5_isSold, 2, (some .boolean), [5, 129, 1, 0, 691, 692], [(0, .aload_n 0, 1, []), (1, .getfield 59, 3, [5, 1, 6]), (4, .iload_n 1, 1, []), (5, .ishr, 1, []), (6, .iconst 1, 1, []), (7, .iand, 1, []), (8, .iconst 1, 1, []), (9, .if_icmp .ne 7, 3, [10]), (12, .iconst 1, 1, []), (13, .goto 4, 3, [11]), (16, .iconst 0, 1, []), (17, .ireturn, 1, [])])
set_option maxRecDepth 20000 in
theorem ckX5_isSold_0 : ckR mX5_isSold 0 40 = true := by decide +kernel
set_option maxRecDepth 20000 in
theorem okX5_isSold : okC mX5_isSold := ⟨by decide +kernel, memT3 87 rfl rfl, okM.of (n := 1) (Or.inr rfl) (by decide) (fun j hj => by match j, hj with | 0, _ => exact ckX5_isSold_0 | _ + 1, hj => exact absurd hj (by omega))⟩
set_option maxRecDepth 20000 in
def mX5_isInLine : Mt := (yX5_isInLine, cX5_isInLine, 3, (some .boolean), [5, 129, 2, 0, 1130, 1131], [(0, .aload_n 0, 1, []), (1, .getfield 39, 3, [5, 11, 41]), (4, .iload_n 2, 1, []), (5, .iaload, 1, []), (6, .iload_n 1, 1, []), (7, .ishr, 1, []), (8, .iconst 1, 1, []), (9, .iand, 1, []), (10, .iconst 1, 1, []), (11, .if_icmp .ne 7, 3, [12]), (14, .iconst 1, 1, []), (15, .goto 4, 3, [13]), (18, .iconst 0, 1, []), (19, .ireturn, 1, [])])
set_option maxRecDepth 20000 in
theorem ckX5_isInLine_0 : ckR mX5_isInLine 0 40 = true := by decide +kernel
set_option maxRecDepth 20000 in
theorem okX5_isInLine : okC mX5_isInLine := ⟨by decide +kernel, memT5 46 rfl rfl, okM.of (n := 1) (Or.inr rfl) (by decide) (fun j hj => by match j, hj with | 0, _ => exact ckX5_isInLine_0 | _ + 1, hj => exact absurd hj (by omega))⟩
set_option maxRecDepth 20000 in
def mX5_isSelfOrInLine : Mt := (yX5_isSelfOrInLine, cX5_isSelfOrInLine, 3, (some .boolean), [5, 129, 2, 0, 740, 741], [(0, .iload_n 1, 1, []), (1, .iload_n 2, 1, []), (2, .if_icmp .eq 17, 3, [13]), (5, .aload_n 0, 1, []), (6, .getfield 39, 3, [5, 11, 41]), (9, .iload_n 2, 1, []), (10, .iaload, 1, []), (11, .iload_n 1, 1, []), (12, .ishr, 1, []), (13, .iconst 1, 1, []), (14, .iand, 1, []), (15, .iconst 1, 1, []), (16, .if_icmp .ne 7, 3, [15]), (19, .iconst 1, 1, []), (20, .goto 4, 3, [16]), (23, .iconst 0, 1, []), (24, .ireturn, 1, [])])
set_option maxRecDepth 20000 in
theorem ckX5_isSelfOrInLine_0 : ckR mX5_isSelfOrInLine 0 40 = true := by decide +kernel
set_option maxRecDepth 20000 in
theorem okX5_isSelfOrInLine : okC mX5_isSelfOrInLine := ⟨by decide +kernel, memT3 136 rfl rfl, okM.of (n := 1) (Or.inr rfl) (by decide) (fun j hj => by match j, hj with | 0, _ => exact ckX5_isSelfOrInLine_0 | _ + 1, hj => exact absurd hj (by omega))⟩
set_option maxRecDepth 20000 in
def mX5_withLine : Mt := (yX5_withLine, cX5_withLine, 2, (some .int), [5, 129, 1, 0, 752, 753], [(0, .iload_n 1, 1, []), (1, .iconst (-1), 1, []), (2, .if_icmp .ne 7, 3, [5]), (5, .iconst 0, 1, []), (6, .goto 13, 3, [13]), (9, .aload_n 0, 1, []), (10, .getfield 39, 3, [5, 11, 41]), (13, .iload_n 1, 1, []), (14, .iaload, 1, []), (15, .iconst 1, 1, []), (16, .iload_n 1, 1, []), (17, .ishl, 1, []), (18, .ior, 1, []), (19, .ireturn, 1, [])])
set_option maxRecDepth 20000 in
theorem ckX5_withLine_0 : ckR mX5_withLine 0 40 = true := by decide +kernel
set_option maxRecDepth 20000 in
theorem okX5_withLine : okC mX5_withLine := ⟨by decide +kernel, memT3 148 rfl rfl, okM.of (n := 1) (Or.inr rfl) (by decide) (fun j hj => by match j, hj with | 0, _ => exact ckX5_withLine_0 | _ + 1, hj => exact absurd hj (by omega))⟩
set_option maxRecDepth 20000 in
def mX5_livesIn : Mt := (yX5_livesIn, cX5_livesIn, 3, (some .boolean), [5, 129, 2, 0, 1159, 1160], [(0, .iload_n 2, 1, []), (1, .aload_n 0, 1, []), (2, .getfield 15, 3, [5, 3, 12]), (5, .iload_n 1, 1, []), (6, .iaload, 1, []), (7, .if_icmp .lt 24, 3, [19]), (10, .iload_n 2, 1, []), (11, .aload_n 0, 1, []), (12, .getfield 15, 3, [5, 3, 12]), (15, .iload_n 1, 1, []), (16, .iaload, 1, []), (17, .aload_n 0, 1, []), (18, .getfield 18, 3, [5, 4, 16]), (21, .iload_n 1, 1, []), (22, .iaload, 1, []), (23, .iadd, 1, []), (24, .if_icmp .ge 7, 3, [19]), (27, .iconst 1, 1, []), (28, .goto 4, 3, [20]), (31, .iconst 0, 1, []), (32, .ireturn, 1, [])])
set_option maxRecDepth 20000 in
theorem ckX5_livesIn_0 : ckR mX5_livesIn 0 40 = true := by decide +kernel
set_option maxRecDepth 20000 in
theorem okX5_livesIn : okC mX5_livesIn := ⟨by decide +kernel, memT5 75 rfl rfl, okM.of (n := 1) (Or.inr rfl) (by decide) (fun j hj => by match j, hj with | 0, _ => exact ckX5_livesIn_0 | _ + 1, hj => exact absurd hj (by omega))⟩
set_option maxRecDepth 20000 in
def mX5_datesFit : Mt := (yX5_datesFit, cX5_datesFit, 6, (some .boolean), [5, 129, 3, 0, 1060, 1061], [(0, .aload_n 0, 1, []), (1, .getfield 15, 3, [5, 3, 12]), (4, .iload_n 2, 1, []), (5, .iaload, 1, []), (6, .aload_n 0, 1, []), (7, .getfield 15, 3, [5, 3, 12]), (10, .iload_n 1, 1, []), (11, .iaload, 1, []), (12, .isub, 1, []), (13, .istore 4, 2, []), (15, .aload_n 0, 1, []), (16, .getfield 9, 3, [5, 2, 8]), (19, .iload_n 1, 1, []), (20, .iaload, 1, []), (21, .ifCond .ne 12, 3, [20]), (24, .aload_n 0, 1, []), (25, .getfield 18, 3, [5, 4, 16]), (28, .iload_n 1, 1, []), (29, .iaload, 1, []), (30, .goto 11, 3, [26]), (33, .aload_n 0, 1, []), (34, .getfield 18, 3, [5, 4, 16]), (37, .iload_n 1, 1, []), (38, .iaload, 1, []), (39, .iconst 1, 1, []), (40, .isub, 1, []), (41, .istore 5, 2, []), (43, .iload 4, 2, []), (45, .iload_n 3, 1, []), (46, .if_icmp .lt 14, 3, [35]), (49, .iload 4, 2, []), (51, .iload 5, 2, []), (53, .if_icmp .gt 7, 3, [35]), (56, .iconst 1, 1, []), (57, .goto 4, 3, [36]), (60, .iconst 0, 1, []), (61, .ireturn, 1, [])])
set_option maxRecDepth 20000 in
theorem ckX5_datesFit_0 : ckR mX5_datesFit 0 40 = true := by decide +kernel
set_option maxRecDepth 20000 in
theorem okX5_datesFit : okC mX5_datesFit := ⟨by decide +kernel, memT4 216 rfl rfl, okM.of (n := 1) (Or.inr rfl) (by decide) (fun j hj => by match j, hj with | 0, _ => exact ckX5_datesFit_0 | _ + 1, hj => exact absurd hj (by omega))⟩
set_option maxRecDepth 20000 in
def mX5_parentOf : Mt := (yX5_parentOf, cX5_parentOf, 3, (some .int), [5, 129, 2, 0, 736, 737], [(0, .iload_n 2, 1, []), (1, .ifCond .ne 12, 3, [7]), (4, .aload_n 0, 1, []), (5, .getfield 33, 3, [5, 9, 35]), (8, .iload_n 1, 1, []), (9, .iaload, 1, []), (10, .goto 9, 3, [11]), (13, .aload_n 0, 1, []), (14, .getfield 36, 3, [5, 10, 38]), (17, .iload_n 1, 1, []), (18, .iaload, 1, []), (19, .ireturn, 1, [])])
set_option maxRecDepth 20000 in
theorem ckX5_parentOf_0 : ckR mX5_parentOf 0 40 = true := by decide +kernel
set_option maxRecDepth 20000 in
theorem okX5_parentOf : okC mX5_parentOf := ⟨by decide +kernel, memT3 132 rfl rfl, okM.of (n := 1) (Or.inr rfl) (by decide) (fun j hj => by match j, hj with | 0, _ => exact ckX5_parentOf_0 | _ + 1, hj => exact absurd hj (by omega))⟩
set_option maxRecDepth 20000 in
def mX5_hasPlaceFor : Mt := (yX5_hasPlaceFor, cX5_hasPlaceFor, 3, (some .boolean), [5, 129, 2, 0, 732, 733], [(0, .aload_n 0, 1, []), (1, .iload_n 2, 1, []), (2, .aload_n 0, 1, []), (3, .getfield 9, 3, [5, 2, 8]), (6, .iload_n 1, 1, []), (7, .iaload, 1, []), (8, .invokevirtual 62, 3, []), (11, .iconst (-1), 1, []), (12, .if_icmp .ne 16, 3, [16]), (15, .aload_n 0, 1, []), (16, .iload_n 2, 1, []), (17, .iload_n 1, 1, []), (18, .invokevirtual 66, 3, []), (21, .ifCond .ne 7, 3, [16]), (24, .iconst 1, 1, []), (25, .goto 4, 3, [17]), (28, .iconst 0, 1, []), (29, .ireturn, 1, [])])
set_option maxRecDepth 20000 in
theorem ckX5_hasPlaceFor_0 : ckR mX5_hasPlaceFor 0 40 = true := by decide +kernel
set_option maxRecDepth 20000 in
theorem okX5_hasPlaceFor : okC mX5_hasPlaceFor := ⟨by decide +kernel, memT3 128 rfl rfl, okM.of (n := 1) (Or.inr rfl) (by decide) (fun j hj => by match j, hj with | 0, _ => exact ckX5_hasPlaceFor_0 | _ + 1, hj => exact absurd hj (by omega))⟩
set_option maxRecDepth 20000 in
def mX5_couldBeBought : Mt := (yX5_couldBeBought, cX5_couldBeBought, 4, (some .boolean), [5, 129, 3, 0, 1054, 1055], [(0, .aload_n 0, 1, []), (1, .iload_n 1, 1, []), (2, .invokevirtual 70, 3, []), (5, .ifCond .ne 26, 3, [17]), (8, .aload_n 0, 1, []), (9, .iload_n 1, 1, []), (10, .iload_n 2, 1, []), (11, .invokevirtual 74, 3, []), (14, .ifCond .eq 17, 3, [17]), (17, .aload_n 0, 1, []), (18, .iload_n 1, 1, []), (19, .iload_n 2, 1, []), (20, .iload_n 3, 1, []), (21, .invokevirtual 77, 3, []), (24, .ifCond .eq 7, 3, [17]), (27, .iconst 1, 1, []), (28, .goto 4, 3, [18]), (31, .iconst 0, 1, []), (32, .ireturn, 1, [])])
set_option maxRecDepth 20000 in
theorem ckX5_couldBeBought_0 : ckR mX5_couldBeBought 0 40 = true := by decide +kernel
set_option maxRecDepth 20000 in
theorem okX5_couldBeBought : okC mX5_couldBeBought := ⟨by decide +kernel, memT4 210 rfl rfl, okM.of (n := 1) (Or.inr rfl) (by decide) (fun j hj => by match j, hj with | 0, _ => exact ckX5_couldBeBought_0 | _ + 1, hj => exact absurd hj (by omega))⟩
set_option maxRecDepth 20000 in
def mX5_setParent : Mt := (yX5_setParent, cX5_setParent, 4, none, [5, 129, 3, 0, 748, 749], [(0, .iload_n 2, 1, []), (1, .ifCond .ne 13, 3, [8]), (4, .aload_n 0, 1, []), (5, .getfield 33, 3, [5, 9, 35]), (8, .iload_n 1, 1, []), (9, .iload_n 3, 1, []), (10, .iastore, 1, []), (11, .goto 10, 3, [13]), (14, .aload_n 0, 1, []), (15, .getfield 36, 3, [5, 10, 38]), (18, .iload_n 1, 1, []), (19, .iload_n 3, 1, []), (20, .iastore, 1, []), (21, .return_, 1, [])])
set_option maxRecDepth 20000 in
theorem ckX5_setParent_0 : ckR mX5_setParent 0 40 = true := by decide +kernel
set_option maxRecDepth 20000 in
theorem okX5_setParent : okC mX5_setParent := ⟨by decide +kernel, memT3 144 rfl rfl, okM.of (n := 1) (Or.inr rfl) (by decide) (fun j hj => by match j, hj with | 0, _ => exact ckX5_setParent_0 | _ + 1, hj => exact absurd hj (by omega))⟩
set_option maxRecDepth 20000 in
def mX5_tie : Mt := (yX5_tie, cX5_tie, 5, none, [5, 129, 2, 0, 744, 745], [(0, .aload_n 0, 1, []), (1, .iload_n 2, 1, []), (2, .aload_n 0, 1, []), (3, .getfield 9, 3, [5, 2, 8]), (6, .iload_n 1, 1, []), (7, .iaload, 1, []), (8, .iload_n 1, 1, []), (9, .invokevirtual 81, 3, []), (12, .aload_n 0, 1, []), (13, .iload_n 1, 1, []), (14, .invokevirtual 85, 3, []), (17, .istore_n 3, 1, []), (18, .iconst 0, 1, []), (19, .istore 4, 2, []), (21, .iload 4, 2, []), (23, .aload_n 0, 1, []), (24, .getfield 45, 3, [5, 0, 1]), (27, .if_icmp .ge 30, 3, [33]), (30, .aload_n 0, 1, []), (31, .iload_n 2, 1, []), (32, .iload 4, 2, []), (34, .invokevirtual 66, 3, []), (37, .ifCond .eq 14, 3, [31]), (40, .aload_n 0, 1, []), (41, .getfield 39, 3, [5, 11, 41]), (44, .iload 4, 2, []), (46, .dup2, 1, []), (47, .iaload, 1, []), (48, .iload_n 3, 1, []), (49, .ior, 1, []), (50, .iastore, 1, []), (51, .iinc 4 1, 3, []), (54, .goto (-33), 3, [14]), (57, .return_, 1, [])])
set_option maxRecDepth 20000 in
theorem ckX5_tie_0 : ckR mX5_tie 0 40 = true := by decide +kernel
set_option maxRecDepth 20000 in
theorem okX5_tie : okC mX5_tie := ⟨by decide +kernel, memT3 140 rfl rfl, okM.of (n := 1) (Or.inr rfl) (by decide) (fun j hj => by match j, hj with | 0, _ => exact ckX5_tie_0 | _ + 1, hj => exact absurd hj (by omega))⟩
set_option maxRecDepth 20000 in
def mX5_sell : Mt := (yX5_sell, cX5_sell, 3, none, [5, 129, 2, 0, 1080, 1081], [(0, .aload_n 0, 1, []), (1, .iload_n 1, 1, []), (2, .iload_n 2, 1, []), (3, .invokevirtual 89, 3, []), (6, .aload_n 0, 1, []), (7, .dup, 1, []), (8, .getfield 59, 3, [5, 1, 6]), (11, .iconst 1, 1, []), (12, .iload_n 1, 1, []), (13, .ishl, 1, []), (14, .ior, 1, []), (15, .putfield 59, 3, [5, 1, 6]), (18, .return_, 1, [])])
set_option maxRecDepth 20000 in
theorem ckX5_sell_0 : ckR mX5_sell 0 40 = true := by decide +kernel
set_option maxRecDepth 20000 in
theorem okX5_sell : okC mX5_sell := ⟨by decide +kernel, memT4 236 rfl rfl, okM.of (n := 1) (Or.inr rfl) (by decide) (fun j hj => by match j, hj with | 0, _ => exact ckX5_sell_0 | _ + 1, hj => exact absurd hj (by omega))⟩
set_option maxRecDepth 20000 in
def mX5_unsell : Mt := (yX5_unsell, cX5_unsell, 3, none, [5, 129, 2, 0, 1194, 1195], [(0, .aload_n 0, 1, []), (1, .iload_n 2, 1, []), (2, .aload_n 0, 1, []), (3, .getfield 9, 3, [5, 2, 8]), (6, .iload_n 1, 1, []), (7, .iaload, 1, []), (8, .iconst (-1), 1, []), (9, .invokevirtual 81, 3, []), (12, .aload_n 0, 1, []), (13, .dup, 1, []), (14, .getfield 59, 3, [5, 1, 6]), (17, .iconst 1, 1, []), (18, .iload_n 1, 1, []), (19, .ishl, 1, []), (20, .iconst (-1), 1, []), (21, .ixor, 1, []), (22, .iand, 1, []), (23, .putfield 59, 3, [5, 1, 6]), (26, .return_, 1, [])])
set_option maxRecDepth 20000 in
theorem ckX5_unsell_0 : ckR mX5_unsell 0 40 = true := by decide +kernel
set_option maxRecDepth 20000 in
theorem okX5_unsell : okC mX5_unsell := ⟨by decide +kernel, memT5 110 rfl rfl, okM.of (n := 1) (Or.inr rfl) (by decide) (fun j hj => by match j, hj with | 0, _ => exact ckX5_unsell_0 | _ + 1, hj => exact absurd hj (by omega))⟩
set_option maxRecDepth 20000 in
def mX5_trade : Mt := (yX5_trade, cX5_trade, 5, none, [5, 129, 4, 0, 1076, 1077], [(0, .aload_n 0, 1, []), (1, .iload_n 1, 1, []), (2, .iload_n 2, 1, []), (3, .invokevirtual 93, 3, []), (6, .aload_n 0, 1, []), (7, .getfield 30, 3, [5, 8, 29]), (10, .iload_n 3, 1, []), (11, .dup2, 1, []), (12, .iaload, 1, []), (13, .iload 4, 2, []), (15, .isub, 1, []), (16, .iastore, 1, []), (17, .aload_n 0, 1, []), (18, .getfield 42, 3, [5, 12, 44]), (21, .aload_n 0, 1, []), (22, .getfield 27, 3, [5, 7, 25]), (25, .iload_n 1, 1, []), (26, .iaload, 1, []), (27, .dup2, 1, []), (28, .iaload, 1, []), (29, .iload 4, 2, []), (31, .iadd, 1, []), (32, .iastore, 1, []), (33, .return_, 1, [])])
set_option maxRecDepth 20000 in
theorem ckX5_trade_0 : ckR mX5_trade 0 40 = true := by decide +kernel
set_option maxRecDepth 20000 in
theorem okX5_trade : okC mX5_trade := ⟨by decide +kernel, memT4 232 rfl rfl, okM.of (n := 1) (Or.inr rfl) (by decide) (fun j hj => by match j, hj with | 0, _ => exact ckX5_trade_0 | _ + 1, hj => exact absurd hj (by omega))⟩
set_option maxRecDepth 20000 in
def mX5_reckonLines : Mt := (yX5_reckonLines, cX5_reckonLines, 5, none, [5, 129, 0, 0, 1198, 1199], [(0, .aload_n 0, 1, []), (1, .getfield 39, 3, [5, 11, 41]), (4, .iconst 0, 1, []), (5, .invokestatic 96, 3, []), (8, .iconst 1, 1, []), (9, .istore_n 1, 1, []), (10, .iconst 0, 1, []), (11, .istore_n 2, 1, []), (12, .iload_n 2, 1, []), (13, .aload_n 0, 1, []), (14, .getfield 45, 3, [5, 0, 1]), (17, .if_icmp .ge 81, 3, [57]), (20, .iload_n 1, 1, []), (21, .ifCond .eq 77, 3, [57]), (24, .iconst 0, 1, []), (25, .istore_n 1, 1, []), (26, .iconst 0, 1, []), (27, .istore_n 3, 1, []), (28, .iload_n 3, 1, []), (29, .aload_n 0, 1, []), (30, .getfield 45, 3, [5, 0, 1]), (33, .if_icmp .ge 59, 3, [55]), (36, .aload_n 0, 1, []), (37, .aload_n 0, 1, []), (38, .getfield 33, 3, [5, 9, 35]), (41, .iload_n 3, 1, []), (42, .iaload, 1, []), (43, .invokevirtual 85, 3, []), (46, .aload_n 0, 1, []), (47, .aload_n 0, 1, []), (48, .getfield 36, 3, [5, 10, 38]), (51, .iload_n 3, 1, []), (52, .iaload, 1, []), (53, .invokevirtual 85, 3, []), (56, .ior, 1, []), (57, .istore 4, 2, []), (59, .iload_n 1, 1, []), (60, .iload 4, 2, []), (62, .aload_n 0, 1, []), (63, .getfield 39, 3, [5, 11, 41]), (66, .iload_n 3, 1, []), (67, .iaload, 1, []), (68, .if_icmp .eq 7, 3, [45]), (71, .iconst 1, 1, []), (72, .goto 4, 3, [46]), (75, .iconst 0, 1, []), (76, .ior, 1, []), (77, .istore_n 1, 1, []), (78, .aload_n 0, 1, []), (79, .getfield 39, 3, [5, 11, 41]), (82, .iload_n 3, 1, []), (83, .iload 4, 2, []), (85, .iastore, 1, []), (86, .iinc 3 1, 3, []), (89, .goto (-61), 3, [18]), (92, .iinc 2 1, 3, []), (95, .goto (-83), 3, [8]), (98, .return_, 1, [])])
set_option maxRecDepth 20000 in
theorem ckX5_reckonLines_0 : ckR mX5_reckonLines 0 40 = true := by decide +kernel
set_option maxRecDepth 20000 in
theorem ckX5_reckonLines_1 : ckR mX5_reckonLines 40 40 = true := by decide +kernel
set_option maxRecDepth 20000 in
theorem okX5_reckonLines : okC mX5_reckonLines := ⟨by decide +kernel, memT5 114 rfl rfl, okM.of (n := 2) (Or.inr rfl) (by decide) (fun j hj => by match j, hj with | 0, _ => exact ckX5_reckonLines_0 | 1, _ => exact ckX5_reckonLines_1 | _ + 2, hj => exact absurd hj (by omega))⟩
set_option maxRecDepth 20000 in
def mX5_descendants : Mt := (yX5_descendants, cX5_descendants, 4, (some .int), [5, 129, 1, 0, 1126, 1127], [(0, .iconst 0, 1, []), (1, .istore_n 2, 1, []), (2, .iconst 0, 1, []), (3, .istore_n 3, 1, []), (4, .iload_n 3, 1, []), (5, .aload_n 0, 1, []), (6, .getfield 45, 3, [5, 0, 1]), (9, .if_icmp .ge 24, 3, [21]), (12, .aload_n 0, 1, []), (13, .iload_n 1, 1, []), (14, .iload_n 3, 1, []), (15, .invokevirtual 102, 3, []), (18, .ifCond .eq 9, 3, [19]), (21, .iload_n 2, 1, []), (22, .iconst 1, 1, []), (23, .iload_n 3, 1, []), (24, .ishl, 1, []), (25, .ior, 1, []), (26, .istore_n 2, 1, []), (27, .iinc 3 1, 3, []), (30, .goto (-26), 3, [4]), (33, .iload_n 2, 1, []), (34, .ireturn, 1, [])])
set_option maxRecDepth 20000 in
theorem ckX5_descendants_0 : ckR mX5_descendants 0 40 = true := by decide +kernel
set_option maxRecDepth 20000 in
theorem okX5_descendants : okC mX5_descendants := ⟨by decide +kernel, memT5 42 rfl rfl, okM.of (n := 1) (Or.inr rfl) (by decide) (fun j hj => by match j, hj with | 0, _ => exact ckX5_descendants_0 | _ + 1, hj => exact absurd hj (by omega))⟩
set_option maxRecDepth 20000 in
def mX5_debtsOf : Mt := (yX5_debtsOf, cX5_debtsOf, 4, (some .int), [5, 129, 1, 0, 1134, 1135], [(0, .iconst 0, 1, []), (1, .istore_n 2, 1, []), (2, .iconst 0, 1, []), (3, .istore_n 3, 1, []), (4, .iload_n 3, 1, []), (5, .aload_n 0, 1, []), (6, .getfield 45, 3, [5, 0, 1]), (9, .if_icmp .ge 27, 3, [22]), (12, .aload_n 0, 1, []), (13, .iload_n 3, 1, []), (14, .iload_n 1, 1, []), (15, .invokevirtual 66, 3, []), (18, .ifCond .eq 12, 3, [20]), (21, .iload_n 2, 1, []), (22, .aload_n 0, 1, []), (23, .getfield 24, 3, [5, 6, 22]), (26, .iload_n 3, 1, []), (27, .iaload, 1, []), (28, .iadd, 1, []), (29, .istore_n 2, 1, []), (30, .iinc 3 1, 3, []), (33, .goto (-29), 3, [4]), (36, .iload_n 2, 1, []), (37, .ireturn, 1, [])])
set_option maxRecDepth 20000 in
theorem ckX5_debtsOf_0 : ckR mX5_debtsOf 0 40 = true := by decide +kernel
set_option maxRecDepth 20000 in
theorem okX5_debtsOf : okC mX5_debtsOf := ⟨by decide +kernel, memT5 50 rfl rfl, okM.of (n := 1) (Or.inr rfl) (by decide) (fun j hj => by match j, hj with | 0, _ => exact ckX5_debtsOf_0 | _ + 1, hj => exact absurd hj (by omega))⟩
set_option maxRecDepth 20000 in
def mX5_quarters : Mt := (yX5_quarters, cX5_quarters, 6, (some .int), [5, 129, 2, 0, 1143, 1144], [(0, .iconst 0, 1, []), (1, .istore_n 3, 1, []), (2, .iconst 0, 1, []), (3, .istore 4, 2, []), (5, .iload 4, 2, []), (7, .iconst 2, 1, []), (8, .if_icmp .ge 41, 3, [30]), (11, .aload_n 0, 1, []), (12, .iload_n 1, 1, []), (13, .iload 4, 2, []), (15, .invokevirtual 62, 3, []), (18, .istore 5, 2, []), (20, .iload 5, 2, []), (22, .iconst (-1), 1, []), (23, .if_icmp .eq 20, 3, [28]), (26, .iload_n 3, 1, []), (27, .iload_n 2, 1, []), (28, .iload 5, 2, []), (30, .ishr, 1, []), (31, .iconst 1, 1, []), (32, .iand, 1, []), (33, .aload_n 0, 1, []), (34, .iload 5, 2, []), (36, .iload_n 2, 1, []), (37, .invokevirtual 105, 3, []), (40, .iadd, 1, []), (41, .iadd, 1, []), (42, .istore_n 3, 1, []), (43, .iinc 4 1, 3, []), (46, .goto (-41), 3, [4]), (49, .iload_n 3, 1, []), (50, .ireturn, 1, [])])
set_option maxRecDepth 20000 in
theorem ckX5_quarters_0 : ckR mX5_quarters 0 40 = true := by decide +kernel
set_option maxRecDepth 20000 in
theorem okX5_quarters : okC mX5_quarters := ⟨by decide +kernel, memT5 59 rfl rfl, okM.of (n := 1) (Or.inr rfl) (by decide) (fun j hj => by match j, hj with | 0, _ => exact ckX5_quarters_0 | _ + 1, hj => exact absurd hj (by omega))⟩
set_option maxRecDepth 20000 in
def mX5_rankedParents : Mt := (yX5_rankedParents, cX5_rankedParents, 4, (some .int), [5, 129, 2, 0, 1148, 32], [(0, .iconst 0, 1, []), (1, .istore_n 3, 1, []), (2, .aload_n 0, 1, []), (3, .getfield 33, 3, [5, 9, 35]), (6, .iload_n 1, 1, []), (7, .iaload, 1, []), (8, .iconst (-1), 1, []), (9, .if_icmp .eq 16, 3, [19]), (12, .iload_n 3, 1, []), (13, .iload_n 2, 1, []), (14, .aload_n 0, 1, []), (15, .getfield 33, 3, [5, 9, 35]), (18, .iload_n 1, 1, []), (19, .iaload, 1, []), (20, .ishr, 1, []), (21, .iconst 1, 1, []), (22, .iand, 1, []), (23, .iadd, 1, []), (24, .istore_n 3, 1, []), (25, .aload_n 0, 1, []), (26, .getfield 36, 3, [5, 10, 38]), (29, .iload_n 1, 1, []), (30, .iaload, 1, []), (31, .iconst (-1), 1, []), (32, .if_icmp .eq 16, 3, [36]), (35, .iload_n 3, 1, []), (36, .iload_n 2, 1, []), (37, .aload_n 0, 1, []), (38, .getfield 36, 3, [5, 10, 38]), (41, .iload_n 1, 1, []), (42, .iaload, 1, []), (43, .ishr, 1, []), (44, .iconst 1, 1, []), (45, .iand, 1, []), (46, .iadd, 1, []), (47, .istore_n 3, 1, []), (48, .iload_n 3, 1, []), (49, .ireturn, 1, [])])
set_option maxRecDepth 20000 in
theorem ckX5_rankedParents_0 : ckR mX5_rankedParents 0 40 = true := by decide +kernel
set_option maxRecDepth 20000 in
theorem okX5_rankedParents : okC mX5_rankedParents := ⟨by decide +kernel, memT5 63 rfl rfl, okM.of (n := 1) (Or.inr rfl) (by decide) (fun j hj => by match j, hj with | 0, _ => exact ckX5_rankedParents_0 | _ + 1, hj => exact absurd hj (by omega))⟩
set_option maxRecDepth 20000 in
def mX5_isGrand : Mt := (yX5_isGrand, cX5_isGrand, 3, (some .boolean), [5, 129, 2, 0, 1151, 1152], [(0, .aload_n 0, 1, []), (1, .aload_n 0, 1, []), (2, .getfield 33, 3, [5, 9, 35]), (5, .iload_n 1, 1, []), (6, .iaload, 1, []), (7, .invokevirtual 85, 3, []), (10, .iload_n 2, 1, []), (11, .iand, 1, []), (12, .ifCond .eq 22, 3, [20]), (15, .aload_n 0, 1, []), (16, .aload_n 0, 1, []), (17, .getfield 36, 3, [5, 10, 38]), (20, .iload_n 1, 1, []), (21, .iaload, 1, []), (22, .invokevirtual 85, 3, []), (25, .iload_n 2, 1, []), (26, .iand, 1, []), (27, .ifCond .eq 7, 3, [20]), (30, .iconst 1, 1, []), (31, .goto 4, 3, [21]), (34, .iconst 0, 1, []), (35, .ireturn, 1, [])])
set_option maxRecDepth 20000 in
theorem ckX5_isGrand_0 : ckR mX5_isGrand 0 40 = true := by decide +kernel
set_option maxRecDepth 20000 in
theorem okX5_isGrand : okC mX5_isGrand := ⟨by decide +kernel, memT5 67 rfl rfl, okM.of (n := 1) (Or.inr rfl) (by decide) (fun j hj => by match j, hj with | 0, _ => exact ckX5_isGrand_0 | _ + 1, hj => exact absurd hj (by omega))⟩
set_option maxRecDepth 20000 in
def mX5_forgedChildren : Mt := (yX5_forgedChildren, cX5_forgedChildren, 6, (some .int), [5, 129, 1, 0, 1175, 1176], [(0, .iconst 0, 1, []), (1, .istore_n 2, 1, []), (2, .iconst 0, 1, []), (3, .istore_n 3, 1, []), (4, .iload_n 3, 1, []), (5, .aload_n 0, 1, []), (6, .getfield 45, 3, [5, 0, 1]), (9, .if_icmp .ge 89, 3, [58]), (12, .aload_n 0, 1, []), (13, .getfield 33, 3, [5, 9, 35]), (16, .iload_n 3, 1, []), (17, .iaload, 1, []), (18, .iconst (-1), 1, []), (19, .if_icmp .eq 18, 3, [23]), (22, .aload_n 0, 1, []), (23, .aload_n 0, 1, []), (24, .getfield 33, 3, [5, 9, 35]), (27, .iload_n 3, 1, []), (28, .iaload, 1, []), (29, .iload_n 3, 1, []), (30, .iload_n 1, 1, []), (31, .invokevirtual 77, 3, []), (34, .ifCond .eq 7, 3, [25]), (37, .iconst 1, 1, []), (38, .goto 4, 3, [26]), (41, .iconst 0, 1, []), (42, .istore 4, 2, []), (44, .aload_n 0, 1, []), (45, .getfield 36, 3, [5, 10, 38]), (48, .iload_n 3, 1, []), (49, .iaload, 1, []), (50, .iconst (-1), 1, []), (51, .if_icmp .eq 18, 3, [42]), (54, .aload_n 0, 1, []), (55, .aload_n 0, 1, []), (56, .getfield 36, 3, [5, 10, 38]), (59, .iload_n 3, 1, []), (60, .iaload, 1, []), (61, .iload_n 3, 1, []), (62, .iload_n 1, 1, []), (63, .invokevirtual 77, 3, []), (66, .ifCond .eq 7, 3, [44]), (69, .iconst 1, 1, []), (70, .goto 4, 3, [45]), (73, .iconst 0, 1, []), (74, .istore 5, 2, []), (76, .iload 4, 2, []), (78, .ifCond .eq 8, 3, [50]), (81, .iload 5, 2, []), (83, .ifCond .ne 9, 3, [56]), (86, .iload_n 2, 1, []), (87, .iconst 1, 1, []), (88, .iload_n 3, 1, []), (89, .ishl, 1, []), (90, .ior, 1, []), (91, .istore_n 2, 1, []), (92, .iinc 3 1, 3, []), (95, .goto (-91), 3, [4]), (98, .iload_n 2, 1, []), (99, .ireturn, 1, [])])
set_option maxRecDepth 20000 in
theorem ckX5_forgedChildren_0 : ckR mX5_forgedChildren 0 40 = true := by decide +kernel
set_option maxRecDepth 20000 in
theorem ckX5_forgedChildren_1 : ckR mX5_forgedChildren 40 40 = true := by decide +kernel
set_option maxRecDepth 20000 in
theorem okX5_forgedChildren : okC mX5_forgedChildren := ⟨by decide +kernel, memT5 91 rfl rfl, okM.of (n := 2) (Or.inr rfl) (by decide) (fun j hj => by match j, hj with | 0, _ => exact ckX5_forgedChildren_0 | 1, _ => exact ckX5_forgedChildren_1 | _ + 2, hj => exact absurd hj (by omega))⟩
set_option maxRecDepth 20000 in
def mX6_init : Mt := (yX6_init, cX6_init, 2, none, [6, 131, 1, 2, 346], [(0, .aload_n 0, 1, []), (1, .invokespecial 3, 3, []), (4, .aload_n 0, 1, []), (5, .new 9, 3, [8, 349, 350, 132]), (8, .dup, 1, []), (9, .bipush 12, 2, []), (11, .sipush 400, 3, []), (14, .invokespecial 11, 3, []), (17, .putfield 14, 3, [6, 1, 118]), (20, .aload_n 0, 1, []), (21, .iconst (-1), 1, []), (22, .putfield 20, 3, [6, 2, 120]), (25, .aload_n 0, 1, []), (26, .aload_n 1, 1, []), (27, .putfield 24, 3, [6, 0, 117]), (30, .return_, 1, [])])
set_option maxRecDepth 20000 in
theorem ckX6_init_0 : ckR mX6_init 0 40 = true := by decide +kernel
set_option maxRecDepth 20000 in
theorem okX6_init : okC mX6_init := ⟨by decide +kernel, memT1 221 rfl rfl, okM.of (n := 1) (Or.inr rfl) (by decide) (fun j hj => by match j, hj with | 0, _ => exact ckX6_init_0 | _ + 1, hj => exact absurd hj (by omega))⟩
set_option maxRecDepth 20000 in
def mX6_read : Mt := (yX6_read, cX6_read, 4, (some .boolean), [6, 131, 1, 0, 804, 805], [(0, .aload_n 0, 1, []), (1, .iload_n 1, 1, []), (2, .putfield 28, 3, [6, 3, 122]), (5, .aload_n 0, 1, []), (6, .iconst (-1), 1, []), (7, .putfield 20, 3, [6, 2, 120]), (10, .aload_n 0, 1, []), (11, .iconst 0, 1, []), (12, .putfield 32, 3, [6, 4, 123]), (15, .aload_n 0, 1, []), (16, .iconst 0, 1, []), (17, .putfield 35, 3, [6, 5, 124]), (20, .aload_n 0, 1, []), (21, .getfield 14, 3, [6, 1, 118]), (24, .invokevirtual 38, 3, []), (27, .aload_n 0, 1, []), (28, .getfield 24, 3, [6, 0, 117]), (31, .invokevirtual 41, 3, []), (34, .iconst 1, 1, []), (35, .istore_n 2, 1, []), (36, .iconst 0, 1, []), (37, .istore_n 3, 1, []), (38, .iload_n 3, 1, []), (39, .bipush 12, 2, []), (41, .if_icmp .ge 68, 3, [55]), (44, .iload_n 2, 1, []), (45, .ifCond .eq 64, 3, [55]), (48, .aload_n 0, 1, []), (49, .getfield 28, 3, [6, 3, 122]), (52, .ifCond .eq 10, 3, [33]), (55, .aload_n 0, 1, []), (56, .invokevirtual 46, 3, []), (59, .goto 7, 3, [35]), (62, .aload_n 0, 1, []), (63, .invokevirtual 49, 3, []), (66, .aload_n 0, 1, []), (67, .sipush 264, 3, []), (70, .invokevirtual 52, 3, []), (73, .ifCond .eq 23, 3, [49]), (76, .aload_n 0, 1, []), (77, .getfield 14, 3, [6, 1, 118]), (80, .iconst 3, 1, []), (81, .invokevirtual 56, 3, []), (84, .aload_n 0, 1, []), (85, .invokevirtual 60, 3, []), (88, .aload_n 0, 1, []), (89, .getfield 14, 3, [6, 1, 118]), (92, .iconst 3, 1, []), (93, .invokevirtual 63, 3, []), (96, .aload_n 0, 1, []), (97, .bipush 59, 2, []), (99, .invokevirtual 52, 3, []), (102, .istore_n 2, 1, []), (103, .iinc 3 1, 3, []), (106, .goto (-68), 3, [22]), (109, .iload_n 2, 1, []), (110, .ifCond .ne 14, 3, [62]), (113, .aload_n 0, 1, []), (114, .getfield 24, 3, [6, 0, 117]), (117, .getfield 66, 3, [10, 6, 92]), (120, .iconst (-1), 1, []), (121, .if_icmp .eq 7, 3, [64]), (124, .aload_n 0, 1, []), (125, .invokevirtual 69, 3, []), (128, .aload_n 0, 1, []), (129, .getfield 20, 3, [6, 2, 120]), (132, .iconst (-1), 1, []), (133, .if_icmp .ne 7, 3, [70]), (136, .iconst 1, 1, []), (137, .goto 4, 3, [71]), (140, .iconst 0, 1, []), (141, .ireturn, 1, [])])
set_option maxRecDepth 20000 in
theorem ckX6_read_0 : ckR mX6_read 0 40 = true := by decide +kernel
set_option maxRecDepth 20000 in
theorem ckX6_read_1 : ckR mX6_read 40 40 = true := by decide +kernel
set_option maxRecDepth 20000 in
theorem okX6_read : okC mX6_read := ⟨by decide +kernel, memT3 200 rfl rfl, okM.of (n := 2) (Or.inr rfl) (by decide) (fun j hj => by match j, hj with | 0, _ => exact ckX6_read_0 | 1, _ => exact ckX6_read_1 | _ + 2, hj => exact absurd hj (by omega))⟩
set_option maxRecDepth 20000 in
def mX6_blame : Mt := (yX6_blame, cX6_blame, 1, none, [6, 131, 0, 0, 926, 15], [(0, .aload_n 0, 1, []), (1, .getfield 20, 3, [6, 2, 120]), (4, .iconst (-1), 1, []), (5, .if_icmp .ne 14, 3, [9]), (8, .aload_n 0, 1, []), (9, .aload_n 0, 1, []), (10, .getfield 24, 3, [6, 0, 117]), (13, .getfield 72, 3, [10, 7, 93]), (16, .putfield 20, 3, [6, 2, 120]), (19, .return_, 1, [])])
set_option maxRecDepth 20000 in
theorem ckX6_blame_0 : ckR mX6_blame 0 40 = true := by decide +kernel
set_option maxRecDepth 20000 in
theorem okX6_blame : okC mX6_blame := ⟨by decide +kernel, memT4 81 rfl rfl, okM.of (n := 1) (Or.inr rfl) (by decide) (fun j hj => by match j, hj with | 0, _ => exact ckX6_blame_0 | _ + 1, hj => exact absurd hj (by omega))⟩
set_option maxRecDepth 20000 in
def mX6_sees : Mt := (yX6_sees, cX6_sees, 2, (some .boolean), [6, 131, 1, 0, 950, 20], [(0, .aload_n 0, 1, []), (1, .getfield 20, 3, [6, 2, 120]), (4, .iconst (-1), 1, []), (5, .if_icmp .ne 18, 3, [11]), (8, .aload_n 0, 1, []), (9, .getfield 24, 3, [6, 0, 117]), (12, .getfield 66, 3, [10, 6, 92]), (15, .iload_n 1, 1, []), (16, .if_icmp .ne 7, 3, [11]), (19, .iconst 1, 1, []), (20, .goto 4, 3, [12]), (23, .iconst 0, 1, []), (24, .ireturn, 1, [])])
set_option maxRecDepth 20000 in
theorem ckX6_sees_0 : ckR mX6_sees 0 40 = true := by decide +kernel
set_option maxRecDepth 20000 in
theorem okX6_sees : okC mX6_sees := ⟨by decide +kernel, memT4 105 rfl rfl, okM.of (n := 1) (Or.inr rfl) (by decide) (fun j hj => by match j, hj with | 0, _ => exact ckX6_sees_0 | _ + 1, hj => exact absurd hj (by omega))⟩
set_option maxRecDepth 20000 in
def mX6_took : Mt := (yX6_took, cX6_took, 3, (some .boolean), [6, 131, 1, 0, 893, 9], [(0, .aload_n 0, 1, []), (1, .getfield 20, 3, [6, 2, 120]), (4, .iconst (-1), 1, []), (5, .if_icmp .ne 18, 3, [11]), (8, .aload_n 0, 1, []), (9, .getfield 24, 3, [6, 0, 117]), (12, .getfield 66, 3, [10, 6, 92]), (15, .iload_n 1, 1, []), (16, .if_icmp .ne 7, 3, [11]), (19, .iconst 1, 1, []), (20, .goto 4, 3, [12]), (23, .iconst 0, 1, []), (24, .istore_n 2, 1, []), (25, .iload_n 2, 1, []), (26, .ifCond .eq 10, 3, [18]), (29, .aload_n 0, 1, []), (30, .getfield 24, 3, [6, 0, 117]), (33, .invokevirtual 75, 3, []), (36, .iload_n 2, 1, []), (37, .ireturn, 1, [])])
set_option maxRecDepth 20000 in
theorem ckX6_took_0 : ckR mX6_took 0 40 = true := by decide +kernel
set_option maxRecDepth 20000 in
theorem okX6_took : okC mX6_took := ⟨by decide +kernel, memT4 48 rfl rfl, okM.of (n := 1) (Or.inr rfl) (by decide) (fun j hj => by match j, hj with | 0, _ => exact ckX6_took_0 | _ + 1, hj => exact absurd hj (by omega))⟩
set_option maxRecDepth 20000 in
def mX6_need : Mt := (yX6_need, cX6_need, 2, none, [6, 131, 1, 0, 930, 16], [(0, .aload_n 0, 1, []), (1, .iload_n 1, 1, []), (2, .invokevirtual 52, 3, []), (5, .ifCond .ne 7, 3, [6]), (8, .aload_n 0, 1, []), (9, .invokevirtual 69, 3, []), (12, .return_, 1, [])])
set_option maxRecDepth 20000 in
theorem ckX6_need_0 : ckR mX6_need 0 40 = true := by decide +kernel
set_option maxRecDepth 20000 in
theorem okX6_need : okC mX6_need := ⟨by decide +kernel, memT4 85 rfl rfl, okM.of (n := 1) (Or.inr rfl) (by decide) (fun j hj => by match j, hj with | 0, _ => exact ckX6_need_0 | _ + 1, hj => exact absurd hj (by omega))⟩
set_option maxRecDepth 20000 in
def mX6_neededNumber : Mt := (yX6_neededNumber, cX6_neededNumber, 4, (some .int), [6, 131, 2, 0, 934, 17], [(0, .aload_n 0, 1, []), (1, .getfield 24, 3, [6, 0, 117]), (4, .getfield 66, 3, [10, 6, 92]), (7, .sipush 1000, 3, []), (10, .isub, 1, []), (11, .istore_n 3, 1, []), (12, .aload_n 0, 1, []), (13, .getfield 20, 3, [6, 2, 120]), (16, .iconst (-1), 1, []), (17, .if_icmp .ne 13, 3, [16]), (20, .iload_n 3, 1, []), (21, .iload_n 1, 1, []), (22, .if_icmp .lt 8, 3, [16]), (25, .iload_n 3, 1, []), (26, .iload_n 2, 1, []), (27, .if_icmp .le 9, 3, [20]), (30, .aload_n 0, 1, []), (31, .invokevirtual 69, 3, []), (34, .iload_n 1, 1, []), (35, .ireturn, 1, []), (36, .aload_n 0, 1, []), (37, .getfield 24, 3, [6, 0, 117]), (40, .invokevirtual 75, 3, []), (43, .iload_n 3, 1, []), (44, .ireturn, 1, [])])
set_option maxRecDepth 20000 in
theorem ckX6_neededNumber_0 : ckR mX6_neededNumber 0 40 = true := by decide +kernel
set_option maxRecDepth 20000 in
theorem okX6_neededNumber : okC mX6_neededNumber := ⟨by decide +kernel, memT4 89 rfl rfl, okM.of (n := 1) (Or.inr rfl) (by decide) (fun j hj => by match j, hj with | 0, _ => exact ckX6_neededNumber_0 | _ + 1, hj => exact absurd hj (by omega))⟩
set_option maxRecDepth 20000 in
def mX6_lawHead : Mt := (yX6_lawHead, cX6_lawHead, 1, none, [6, 131, 0, 0, 962, 21], [(0, .aload_n 0, 1, []), (1, .sipush 257, 3, []), (4, .invokevirtual 52, 3, []), (7, .ifCond .eq 19, 3, [12]), (10, .aload_n 0, 1, []), (11, .getfield 14, 3, [6, 1, 118]), (14, .iconst 0, 1, []), (15, .invokevirtual 78, 3, []), (18, .aload_n 0, 1, []), (19, .iconst 0, 1, []), (20, .invokevirtual 81, 3, []), (23, .goto 54, 3, [35]), (26, .aload_n 0, 1, []), (27, .sipush 258, 3, []), (30, .invokevirtual 52, 3, []), (33, .ifCond .eq 19, 3, [24]), (36, .aload_n 0, 1, []), (37, .getfield 14, 3, [6, 1, 118]), (40, .iconst 1, 1, []), (41, .invokevirtual 78, 3, []), (44, .aload_n 0, 1, []), (45, .iconst 0, 1, []), (46, .invokevirtual 81, 3, []), (49, .goto 28, 3, [35]), (52, .aload_n 0, 1, []), (53, .sipush 259, 3, []), (56, .invokevirtual 52, 3, []), (59, .ifCond .eq 14, 3, [33]), (62, .aload_n 0, 1, []), (63, .getfield 14, 3, [6, 1, 118]), (66, .iconst 2, 1, []), (67, .invokevirtual 78, 3, []), (70, .goto 7, 3, [35]), (73, .aload_n 0, 1, []), (74, .invokevirtual 69, 3, []), (77, .return_, 1, [])])
set_option maxRecDepth 20000 in
theorem ckX6_lawHead_0 : ckR mX6_lawHead 0 40 = true := by decide +kernel
set_option maxRecDepth 20000 in
theorem okX6_lawHead : okC mX6_lawHead := ⟨by decide +kernel, memT4 117 rfl rfl, okM.of (n := 1) (Or.inr rfl) (by decide) (fun j hj => by match j, hj with | 0, _ => exact ckX6_lawHead_0 | _ + 1, hj => exact absurd hj (by omega))⟩
end
section
set_option maxRecDepth 20000 in
def mX6_orderHead : Mt := (yX6_orderHead, cX6_orderHead, 1, none, [6, 131, 0, 0, 889, 8], [(0, .aload_n 0, 1, []), (1, .sipush 260, 3, []), (4, .invokevirtual 52, 3, []), (7, .ifCond .eq 43, 3, [24]), (10, .aload_n 0, 1, []), (11, .getfield 14, 3, [6, 1, 118]), (14, .iconst 3, 1, []), (15, .invokevirtual 78, 3, []), (18, .aload_n 0, 1, []), (19, .iconst 0, 1, []), (20, .invokevirtual 81, 3, []), (23, .aload_n 0, 1, []), (24, .sipush 261, 3, []), (27, .invokevirtual 84, 3, []), (30, .aload_n 0, 1, []), (31, .iconst 1, 1, []), (32, .invokevirtual 81, 3, []), (35, .aload_n 0, 1, []), (36, .sipush 262, 3, []), (39, .invokevirtual 84, 3, []), (42, .aload_n 0, 1, []), (43, .iconst 2, 1, []), (44, .invokevirtual 81, 3, []), (47, .goto 33, 3, [38]), (50, .aload_n 0, 1, []), (51, .sipush 276, 3, []), (54, .invokevirtual 52, 3, []), (57, .ifCond .eq 19, 3, [36]), (60, .aload_n 0, 1, []), (61, .getfield 14, 3, [6, 1, 118]), (64, .iconst 4, 1, []), (65, .invokevirtual 78, 3, []), (68, .aload_n 0, 1, []), (69, .iconst 0, 1, []), (70, .invokevirtual 81, 3, []), (73, .goto 7, 3, [38]), (76, .aload_n 0, 1, []), (77, .invokevirtual 69, 3, []), (80, .aload_n 0, 1, []), (81, .sipush 263, 3, []), (84, .invokevirtual 52, 3, []), (87, .ifCond .eq 17, 3, [49]), (90, .aload_n 0, 1, []), (91, .getfield 14, 3, [6, 1, 118]), (94, .aload_n 0, 1, []), (95, .iconst 1, 1, []), (96, .bipush 20, 2, []), (98, .invokevirtual 87, 3, []), (101, .invokevirtual 91, 3, []), (104, .return_, 1, [])])
set_option maxRecDepth 20000 in
theorem ckX6_orderHead_0 : ckR mX6_orderHead 0 40 = true := by decide +kernel
set_option maxRecDepth 20000 in
theorem ckX6_orderHead_1 : ckR mX6_orderHead 40 40 = true := by decide +kernel
set_option maxRecDepth 20000 in
theorem okX6_orderHead : okC mX6_orderHead := ⟨by decide +kernel, memT4 44 rfl rfl, okM.of (n := 2) (Or.inr rfl) (by decide) (fun j hj => by match j, hj with | 0, _ => exact ckX6_orderHead_0 | 1, _ => exact ckX6_orderHead_1 | _ + 2, hj => exact absurd hj (by omega))⟩
set_option maxRecDepth 20000 in
def mX6_sumInto : Mt := (yX6_sumInto, cX6_sumInto, 2, none, [6, 131, 1, 0, 902, 10], [(0, .aload_n 0, 1, []), (1, .getfield 14, 3, [6, 1, 118]), (4, .iload_n 1, 1, []), (5, .invokevirtual 56, 3, []), (8, .aload_n 0, 1, []), (9, .invokevirtual 94, 3, []), (12, .aload_n 0, 1, []), (13, .getfield 14, 3, [6, 1, 118]), (16, .iload_n 1, 1, []), (17, .invokevirtual 63, 3, []), (20, .return_, 1, [])])
set_option maxRecDepth 20000 in
theorem ckX6_sumInto_0 : ckR mX6_sumInto 0 40 = true := by decide +kernel
set_option maxRecDepth 20000 in
theorem okX6_sumInto : okC mX6_sumInto := ⟨by decide +kernel, memT4 57 rfl rfl, okM.of (n := 1) (Or.inr rfl) (by decide) (fun j hj => by match j, hj with | 0, _ => exact ckX6_sumInto_0 | _ + 1, hj => exact absurd hj (by omega))⟩
set_option maxRecDepth 20000 in
def mX6_test : Mt := (yX6_test, cX6_test, 3, none, [6, 131, 0, 0, 966, 22], [(0, .aload_n 0, 1, []), (1, .invokevirtual 97, 3, []), (4, .iconst 0, 1, []), (5, .istore_n 1, 1, []), (6, .iload_n 1, 1, []), (7, .sipush 400, 3, []), (10, .if_icmp .ge 42, 3, [25]), (13, .aload_n 0, 1, []), (14, .sipush 265, 3, []), (17, .invokevirtual 52, 3, []), (20, .ifCond .eq 32, 3, [25]), (23, .aload_n 0, 1, []), (24, .getfield 14, 3, [6, 1, 118]), (27, .bipush 12, 2, []), (29, .iconst 0, 1, []), (30, .invokevirtual 100, 3, []), (33, .istore_n 2, 1, []), (34, .aload_n 0, 1, []), (35, .invokevirtual 97, 3, []), (38, .aload_n 0, 1, []), (39, .getfield 14, 3, [6, 1, 118]), (42, .iload_n 2, 1, []), (43, .invokevirtual 103, 3, []), (46, .iinc 1 1, 3, []), (49, .goto (-43), 3, [4]), (52, .return_, 1, [])])
set_option maxRecDepth 20000 in
theorem ckX6_test_0 : ckR mX6_test 0 40 = true := by decide +kernel
set_option maxRecDepth 20000 in
theorem okX6_test : okC mX6_test := ⟨by decide +kernel, memT4 121 rfl rfl, okM.of (n := 1) (Or.inr rfl) (by decide) (fun j hj => by match j, hj with | 0, _ => exact ckX6_test_0 | _ + 1, hj => exact absurd hj (by omega))⟩
set_option maxRecDepth 20000 in
def mX6_both : Mt := (yX6_both, cX6_both, 3, none, [6, 131, 0, 0, 970, 23], [(0, .aload_n 0, 1, []), (1, .invokevirtual 106, 3, []), (4, .iconst 0, 1, []), (5, .istore_n 1, 1, []), (6, .iload_n 1, 1, []), (7, .sipush 400, 3, []), (10, .if_icmp .ge 42, 3, [25]), (13, .aload_n 0, 1, []), (14, .sipush 266, 3, []), (17, .invokevirtual 52, 3, []), (20, .ifCond .eq 32, 3, [25]), (23, .aload_n 0, 1, []), (24, .getfield 14, 3, [6, 1, 118]), (27, .bipush 11, 2, []), (29, .iconst 0, 1, []), (30, .invokevirtual 100, 3, []), (33, .istore_n 2, 1, []), (34, .aload_n 0, 1, []), (35, .invokevirtual 106, 3, []), (38, .aload_n 0, 1, []), (39, .getfield 14, 3, [6, 1, 118]), (42, .iload_n 2, 1, []), (43, .invokevirtual 103, 3, []), (46, .iinc 1 1, 3, []), (49, .goto (-43), 3, [4]), (52, .return_, 1, [])])
set_option maxRecDepth 20000 in
theorem ckX6_both_0 : ckR mX6_both 0 40 = true := by decide +kernel
set_option maxRecDepth 20000 in
theorem okX6_both : okC mX6_both := ⟨by decide +kernel, memT4 125 rfl rfl, okM.of (n := 1) (Or.inr rfl) (by decide) (fun j hj => by match j, hj with | 0, _ => exact ckX6_both_0 | _ + 1, hj => exact absurd hj (by omega))⟩
set_option maxRecDepth 20000 in
def mX6_plain : Mt := (yX6_plain, cX6_plain, 3, none, [6, 131, 0, 0, 974, 24], [(0, .iconst 0, 1, []), (1, .istore_n 1, 1, []), (2, .iconst 0, 1, []), (3, .istore_n 2, 1, []), (4, .iload_n 2, 1, []), (5, .sipush 400, 3, []), (8, .if_icmp .ge 29, 3, [19]), (11, .aload_n 0, 1, []), (12, .sipush 267, 3, []), (15, .invokevirtual 52, 3, []), (18, .ifCond .eq 19, 3, [19]), (21, .iload_n 1, 1, []), (22, .ifCond .ne 7, 3, [15]), (25, .iconst 1, 1, []), (26, .goto 4, 3, [16]), (29, .iconst 0, 1, []), (30, .istore_n 1, 1, []), (31, .iinc 2 1, 3, []), (34, .goto (-30), 3, [4]), (37, .aload_n 0, 1, []), (38, .bipush 40, 2, []), (40, .invokevirtual 109, 3, []), (43, .ifCond .eq 26, 3, [35]), (46, .aload_n 0, 1, []), (47, .invokevirtual 60, 3, []), (50, .aload_n 0, 1, []), (51, .bipush 41, 2, []), (53, .invokevirtual 84, 3, []), (56, .aload_n 0, 1, []), (57, .dup, 1, []), (58, .getfield 35, 3, [6, 5, 124]), (61, .iconst 1, 1, []), (62, .isub, 1, []), (63, .putfield 35, 3, [6, 5, 124]), (66, .goto 26, 3, [48]), (69, .aload_n 0, 1, []), (70, .invokevirtual 94, 3, []), (73, .aload_n 0, 1, []), (74, .invokevirtual 112, 3, []), (77, .istore_n 2, 1, []), (78, .aload_n 0, 1, []), (79, .invokevirtual 94, 3, []), (82, .aload_n 0, 1, []), (83, .getfield 14, 3, [6, 1, 118]), (86, .iload_n 2, 1, []), (87, .iconst 0, 1, []), (88, .invokevirtual 100, 3, []), (91, .pop, 1, []), (92, .iload_n 1, 1, []), (93, .ifCond .eq 14, 3, [56]), (96, .aload_n 0, 1, []), (97, .getfield 14, 3, [6, 1, 118]), (100, .bipush 10, 2, []), (102, .iconst 0, 1, []), (103, .invokevirtual 100, 3, []), (106, .pop, 1, []), (107, .return_, 1, [])])
set_option maxRecDepth 20000 in
theorem ckX6_plain_0 : ckR mX6_plain 0 40 = true := by decide +kernel
set_option maxRecDepth 20000 in
theorem ckX6_plain_1 : ckR mX6_plain 40 40 = true := by decide +kernel
set_option maxRecDepth 20000 in
theorem okX6_plain : okC mX6_plain := ⟨by decide +kernel, memT4 129 rfl rfl, okM.of (n := 2) (Or.inr rfl) (by decide) (fun j hj => by match j, hj with | 0, _ => exact ckX6_plain_0 | 1, _ => exact ckX6_plain_1 | _ + 2, hj => exact absurd hj (by omega))⟩
set_option maxRecDepth 20000 in
def mX6_tookComparison : Mt := (yX6_tookComparison, cX6_tookComparison, 1, (some .int), [6, 131, 0, 0, 978, 25], [(0, .aload_n 0, 1, []), (1, .bipush 60, 2, []), (3, .invokevirtual 52, 3, []), (6, .ifCond .eq 6, 3, [6]), (9, .bipush 7, 2, []), (11, .ireturn, 1, []), (12, .aload_n 0, 1, []), (13, .bipush 62, 2, []), (15, .invokevirtual 52, 3, []), (18, .ifCond .eq 6, 3, [12]), (21, .bipush 8, 2, []), (23, .ireturn, 1, []), (24, .aload_n 0, 1, []), (25, .bipush 61, 2, []), (27, .invokevirtual 84, 3, []), (30, .bipush 9, 2, []), (32, .ireturn, 1, [])])
set_option maxRecDepth 20000 in
theorem ckX6_tookComparison_0 : ckR mX6_tookComparison 0 40 = true := by decide +kernel
set_option maxRecDepth 20000 in
theorem okX6_tookComparison : okC mX6_tookComparison := ⟨by decide +kernel, memT4 133 rfl rfl, okM.of (n := 1) (Or.inr rfl) (by decide) (fun j hj => by match j, hj with | 0, _ => exact ckX6_tookComparison_0 | _ + 1, hj => exact absurd hj (by omega))⟩
set_option maxRecDepth 20000 in
def mX6_sum : Mt := (yX6_sum, cX6_sum, 3, none, [6, 131, 0, 0, 910, 11], [(0, .aload_n 0, 1, []), (1, .invokevirtual 116, 3, []), (4, .iconst 0, 1, []), (5, .istore_n 1, 1, []), (6, .iload_n 1, 1, []), (7, .sipush 400, 3, []), (10, .if_icmp .ge 66, 3, [37]), (13, .aload_n 0, 1, []), (14, .bipush 43, 2, []), (16, .invokevirtual 119, 3, []), (19, .ifCond .ne 12, 3, [15]), (22, .aload_n 0, 1, []), (23, .bipush 45, 2, []), (25, .invokevirtual 119, 3, []), (28, .ifCond .eq 48, 3, [37]), (31, .aload_n 0, 1, []), (32, .getfield 24, 3, [6, 0, 117]), (35, .getfield 66, 3, [10, 6, 92]), (38, .bipush 43, 2, []), (40, .if_icmp .ne 7, 3, [22]), (43, .iconst 2, 1, []), (44, .goto 4, 3, [23]), (47, .iconst 3, 1, []), (48, .istore_n 2, 1, []), (49, .aload_n 0, 1, []), (50, .getfield 24, 3, [6, 0, 117]), (53, .invokevirtual 75, 3, []), (56, .aload_n 0, 1, []), (57, .invokevirtual 116, 3, []), (60, .aload_n 0, 1, []), (61, .getfield 14, 3, [6, 1, 118]), (64, .iload_n 2, 1, []), (65, .iconst 0, 1, []), (66, .invokevirtual 100, 3, []), (69, .pop, 1, []), (70, .iinc 1 1, 3, []), (73, .goto (-67), 3, [4]), (76, .return_, 1, [])])
set_option maxRecDepth 20000 in
theorem ckX6_sum_0 : ckR mX6_sum 0 40 = true := by decide +kernel
set_option maxRecDepth 20000 in
theorem okX6_sum : okC mX6_sum := ⟨by decide +kernel, memT4 65 rfl rfl, okM.of (n := 1) (Or.inr rfl) (by decide) (fun j hj => by match j, hj with | 0, _ => exact ckX6_sum_0 | _ + 1, hj => exact absurd hj (by omega))⟩
set_option maxRecDepth 20000 in
def mX6_term : Mt := (yX6_term, cX6_term, 3, none, [6, 131, 0, 0, 914, 12], [(0, .aload_n 0, 1, []), (1, .invokevirtual 122, 3, []), (4, .iconst 0, 1, []), (5, .istore_n 1, 1, []), (6, .iload_n 1, 1, []), (7, .sipush 400, 3, []), (10, .if_icmp .ge 92, 3, [48]), (13, .aload_n 0, 1, []), (14, .bipush 42, 2, []), (16, .invokevirtual 119, 3, []), (19, .ifCond .ne 21, 3, [19]), (22, .aload_n 0, 1, []), (23, .bipush 47, 2, []), (25, .invokevirtual 119, 3, []), (28, .ifCond .ne 12, 3, [19]), (31, .aload_n 0, 1, []), (32, .bipush 37, 2, []), (34, .invokevirtual 119, 3, []), (37, .ifCond .eq 65, 3, [48]), (40, .aload_n 0, 1, []), (41, .getfield 24, 3, [6, 0, 117]), (44, .getfield 66, 3, [10, 6, 92]), (47, .bipush 42, 2, []), (49, .if_icmp .ne 7, 3, [26]), (52, .iconst 4, 1, []), (53, .goto 21, 3, [34]), (56, .aload_n 0, 1, []), (57, .getfield 24, 3, [6, 0, 117]), (60, .getfield 66, 3, [10, 6, 92]), (63, .bipush 47, 2, []), (65, .if_icmp .ne 7, 3, [33]), (68, .iconst 5, 1, []), (69, .goto 5, 3, [34]), (72, .bipush 6, 2, []), (74, .istore_n 2, 1, []), (75, .aload_n 0, 1, []), (76, .getfield 24, 3, [6, 0, 117]), (79, .invokevirtual 75, 3, []), (82, .aload_n 0, 1, []), (83, .invokevirtual 122, 3, []), (86, .aload_n 0, 1, []), (87, .getfield 14, 3, [6, 1, 118]), (90, .iload_n 2, 1, []), (91, .iconst 0, 1, []), (92, .invokevirtual 100, 3, []), (95, .pop, 1, []), (96, .iinc 1 1, 3, []), (99, .goto (-93), 3, [4]), (102, .return_, 1, [])])
set_option maxRecDepth 20000 in
theorem ckX6_term_0 : ckR mX6_term 0 40 = true := by decide +kernel
set_option maxRecDepth 20000 in
theorem ckX6_term_1 : ckR mX6_term 40 40 = true := by decide +kernel
set_option maxRecDepth 20000 in
theorem okX6_term : okC mX6_term := ⟨by decide +kernel, memT4 69 rfl rfl, okM.of (n := 2) (Or.inr rfl) (by decide) (fun j hj => by match j, hj with | 0, _ => exact ckX6_term_0 | 1, _ => exact ckX6_term_1 | _ + 2, hj => exact absurd hj (by omega))⟩
set_option maxRecDepth 20000 in
def mX6_part : Mt := (yX6_part, cX6_part, 1, none, [6, 131, 0, 0, 918, 13], [(0, .aload_n 0, 1, []), (1, .bipush 91, 2, []), (3, .invokevirtual 109, 3, []), (6, .ifCond .eq 24, 3, [16]), (9, .aload_n 0, 1, []), (10, .invokevirtual 94, 3, []), (13, .aload_n 0, 1, []), (14, .bipush 93, 2, []), (16, .invokevirtual 84, 3, []), (19, .aload_n 0, 1, []), (20, .dup, 1, []), (21, .getfield 35, 3, [6, 5, 124]), (24, .iconst 1, 1, []), (25, .isub, 1, []), (26, .putfield 35, 3, [6, 5, 124]), (29, .return_, 1, []), (30, .aload_n 0, 1, []), (31, .getfield 32, 3, [6, 4, 123]), (34, .bipush 50, 2, []), (36, .if_icmp .lt 7, 3, [22]), (39, .aload_n 0, 1, []), (40, .invokevirtual 69, 3, []), (43, .aload_n 0, 1, []), (44, .getfield 20, 3, [6, 2, 120]), (47, .iconst (-1), 1, []), (48, .if_icmp .eq 4, 3, [27]), (51, .return_, 1, []), (52, .aload_n 0, 1, []), (53, .dup, 1, []), (54, .getfield 32, 3, [6, 4, 123]), (57, .iconst 1, 1, []), (58, .iadd, 1, []), (59, .putfield 32, 3, [6, 4, 123]), (62, .aload_n 0, 1, []), (63, .getfield 24, 3, [6, 0, 117]), (66, .getfield 66, 3, [10, 6, 92]), (69, .sipush 1000, 3, []), (72, .if_icmp .lt 23, 3, [48]), (75, .aload_n 0, 1, []), (76, .getfield 14, 3, [6, 1, 118]), (79, .iconst 0, 1, []), (80, .aload_n 0, 1, []), (81, .iconst 0, 1, []), (82, .sipush 1000, 3, []), (85, .invokevirtual 87, 3, []), (88, .invokevirtual 100, 3, []), (91, .pop, 1, []), (92, .goto 30, 3, [61]), (95, .aload_n 0, 1, []), (96, .getfield 14, 3, [6, 1, 118]), (99, .iconst 1, 1, []), (100, .aload_n 0, 1, []), (101, .getfield 28, 3, [6, 3, 122]), (104, .ifCond .eq 10, 3, [57]), (107, .aload_n 0, 1, []), (108, .invokevirtual 125, 3, []), (111, .goto 7, 3, [59]), (114, .aload_n 0, 1, []), (115, .invokevirtual 128, 3, []), (118, .invokevirtual 100, 3, []), (121, .pop, 1, []), (122, .return_, 1, [])])
set_option maxRecDepth 20000 in
theorem ckX6_part_0 : ckR mX6_part 0 40 = true := by decide +kernel
set_option maxRecDepth 20000 in
theorem ckX6_part_1 : ckR mX6_part 40 40 = true := by decide +kernel
set_option maxRecDepth 20000 in
theorem okX6_part : okC mX6_part := ⟨by decide +kernel, memT4 73 rfl rfl, okM.of (n := 2) (Or.inr rfl) (by decide) (fun j hj => by match j, hj with | 0, _ => exact ckX6_part_0 | 1, _ => exact ckX6_part_1 | _ + 2, hj => exact absurd hj (by omega))⟩
set_option maxRecDepth 20000 in
def mX6_entered : Mt := (yX6_entered, cX6_entered, 2, (some .boolean), [6, 131, 1, 0, 922, 14], [(0, .aload_n 0, 1, []), (1, .getfield 20, 3, [6, 2, 120]), (4, .iconst (-1), 1, []), (5, .if_icmp .ne 14, 3, [9]), (8, .aload_n 0, 1, []), (9, .getfield 24, 3, [6, 0, 117]), (12, .getfield 66, 3, [10, 6, 92]), (15, .iload_n 1, 1, []), (16, .if_icmp .eq 5, 3, [11]), (19, .iconst 0, 1, []), (20, .ireturn, 1, []), (21, .aload_n 0, 1, []), (22, .getfield 35, 3, [6, 5, 124]), (25, .bipush 8, 2, []), (27, .if_icmp .lt 9, 3, [19]), (30, .aload_n 0, 1, []), (31, .invokevirtual 69, 3, []), (34, .iconst 0, 1, []), (35, .ireturn, 1, []), (36, .aload_n 0, 1, []), (37, .dup, 1, []), (38, .getfield 35, 3, [6, 5, 124]), (41, .iconst 1, 1, []), (42, .iadd, 1, []), (43, .putfield 35, 3, [6, 5, 124]), (46, .aload_n 0, 1, []), (47, .getfield 24, 3, [6, 0, 117]), (50, .invokevirtual 75, 3, []), (53, .iconst 1, 1, []), (54, .ireturn, 1, [])])
set_option maxRecDepth 20000 in
theorem ckX6_entered_0 : ckR mX6_entered 0 40 = true := by decide +kernel
set_option maxRecDepth 20000 in
theorem okX6_entered : okC mX6_entered := ⟨by decide +kernel, memT4 77 rfl rfl, okM.of (n := 1) (Or.inr rfl) (by decide) (fun j hj => by match j, hj with | 0, _ => exact ckX6_entered_0 | _ + 1, hj => exact absurd hj (by omega))⟩
set_option maxRecDepth 20000 in
def mX6_lawWord : Mt := (yX6_lawWord, cX6_lawWord, 2, (some .int), [6, 131, 0, 0, 946, 19], [(0, .aload_n 0, 1, []), (1, .getfield 24, 3, [6, 0, 117]), (4, .getfield 66, 3, [10, 6, 92]), (7, .sipush 268, 3, []), (10, .isub, 1, []), (11, .istore_n 1, 1, []), (12, .iload_n 1, 1, []), (13, .ifCond .lt 9, 3, [11]), (16, .iload_n 1, 1, []), (17, .bipush 10, 2, []), (19, .if_icmp .lt 9, 3, [15]), (22, .aload_n 0, 1, []), (23, .invokevirtual 69, 3, []), (26, .iconst 0, 1, []), (27, .ireturn, 1, []), (28, .aload_n 0, 1, []), (29, .getfield 24, 3, [6, 0, 117]), (32, .invokevirtual 75, 3, []), (35, .iload_n 1, 1, []), (36, .ireturn, 1, [])])
set_option maxRecDepth 20000 in
theorem ckX6_lawWord_0 : ckR mX6_lawWord 0 40 = true := by decide +kernel
set_option maxRecDepth 20000 in
theorem okX6_lawWord : okC mX6_lawWord := ⟨by decide +kernel, memT4 101 rfl rfl, okM.of (n := 1) (Or.inr rfl) (by decide) (fun j hj => by match j, hj with | 0, _ => exact ckX6_lawWord_0 | _ + 1, hj => exact absurd hj (by omega))⟩
set_option maxRecDepth 20000 in
def mX6_orderWord : Mt := (yX6_orderWord, cX6_orderWord, 3, (some .int), [6, 131, 0, 0, 942, 18], [(0, .aload_n 0, 1, []), (1, .getfield 24, 3, [6, 0, 117]), (4, .getfield 66, 3, [10, 6, 92]), (7, .istore_n 1, 1, []), (8, .iload_n 1, 1, []), (9, .sipush 278, 3, []), (12, .if_icmp .lt 10, 3, [10]), (15, .iload_n 1, 1, []), (16, .sipush 283, 3, []), (19, .if_icmp .le 9, 3, [14]), (22, .aload_n 0, 1, []), (23, .invokevirtual 69, 3, []), (26, .iconst 0, 1, []), (27, .ireturn, 1, []), (28, .aload_n 0, 1, []), (29, .getfield 24, 3, [6, 0, 117]), (32, .invokevirtual 75, 3, []), (35, .iload_n 1, 1, []), (36, .sipush 282, 3, []), (39, .if_icmp .ge 11, 3, [26]), (42, .iconst 0, 1, []), (43, .iload_n 1, 1, []), (44, .iadd, 1, []), (45, .sipush 278, 3, []), (48, .isub, 1, []), (49, .ireturn, 1, []), (50, .aload_n 0, 1, []), (51, .iconst 0, 1, []), (52, .bipush 15, 2, []), (54, .invokevirtual 87, 3, []), (57, .istore_n 2, 1, []), (58, .iload_n 1, 1, []), (59, .sipush 282, 3, []), (62, .if_icmp .ne 7, 3, [38]), (65, .iconst 4, 1, []), (66, .iload_n 2, 1, []), (67, .iadd, 1, []), (68, .ireturn, 1, []), (69, .bipush 20, 2, []), (71, .iload_n 2, 1, []), (72, .bipush 16, 2, []), (74, .imul, 1, []), (75, .iadd, 1, []), (76, .aload_n 0, 1, []), (77, .iconst 0, 1, []), (78, .bipush 15, 2, []), (80, .invokevirtual 87, 3, []), (83, .iadd, 1, []), (84, .ireturn, 1, [])])
set_option maxRecDepth 20000 in
theorem ckX6_orderWord_0 : ckR mX6_orderWord 0 40 = true := by decide +kernel
set_option maxRecDepth 20000 in
theorem ckX6_orderWord_1 : ckR mX6_orderWord 40 40 = true := by decide +kernel
set_option maxRecDepth 20000 in
theorem okX6_orderWord : okC mX6_orderWord := ⟨by decide +kernel, memT4 97 rfl rfl, okM.of (n := 2) (Or.inr rfl) (by decide) (fun j hj => by match j, hj with | 0, _ => exact ckX6_orderWord_0 | 1, _ => exact ckX6_orderWord_1 | _ + 2, hj => exact absurd hj (by omega))⟩
set_option maxRecDepth 20000 in
def mX7_init : Mt := (yX7_init, cX7_init, 1, none, [7, 136, 0, 2, 470], [(0, .aload_n 0, 1, []), (1, .invokespecial 3, 3, []), (4, .aload_n 0, 1, []), (5, .bipush 51, 2, []), (7, .newarray .long, 2, []), (9, .putfield 9, 3, [7, 0, 136]), (12, .return_, 1, [])])
set_option maxRecDepth 20000 in
theorem ckX7_init_0 : ckR mX7_init 0 40 = true := by decide +kernel
set_option maxRecDepth 20000 in
theorem okX7_init : okC mX7_init := ⟨by decide +kernel, memT2 105 rfl rfl, okM.of (n := 1) (Or.inr rfl) (by decide) (fun j hj => by match j, hj with | 0, _ => exact ckX7_init_0 | _ + 1, hj => exact absurd hj (by omega))⟩
set_option maxRecDepth 20000 in
def mX7_reckon : Mt := (yX7_reckon, cX7_reckon, 11, (some .boolean), [7, 136, 3, 0, 715, 716], [(0, .iload_n 2, 1, []), (1, .ifCond .lt 12, 3, [7]), (4, .iload_n 2, 1, []), (5, .aload_n 1, 1, []), (6, .getfield 15, 3, [8, 4, 106]), (9, .arraylength, 1, []), (10, .if_icmp .lt 5, 3, [9]), (13, .iconst 0, 1, []), (14, .ireturn, 1, []), (15, .iconst 0, 1, []), (16, .istore 4, 2, []), (18, .aload_n 1, 1, []), (19, .getfield 21, 3, [8, 5, 109]), (22, .iload_n 2, 1, []), (23, .iaload, 1, []), (24, .aload_n 1, 1, []), (25, .getfield 24, 3, [8, 1, 99]), (28, .invokestatic 28, 3, []), (31, .istore 5, 2, []), (33, .iconst 0, 1, []), (34, .aload_n 1, 1, []), (35, .getfield 15, 3, [8, 4, 106]), (38, .iload_n 2, 1, []), (39, .iaload, 1, []), (40, .invokestatic 34, 3, []), (43, .istore 6, 2, []), (45, .iload 6, 2, []), (47, .iload 5, 2, []), (49, .if_icmp .ge 282, 3, [178]), (52, .aload_n 1, 1, []), (53, .getfield 37, 3, [8, 6, 112]), (56, .iload 6, 2, []), (58, .iaload, 1, []), (59, .istore 7, 2, []), (61, .aload_n 1, 1, []), (62, .getfield 40, 3, [8, 7, 115]), (65, .iload 6, 2, []), (67, .iaload, 1, []), (68, .istore 8, 2, []), (70, .iload 7, 2, []), (72, .ifCond .eq 9, 3, [44]), (75, .iload 7, 2, []), (77, .iconst 1, 1, []), (78, .if_icmp .ne 62, 3, [75]), (81, .iload 4, 2, []), (83, .aload_n 0, 1, []), (84, .getfield 9, 3, [7, 0, 136]), (87, .arraylength, 1, []), (88, .if_icmp .ge 21, 3, [58]), (91, .iload 7, 2, []), (93, .iconst 1, 1, []), (94, .if_icmp .ne 17, 3, [60]), (97, .iload 8, 2, []), (99, .ifCond .lt 10, 3, [58]), (102, .iload 8, 2, []), (104, .aload_n 3, 1, []), (105, .arraylength, 1, []), (106, .if_icmp .lt 5, 3, [60]), (109, .iconst 0, 1, []), (110, .ireturn, 1, []), (111, .aload_n 0, 1, []), (112, .getfield 9, 3, [7, 0, 136]), (115, .iload 4, 2, []), (117, .iload 7, 2, []), (119, .ifCond .ne 9, 3, [68]), (122, .iload 8, 2, []), (124, .i2l, 1, []), (125, .goto 8, 3, [72]), (128, .aload_n 3, 1, []), (129, .iload 8, 2, []), (131, .iaload, 1, []), (132, .i2l, 1, []), (133, .lastore, 1, []), (134, .iinc 4 1, 3, []), (137, .goto 188, 3, [176]), (140, .iload 4, 2, []), (142, .iconst 1, 1, []), (143, .if_icmp .ge 5, 3, [80]), (146, .iconst 0, 1, []), (147, .ireturn, 1, []), (148, .iload 7, 2, []), (150, .bipush 10, 2, []), (152, .if_icmp .ne 26, 3, [98]), (155, .aload_n 0, 1, []), (156, .getfield 9, 3, [7, 0, 136]), (159, .iload 4, 2, []), (161, .iconst 1, 1, []), (162, .isub, 1, []), (163, .lconst 1, 1, []), (164, .aload_n 0, 1, []), (165, .getfield 9, 3, [7, 0, 136]), (168, .iload 4, 2, []), (170, .iconst 1, 1, []), (171, .isub, 1, []), (172, .laload, 1, []), (173, .lsub, 1, []), (174, .lastore, 1, []), (175, .goto 150, 3, [176]), (178, .iload 7, 2, []), (180, .bipush 11, 2, []), (182, .if_icmp .eq 10, 3, [104]), (185, .iload 7, 2, []), (187, .bipush 12, 2, []), (189, .if_icmp .ne 69, 3, [138]), (192, .aload_n 0, 1, []), (193, .getfield 9, 3, [7, 0, 136]), (196, .iload 4, 2, []), (198, .iconst 1, 1, []), (199, .isub, 1, []), (200, .laload, 1, []), (201, .lconst 1, 1, []), (202, .lcmp, 1, []), (203, .ifCond .ne 7, 3, [115]), (206, .iconst 1, 1, []), (207, .goto 4, 3, [116]), (210, .iconst 0, 1, []), (211, .iload 7, 2, []), (213, .bipush 12, 2, []), (215, .if_icmp .ne 7, 3, [121]), (218, .iconst 1, 1, []), (219, .goto 4, 3, [122]), (222, .iconst 0, 1, []), (223, .if_icmp .ne 7, 3, [125]), (226, .iconst 1, 1, []), (227, .goto 4, 3, [126]), (230, .iconst 0, 1, []), (231, .istore 9, 2, []), (233, .iload 9, 2, []), (235, .ifCond .eq 17, 3, [136]), (238, .iload 6, 2, []), (240, .iload 8, 2, []), (242, .iconst 1, 1, []), (243, .isub, 1, []), (244, .invokestatic 34, 3, []), (247, .istore 6, 2, []), (249, .goto 6, 3, [137]), (252, .iinc 4 (-1), 3, []), (255, .goto 70, 3, [176]), (258, .iload 4, 2, []), (260, .iconst 2, 1, []), (261, .if_icmp .ge 5, 3, [143]), (264, .iconst 0, 1, []), (265, .ireturn, 1, []), (266, .iload 7, 2, []), (268, .aload_n 0, 1, []), (269, .getfield 9, 3, [7, 0, 136]), (272, .iload 4, 2, []), (274, .iconst 2, 1, []), (275, .isub, 1, []), (276, .laload, 1, []), (277, .aload_n 0, 1, []), (278, .getfield 9, 3, [7, 0, 136]), (281, .iload 4, 2, []), (283, .iconst 1, 1, []), (284, .isub, 1, []), (285, .laload, 1, []), (286, .invokestatic 43, 3, []), (289, .lstore 9, 2, []), (291, .lload 9, 2, []), (293, .ldc2_w 47, 3, []), (296, .lcmp, 1, []), (297, .ifCond .gt 12, 3, [166]), (300, .lload 9, 2, []), (302, .ldc2_w 49, 3, []), (305, .lcmp, 1, []), (306, .ifCond .ge 5, 3, [168]), (309, .iconst 0, 1, []), (310, .ireturn, 1, []), (311, .iinc 4 (-1), 3, []), (314, .aload_n 0, 1, []), (315, .getfield 9, 3, [7, 0, 136]), (318, .iload 4, 2, []), (320, .iconst 1, 1, []), (321, .isub, 1, []), (322, .lload 9, 2, []), (324, .lastore, 1, []), (325, .iinc 6 1, 3, []), (328, .goto (-283), 3, [26]), (331, .aload_n 0, 1, []), (332, .aload_n 0, 1, []), (333, .getfield 9, 3, [7, 0, 136]), (336, .iconst 0, 1, []), (337, .laload, 1, []), (338, .l2i, 1, []), (339, .putfield 51, 3, [7, 1, 137]), (342, .iload 4, 2, []), (344, .iconst 1, 1, []), (345, .if_icmp .ne 7, 3, [190]), (348, .iconst 1, 1, []), (349, .goto 4, 3, [191]), (352, .iconst 0, 1, []), (353, .ireturn, 1, [])])
set_option maxRecDepth 20000 in
theorem ckX7_reckon_0 : ckR mX7_reckon 0 40 = true := by decide +kernel
set_option maxRecDepth 20000 in
theorem ckX7_reckon_1 : ckR mX7_reckon 40 40 = true := by decide +kernel
set_option maxRecDepth 20000 in
theorem ckX7_reckon_2 : ckR mX7_reckon 80 40 = true := by decide +kernel
set_option maxRecDepth 20000 in
theorem ckX7_reckon_3 : ckR mX7_reckon 120 40 = true := by decide +kernel
set_option maxRecDepth 20000 in
theorem ckX7_reckon_4 : ckR mX7_reckon 160 40 = true := by decide +kernel
set_option maxRecDepth 20000 in
theorem okX7_reckon : okC mX7_reckon := ⟨by decide +kernel, memT3 111 rfl rfl, okM.of (n := 5) (Or.inr rfl) (by decide) (fun j hj => by match j, hj with | 0, _ => exact ckX7_reckon_0 | 1, _ => exact ckX7_reckon_1 | 2, _ => exact ckX7_reckon_2 | 3, _ => exact ckX7_reckon_3 | 4, _ => exact ckX7_reckon_4 | _ + 5, hj => exact absurd hj (by omega))⟩
set_option maxRecDepth 20000 in
def mX7_combined : Mt := (yX7_combined, cX7_combined, 5, (some .long), [7, 136, 3, 1, 721], [(0, .iload_n 0, 1, []), (1, .tableswitch 111 2 8 #[43, 47, 51, 55, 71, 87, 99], 43, []), (44, .lload_n 1, 1, []), (45, .lload_n 3, 1, []), (46, .ladd, 1, []), (47, .lreturn, 1, []), (48, .lload_n 1, 1, []), (49, .lload_n 3, 1, []), (50, .lsub, 1, []), (51, .lreturn, 1, []), (52, .lload_n 1, 1, []), (53, .lload_n 3, 1, []), (54, .lmul, 1, []), (55, .lreturn, 1, []), (56, .lload_n 3, 1, []), (57, .lconst 0, 1, []), (58, .lcmp, 1, []), (59, .ifCond .ne 9, 3, [20]), (62, .ldc2_w 54, 3, []), (65, .goto 6, 3, [23]), (68, .lload_n 1, 1, []), (69, .lload_n 3, 1, []), (70, .ldiv, 1, []), (71, .lreturn, 1, []), (72, .lload_n 3, 1, []), (73, .lconst 0, 1, []), (74, .lcmp, 1, []), (75, .ifCond .ne 9, 3, [30]), (78, .ldc2_w 54, 3, []), (81, .goto 6, 3, [33]), (84, .lload_n 1, 1, []), (85, .lload_n 3, 1, []), (86, .lrem, 1, []), (87, .lreturn, 1, []), (88, .lload_n 1, 1, []), (89, .lload_n 3, 1, []), (90, .lcmp, 1, []), (91, .ifCond .ge 7, 3, [40]), (94, .lconst 1, 1, []), (95, .goto 4, 3, [41]), (98, .lconst 0, 1, []), (99, .lreturn, 1, []), (100, .lload_n 1, 1, []), (101, .lload_n 3, 1, []), (102, .lcmp, 1, []), (103, .ifCond .le 7, 3, [48]), (106, .lconst 1, 1, []), (107, .goto 4, 3, [49]), (110, .lconst 0, 1, []), (111, .lreturn, 1, []), (112, .lload_n 1, 1, []), (113, .lload_n 3, 1, []), (114, .lcmp, 1, []), (115, .ifCond .ne 7, 3, [56]), (118, .lconst 1, 1, []), (119, .goto 4, 3, [57]), (122, .lconst 0, 1, []), (123, .lreturn, 1, [])])
set_option maxRecDepth 20000 in
theorem ckX7_combined_0 : ckR mX7_combined 0 40 = true := by decide +kernel
set_option maxRecDepth 20000 in
theorem ckX7_combined_1 : ckR mX7_combined 40 40 = true := by decide +kernel
set_option maxRecDepth 20000 in
theorem okX7_combined : okC mX7_combined := ⟨by decide +kernel, memT3 116 rfl rfl, okM.of (n := 2) (Or.inr rfl) (by decide) (fun j hj => by match j, hj with | 0, _ => exact ckX7_combined_0 | 1, _ => exact ckX7_combined_1 | _ + 2, hj => exact absurd hj (by omega))⟩
set_option maxRecDepth 20000 in
def mX8_init : Mt := (yX8_init, cX8_init, 5, none, [8, 132, 2, 2, 352], [(0, .aload_n 0, 1, []), (1, .invokespecial 3, 3, []), (4, .iload_n 1, 1, []), (5, .iconst 0, 1, []), (6, .bipush 12, 2, []), (8, .invokestatic 9, 3, []), (11, .istore_n 3, 1, []), (12, .iload_n 2, 1, []), (13, .iconst 0, 1, []), (14, .sipush 400, 3, []), (17, .invokestatic 9, 3, []), (20, .istore 4, 2, []), (22, .aload_n 0, 1, []), (23, .iload_n 3, 1, []), (24, .newarray .int, 2, []), (26, .putfield 13, 3, [8, 2, 100]), (29, .aload_n 0, 1, []), (30, .iload_n 3, 1, []), (31, .newarray .int, 2, []), (33, .putfield 19, 3, [8, 3, 103]), (36, .aload_n 0, 1, []), (37, .iload_n 3, 1, []), (38, .iconst 4, 1, []), (39, .imul, 1, []), (40, .newarray .int, 2, []), (42, .putfield 22, 3, [8, 4, 105]), (45, .aload_n 0, 1, []), (46, .iload_n 3, 1, []), (47, .iconst 4, 1, []), (48, .imul, 1, []), (49, .newarray .int, 2, []), (51, .putfield 25, 3, [8, 5, 108]), (54, .aload_n 0, 1, []), (55, .iload 4, 2, []), (57, .newarray .int, 2, []), (59, .putfield 28, 3, [8, 6, 111]), (62, .aload_n 0, 1, []), (63, .iload 4, 2, []), (65, .newarray .int, 2, []), (67, .putfield 31, 3, [8, 7, 114]), (70, .return_, 1, [])])
set_option maxRecDepth 20000 in
theorem ckX8_init_0 : ckR mX8_init 0 40 = true := by decide +kernel
set_option maxRecDepth 20000 in
theorem ckX8_init_1 : ckR mX8_init 40 40 = true := by decide +kernel
set_option maxRecDepth 20000 in
theorem okX8_init : okC mX8_init := ⟨by decide +kernel, memT1 227 rfl rfl, okM.of (n := 2) (Or.inr rfl) (by decide) (fun j hj => by match j, hj with | 0, _ => exact ckX8_init_0 | 1, _ => exact ckX8_init_1 | _ + 2, hj => exact absurd hj (by omega))⟩
set_option maxRecDepth 20000 in
def mX8_trimmed : Mt := (yX8_trimmed, cX8_trimmed, 2, (some (.object "BoughtKin$Script")), [8, 132, 0, 0, 985, 986], [(0, .new 14, 3, [8, 988, 350, 132]), (3, .dup, 1, []), (4, .aload_n 0, 1, []), (5, .getfield 34, 3, [8, 0, 95]), (8, .aload_n 0, 1, []), (9, .getfield 38, 3, [8, 1, 98]), (12, .invokespecial 41, 3, []), (15, .astore_n 1, 1, []), (16, .aload_n 1, 1, []), (17, .aload_n 0, 1, []), (18, .getfield 34, 3, [8, 0, 95]), (21, .putfield 34, 3, [8, 0, 95]), (24, .aload_n 1, 1, []), (25, .aload_n 0, 1, []), (26, .getfield 38, 3, [8, 1, 98]), (29, .putfield 38, 3, [8, 1, 98]), (32, .aload_n 0, 1, []), (33, .getfield 13, 3, [8, 2, 100]), (36, .iconst 0, 1, []), (37, .aload_n 1, 1, []), (38, .getfield 13, 3, [8, 2, 100]), (41, .iconst 0, 1, []), (42, .aload_n 0, 1, []), (43, .getfield 34, 3, [8, 0, 95]), (46, .invokestatic 44, 3, []), (49, .aload_n 0, 1, []), (50, .getfield 19, 3, [8, 3, 103]), (53, .iconst 0, 1, []), (54, .aload_n 1, 1, []), (55, .getfield 19, 3, [8, 3, 103]), (58, .iconst 0, 1, []), (59, .aload_n 0, 1, []), (60, .getfield 34, 3, [8, 0, 95]), (63, .invokestatic 44, 3, []), (66, .aload_n 0, 1, []), (67, .getfield 22, 3, [8, 4, 105]), (70, .iconst 0, 1, []), (71, .aload_n 1, 1, []), (72, .getfield 22, 3, [8, 4, 105]), (75, .iconst 0, 1, []), (76, .aload_n 0, 1, []), (77, .getfield 34, 3, [8, 0, 95]), (80, .iconst 4, 1, []), (81, .imul, 1, []), (82, .invokestatic 44, 3, []), (85, .aload_n 0, 1, []), (86, .getfield 25, 3, [8, 5, 108]), (89, .iconst 0, 1, []), (90, .aload_n 1, 1, []), (91, .getfield 25, 3, [8, 5, 108]), (94, .iconst 0, 1, []), (95, .aload_n 0, 1, []), (96, .getfield 34, 3, [8, 0, 95]), (99, .iconst 4, 1, []), (100, .imul, 1, []), (101, .invokestatic 44, 3, []), (104, .aload_n 0, 1, []), (105, .getfield 28, 3, [8, 6, 111]), (108, .iconst 0, 1, []), (109, .aload_n 1, 1, []), (110, .getfield 28, 3, [8, 6, 111]), (113, .iconst 0, 1, []), (114, .aload_n 0, 1, []), (115, .getfield 38, 3, [8, 1, 98]), (118, .invokestatic 44, 3, []), (121, .aload_n 0, 1, []), (122, .getfield 31, 3, [8, 7, 114]), (125, .iconst 0, 1, []), (126, .aload_n 1, 1, []), (127, .getfield 31, 3, [8, 7, 114]), (130, .iconst 0, 1, []), (131, .aload_n 0, 1, []), (132, .getfield 38, 3, [8, 1, 98]), (135, .invokestatic 44, 3, []), (138, .aload_n 1, 1, []), (139, .areturn, 1, [])])
set_option maxRecDepth 20000 in
theorem ckX8_trimmed_0 : ckR mX8_trimmed 0 40 = true := by decide +kernel
set_option maxRecDepth 20000 in
theorem ckX8_trimmed_1 : ckR mX8_trimmed 40 40 = true := by decide +kernel
set_option maxRecDepth 20000 in
theorem okX8_trimmed : okC mX8_trimmed := ⟨by decide +kernel, memT4 141 rfl rfl, okM.of (n := 2) (Or.inr rfl) (by decide) (fun j hj => by match j, hj with | 0, _ => exact ckX8_trimmed_0 | 1, _ => exact ckX8_trimmed_1 | _ + 2, hj => exact absurd hj (by omega))⟩
set_option maxRecDepth 20000 in
def mX8_clear : Mt := (yX8_clear, cX8_clear, 1, none, [8, 132, 0, 0, 808, 809], [(0, .aload_n 0, 1, []), (1, .iconst 0, 1, []), (2, .putfield 34, 3, [8, 0, 95]), (5, .aload_n 0, 1, []), (6, .iconst 0, 1, []), (7, .putfield 38, 3, [8, 1, 98]), (10, .return_, 1, [])])
set_option maxRecDepth 20000 in
theorem ckX8_clear_0 : ckR mX8_clear 0 40 = true := by decide +kernel
set_option maxRecDepth 20000 in
theorem okX8_clear : okC mX8_clear := ⟨by decide +kernel, memT3 204 rfl rfl, okM.of (n := 1) (Or.inr rfl) (by decide) (fun j hj => by match j, hj with | 0, _ => exact ckX8_clear_0 | _ + 1, hj => exact absurd hj (by omega))⟩
set_option maxRecDepth 20000 in
def mX8_begin : Mt := (yX8_begin, cX8_begin, 3, none, [8, 132, 1, 0, 897, 898], [(0, .aload_n 0, 1, []), (1, .getfield 34, 3, [8, 0, 95]), (4, .aload_n 0, 1, []), (5, .getfield 13, 3, [8, 2, 100]), (8, .arraylength, 1, []), (9, .if_icmp .lt 4, 3, [7]), (12, .return_, 1, []), (13, .aload_n 0, 1, []), (14, .getfield 13, 3, [8, 2, 100]), (17, .aload_n 0, 1, []), (18, .getfield 34, 3, [8, 0, 95]), (21, .iload_n 1, 1, []), (22, .iastore, 1, []), (23, .aload_n 0, 1, []), (24, .getfield 19, 3, [8, 3, 103]), (27, .aload_n 0, 1, []), (28, .getfield 34, 3, [8, 0, 95]), (31, .iconst 1, 1, []), (32, .iastore, 1, []), (33, .aload_n 0, 1, []), (34, .getfield 34, 3, [8, 0, 95]), (37, .iconst 4, 1, []), (38, .imul, 1, []), (39, .istore_n 2, 1, []), (40, .iload_n 2, 1, []), (41, .aload_n 0, 1, []), (42, .getfield 34, 3, [8, 0, 95]), (45, .iconst 1, 1, []), (46, .iadd, 1, []), (47, .iconst 4, 1, []), (48, .imul, 1, []), (49, .if_icmp .ge 29, 3, [46]), (52, .aload_n 0, 1, []), (53, .getfield 22, 3, [8, 4, 105]), (56, .iload_n 2, 1, []), (57, .aload_n 0, 1, []), (58, .getfield 38, 3, [8, 1, 98]), (61, .iastore, 1, []), (62, .aload_n 0, 1, []), (63, .getfield 25, 3, [8, 5, 108]), (66, .iload_n 2, 1, []), (67, .aload_n 0, 1, []), (68, .getfield 38, 3, [8, 1, 98]), (71, .iastore, 1, []), (72, .iinc 2 1, 3, []), (75, .goto (-35), 3, [24]), (78, .aload_n 0, 1, []), (79, .dup, 1, []), (80, .getfield 34, 3, [8, 0, 95]), (83, .iconst 1, 1, []), (84, .iadd, 1, []), (85, .putfield 34, 3, [8, 0, 95]), (88, .return_, 1, [])])
set_option maxRecDepth 20000 in
theorem ckX8_begin_0 : ckR mX8_begin 0 40 = true := by decide +kernel
set_option maxRecDepth 20000 in
theorem ckX8_begin_1 : ckR mX8_begin 40 40 = true := by decide +kernel
set_option maxRecDepth 20000 in
theorem okX8_begin : okC mX8_begin := ⟨by decide +kernel, memT4 53 rfl rfl, okM.of (n := 2) (Or.inr rfl) (by decide) (fun j hj => by match j, hj with | 0, _ => exact ckX8_begin_0 | 1, _ => exact ckX8_begin_1 | _ + 2, hj => exact absurd hj (by omega))⟩
set_option maxRecDepth 20000 in
def mX8_add : Mt := (yX8_add, cX8_add, 3, (some .int), [8, 132, 2, 0, 937, 938], [(0, .aload_n 0, 1, []), (1, .getfield 38, 3, [8, 1, 98]), (4, .aload_n 0, 1, []), (5, .getfield 28, 3, [8, 6, 111]), (8, .arraylength, 1, []), (9, .if_icmp .lt 5, 3, [8]), (12, .iconst (-1), 1, []), (13, .ireturn, 1, []), (14, .aload_n 0, 1, []), (15, .getfield 28, 3, [8, 6, 111]), (18, .aload_n 0, 1, []), (19, .getfield 38, 3, [8, 1, 98]), (22, .iload_n 1, 1, []), (23, .iastore, 1, []), (24, .aload_n 0, 1, []), (25, .getfield 31, 3, [8, 7, 114]), (28, .aload_n 0, 1, []), (29, .getfield 38, 3, [8, 1, 98]), (32, .iload_n 2, 1, []), (33, .iastore, 1, []), (34, .aload_n 0, 1, []), (35, .dup, 1, []), (36, .getfield 38, 3, [8, 1, 98]), (39, .iconst 1, 1, []), (40, .iadd, 1, []), (41, .putfield 38, 3, [8, 1, 98]), (44, .aload_n 0, 1, []), (45, .getfield 38, 3, [8, 1, 98]), (48, .iconst 1, 1, []), (49, .isub, 1, []), (50, .ireturn, 1, [])])
set_option maxRecDepth 20000 in
theorem ckX8_add_0 : ckR mX8_add 0 40 = true := by decide +kernel
set_option maxRecDepth 20000 in
theorem okX8_add : okC mX8_add := ⟨by decide +kernel, memT4 93 rfl rfl, okM.of (n := 1) (Or.inr rfl) (by decide) (fun j hj => by match j, hj with | 0, _ => exact ckX8_add_0 | _ + 1, hj => exact absurd hj (by omega))⟩
set_option maxRecDepth 20000 in
def mX8_landHere : Mt := (yX8_landHere, cX8_landHere, 2, none, [8, 132, 1, 0, 981, 982], [(0, .iload_n 1, 1, []), (1, .ifCond .lt 21, 3, [12]), (4, .iload_n 1, 1, []), (5, .aload_n 0, 1, []), (6, .getfield 38, 3, [8, 1, 98]), (9, .if_icmp .ge 13, 3, [12]), (12, .aload_n 0, 1, []), (13, .getfield 31, 3, [8, 7, 114]), (16, .iload_n 1, 1, []), (17, .aload_n 0, 1, []), (18, .getfield 38, 3, [8, 1, 98]), (21, .iastore, 1, []), (22, .return_, 1, [])])
set_option maxRecDepth 20000 in
theorem ckX8_landHere_0 : ckR mX8_landHere 0 40 = true := by decide +kernel
set_option maxRecDepth 20000 in
theorem okX8_landHere : okC mX8_landHere := ⟨by decide +kernel, memT4 137 rfl rfl, okM.of (n := 1) (Or.inr rfl) (by decide) (fun j hj => by match j, hj with | 0, _ => exact ckX8_landHere_0 | _ + 1, hj => exact absurd hj (by omega))⟩
set_option maxRecDepth 20000 in
def mX8_openSegment : Mt := (yX8_openSegment, cX8_openSegment, 3, none, [8, 132, 1, 0, 905, 906], [(0, .aload_n 0, 1, []), (1, .getfield 34, 3, [8, 0, 95]), (4, .iconst 1, 1, []), (5, .isub, 1, []), (6, .iconst 4, 1, []), (7, .imul, 1, []), (8, .iload_n 1, 1, []), (9, .iadd, 1, []), (10, .istore_n 2, 1, []), (11, .iload_n 2, 1, []), (12, .ifCond .lt 22, 3, [22]), (15, .iload_n 2, 1, []), (16, .aload_n 0, 1, []), (17, .getfield 22, 3, [8, 4, 105]), (20, .arraylength, 1, []), (21, .if_icmp .ge 13, 3, [22]), (24, .aload_n 0, 1, []), (25, .getfield 22, 3, [8, 4, 105]), (28, .iload_n 2, 1, []), (29, .aload_n 0, 1, []), (30, .getfield 38, 3, [8, 1, 98]), (33, .iastore, 1, []), (34, .return_, 1, [])])
set_option maxRecDepth 20000 in
theorem ckX8_openSegment_0 : ckR mX8_openSegment 0 40 = true := by decide +kernel
set_option maxRecDepth 20000 in
theorem okX8_openSegment : okC mX8_openSegment := ⟨by decide +kernel, memT4 61 rfl rfl, okM.of (n := 1) (Or.inr rfl) (by decide) (fun j hj => by match j, hj with | 0, _ => exact ckX8_openSegment_0 | _ + 1, hj => exact absurd hj (by omega))⟩
set_option maxRecDepth 20000 in
def mX8_closeSegment : Mt := (yX8_closeSegment, cX8_closeSegment, 3, none, [8, 132, 1, 0, 953, 954], [(0, .aload_n 0, 1, []), (1, .getfield 34, 3, [8, 0, 95]), (4, .iconst 1, 1, []), (5, .isub, 1, []), (6, .iconst 4, 1, []), (7, .imul, 1, []), (8, .iload_n 1, 1, []), (9, .iadd, 1, []), (10, .istore_n 2, 1, []), (11, .iload_n 2, 1, []), (12, .ifCond .lt 22, 3, [22]), (15, .iload_n 2, 1, []), (16, .aload_n 0, 1, []), (17, .getfield 25, 3, [8, 5, 108]), (20, .arraylength, 1, []), (21, .if_icmp .ge 13, 3, [22]), (24, .aload_n 0, 1, []), (25, .getfield 25, 3, [8, 5, 108]), (28, .iload_n 2, 1, []), (29, .aload_n 0, 1, []), (30, .getfield 38, 3, [8, 1, 98]), (33, .iastore, 1, []), (34, .return_, 1, [])])
set_option maxRecDepth 20000 in
theorem ckX8_closeSegment_0 : ckR mX8_closeSegment 0 40 = true := by decide +kernel
set_option maxRecDepth 20000 in
theorem okX8_closeSegment : okC mX8_closeSegment := ⟨by decide +kernel, memT4 109 rfl rfl, okM.of (n := 1) (Or.inr rfl) (by decide) (fun j hj => by match j, hj with | 0, _ => exact ckX8_closeSegment_0 | _ + 1, hj => exact absurd hj (by omega))⟩
set_option maxRecDepth 20000 in
def mX8_setTimes : Mt := (yX8_setTimes, cX8_setTimes, 2, none, [8, 132, 1, 0, 957, 958], [(0, .aload_n 0, 1, []), (1, .getfield 34, 3, [8, 0, 95]), (4, .ifCond .le 15, 3, [11]), (7, .aload_n 0, 1, []), (8, .getfield 19, 3, [8, 3, 103]), (11, .aload_n 0, 1, []), (12, .getfield 34, 3, [8, 0, 95]), (15, .iconst 1, 1, []), (16, .isub, 1, []), (17, .iload_n 1, 1, []), (18, .iastore, 1, []), (19, .return_, 1, [])])
set_option maxRecDepth 20000 in
theorem ckX8_setTimes_0 : ckR mX8_setTimes 0 40 = true := by decide +kernel
set_option maxRecDepth 20000 in
theorem okX8_setTimes : okC mX8_setTimes := ⟨by decide +kernel, memT4 113 rfl rfl, okM.of (n := 1) (Or.inr rfl) (by decide) (fun j hj => by match j, hj with | 0, _ => exact ckX8_setTimes_0 | _ + 1, hj => exact absurd hj (by omega))⟩
set_option maxRecDepth 20000 in
def mX8_lacks : Mt := (yX8_lacks, cX8_lacks, 4, (some .boolean), [8, 132, 2, 0, 711, 712], [(0, .iload_n 1, 1, []), (1, .iconst 4, 1, []), (2, .imul, 1, []), (3, .iload_n 2, 1, []), (4, .iadd, 1, []), (5, .istore_n 3, 1, []), (6, .iload_n 3, 1, []), (7, .ifCond .lt 27, 3, [22]), (10, .iload_n 3, 1, []), (11, .aload_n 0, 1, []), (12, .getfield 22, 3, [8, 4, 105]), (15, .arraylength, 1, []), (16, .if_icmp .ge 18, 3, [22]), (19, .aload_n 0, 1, []), (20, .getfield 22, 3, [8, 4, 105]), (23, .iload_n 3, 1, []), (24, .iaload, 1, []), (25, .aload_n 0, 1, []), (26, .getfield 25, 3, [8, 5, 108]), (29, .iload_n 3, 1, []), (30, .iaload, 1, []), (31, .if_icmp .lt 7, 3, [24]), (34, .iconst 1, 1, []), (35, .goto 4, 3, [25]), (38, .iconst 0, 1, []), (39, .ireturn, 1, [])])
set_option maxRecDepth 20000 in
theorem ckX8_lacks_0 : ckR mX8_lacks 0 40 = true := by decide +kernel
set_option maxRecDepth 20000 in
theorem okX8_lacks : okC mX8_lacks := ⟨by decide +kernel, memT3 107 rfl rfl, okM.of (n := 1) (Or.inr rfl) (by decide) (fun j hj => by match j, hj with | 0, _ => exact ckX8_lacks_0 | _ + 1, hj => exact absurd hj (by omega))⟩
set_option maxRecDepth 20000 in
def mX9_init : Mt := (yX9_init, cX9_init, 4, none, [9, 139, 3, 2, 542], [(0, .aload_n 0, 1, []), (1, .invokespecial 3, 3, []), (4, .aload_n 0, 1, []), (5, .new 9, 3, [5, 545, 163, 129]), (8, .dup, 1, []), (9, .invokespecial 11, 3, []), (12, .putfield 12, 3, [9, 3, 157]), (15, .aload_n 0, 1, []), (16, .sipush 256, 3, []), (19, .newarray .int, 2, []), (21, .putfield 18, 3, [9, 4, 158]), (24, .aload_n 0, 1, []), (25, .sipush 256, 3, []), (28, .newarray .int, 2, []), (30, .putfield 22, 3, [9, 5, 159]), (33, .aload_n 0, 1, []), (34, .bipush 16, 2, []), (36, .newarray .int, 2, []), (38, .putfield 25, 3, [9, 7, 161]), (41, .aload_n 0, 1, []), (42, .bipush 16, 2, []), (44, .newarray .int, 2, []), (46, .putfield 28, 3, [9, 8, 162]), (49, .aload_n 0, 1, []), (50, .sipush 256, 3, []), (53, .newarray .int, 2, []), (55, .putfield 31, 3, [9, 15, 174]), (58, .aload_n 0, 1, []), (59, .new 9, 3, [5, 545, 163, 129]), (62, .dup, 1, []), (63, .invokespecial 11, 3, []), (66, .putfield 34, 3, [9, 16, 176]), (69, .aload_n 0, 1, []), (70, .aload_n 1, 1, []), (71, .putfield 37, 3, [9, 0, 154]), (74, .aload_n 0, 1, []), (75, .aload_n 2, 1, []), (76, .putfield 41, 3, [9, 1, 155]), (79, .aload_n 0, 1, []), (80, .aload_n 3, 1, []), (81, .putfield 45, 3, [9, 2, 156]), (84, .return_, 1, [])])
set_option maxRecDepth 20000 in
theorem ckX9_init_0 : ckR mX9_init 0 40 = true := by decide +kernel
set_option maxRecDepth 20000 in
theorem ckX9_init_1 : ckR mX9_init 40 40 = true := by decide +kernel
set_option maxRecDepth 20000 in
theorem okX9_init : okC mX9_init := ⟨by decide +kernel, memT2 177 rfl rfl, okM.of (n := 2) (Or.inr rfl) (by decide) (fun j hj => by match j, hj with | 0, _ => exact ckX9_init_0 | 1, _ => exact ckX9_init_1 | _ + 2, hj => exact absurd hj (by omega))⟩
set_option maxRecDepth 20000 in
def mX9_gatherPairs : Mt := (yX9_gatherPairs, cX9_gatherPairs, 2, none, [9, 139, 0, 0, 1216, 33], [(0, .aload_n 0, 1, []), (1, .getfield 12, 3, [9, 3, 157]), (4, .aload_n 0, 1, []), (5, .getfield 37, 3, [9, 0, 154]), (8, .getfield 49, 3, [1, 0, 49]), (11, .invokevirtual 54, 3, []), (14, .aload_n 0, 1, []), (15, .iconst 0, 1, []), (16, .putfield 58, 3, [9, 6, 160]), (19, .iconst 0, 1, []), (20, .istore_n 1, 1, []), (21, .iload_n 1, 1, []), (22, .aload_n 0, 1, []), (23, .getfield 12, 3, [9, 3, 157]), (26, .getfield 62, 3, [5, 0, 0]), (29, .bipush 16, 2, []), (31, .imul, 1, []), (32, .if_icmp .ge 51, 3, [43]), (35, .iload_n 1, 1, []), (36, .bipush 16, 2, []), (38, .irem, 1, []), (39, .aload_n 0, 1, []), (40, .getfield 12, 3, [9, 3, 157]), (43, .getfield 62, 3, [5, 0, 0]), (46, .if_icmp .ge 31, 3, [41]), (49, .aload_n 0, 1, []), (50, .iload_n 1, 1, []), (51, .invokevirtual 65, 3, []), (54, .ifCond .eq 23, 3, [41]), (57, .aload_n 0, 1, []), (58, .getfield 18, 3, [9, 4, 158]), (61, .aload_n 0, 1, []), (62, .getfield 58, 3, [9, 6, 160]), (65, .iload_n 1, 1, []), (66, .iastore, 1, []), (67, .aload_n 0, 1, []), (68, .dup, 1, []), (69, .getfield 58, 3, [9, 6, 160]), (72, .iconst 1, 1, []), (73, .iadd, 1, []), (74, .putfield 58, 3, [9, 6, 160]), (77, .iinc 1 1, 3, []), (80, .goto (-59), 3, [11]), (83, .return_, 1, [])])
set_option maxRecDepth 20000 in
theorem ckX9_gatherPairs_0 : ckR mX9_gatherPairs 0 40 = true := by decide +kernel
set_option maxRecDepth 20000 in
theorem ckX9_gatherPairs_1 : ckR mX9_gatherPairs 40 40 = true := by decide +kernel
set_option maxRecDepth 20000 in
theorem okX9_gatherPairs : okC mX9_gatherPairs := ⟨by decide +kernel, memT5 131 rfl rfl, okM.of (n := 2) (Or.inr rfl) (by decide) (fun j hj => by match j, hj with | 0, _ => exact ckX9_gatherPairs_0 | 1, _ => exact ckX9_gatherPairs_1 | _ + 2, hj => exact absurd hj (by omega))⟩
set_option maxRecDepth 20000 in
def mX9_couldBeBought : Mt := (yX9_couldBeBought, cX9_couldBeBought, 2, (some .boolean), [9, 139, 1, 0, 1221, 34], [(0, .aload_n 0, 1, []), (1, .getfield 12, 3, [9, 3, 157]), (4, .iload_n 1, 1, []), (5, .bipush 16, 2, []), (7, .irem, 1, []), (8, .iload_n 1, 1, []), (9, .bipush 16, 2, []), (11, .idiv, 1, []), (12, .aload_n 0, 1, []), (13, .getfield 37, 3, [9, 0, 154]), (16, .getfield 69, 3, [1, 1, 54]), (19, .iconst 2, 1, []), (20, .iaload, 1, []), (21, .invokevirtual 72, 3, []), (24, .ireturn, 1, [])])
set_option maxRecDepth 20000 in
theorem ckX9_couldBeBought_0 : ckR mX9_couldBeBought 0 40 = true := by decide +kernel
set_option maxRecDepth 20000 in
theorem okX9_couldBeBought : okC mX9_couldBeBought := ⟨by decide +kernel, memT5 136 rfl rfl, okM.of (n := 1) (Or.inr rfl) (by decide) (fun j hj => by match j, hj with | 0, _ => exact ckX9_couldBeBought_0 | _ + 1, hj => exact absurd hj (by omega))⟩
set_option maxRecDepth 20000 in
def mX9_tryOut : Mt := (yX9_tryOut, cX9_tryOut, 3, none, [9, 139, 2, 0, 1248, 39], [(0, .aload_n 0, 1, []), (1, .getfield 12, 3, [9, 3, 157]), (4, .getfield 75, 3, [5, 11, 42]), (7, .iconst 0, 1, []), (8, .aload_n 2, 1, []), (9, .iconst 0, 1, []), (10, .bipush 16, 2, []), (12, .invokestatic 78, 3, []), (15, .aload_n 0, 1, []), (16, .getfield 12, 3, [9, 3, 157]), (19, .iload_n 1, 1, []), (20, .bipush 16, 2, []), (22, .irem, 1, []), (23, .iload_n 1, 1, []), (24, .bipush 16, 2, []), (26, .idiv, 1, []), (27, .invokevirtual 84, 3, []), (30, .return_, 1, [])])
set_option maxRecDepth 20000 in
theorem ckX9_tryOut_0 : ckR mX9_tryOut 0 40 = true := by decide +kernel
set_option maxRecDepth 20000 in
theorem okX9_tryOut : okC mX9_tryOut := ⟨by decide +kernel, memT5 163 rfl rfl, okM.of (n := 1) (Or.inr rfl) (by decide) (fun j hj => by match j, hj with | 0, _ => exact ckX9_tryOut_0 | _ + 1, hj => exact absurd hj (by omega))⟩
set_option maxRecDepth 20000 in
def mX9_takeBack : Mt := (yX9_takeBack, cX9_takeBack, 3, none, [9, 139, 2, 0, 1258, 41], [(0, .aload_n 0, 1, []), (1, .getfield 12, 3, [9, 3, 157]), (4, .iload_n 1, 1, []), (5, .bipush 16, 2, []), (7, .irem, 1, []), (8, .iload_n 1, 1, []), (9, .bipush 16, 2, []), (11, .idiv, 1, []), (12, .invokevirtual 88, 3, []), (15, .aload_n 2, 1, []), (16, .iconst 0, 1, []), (17, .aload_n 0, 1, []), (18, .getfield 12, 3, [9, 3, 157]), (21, .getfield 75, 3, [5, 11, 42]), (24, .iconst 0, 1, []), (25, .bipush 16, 2, []), (27, .invokestatic 78, 3, []), (30, .return_, 1, [])])
set_option maxRecDepth 20000 in
theorem ckX9_takeBack_0 : ckR mX9_takeBack 0 40 = true := by decide +kernel
set_option maxRecDepth 20000 in
theorem okX9_takeBack : okC mX9_takeBack := ⟨by decide +kernel, memT5 173 rfl rfl, okM.of (n := 1) (Or.inr rfl) (by decide) (fun j hj => by match j, hj with | 0, _ => exact ckX9_takeBack_0 | _ + 1, hj => exact absurd hj (by omega))⟩
set_option maxRecDepth 20000 in
def mX9_keepAffordable : Mt := (yX9_keepAffordable, cX9_keepAffordable, 7, none, [9, 139, 1, 0, 1241, 38], [(0, .iconst 0, 1, []), (1, .istore_n 2, 1, []), (2, .iconst 0, 1, []), (3, .istore_n 3, 1, []), (4, .iload_n 3, 1, []), (5, .aload_n 0, 1, []), (6, .getfield 58, 3, [9, 6, 160]), (9, .if_icmp .ge 87, 3, [53]), (12, .aload_n 0, 1, []), (13, .getfield 18, 3, [9, 4, 158]), (16, .iload_n 3, 1, []), (17, .iaload, 1, []), (18, .bipush 16, 2, []), (20, .irem, 1, []), (21, .istore 4, 2, []), (23, .aload_n 0, 1, []), (24, .getfield 18, 3, [9, 4, 158]), (27, .iload_n 3, 1, []), (28, .iaload, 1, []), (29, .bipush 16, 2, []), (31, .idiv, 1, []), (32, .istore 5, 2, []), (34, .aload_n 0, 1, []), (35, .getfield 41, 3, [9, 1, 155]), (38, .iload 4, 2, []), (40, .iload 5, 2, []), (42, .invokevirtual 91, 3, []), (45, .istore 6, 2, []), (47, .iload 6, 2, []), (49, .iload_n 1, 1, []), (50, .if_icmp .gt 40, 3, [51]), (53, .aload_n 0, 1, []), (54, .getfield 41, 3, [9, 1, 155]), (57, .iload 4, 2, []), (59, .iload 5, 2, []), (61, .invokevirtual 97, 3, []), (64, .ifCond .ne 26, 3, [51]), (67, .aload_n 0, 1, []), (68, .getfield 18, 3, [9, 4, 158]), (71, .iload_n 2, 1, []), (72, .aload_n 0, 1, []), (73, .getfield 18, 3, [9, 4, 158]), (76, .iload_n 3, 1, []), (77, .iaload, 1, []), (78, .iastore, 1, []), (79, .aload_n 0, 1, []), (80, .getfield 22, 3, [9, 5, 159]), (83, .iload_n 2, 1, []), (84, .iload 6, 2, []), (86, .iastore, 1, []), (87, .iinc 2 1, 3, []), (90, .iinc 3 1, 3, []), (93, .goto (-89), 3, [4]), (96, .aload_n 0, 1, []), (97, .iload_n 2, 1, []), (98, .putfield 58, 3, [9, 6, 160]), (101, .return_, 1, [])])
set_option maxRecDepth 20000 in
theorem ckX9_keepAffordable_0 : ckR mX9_keepAffordable 0 40 = true := by decide +kernel
set_option maxRecDepth 20000 in
theorem ckX9_keepAffordable_1 : ckR mX9_keepAffordable 40 40 = true := by decide +kernel
set_option maxRecDepth 20000 in
theorem okX9_keepAffordable : okC mX9_keepAffordable := ⟨by decide +kernel, memT5 156 rfl rfl, okM.of (n := 2) (Or.inr rfl) (by decide) (fun j hj => by match j, hj with | 0, _ => exact ckX9_keepAffordable_0 | 1, _ => exact ckX9_keepAffordable_1 | _ + 2, hj => exact absurd hj (by omega))⟩
end
section
set_option maxRecDepth 20000 in
def mX9_findCheap : Mt := (yX9_findCheap, cX9_findCheap, 5, (some .boolean), [9, 139, 2, 0, 1211, 1212], [(0, .aload_n 0, 1, []), (1, .invokevirtual 101, 3, []), (4, .aload_n 0, 1, []), (5, .aload_n 0, 1, []), (6, .getfield 41, 3, [9, 1, 155]), (9, .invokevirtual 104, 3, []), (12, .putfield 108, 3, [9, 9, 163]), (15, .aload_n 0, 1, []), (16, .iconst (-1), 1, []), (17, .putfield 110, 3, [9, 10, 164]), (20, .aload_n 0, 1, []), (21, .iconst 0, 1, []), (22, .iconst 0, 1, []), (23, .iconst (-1), 1, []), (24, .iconst (-1), 1, []), (25, .aload_n 0, 1, []), (26, .iload_n 1, 1, []), (27, .iload_n 2, 1, []), (28, .invokevirtual 113, 3, []), (31, .invokevirtual 116, 3, []), (34, .aload_n 0, 1, []), (35, .getfield 110, 3, [9, 10, 164]), (38, .iconst (-1), 1, []), (39, .if_icmp .eq 5, 3, [26]), (42, .iconst 1, 1, []), (43, .ireturn, 1, []), (44, .aload_n 0, 1, []), (45, .aload_n 0, 1, []), (46, .getfield 12, 3, [9, 3, 157]), (49, .getfield 120, 3, [5, 8, 33]), (52, .iload_n 1, 1, []), (53, .iaload, 1, []), (54, .invokevirtual 123, 3, []), (57, .iconst 0, 1, []), (58, .istore_n 3, 1, []), (59, .iload_n 3, 1, []), (60, .aload_n 0, 1, []), (61, .getfield 58, 3, [9, 6, 160]), (64, .if_icmp .ge 94, 3, [90]), (67, .aload_n 0, 1, []), (68, .getfield 18, 3, [9, 4, 158]), (71, .iload_n 3, 1, []), (72, .iaload, 1, []), (73, .istore 4, 2, []), (75, .aload_n 0, 1, []), (76, .getfield 12, 3, [9, 3, 157]), (79, .iload 4, 2, []), (81, .bipush 16, 2, []), (83, .idiv, 1, []), (84, .iload_n 1, 1, []), (85, .invokevirtual 127, 3, []), (88, .ifCond .eq 64, 3, [88]), (91, .aload_n 0, 1, []), (92, .aload_n 0, 1, []), (93, .getfield 22, 3, [9, 5, 159]), (96, .iload_n 3, 1, []), (97, .iaload, 1, []), (98, .iconst 1, 1, []), (99, .invokevirtual 130, 3, []), (102, .ifCond .eq 50, 3, [88]), (105, .aload_n 0, 1, []), (106, .iload 4, 2, []), (108, .aload_n 0, 1, []), (109, .getfield 25, 3, [9, 7, 161]), (112, .invokevirtual 133, 3, []), (115, .aload_n 0, 1, []), (116, .aload_n 0, 1, []), (117, .getfield 22, 3, [9, 5, 159]), (120, .iload_n 3, 1, []), (121, .iaload, 1, []), (122, .iconst 1, 1, []), (123, .iload 4, 2, []), (125, .iconst (-1), 1, []), (126, .aload_n 0, 1, []), (127, .iload_n 1, 1, []), (128, .iload_n 2, 1, []), (129, .invokevirtual 113, 3, []), (132, .invokevirtual 116, 3, []), (135, .aload_n 0, 1, []), (136, .iload_n 1, 1, []), (137, .iload_n 2, 1, []), (138, .iload_n 3, 1, []), (139, .invokevirtual 137, 3, []), (142, .aload_n 0, 1, []), (143, .iload 4, 2, []), (145, .aload_n 0, 1, []), (146, .getfield 25, 3, [9, 7, 161]), (149, .invokevirtual 141, 3, []), (152, .iinc 3 1, 3, []), (155, .goto (-96), 3, [35]), (158, .aload_n 0, 1, []), (159, .getfield 110, 3, [9, 10, 164]), (162, .iconst (-1), 1, []), (163, .if_icmp .eq 7, 3, [96]), (166, .iconst 1, 1, []), (167, .goto 4, 3, [97]), (170, .iconst 0, 1, []), (171, .ireturn, 1, [])])
set_option maxRecDepth 20000 in
theorem ckX9_findCheap_0 : ckR mX9_findCheap 0 40 = true := by decide +kernel
set_option maxRecDepth 20000 in
theorem ckX9_findCheap_1 : ckR mX9_findCheap 40 40 = true := by decide +kernel
set_option maxRecDepth 20000 in
theorem ckX9_findCheap_2 : ckR mX9_findCheap 80 40 = true := by decide +kernel
set_option maxRecDepth 20000 in
theorem okX9_findCheap : okC mX9_findCheap := ⟨by decide +kernel, memT5 127 rfl rfl, okM.of (n := 3) (Or.inr rfl) (by decide) (fun j hj => by match j, hj with | 0, _ => exact ckX9_findCheap_0 | 1, _ => exact ckX9_findCheap_1 | 2, _ => exact ckX9_findCheap_2 | _ + 3, hj => exact absurd hj (by omega))⟩
set_option maxRecDepth 20000 in
def mX9_findCheapSecond : Mt := (yX9_findCheapSecond, cX9_findCheapSecond, 7, none, [9, 139, 3, 0, 1254, 40], [(0, .iconst 0, 1, []), (1, .istore 4, 2, []), (3, .iload 4, 2, []), (5, .aload_n 0, 1, []), (6, .getfield 58, 3, [9, 6, 160]), (9, .if_icmp .ge 124, 3, [70]), (12, .aload_n 0, 1, []), (13, .getfield 18, 3, [9, 4, 158]), (16, .iload 4, 2, []), (18, .iaload, 1, []), (19, .istore 5, 2, []), (21, .aload_n 0, 1, []), (22, .getfield 22, 3, [9, 5, 159]), (25, .iload_n 3, 1, []), (26, .iaload, 1, []), (27, .aload_n 0, 1, []), (28, .getfield 22, 3, [9, 5, 159]), (31, .iload 4, 2, []), (33, .iaload, 1, []), (34, .iadd, 1, []), (35, .istore 6, 2, []), (37, .iload 6, 2, []), (39, .aload_n 0, 1, []), (40, .getfield 12, 3, [9, 3, 157]), (43, .getfield 120, 3, [5, 8, 33]), (46, .iload_n 1, 1, []), (47, .iaload, 1, []), (48, .if_icmp .gt 79, 3, [68]), (51, .aload_n 0, 1, []), (52, .iload 6, 2, []), (54, .iconst 2, 1, []), (55, .invokevirtual 130, 3, []), (58, .ifCond .eq 69, 3, [68]), (61, .aload_n 0, 1, []), (62, .getfield 12, 3, [9, 3, 157]), (65, .iload 5, 2, []), (67, .bipush 16, 2, []), (69, .idiv, 1, []), (70, .iload_n 1, 1, []), (71, .invokevirtual 127, 3, []), (74, .ifCond .eq 53, 3, [68]), (77, .aload_n 0, 1, []), (78, .iload 5, 2, []), (80, .invokevirtual 65, 3, []), (83, .ifCond .eq 44, 3, [68]), (86, .aload_n 0, 1, []), (87, .iload 5, 2, []), (89, .aload_n 0, 1, []), (90, .getfield 28, 3, [9, 8, 162]), (93, .invokevirtual 133, 3, []), (96, .aload_n 0, 1, []), (97, .iload 6, 2, []), (99, .iconst 2, 1, []), (100, .aload_n 0, 1, []), (101, .getfield 18, 3, [9, 4, 158]), (104, .iload_n 3, 1, []), (105, .iaload, 1, []), (106, .iload 5, 2, []), (108, .aload_n 0, 1, []), (109, .iload_n 1, 1, []), (110, .iload_n 2, 1, []), (111, .invokevirtual 113, 3, []), (114, .invokevirtual 116, 3, []), (117, .aload_n 0, 1, []), (118, .iload 5, 2, []), (120, .aload_n 0, 1, []), (121, .getfield 28, 3, [9, 8, 162]), (124, .invokevirtual 141, 3, []), (127, .iinc 4 1, 3, []), (130, .goto (-127), 3, [2]), (133, .return_, 1, [])])
set_option maxRecDepth 20000 in
theorem ckX9_findCheapSecond_0 : ckR mX9_findCheapSecond 0 40 = true := by decide +kernel
set_option maxRecDepth 20000 in
theorem ckX9_findCheapSecond_1 : ckR mX9_findCheapSecond 40 40 = true := by decide +kernel
set_option maxRecDepth 20000 in
theorem okX9_findCheapSecond : okC mX9_findCheapSecond := ⟨by decide +kernel, memT5 169 rfl rfl, okM.of (n := 2) (Or.inr rfl) (by decide) (fun j hj => by match j, hj with | 0, _ => exact ckX9_findCheapSecond_0 | 1, _ => exact ckX9_findCheapSecond_1 | _ + 2, hj => exact absurd hj (by omega))⟩
set_option maxRecDepth 20000 in
def mX9_isThere : Mt := (yX9_isThere, cX9_isThere, 3, (some .boolean), [9, 139, 2, 0, 1227, 35], [(0, .aload_n 0, 1, []), (1, .getfield 12, 3, [9, 3, 157]), (4, .iload_n 1, 1, []), (5, .aload_n 0, 1, []), (6, .getfield 108, 3, [9, 9, 163]), (9, .invokevirtual 144, 3, []), (12, .ifCond .eq 35, 3, [23]), (15, .iload_n 2, 1, []), (16, .iconst (-1), 1, []), (17, .if_icmp .eq 26, 3, [21]), (20, .aload_n 0, 1, []), (21, .getfield 45, 3, [9, 2, 156]), (24, .aload_n 0, 1, []), (25, .getfield 12, 3, [9, 3, 157]), (28, .iload_n 1, 1, []), (29, .iload_n 2, 1, []), (30, .aload_n 0, 1, []), (31, .getfield 37, 3, [9, 0, 154]), (34, .getfield 69, 3, [1, 1, 54]), (37, .invokevirtual 147, 3, []), (40, .ifCond .eq 7, 3, [23]), (43, .iconst 1, 1, []), (44, .goto 4, 3, [24]), (47, .iconst 0, 1, []), (48, .ireturn, 1, [])])
set_option maxRecDepth 20000 in
theorem ckX9_isThere_0 : ckR mX9_isThere 0 40 = true := by decide +kernel
set_option maxRecDepth 20000 in
theorem okX9_isThere : okC mX9_isThere := ⟨by decide +kernel, memT5 142 rfl rfl, okM.of (n := 1) (Or.inr rfl) (by decide) (fun j hj => by match j, hj with | 0, _ => exact ckX9_isThere_0 | _ + 1, hj => exact absurd hj (by omega))⟩
set_option maxRecDepth 20000 in
def mX9_isLess : Mt := (yX9_isLess, cX9_isLess, 3, (some .boolean), [9, 139, 2, 0, 1237, 37], [(0, .aload_n 0, 1, []), (1, .getfield 110, 3, [9, 10, 164]), (4, .iconst (-1), 1, []), (5, .if_icmp .eq 27, 3, [16]), (8, .iload_n 1, 1, []), (9, .aload_n 0, 1, []), (10, .getfield 110, 3, [9, 10, 164]), (13, .if_icmp .lt 19, 3, [16]), (16, .iload_n 1, 1, []), (17, .aload_n 0, 1, []), (18, .getfield 110, 3, [9, 10, 164]), (21, .if_icmp .ne 15, 3, [18]), (24, .iload_n 2, 1, []), (25, .aload_n 0, 1, []), (26, .getfield 153, 3, [9, 11, 166]), (29, .if_icmp .ge 7, 3, [18]), (32, .iconst 1, 1, []), (33, .goto 4, 3, [19]), (36, .iconst 0, 1, []), (37, .ireturn, 1, [])])
set_option maxRecDepth 20000 in
theorem ckX9_isLess_0 : ckR mX9_isLess 0 40 = true := by decide +kernel
set_option maxRecDepth 20000 in
theorem okX9_isLess : okC mX9_isLess := ⟨by decide +kernel, memT5 152 rfl rfl, okM.of (n := 1) (Or.inr rfl) (by decide) (fun j hj => by match j, hj with | 0, _ => exact ckX9_isLess_0 | _ + 1, hj => exact absurd hj (by omega))⟩
set_option maxRecDepth 20000 in
def mX9_note : Mt := (yX9_note, cX9_note, 6, none, [9, 139, 5, 0, 1233, 36], [(0, .iload 5, 2, []), (2, .ifCond .eq 33, 3, [19]), (5, .aload_n 0, 1, []), (6, .iload_n 1, 1, []), (7, .iload_n 2, 1, []), (8, .invokevirtual 130, 3, []), (11, .ifCond .eq 24, 3, [19]), (14, .aload_n 0, 1, []), (15, .iload_n 1, 1, []), (16, .putfield 110, 3, [9, 10, 164]), (19, .aload_n 0, 1, []), (20, .iload_n 2, 1, []), (21, .putfield 153, 3, [9, 11, 166]), (24, .aload_n 0, 1, []), (25, .iload_n 3, 1, []), (26, .putfield 156, 3, [9, 12, 168]), (29, .aload_n 0, 1, []), (30, .iload 4, 2, []), (32, .putfield 159, 3, [9, 13, 170]), (35, .return_, 1, [])])
set_option maxRecDepth 20000 in
theorem ckX9_note_0 : ckR mX9_note 0 40 = true := by decide +kernel
set_option maxRecDepth 20000 in
theorem okX9_note : okC mX9_note := ⟨by decide +kernel, memT5 148 rfl rfl, okM.of (n := 1) (Or.inr rfl) (by decide) (fun j hj => by match j, hj with | 0, _ => exact ckX9_note_0 | _ + 1, hj => exact absurd hj (by omega))⟩
set_option maxRecDepth 20000 in
def mX9_findJoin : Mt := (yX9_findJoin, cX9_findJoin, 4, (some .int), [9, 139, 2, 0, 1266, 1267], [(0, .aload_n 0, 1, []), (1, .invokevirtual 101, 3, []), (4, .aload_n 0, 1, []), (5, .iconst 1, 1, []), (6, .putfield 162, 3, [9, 14, 172]), (9, .aload_n 0, 1, []), (10, .getfield 12, 3, [9, 3, 157]), (13, .iload_n 1, 1, []), (14, .invokevirtual 165, 3, []), (17, .aload_n 0, 1, []), (18, .getfield 12, 3, [9, 3, 157]), (21, .iload_n 2, 1, []), (22, .invokevirtual 165, 3, []), (25, .iand, 1, []), (26, .ifCond .eq 5, 3, [17]), (29, .iconst 0, 1, []), (30, .ireturn, 1, []), (31, .aload_n 0, 1, []), (32, .aload_n 0, 1, []), (33, .iload_n 1, 1, []), (34, .iload_n 2, 1, []), (35, .invokevirtual 169, 3, []), (38, .putfield 162, 3, [9, 14, 172]), (41, .aload_n 0, 1, []), (42, .getfield 162, 3, [9, 14, 172]), (45, .ifCond .le 5, 3, [28]), (48, .iconst 1, 1, []), (49, .ireturn, 1, []), (50, .iconst 0, 1, []), (51, .istore_n 3, 1, []), (52, .iload_n 3, 1, []), (53, .aload_n 0, 1, []), (54, .getfield 58, 3, [9, 6, 160]), (57, .if_icmp .ge 52, 3, [61]), (60, .aload_n 0, 1, []), (61, .aload_n 0, 1, []), (62, .getfield 18, 3, [9, 4, 158]), (65, .iload_n 3, 1, []), (66, .iaload, 1, []), (67, .aload_n 0, 1, []), (68, .getfield 25, 3, [9, 7, 161]), (71, .invokevirtual 133, 3, []), (74, .aload_n 0, 1, []), (75, .dup, 1, []), (76, .getfield 162, 3, [9, 14, 172]), (79, .aload_n 0, 1, []), (80, .iload_n 1, 1, []), (81, .iload_n 2, 1, []), (82, .invokevirtual 169, 3, []), (85, .iadd, 1, []), (86, .putfield 162, 3, [9, 14, 172]), (89, .aload_n 0, 1, []), (90, .aload_n 0, 1, []), (91, .getfield 18, 3, [9, 4, 158]), (94, .iload_n 3, 1, []), (95, .iaload, 1, []), (96, .aload_n 0, 1, []), (97, .getfield 25, 3, [9, 7, 161]), (100, .invokevirtual 141, 3, []), (103, .iinc 3 1, 3, []), (106, .goto (-54), 3, [30]), (109, .aload_n 0, 1, []), (110, .getfield 162, 3, [9, 14, 172]), (113, .ifCond .le 7, 3, [66]), (116, .iconst 2, 1, []), (117, .goto 4, 3, [67]), (120, .iconst (-1), 1, []), (121, .ireturn, 1, [])])
set_option maxRecDepth 20000 in
theorem ckX9_findJoin_0 : ckR mX9_findJoin 0 40 = true := by decide +kernel
set_option maxRecDepth 20000 in
theorem ckX9_findJoin_1 : ckR mX9_findJoin 40 40 = true := by decide +kernel
set_option maxRecDepth 20000 in
theorem okX9_findJoin : okC mX9_findJoin := ⟨by decide +kernel, memT5 182 rfl rfl, okM.of (n := 2) (Or.inr rfl) (by decide) (fun j hj => by match j, hj with | 0, _ => exact ckX9_findJoin_0 | 1, _ => exact ckX9_findJoin_1 | _ + 2, hj => exact absurd hj (by omega))⟩
set_option maxRecDepth 20000 in
def mX9_joiningPairs : Mt := (yX9_joiningPairs, cX9_joiningPairs, 10, (some .int), [9, 139, 2, 0, 1272, 42], [(0, .aload_n 0, 1, []), (1, .getfield 12, 3, [9, 3, 157]), (4, .iload_n 1, 1, []), (5, .invokevirtual 165, 3, []), (8, .istore_n 3, 1, []), (9, .aload_n 0, 1, []), (10, .getfield 12, 3, [9, 3, 157]), (13, .iload_n 2, 1, []), (14, .invokevirtual 165, 3, []), (17, .istore 4, 2, []), (19, .iconst 0, 1, []), (20, .istore 5, 2, []), (22, .iconst 0, 1, []), (23, .istore 6, 2, []), (25, .iload 6, 2, []), (27, .aload_n 0, 1, []), (28, .getfield 58, 3, [9, 6, 160]), (31, .if_icmp .ge 105, 3, [73]), (34, .aload_n 0, 1, []), (35, .getfield 18, 3, [9, 4, 158]), (38, .iload 6, 2, []), (40, .iaload, 1, []), (41, .bipush 16, 2, []), (43, .idiv, 1, []), (44, .istore 7, 2, []), (46, .aload_n 0, 1, []), (47, .getfield 12, 3, [9, 3, 157]), (50, .aload_n 0, 1, []), (51, .getfield 18, 3, [9, 4, 158]), (54, .iload 6, 2, []), (56, .iaload, 1, []), (57, .bipush 16, 2, []), (59, .irem, 1, []), (60, .invokevirtual 165, 3, []), (63, .istore 8, 2, []), (65, .iload_n 3, 1, []), (66, .iload 7, 2, []), (68, .ishr, 1, []), (69, .iconst 1, 1, []), (70, .iand, 1, []), (71, .iconst 1, 1, []), (72, .if_icmp .ne 11, 3, [46]), (75, .iload 8, 2, []), (77, .iload 4, 2, []), (79, .iand, 1, []), (80, .ifCond .ne 21, 3, [57]), (83, .iload 4, 2, []), (85, .iload 7, 2, []), (87, .ishr, 1, []), (88, .iconst 1, 1, []), (89, .iand, 1, []), (90, .iconst 1, 1, []), (91, .if_icmp .ne 14, 3, [59]), (94, .iload 8, 2, []), (96, .iload_n 3, 1, []), (97, .iand, 1, []), (98, .ifCond .eq 7, 3, [59]), (101, .iconst 1, 1, []), (102, .goto 4, 3, [60]), (105, .iconst 0, 1, []), (106, .istore 9, 2, []), (108, .iload 9, 2, []), (110, .ifCond .eq 20, 3, [71]), (113, .aload_n 0, 1, []), (114, .aload_n 0, 1, []), (115, .getfield 18, 3, [9, 4, 158]), (118, .iload 6, 2, []), (120, .iaload, 1, []), (121, .invokevirtual 65, 3, []), (124, .ifCond .eq 6, 3, [71]), (127, .iinc 5 1, 3, []), (130, .iinc 6 1, 3, []), (133, .goto (-108), 3, [14]), (136, .iload 5, 2, []), (138, .ireturn, 1, [])])
set_option maxRecDepth 20000 in
theorem ckX9_joiningPairs_0 : ckR mX9_joiningPairs 0 40 = true := by decide +kernel
set_option maxRecDepth 20000 in
theorem ckX9_joiningPairs_1 : ckR mX9_joiningPairs 40 40 = true := by decide +kernel
set_option maxRecDepth 20000 in
theorem okX9_joiningPairs : okC mX9_joiningPairs := ⟨by decide +kernel, memT5 187 rfl rfl, okM.of (n := 2) (Or.inr rfl) (by decide) (fun j hj => by match j, hj with | 0, _ => exact ckX9_joiningPairs_0 | 1, _ => exact ckX9_joiningPairs_1 | _ + 2, hj => exact absurd hj (by omega))⟩
set_option maxRecDepth 20000 in
def mX9_findLies : Mt := (yX9_findLies, cX9_findLies, 4, (some .int), [9, 139, 0, 0, 1287, 1288], [(0, .aload_n 0, 1, []), (1, .getfield 12, 3, [9, 3, 157]), (4, .aload_n 0, 1, []), (5, .getfield 37, 3, [9, 0, 154]), (8, .getfield 49, 3, [1, 0, 49]), (11, .invokevirtual 54, 3, []), (14, .iconst 1, 1, []), (15, .aload_n 0, 1, []), (16, .getfield 37, 3, [9, 0, 154]), (19, .getfield 172, 3, [1, 7, 70]), (22, .ishl, 1, []), (23, .iconst 1, 1, []), (24, .isub, 1, []), (25, .istore_n 1, 1, []), (26, .iload_n 1, 1, []), (27, .istore_n 2, 1, []), (28, .iconst 0, 1, []), (29, .istore_n 3, 1, []), (30, .iload_n 3, 1, []), (31, .iload_n 1, 1, []), (32, .if_icmp .ge 34, 3, [38]), (35, .iload_n 3, 1, []), (36, .invokestatic 175, 3, []), (39, .iload_n 2, 1, []), (40, .invokestatic 175, 3, []), (43, .if_icmp .ge 17, 3, [36]), (46, .aload_n 0, 1, []), (47, .iload_n 1, 1, []), (48, .iload_n 3, 1, []), (49, .iconst (-1), 1, []), (50, .ixor, 1, []), (51, .iand, 1, []), (52, .invokevirtual 180, 3, []), (55, .ifCond .eq 5, 3, [36]), (58, .iload_n 3, 1, []), (59, .istore_n 2, 1, []), (60, .iinc 3 1, 3, []), (63, .goto (-33), 3, [18]), (66, .iload_n 2, 1, []), (67, .ireturn, 1, [])])
set_option maxRecDepth 20000 in
theorem ckX9_findLies_0 : ckR mX9_findLies 0 40 = true := by decide +kernel
set_option maxRecDepth 20000 in
theorem okX9_findLies : okC mX9_findLies := ⟨by decide +kernel, memT5 203 rfl rfl, okM.of (n := 1) (Or.inr rfl) (by decide) (fun j hj => by match j, hj with | 0, _ => exact ckX9_findLies_0 | _ + 1, hj => exact absurd hj (by omega))⟩
set_option maxRecDepth 20000 in
def mX9_canAllBe : Mt := (yX9_canAllBe, cX9_canAllBe, 5, (some .boolean), [9, 139, 1, 0, 1298, 43], [(0, .aload_n 0, 1, []), (1, .getfield 12, 3, [9, 3, 157]), (4, .aload_n 0, 1, []), (5, .getfield 37, 3, [9, 0, 154]), (8, .getfield 49, 3, [1, 0, 49]), (11, .invokevirtual 183, 3, []), (14, .iconst 0, 1, []), (15, .istore_n 2, 1, []), (16, .iload_n 2, 1, []), (17, .aload_n 0, 1, []), (18, .getfield 37, 3, [9, 0, 154]), (21, .getfield 172, 3, [1, 7, 70]), (24, .if_icmp .ge 73, 3, [52]), (27, .iload_n 1, 1, []), (28, .iload_n 2, 1, []), (29, .ishr, 1, []), (30, .iconst 1, 1, []), (31, .iand, 1, []), (32, .iconst 1, 1, []), (33, .if_icmp .ne 58, 3, [50]), (36, .aload_n 0, 1, []), (37, .getfield 37, 3, [9, 0, 154]), (40, .getfield 186, 3, [1, 5, 64]), (43, .iload_n 2, 1, []), (44, .iaload, 1, []), (45, .istore_n 3, 1, []), (46, .aload_n 0, 1, []), (47, .getfield 37, 3, [9, 0, 154]), (50, .getfield 189, 3, [1, 6, 67]), (53, .iload_n 2, 1, []), (54, .iaload, 1, []), (55, .istore 4, 2, []), (57, .aload_n 0, 1, []), (58, .getfield 12, 3, [9, 3, 157]), (61, .iload_n 3, 1, []), (62, .iload 4, 2, []), (64, .aload_n 0, 1, []), (65, .getfield 37, 3, [9, 0, 154]), (68, .getfield 69, 3, [1, 1, 54]), (71, .iconst 2, 1, []), (72, .iaload, 1, []), (73, .invokevirtual 72, 3, []), (76, .ifCond .ne 5, 3, [45]), (79, .iconst 0, 1, []), (80, .ireturn, 1, []), (81, .aload_n 0, 1, []), (82, .getfield 12, 3, [9, 3, 157]), (85, .iload_n 3, 1, []), (86, .iload 4, 2, []), (88, .invokevirtual 84, 3, []), (91, .iinc 2 1, 3, []), (94, .goto (-78), 3, [8]), (97, .iconst 1, 1, []), (98, .ireturn, 1, [])])
set_option maxRecDepth 20000 in
theorem ckX9_canAllBe_0 : ckR mX9_canAllBe 0 40 = true := by decide +kernel
set_option maxRecDepth 20000 in
theorem ckX9_canAllBe_1 : ckR mX9_canAllBe 40 40 = true := by decide +kernel
set_option maxRecDepth 20000 in
theorem okX9_canAllBe : okC mX9_canAllBe := ⟨by decide +kernel, memT5 213 rfl rfl, okM.of (n := 2) (Or.inr rfl) (by decide) (fun j hj => by match j, hj with | 0, _ => exact ckX9_canAllBe_0 | 1, _ => exact ckX9_canAllBe_1 | _ + 2, hj => exact absurd hj (by omega))⟩
set_option maxRecDepth 20000 in
def mX9_findSecrets : Mt := (yX9_findSecrets, cX9_findSecrets, 3, (some .int), [9, 139, 0, 0, 1315, 1316], [(0, .aload_n 0, 1, []), (1, .invokevirtual 101, 3, []), (4, .iconst 0, 1, []), (5, .istore_n 1, 1, []), (6, .iconst 0, 1, []), (7, .istore_n 2, 1, []), (8, .iload_n 2, 1, []), (9, .aload_n 0, 1, []), (10, .getfield 58, 3, [9, 6, 160]), (13, .if_icmp .ge 59, 3, [40]), (16, .aload_n 0, 1, []), (17, .aload_n 0, 1, []), (18, .getfield 18, 3, [9, 4, 158]), (21, .iload_n 2, 1, []), (22, .iaload, 1, []), (23, .aload_n 0, 1, []), (24, .getfield 25, 3, [9, 7, 161]), (27, .invokevirtual 133, 3, []), (30, .aload_n 0, 1, []), (31, .invokevirtual 192, 3, []), (34, .ifCond .eq 18, 3, [30]), (37, .aload_n 0, 1, []), (38, .getfield 31, 3, [9, 15, 174]), (41, .iload_n 1, 1, []), (42, .aload_n 0, 1, []), (43, .getfield 18, 3, [9, 4, 158]), (46, .iload_n 2, 1, []), (47, .iaload, 1, []), (48, .iastore, 1, []), (49, .iinc 1 1, 3, []), (52, .aload_n 0, 1, []), (53, .aload_n 0, 1, []), (54, .getfield 18, 3, [9, 4, 158]), (57, .iload_n 2, 1, []), (58, .iaload, 1, []), (59, .aload_n 0, 1, []), (60, .getfield 25, 3, [9, 7, 161]), (63, .invokevirtual 141, 3, []), (66, .iinc 2 1, 3, []), (69, .goto (-61), 3, [6]), (72, .iload_n 1, 1, []), (73, .ireturn, 1, [])])
set_option maxRecDepth 20000 in
theorem ckX9_findSecrets_0 : ckR mX9_findSecrets 0 40 = true := by decide +kernel
set_option maxRecDepth 20000 in
theorem ckX9_findSecrets_1 : ckR mX9_findSecrets 40 40 = true := by decide +kernel
set_option maxRecDepth 20000 in
theorem okX9_findSecrets : okC mX9_findSecrets := ⟨by decide +kernel, memT5 231 rfl rfl, okM.of (n := 2) (Or.inr rfl) (by decide) (fun j hj => by match j, hj with | 0, _ => exact ckX9_findSecrets_0 | 1, _ => exact ckX9_findSecrets_1 | _ + 2, hj => exact absurd hj (by omega))⟩
set_option maxRecDepth 20000 in
def mX9_areAllSightsSo : Mt := (yX9_areAllSightsSo, cX9_areAllSightsSo, 2, (some .boolean), [9, 139, 0, 0, 1320, 44], [(0, .iconst 0, 1, []), (1, .istore_n 1, 1, []), (2, .iload_n 1, 1, []), (3, .aload_n 0, 1, []), (4, .getfield 37, 3, [9, 0, 154]), (7, .getfield 196, 3, [1, 11, 82]), (10, .if_icmp .ge 52, 3, [32]), (13, .aload_n 0, 1, []), (14, .getfield 45, 3, [9, 2, 156]), (17, .aload_n 0, 1, []), (18, .getfield 12, 3, [9, 3, 157]), (21, .aload_n 0, 1, []), (22, .getfield 37, 3, [9, 0, 154]), (25, .getfield 199, 3, [1, 8, 73]), (28, .iload_n 1, 1, []), (29, .iaload, 1, []), (30, .aload_n 0, 1, []), (31, .getfield 37, 3, [9, 0, 154]), (34, .getfield 202, 3, [1, 9, 76]), (37, .iload_n 1, 1, []), (38, .iaload, 1, []), (39, .invokevirtual 205, 3, []), (42, .aload_n 0, 1, []), (43, .getfield 37, 3, [9, 0, 154]), (46, .getfield 209, 3, [1, 10, 79]), (49, .iload_n 1, 1, []), (50, .iaload, 1, []), (51, .if_icmp .eq 5, 3, [30]), (54, .iconst 0, 1, []), (55, .ireturn, 1, []), (56, .iinc 1 1, 3, []), (59, .goto (-57), 3, [2]), (62, .iconst 1, 1, []), (63, .ireturn, 1, [])])
set_option maxRecDepth 20000 in
theorem ckX9_areAllSightsSo_0 : ckR mX9_areAllSightsSo 0 40 = true := by decide +kernel
set_option maxRecDepth 20000 in
theorem okX9_areAllSightsSo : okC mX9_areAllSightsSo := ⟨by decide +kernel, memT5 235 rfl rfl, okM.of (n := 1) (Or.inr rfl) (by decide) (fun j hj => by match j, hj with | 0, _ => exact ckX9_areAllSightsSo_0 | _ + 1, hj => exact absurd hj (by omega))⟩
set_option maxRecDepth 20000 in
def mX9_holdFair : Mt := (yX9_holdFair, cX9_holdFair, 9, (some .int), [9, 139, 2, 0, 1329, 1330], [(0, .aload_n 0, 1, []), (1, .getfield 34, 3, [9, 16, 176]), (4, .aload_n 0, 1, []), (5, .getfield 37, 3, [9, 0, 154]), (8, .getfield 49, 3, [1, 0, 49]), (11, .invokevirtual 54, 3, []), (14, .aload_n 0, 1, []), (15, .iload_n 1, 1, []), (16, .putfield 212, 3, [9, 17, 178]), (19, .iconst 0, 1, []), (20, .istore_n 3, 1, []), (21, .iconst 0, 1, []), (22, .istore 4, 2, []), (24, .iload 4, 2, []), (26, .iload_n 2, 1, []), (27, .if_icmp .ge 70, 3, [47]), (30, .aload_n 0, 1, []), (31, .invokevirtual 215, 3, []), (34, .istore 5, 2, []), (36, .aload_n 0, 1, []), (37, .invokevirtual 215, 3, []), (40, .istore 6, 2, []), (42, .aload_n 0, 1, []), (43, .invokevirtual 215, 3, []), (46, .istore 7, 2, []), (48, .aload_n 0, 1, []), (49, .getfield 41, 3, [9, 1, 155]), (52, .aload_n 0, 1, []), (53, .getfield 34, 3, [9, 16, 176]), (56, .iload 7, 2, []), (58, .iload 6, 2, []), (60, .iload 5, 2, []), (62, .invokevirtual 218, 3, []), (65, .istore 8, 2, []), (67, .iload 8, 2, []), (69, .iconst (-1), 1, []), (70, .if_icmp .eq 21, 3, [45]), (73, .aload_n 0, 1, []), (74, .getfield 34, 3, [9, 16, 176]), (77, .iload 7, 2, []), (79, .iload 6, 2, []), (81, .iload 5, 2, []), (83, .iload 8, 2, []), (85, .invokevirtual 222, 3, []), (88, .iinc 3 1, 3, []), (91, .iinc 4 1, 3, []), (94, .goto (-70), 3, [13]), (97, .iload_n 3, 1, []), (98, .ireturn, 1, [])])
set_option maxRecDepth 20000 in
theorem ckX9_holdFair_0 : ckR mX9_holdFair 0 40 = true := by decide +kernel
set_option maxRecDepth 20000 in
theorem ckX9_holdFair_1 : ckR mX9_holdFair 40 40 = true := by decide +kernel
set_option maxRecDepth 20000 in
theorem okX9_holdFair : okC mX9_holdFair := ⟨by decide +kernel, memT6 5 rfl rfl, okM.of (n := 2) (Or.inr rfl) (by decide) (fun j hj => by match j, hj with | 0, _ => exact ckX9_holdFair_0 | 1, _ => exact ckX9_holdFair_1 | _ + 2, hj => exact absurd hj (by omega))⟩
set_option maxRecDepth 20000 in
def mX9_drawPerson : Mt := (yX9_drawPerson, cX9_drawPerson, 1, (some .int), [9, 139, 0, 0, 1334, 45], [(0, .aload_n 0, 1, []), (1, .aload_n 0, 1, []), (2, .getfield 212, 3, [9, 17, 178]), (5, .sipush 1103, 3, []), (8, .imul, 1, []), (9, .sipush 12345, 3, []), (12, .iadd, 1, []), (13, .ldc 226, 2, []), (15, .irem, 1, []), (16, .putfield 212, 3, [9, 17, 178]), (19, .aload_n 0, 1, []), (20, .getfield 212, 3, [9, 17, 178]), (23, .iconst 1, 1, []), (24, .aload_n 0, 1, []), (25, .getfield 34, 3, [9, 16, 176]), (28, .getfield 62, 3, [5, 0, 0]), (31, .invokestatic 227, 3, []), (34, .irem, 1, []), (35, .ireturn, 1, [])])
set_option maxRecDepth 20000 in
theorem ckX9_drawPerson_0 : ckR mX9_drawPerson 0 40 = true := by decide +kernel
set_option maxRecDepth 20000 in
theorem okX9_drawPerson : okC mX9_drawPerson := ⟨by decide +kernel, memT6 9 rfl rfl, okM.of (n := 1) (Or.inr rfl) (by decide) (fun j hj => by match j, hj with | 0, _ => exact ckX9_drawPerson_0 | _ + 1, hj => exact absurd hj (by omega))⟩
set_option maxRecDepth 20000 in
def mX10_init : Mt := (yX10_init, cX10_init, 1, none, [10, 130, 0, 2, 311], [(0, .aload_n 0, 1, []), (1, .invokespecial 3, 3, []), (4, .aload_n 0, 1, []), (5, .sipush 400, 3, []), (8, .newarray .int, 2, []), (10, .putfield 9, 3, [10, 0, 84]), (13, .aload_n 0, 1, []), (14, .sipush 400, 3, []), (17, .newarray .int, 2, []), (19, .putfield 15, 3, [10, 2, 87]), (22, .aload_n 0, 1, []), (23, .sipush 400, 3, []), (26, .newarray .int, 2, []), (28, .putfield 18, 3, [10, 3, 88]), (31, .aload_n 0, 1, []), (32, .iconst (-1), 1, []), (33, .putfield 21, 3, [10, 6, 91]), (36, .return_, 1, [])])
set_option maxRecDepth 20000 in
theorem ckX10_init_0 : ckR mX10_init 0 40 = true := by decide +kernel
set_option maxRecDepth 20000 in
theorem okX10_init : okC mX10_init := ⟨by decide +kernel, memT1 186 rfl rfl, okM.of (n := 1) (Or.inr rfl) (by decide) (fun j hj => by match j, hj with | 0, _ => exact ckX10_init_0 | _ + 1, hj => exact absurd hj (by omega))⟩
set_option maxRecDepth 20000 in
def mX10_append : Mt := (yX10_append, cX10_append, 3, none, [10, 130, 1, 0, 776, 777], [(0, .bipush 24, 2, []), (2, .istore_n 2, 1, []), (3, .iload_n 2, 1, []), (4, .ifCond .lt 45, 3, [26]), (7, .aload_n 0, 1, []), (8, .getfield 25, 3, [10, 1, 85]), (11, .sipush 400, 3, []), (14, .if_icmp .ge 35, 3, [26]), (17, .aload_n 0, 1, []), (18, .getfield 9, 3, [10, 0, 84]), (21, .aload_n 0, 1, []), (22, .getfield 25, 3, [10, 1, 85]), (25, .iload_n 1, 1, []), (26, .iload_n 2, 1, []), (27, .iushr, 1, []), (28, .sipush 255, 3, []), (31, .iand, 1, []), (32, .iastore, 1, []), (33, .aload_n 0, 1, []), (34, .dup, 1, []), (35, .getfield 25, 3, [10, 1, 85]), (38, .iconst 1, 1, []), (39, .iadd, 1, []), (40, .putfield 25, 3, [10, 1, 85]), (43, .iinc 2 (-8), 3, []), (46, .goto (-43), 3, [2]), (49, .return_, 1, [])])
set_option maxRecDepth 20000 in
theorem ckX10_append_0 : ckR mX10_append 0 40 = true := by decide +kernel
set_option maxRecDepth 20000 in
theorem okX10_append : okC mX10_append := ⟨by decide +kernel, memT3 172 rfl rfl, okM.of (n := 1) (Or.inr rfl) (by decide) (fun j hj => by match j, hj with | 0, _ => exact ckX10_append_0 | _ + 1, hj => exact absurd hj (by omega))⟩
set_option maxRecDepth 20000 in
def mX10_byteAt : Mt := (yX10_byteAt, cX10_byteAt, 2, (some .int), [10, 130, 1, 0, 792, 793], [(0, .iload_n 1, 1, []), (1, .ifCond .lt 20, 3, [11]), (4, .iload_n 1, 1, []), (5, .aload_n 0, 1, []), (6, .getfield 25, 3, [10, 1, 85]), (9, .if_icmp .ge 12, 3, [11]), (12, .aload_n 0, 1, []), (13, .getfield 9, 3, [10, 0, 84]), (16, .iload_n 1, 1, []), (17, .iaload, 1, []), (18, .goto 4, 3, [12]), (21, .iconst 0, 1, []), (22, .ireturn, 1, [])])
set_option maxRecDepth 20000 in
theorem ckX10_byteAt_0 : ckR mX10_byteAt 0 40 = true := by decide +kernel
set_option maxRecDepth 20000 in
theorem okX10_byteAt : okC mX10_byteAt := ⟨by decide +kernel, memT3 188 rfl rfl, okM.of (n := 1) (Or.inr rfl) (by decide) (fun j hj => by match j, hj with | 0, _ => exact ckX10_byteAt_0 | _ + 1, hj => exact absurd hj (by omega))⟩
set_option maxRecDepth 20000 in
def mX10_split : Mt := (yX10_split, cX10_split, 4, none, [10, 130, 0, 0, 812, 813], [(0, .ldc 28, 2, []), (2, .astore_n 1, 1, []), (3, .aload_n 0, 1, []), (4, .iconst 0, 1, []), (5, .putfield 30, 3, [10, 4, 89]), (8, .iconst 0, 1, []), (9, .istore_n 2, 1, []), (10, .iconst 0, 1, []), (11, .istore_n 3, 1, []), (12, .iload_n 3, 1, []), (13, .aload_n 0, 1, []), (14, .getfield 25, 3, [10, 1, 85]), (17, .if_icmp .ge 138, 3, [89]), (20, .iload_n 3, 1, []), (21, .iload_n 2, 1, []), (22, .if_icmp .lt 127, 3, [87]), (25, .aload_n 0, 1, []), (26, .getfield 9, 3, [10, 0, 84]), (29, .iload_n 3, 1, []), (30, .iaload, 1, []), (31, .bipush 32, 2, []), (33, .if_icmp .ne 6, 3, [23]), (36, .goto 113, 3, [87]), (39, .aload_n 0, 1, []), (40, .getfield 15, 3, [10, 2, 87]), (43, .aload_n 0, 1, []), (44, .getfield 30, 3, [10, 4, 89]), (47, .iload_n 3, 1, []), (48, .iastore, 1, []), (49, .aload_n 0, 1, []), (50, .getfield 9, 3, [10, 0, 84]), (53, .iload_n 3, 1, []), (54, .iaload, 1, []), (55, .invokestatic 33, 3, []), (58, .ifCond .eq 29, 3, [51]), (61, .aload_n 0, 1, []), (62, .iload_n 3, 1, []), (63, .iconst 1, 1, []), (64, .invokevirtual 37, 3, []), (67, .istore_n 2, 1, []), (68, .aload_n 0, 1, []), (69, .getfield 18, 3, [10, 3, 88]), (72, .aload_n 0, 1, []), (73, .getfield 30, 3, [10, 4, 89]), (76, .aload_n 0, 1, []), (77, .aload_n 1, 1, []), (78, .iload_n 3, 1, []), (79, .iload_n 2, 1, []), (80, .invokevirtual 41, 3, []), (83, .iastore, 1, []), (84, .goto 55, 3, [81]), (87, .aload_n 0, 1, []), (88, .getfield 9, 3, [10, 0, 84]), (91, .iload_n 3, 1, []), (92, .iaload, 1, []), (93, .invokestatic 45, 3, []), (96, .ifCond .eq 28, 3, [72]), (99, .aload_n 0, 1, []), (100, .iload_n 3, 1, []), (101, .iconst 0, 1, []), (102, .invokevirtual 37, 3, []), (105, .istore_n 2, 1, []), (106, .aload_n 0, 1, []), (107, .getfield 18, 3, [10, 3, 88]), (110, .aload_n 0, 1, []), (111, .getfield 30, 3, [10, 4, 89]), (114, .aload_n 0, 1, []), (115, .iload_n 3, 1, []), (116, .iload_n 2, 1, []), (117, .invokevirtual 48, 3, []), (120, .iastore, 1, []), (121, .goto 18, 3, [81]), (124, .aload_n 0, 1, []), (125, .getfield 18, 3, [10, 3, 88]), (128, .aload_n 0, 1, []), (129, .getfield 30, 3, [10, 4, 89]), (132, .aload_n 0, 1, []), (133, .getfield 9, 3, [10, 0, 84]), (136, .iload_n 3, 1, []), (137, .iaload, 1, []), (138, .iastore, 1, []), (139, .aload_n 0, 1, []), (140, .dup, 1, []), (141, .getfield 30, 3, [10, 4, 89]), (144, .iconst 1, 1, []), (145, .iadd, 1, []), (146, .putfield 30, 3, [10, 4, 89]), (149, .iinc 3 1, 3, []), (152, .goto (-140), 3, [9]), (155, .aload_n 0, 1, []), (156, .iconst (-1), 1, []), (157, .putfield 52, 3, [10, 5, 90]), (160, .aload_n 0, 1, []), (161, .invokevirtual 55, 3, []), (164, .return_, 1, [])])
set_option maxRecDepth 20000 in
theorem ckX10_split_0 : ckR mX10_split 0 40 = true := by decide +kernel
set_option maxRecDepth 20000 in
theorem ckX10_split_1 : ckR mX10_split 40 40 = true := by decide +kernel
set_option maxRecDepth 20000 in
theorem ckX10_split_2 : ckR mX10_split 80 40 = true := by decide +kernel
set_option maxRecDepth 20000 in
theorem okX10_split : okC mX10_split := ⟨by decide +kernel, memT3 208 rfl rfl, okM.of (n := 3) (Or.inr rfl) (by decide) (fun j hj => by match j, hj with | 0, _ => exact ckX10_split_0 | 1, _ => exact ckX10_split_1 | 2, _ => exact ckX10_split_2 | _ + 3, hj => exact absurd hj (by omega))⟩
set_option maxRecDepth 20000 in
def mX10_isLetter : Mt := (yX10_isLetter, cX10_isLetter, 1, (some .boolean), [10, 130, 1, 1, 817], [(0, .iload_n 0, 1, []), (1, .bipush 97, 2, []), (3, .if_icmp .lt 13, 3, [8]), (6, .iload_n 0, 1, []), (7, .bipush 122, 2, []), (9, .if_icmp .gt 7, 3, [8]), (12, .iconst 1, 1, []), (13, .goto 4, 3, [9]), (16, .iconst 0, 1, []), (17, .ireturn, 1, [])])
set_option maxRecDepth 20000 in
theorem ckX10_isLetter_0 : ckR mX10_isLetter 0 40 = true := by decide +kernel
set_option maxRecDepth 20000 in
theorem okX10_isLetter : okC mX10_isLetter := ⟨by decide +kernel, memT3 212 rfl rfl, okM.of (n := 1) (Or.inr rfl) (by decide) (fun j hj => by match j, hj with | 0, _ => exact ckX10_isLetter_0 | _ + 1, hj => exact absurd hj (by omega))⟩
set_option maxRecDepth 20000 in
def mX10_isDigit : Mt := (yX10_isDigit, cX10_isDigit, 1, (some .boolean), [10, 130, 1, 1, 824], [(0, .iload_n 0, 1, []), (1, .bipush 48, 2, []), (3, .if_icmp .lt 13, 3, [8]), (6, .iload_n 0, 1, []), (7, .bipush 57, 2, []), (9, .if_icmp .gt 7, 3, [8]), (12, .iconst 1, 1, []), (13, .goto 4, 3, [9]), (16, .iconst 0, 1, []), (17, .ireturn, 1, [])])
set_option maxRecDepth 20000 in
theorem ckX10_isDigit_0 : ckR mX10_isDigit 0 40 = true := by decide +kernel
set_option maxRecDepth 20000 in
theorem okX10_isDigit : okC mX10_isDigit := ⟨by decide +kernel, memT3 219 rfl rfl, okM.of (n := 1) (Or.inr rfl) (by decide) (fun j hj => by match j, hj with | 0, _ => exact ckX10_isDigit_0 | _ + 1, hj => exact absurd hj (by omega))⟩
set_option maxRecDepth 20000 in
def mX10_behindRow : Mt := (yX10_behindRow, cX10_behindRow, 5, (some .int), [10, 130, 2, 0, 821, 5], [(0, .iload_n 1, 1, []), (1, .iconst 1, 1, []), (2, .iadd, 1, []), (3, .istore_n 3, 1, []), (4, .iconst 0, 1, []), (5, .istore 4, 2, []), (7, .iload 4, 2, []), (9, .sipush 400, 3, []), (12, .if_icmp .ge 53, 3, [33]), (15, .iload_n 3, 1, []), (16, .aload_n 0, 1, []), (17, .getfield 25, 3, [10, 1, 85]), (20, .if_icmp .ge 45, 3, [33]), (23, .iload_n 2, 1, []), (24, .ifCond .eq 18, 3, [22]), (27, .aload_n 0, 1, []), (28, .getfield 9, 3, [10, 0, 84]), (31, .iload_n 3, 1, []), (32, .iaload, 1, []), (33, .invokestatic 33, 3, []), (36, .ifCond .ne 20, 3, [30]), (39, .goto 15, 3, [28]), (42, .aload_n 0, 1, []), (43, .getfield 9, 3, [10, 0, 84]), (46, .iload_n 3, 1, []), (47, .iaload, 1, []), (48, .invokestatic 45, 3, []), (51, .ifCond .ne 5, 3, [30]), (54, .iload_n 3, 1, []), (55, .ireturn, 1, []), (56, .iinc 3 1, 3, []), (59, .iinc 4 1, 3, []), (62, .goto (-55), 3, [6]), (65, .iload_n 3, 1, []), (66, .ireturn, 1, [])])
set_option maxRecDepth 20000 in
theorem ckX10_behindRow_0 : ckR mX10_behindRow 0 40 = true := by decide +kernel
set_option maxRecDepth 20000 in
theorem okX10_behindRow : okC mX10_behindRow := ⟨by decide +kernel, memT3 216 rfl rfl, okM.of (n := 1) (Or.inr rfl) (by decide) (fun j hj => by match j, hj with | 0, _ => exact ckX10_behindRow_0 | _ + 1, hj => exact absurd hj (by omega))⟩
set_option maxRecDepth 20000 in
def mX10_wordToken : Mt := (yX10_wordToken, cX10_wordToken, 9, (some .int), [10, 130, 3, 0, 828, 6], [(0, .sipush 257, 3, []), (3, .istore 4, 2, []), (5, .iconst 0, 1, []), (6, .istore 5, 2, []), (8, .iconst 1, 1, []), (9, .istore 6, 2, []), (11, .iconst 0, 1, []), (12, .istore 7, 2, []), (14, .iload 7, 2, []), (16, .aload_n 1, 1, []), (17, .invokevirtual 58, 3, []), (20, .if_icmp .ge 89, 3, [56]), (23, .aload_n 1, 1, []), (24, .iload 7, 2, []), (26, .invokevirtual 64, 3, []), (29, .istore 8, 2, []), (31, .iload 8, 2, []), (33, .bipush 32, 2, []), (35, .if_icmp .eq 43, 3, [40]), (38, .iload 6, 2, []), (40, .ifCond .eq 29, 3, [36]), (43, .iload 5, 2, []), (45, .iload_n 3, 1, []), (46, .iload_n 2, 1, []), (47, .isub, 1, []), (48, .if_icmp .ge 21, 3, [36]), (51, .aload_n 0, 1, []), (52, .getfield 9, 3, [10, 0, 84]), (55, .iload_n 2, 1, []), (56, .iload 5, 2, []), (58, .iadd, 1, []), (59, .iaload, 1, []), (60, .iload 8, 2, []), (62, .if_icmp .ne 7, 3, [36]), (65, .iconst 1, 1, []), (66, .goto 4, 3, [37]), (69, .iconst 0, 1, []), (70, .istore 6, 2, []), (72, .iinc 5 1, 3, []), (75, .goto 28, 3, [54]), (78, .iload 6, 2, []), (80, .ifCond .eq 14, 3, [49]), (83, .iload 5, 2, []), (85, .iload_n 3, 1, []), (86, .iload_n 2, 1, []), (87, .isub, 1, []), (88, .if_icmp .ne 6, 3, [49]), (91, .iload 4, 2, []), (93, .ireturn, 1, []), (94, .iinc 4 1, 3, []), (97, .iconst 0, 1, []), (98, .istore 5, 2, []), (100, .iconst 1, 1, []), (101, .istore 6, 2, []), (103, .iinc 7 1, 3, []), (106, .goto (-92), 3, [8]), (109, .sipush 256, 3, []), (112, .ireturn, 1, [])])
set_option maxRecDepth 20000 in
theorem ckX10_wordToken_0 : ckR mX10_wordToken 0 40 = true := by decide +kernel
set_option maxRecDepth 20000 in
theorem ckX10_wordToken_1 : ckR mX10_wordToken 40 40 = true := by decide +kernel
set_option maxRecDepth 20000 in
theorem okX10_wordToken : okC mX10_wordToken := ⟨by decide +kernel, memT3 223 rfl rfl, okM.of (n := 2) (Or.inr rfl) (by decide) (fun j hj => by match j, hj with | 0, _ => exact ckX10_wordToken_0 | 1, _ => exact ckX10_wordToken_1 | _ + 2, hj => exact absurd hj (by omega))⟩
set_option maxRecDepth 20000 in
def mX10_numberToken : Mt := (yX10_numberToken, cX10_numberToken, 5, (some .int), [10, 130, 2, 0, 880, 7], [(0, .iconst 0, 1, []), (1, .istore_n 3, 1, []), (2, .iload_n 1, 1, []), (3, .istore 4, 2, []), (5, .iload 4, 2, []), (7, .iload_n 2, 1, []), (8, .if_icmp .ge 31, 3, [22]), (11, .iload_n 3, 1, []), (12, .bipush 10, 2, []), (14, .imul, 1, []), (15, .aload_n 0, 1, []), (16, .getfield 9, 3, [10, 0, 84]), (19, .iload 4, 2, []), (21, .iaload, 1, []), (22, .iadd, 1, []), (23, .bipush 48, 2, []), (25, .isub, 1, []), (26, .sipush 1001, 3, []), (29, .invokestatic 68, 3, []), (32, .istore_n 3, 1, []), (33, .iinc 4 1, 3, []), (36, .goto (-31), 3, [4]), (39, .sipush 1000, 3, []), (42, .iload_n 3, 1, []), (43, .iadd, 1, []), (44, .ireturn, 1, [])])
set_option maxRecDepth 20000 in
theorem ckX10_numberToken_0 : ckR mX10_numberToken 0 40 = true := by decide +kernel
set_option maxRecDepth 20000 in
theorem okX10_numberToken : okC mX10_numberToken := ⟨by decide +kernel, memT4 35 rfl rfl, okM.of (n := 1) (Or.inr rfl) (by decide) (fun j hj => by match j, hj with | 0, _ => exact ckX10_numberToken_0 | _ + 1, hj => exact absurd hj (by omega))⟩
set_option maxRecDepth 20000 in
def mX10_step : Mt := (yX10_step, cX10_step, 1, none, [10, 130, 0, 0, 884, 885], [(0, .aload_n 0, 1, []), (1, .aload_n 0, 1, []), (2, .getfield 52, 3, [10, 5, 90]), (5, .iconst 1, 1, []), (6, .iadd, 1, []), (7, .aload_n 0, 1, []), (8, .getfield 30, 3, [10, 4, 89]), (11, .invokestatic 68, 3, []), (14, .putfield 52, 3, [10, 5, 90]), (17, .aload_n 0, 1, []), (18, .aload_n 0, 1, []), (19, .getfield 52, 3, [10, 5, 90]), (22, .aload_n 0, 1, []), (23, .getfield 30, 3, [10, 4, 89]), (26, .if_icmp .ge 15, 3, [21]), (29, .aload_n 0, 1, []), (30, .getfield 18, 3, [10, 3, 88]), (33, .aload_n 0, 1, []), (34, .getfield 52, 3, [10, 5, 90]), (37, .iaload, 1, []), (38, .goto 4, 3, [22]), (41, .iconst (-1), 1, []), (42, .putfield 21, 3, [10, 6, 91]), (45, .aload_n 0, 1, []), (46, .aload_n 0, 1, []), (47, .getfield 52, 3, [10, 5, 90]), (50, .aload_n 0, 1, []), (51, .getfield 30, 3, [10, 4, 89]), (54, .if_icmp .ge 15, 3, [35]), (57, .aload_n 0, 1, []), (58, .getfield 15, 3, [10, 2, 87]), (61, .aload_n 0, 1, []), (62, .getfield 52, 3, [10, 5, 90]), (65, .iaload, 1, []), (66, .goto 7, 3, [37]), (69, .aload_n 0, 1, []), (70, .getfield 25, 3, [10, 1, 85]), (73, .putfield 73, 3, [10, 7, 94]), (76, .return_, 1, [])])
set_option maxRecDepth 20000 in
theorem ckX10_step_0 : ckR mX10_step 0 40 = true := by decide +kernel
set_option maxRecDepth 20000 in
theorem okX10_step : okC mX10_step := ⟨by decide +kernel, memT4 40 rfl rfl, okM.of (n := 1) (Or.inr rfl) (by decide) (fun j hj => by match j, hj with | 0, _ => exact ckX10_step_0 | _ + 1, hj => exact absurd hj (by omega))⟩
set_option maxRecDepth 20000 in
def mX11_init : Mt := (yX11_init, cX11_init, 3, none, [11, 127, 0, 2, 151], [(0, .aload_n 0, 1, []), (1, .invokespecial 3, 3, []), (4, .aload_n 0, 1, []), (5, .new 9, 3, [1, 156, 157, 128]), (8, .dup, 1, []), (9, .invokespecial 11, 3, []), (12, .putfield 12, 3, [11, 0, 179]), (15, .aload_n 0, 1, []), (16, .iconst 2, 1, []), (17, .anewarray 9, 3, []), (20, .putfield 16, 3, [11, 1, 180]), (23, .aload_n 0, 1, []), (24, .iconst 2, 1, []), (25, .newarray .boolean, 2, []), (27, .putfield 20, 3, [11, 2, 181]), (30, .aload_n 0, 1, []), (31, .new 24, 3, [10, 308, 309, 130]), (34, .dup, 1, []), (35, .invokespecial 26, 3, []), (38, .putfield 27, 3, [11, 3, 182]), (41, .aload_n 0, 1, []), (42, .new 31, 3, [6, 343, 344, 131]), (45, .dup, 1, []), (46, .aload_n 0, 1, []), (47, .getfield 27, 3, [11, 3, 182]), (50, .invokespecial 33, 3, []), (53, .putfield 36, 3, [11, 4, 183]), (56, .aload_n 0, 1, []), (57, .new 40, 3, [3, 424, 425, 134]), (60, .dup, 1, []), (61, .invokespecial 42, 3, []), (64, .putfield 43, 3, [11, 5, 184]), (67, .aload_n 0, 1, []), (68, .new 47, 3, [4, 443, 444, 135]), (71, .dup, 1, []), (72, .invokespecial 49, 3, []), (75, .putfield 50, 3, [11, 6, 185]), (78, .aload_n 0, 1, []), (79, .iconst 5, 1, []), (80, .newarray .int, 2, []), (82, .putfield 54, 3, [11, 10, 189]), (85, .aload_n 0, 1, []), (86, .iconst (-1), 1, []), (87, .putfield 58, 3, [11, 11, 190]), (90, .aload_n 0, 1, []), (91, .iconst (-1), 1, []), (92, .putfield 62, 3, [11, 12, 191]), (95, .new 65, 3, [7, 467, 468, 136]), (98, .dup, 1, []), (99, .invokespecial 67, 3, []), (102, .astore_n 1, 1, []), (103, .aload_n 0, 1, []), (104, .new 68, 3, [2, 483, 484, 137]), (107, .dup, 1, []), (108, .aload_n 0, 1, []), (109, .getfield 12, 3, [11, 0, 179]), (112, .aload_n 1, 1, []), (113, .invokespecial 70, 3, []), (116, .putfield 73, 3, [11, 7, 186]), (119, .aload_n 0, 1, []), (120, .new 77, 3, [0, 499, 500, 138]), (123, .dup, 1, []), (124, .aload_n 0, 1, []), (125, .getfield 12, 3, [11, 0, 179]), (128, .aload_n 0, 1, []), (129, .getfield 73, 3, [11, 7, 186]), (132, .aload_n 0, 1, []), (133, .getfield 43, 3, [11, 5, 184]), (136, .aload_n 1, 1, []), (137, .aload_n 0, 1, []), (138, .getfield 50, 3, [11, 6, 185]), (141, .invokespecial 79, 3, []), (144, .putfield 82, 3, [11, 8, 187]), (147, .aload_n 0, 1, []), (148, .new 86, 3, [9, 539, 540, 139]), (151, .dup, 1, []), (152, .aload_n 0, 1, []), (153, .getfield 12, 3, [11, 0, 179]), (156, .aload_n 0, 1, []), (157, .getfield 73, 3, [11, 7, 186]), (160, .aload_n 0, 1, []), (161, .getfield 43, 3, [11, 5, 184]), (164, .invokespecial 88, 3, []), (167, .putfield 91, 3, [11, 9, 188]), (170, .iconst 0, 1, []), (171, .istore_n 2, 1, []), (172, .iload_n 2, 1, []), (173, .iconst 2, 1, []), (174, .if_icmp .ge 22, 3, [98]), (177, .aload_n 0, 1, []), (178, .getfield 16, 3, [11, 1, 180]), (181, .iload_n 2, 1, []), (182, .new 9, 3, [1, 156, 157, 128]), (185, .dup, 1, []), (186, .invokespecial 11, 3, []), (189, .aastore, 1, []), (190, .iinc 2 1, 3, []), (193, .goto (-21), 3, [86]), (196, .return_, 1, [])])
set_option maxRecDepth 20000 in
theorem ckX11_init_0 : ckR mX11_init 0 40 = true := by decide +kernel
set_option maxRecDepth 20000 in
theorem ckX11_init_1 : ckR mX11_init 40 40 = true := by decide +kernel
set_option maxRecDepth 20000 in
theorem ckX11_init_2 : ckR mX11_init 80 40 = true := by decide +kernel
set_option maxRecDepth 20000 in
theorem okX11_init : okC mX11_init := ⟨by decide +kernel, memT1 26 rfl rfl, okM.of (n := 3) (Or.inr rfl) (by decide) (fun j hj => by match j, hj with | 0, _ => exact ckX11_init_0 | 1, _ => exact ckX11_init_1 | 2, _ => exact ckX11_init_2 | _ + 3, hj => exact absurd hj (by omega))⟩
set_option maxRecDepth 20000 in
def mX11_person : Mt := (yX11_person, cX11_person, 6, (some .int), [11, 127, 4, 0, 656, 657], [(0, .iload_n 1, 1, []), (1, .iload_n 2, 1, []), (2, .iload_n 3, 1, []), (3, .iload 4, 2, []), (5, .invokestatic 95, 3, []), (8, .ifCond .ne 9, 3, [10]), (11, .aload_n 0, 1, []), (12, .iconst (-1), 1, []), (13, .invokevirtual 101, 3, []), (16, .ireturn, 1, []), (17, .aload_n 0, 1, []), (18, .getfield 12, 3, [11, 0, 179]), (21, .getfield 105, 3, [1, 0, 50]), (24, .iload_n 1, 1, []), (25, .iload_n 2, 1, []), (26, .iload_n 3, 1, []), (27, .iload 4, 2, []), (29, .invokevirtual 109, 3, []), (32, .istore 5, 2, []), (34, .iload 5, 2, []), (36, .iconst (-1), 1, []), (37, .if_icmp .ne 10, 3, [26]), (40, .aload_n 0, 1, []), (41, .bipush (-5), 2, []), (43, .invokevirtual 101, 3, []), (46, .ireturn, 1, []), (47, .aload_n 0, 1, []), (48, .getfield 50, 3, [11, 6, 185]), (51, .invokevirtual 113, 3, []), (54, .aload_n 0, 1, []), (55, .iload 5, 2, []), (57, .invokevirtual 116, 3, []), (60, .ireturn, 1, [])])
set_option maxRecDepth 20000 in
theorem ckX11_person_0 : ckR mX11_person 0 40 = true := by decide +kernel
set_option maxRecDepth 20000 in
theorem okX11_person : okC mX11_person := ⟨by decide +kernel, memT3 52 rfl rfl, okM.of (n := 1) (Or.inr rfl) (by decide) (fun j hj => by match j, hj with | 0, _ => exact ckX11_person_0 | _ + 1, hj => exact absurd hj (by omega))⟩
set_option maxRecDepth 20000 in
def mX11_put : Mt := (yX11_put, cX11_put, 8, (some .int), [11, 127, 3, 0, 679, 680], [(0, .iload_n 2, 1, []), (1, .ifCond .ne 7, 3, [4]), (4, .iconst 1, 1, []), (5, .goto 16, 3, [10]), (8, .iload_n 2, 1, []), (9, .iconst 1, 1, []), (10, .if_icmp .ne 8, 3, [9]), (13, .bipush 99, 2, []), (15, .goto 6, 3, [10]), (18, .sipush 9999, 3, []), (21, .istore 4, 2, []), (23, .iload_n 2, 1, []), (24, .ifCond .lt 18, 3, [21]), (27, .iload_n 2, 1, []), (28, .iconst 2, 1, []), (29, .if_icmp .gt 13, 3, [21]), (32, .iload_n 3, 1, []), (33, .ifCond .lt 9, 3, [21]), (36, .iload_n 3, 1, []), (37, .iload 4, 2, []), (39, .if_icmp .le 9, 3, [25]), (42, .aload_n 0, 1, []), (43, .iconst (-1), 1, []), (44, .invokevirtual 101, 3, []), (47, .ireturn, 1, []), (48, .aload_n 0, 1, []), (49, .getfield 12, 3, [11, 0, 179]), (52, .getfield 105, 3, [1, 0, 50]), (55, .astore 5, 2, []), (57, .aload 5, 2, []), (59, .iload_n 1, 1, []), (60, .invokevirtual 119, 3, []), (63, .ifCond .ne 10, 3, [37]), (66, .aload_n 0, 1, []), (67, .bipush (-2), 2, []), (69, .invokevirtual 101, 3, []), (72, .ireturn, 1, []), (73, .iload_n 2, 1, []), (74, .ifCond .ne 11, 3, [42]), (77, .aload 5, 2, []), (79, .getfield 123, 3, [5, 5, 21]), (82, .goto 21, 3, [50]), (85, .iload_n 2, 1, []), (86, .iconst 1, 1, []), (87, .if_icmp .ne 11, 3, [48]), (90, .aload 5, 2, []), (92, .getfield 126, 3, [5, 6, 24]), (95, .goto 8, 3, [50]), (98, .aload 5, 2, []), (100, .getfield 129, 3, [5, 8, 30]), (103, .astore 6, 2, []), (105, .aload 6, 2, []), (107, .iload_n 1, 1, []), (108, .iaload, 1, []), (109, .istore 7, 2, []), (111, .aload 6, 2, []), (113, .iload_n 1, 1, []), (114, .iload_n 3, 1, []), (115, .iastore, 1, []), (116, .aload_n 0, 1, []), (117, .getfield 50, 3, [11, 6, 185]), (120, .invokevirtual 113, 3, []), (123, .aload_n 0, 1, []), (124, .iload 7, 2, []), (126, .invokevirtual 116, 3, []), (129, .ireturn, 1, [])])
set_option maxRecDepth 20000 in
theorem ckX11_put_0 : ckR mX11_put 0 40 = true := by decide +kernel
set_option maxRecDepth 20000 in
theorem ckX11_put_1 : ckR mX11_put 40 40 = true := by decide +kernel
set_option maxRecDepth 20000 in
theorem okX11_put : okC mX11_put := ⟨by decide +kernel, memT3 75 rfl rfl, okM.of (n := 2) (Or.inr rfl) (by decide) (fun j hj => by match j, hj with | 0, _ => exact ckX11_put_0 | 1, _ => exact ckX11_put_1 | _ + 2, hj => exact absurd hj (by omega))⟩
set_option maxRecDepth 20000 in
def mX11_of : Mt := (yX11_of, cX11_of, 4, (some .int), [11, 127, 2, 0, 687, 688], [(0, .aload_n 0, 1, []), (1, .getfield 12, 3, [11, 0, 179]), (4, .getfield 105, 3, [1, 0, 50]), (7, .astore_n 3, 1, []), (8, .aload_n 3, 1, []), (9, .iload_n 1, 1, []), (10, .invokevirtual 119, 3, []), (13, .ifCond .ne 5, 3, [10]), (16, .iconst (-1), 1, []), (17, .ireturn, 1, []), (18, .iload_n 2, 1, []), (19, .tableswitch 143 0 10 #[57, 64, 71, 78, 85, 92, 99, 106, 113, 120, 134], 57, []), (76, .aload_n 3, 1, []), (77, .getfield 123, 3, [5, 5, 21]), (80, .iload_n 1, 1, []), (81, .iaload, 1, []), (82, .ireturn, 1, []), (83, .aload_n 3, 1, []), (84, .getfield 126, 3, [5, 6, 24]), (87, .iload_n 1, 1, []), (88, .iaload, 1, []), (89, .ireturn, 1, []), (90, .aload_n 3, 1, []), (91, .getfield 129, 3, [5, 8, 30]), (94, .iload_n 1, 1, []), (95, .iaload, 1, []), (96, .ireturn, 1, []), (97, .aload_n 3, 1, []), (98, .getfield 132, 3, [5, 2, 10]), (101, .iload_n 1, 1, []), (102, .iaload, 1, []), (103, .ireturn, 1, []), (104, .aload_n 3, 1, []), (105, .getfield 135, 3, [5, 3, 14]), (108, .iload_n 1, 1, []), (109, .iaload, 1, []), (110, .ireturn, 1, []), (111, .aload_n 3, 1, []), (112, .getfield 138, 3, [5, 4, 18]), (115, .iload_n 1, 1, []), (116, .iaload, 1, []), (117, .ireturn, 1, []), (118, .aload_n 3, 1, []), (119, .getfield 141, 3, [5, 7, 28]), (122, .iload_n 1, 1, []), (123, .iaload, 1, []), (124, .ireturn, 1, []), (125, .aload_n 3, 1, []), (126, .getfield 144, 3, [5, 9, 37]), (129, .iload_n 1, 1, []), (130, .iaload, 1, []), (131, .ireturn, 1, []), (132, .aload_n 3, 1, []), (133, .getfield 147, 3, [5, 10, 40]), (136, .iload_n 1, 1, []), (137, .iaload, 1, []), (138, .ireturn, 1, []), (139, .aload_n 3, 1, []), (140, .iload_n 1, 1, []), (141, .invokevirtual 150, 3, []), (144, .ifCond .eq 7, 3, [63]), (147, .iconst 1, 1, []), (148, .goto 4, 3, [64]), (151, .iconst 0, 1, []), (152, .ireturn, 1, []), (153, .aload_n 0, 1, []), (154, .getfield 73, 3, [11, 7, 186]), (157, .iload_n 1, 1, []), (158, .invokevirtual 153, 3, []), (161, .ireturn, 1, []), (162, .iconst (-1), 1, []), (163, .ireturn, 1, [])])
set_option maxRecDepth 20000 in
theorem ckX11_of_0 : ckR mX11_of 0 40 = true := by decide +kernel
set_option maxRecDepth 20000 in
theorem ckX11_of_1 : ckR mX11_of 40 40 = true := by decide +kernel
set_option maxRecDepth 20000 in
theorem okX11_of : okC mX11_of := ⟨by decide +kernel, memT3 83 rfl rfl, okM.of (n := 2) (Or.inr rfl) (by decide) (fun j hj => by match j, hj with | 0, _ => exact ckX11_of_0 | 1, _ => exact ckX11_of_1 | _ + 2, hj => exact absurd hj (by omega))⟩
end
section
set_option maxRecDepth 20000 in
def mX11_parent : Mt := (yX11_parent, cX11_parent, 4, (some .int), [11, 127, 2, 0, 728, 729], [(0, .aload_n 0, 1, []), (1, .getfield 12, 3, [11, 0, 179]), (4, .getfield 105, 3, [1, 0, 50]), (7, .astore_n 3, 1, []), (8, .aload_n 3, 1, []), (9, .iload_n 1, 1, []), (10, .invokevirtual 119, 3, []), (13, .ifCond .eq 11, 3, [12]), (16, .aload_n 3, 1, []), (17, .iload_n 2, 1, []), (18, .invokevirtual 119, 3, []), (21, .ifCond .ne 10, 3, [16]), (24, .aload_n 0, 1, []), (25, .bipush (-2), 2, []), (27, .invokevirtual 101, 3, []), (30, .ireturn, 1, []), (31, .aload_n 3, 1, []), (32, .iload_n 1, 1, []), (33, .iload_n 2, 1, []), (34, .invokevirtual 156, 3, []), (37, .ifCond .ne 10, 3, [25]), (40, .aload_n 0, 1, []), (41, .bipush (-3), 2, []), (43, .invokevirtual 101, 3, []), (46, .ireturn, 1, []), (47, .aload_n 3, 1, []), (48, .iload_n 1, 1, []), (49, .iload_n 2, 1, []), (50, .invokevirtual 160, 3, []), (53, .aload_n 0, 1, []), (54, .getfield 50, 3, [11, 6, 185]), (57, .invokevirtual 113, 3, []), (60, .aload_n 0, 1, []), (61, .iconst 0, 1, []), (62, .invokevirtual 116, 3, []), (65, .ireturn, 1, [])])
set_option maxRecDepth 20000 in
theorem ckX11_parent_0 : ckR mX11_parent 0 40 = true := by decide +kernel
set_option maxRecDepth 20000 in
theorem okX11_parent : okC mX11_parent := ⟨by decide +kernel, memT3 124 rfl rfl, okM.of (n := 1) (Or.inr rfl) (by decide) (fun j hj => by match j, hj with | 0, _ => exact ckX11_parent_0 | _ + 1, hj => exact absurd hj (by omega))⟩
set_option maxRecDepth 20000 in
def mX11_terms : Mt := (yX11_terms, cX11_terms, 4, (some .int), [11, 127, 2, 0, 756, 757], [(0, .aload_n 0, 1, []), (1, .getfield 12, 3, [11, 0, 179]), (4, .iload_n 1, 1, []), (5, .iload_n 2, 1, []), (6, .invokevirtual 164, 3, []), (9, .ifCond .ne 9, 3, [10]), (12, .aload_n 0, 1, []), (13, .iconst (-1), 1, []), (14, .invokevirtual 101, 3, []), (17, .ireturn, 1, []), (18, .aload_n 0, 1, []), (19, .getfield 12, 3, [11, 0, 179]), (22, .getfield 167, 3, [1, 1, 56]), (25, .iload_n 1, 1, []), (26, .iaload, 1, []), (27, .istore_n 3, 1, []), (28, .aload_n 0, 1, []), (29, .getfield 12, 3, [11, 0, 179]), (32, .getfield 167, 3, [1, 1, 56]), (35, .iload_n 1, 1, []), (36, .iload_n 2, 1, []), (37, .iastore, 1, []), (38, .aload_n 0, 1, []), (39, .iload_n 3, 1, []), (40, .invokevirtual 116, 3, []), (43, .ireturn, 1, [])])
set_option maxRecDepth 20000 in
theorem ckX11_terms_0 : ckR mX11_terms 0 40 = true := by decide +kernel
set_option maxRecDepth 20000 in
theorem okX11_terms : okC mX11_terms := ⟨by decide +kernel, memT3 152 rfl rfl, okM.of (n := 1) (Or.inr rfl) (by decide) (fun j hj => by match j, hj with | 0, _ => exact ckX11_terms_0 | _ + 1, hj => exact absurd hj (by omega))⟩
set_option maxRecDepth 20000 in
def mX11_chest : Mt := (yX11_chest, cX11_chest, 2, (some .int), [11, 127, 1, 0, 768, 769], [(0, .iload_n 1, 1, []), (1, .ifCond .lt 9, 3, [5]), (4, .iload_n 1, 1, []), (5, .bipush 6, 2, []), (7, .if_icmp .lt 7, 3, [7]), (10, .iconst (-1), 1, []), (11, .goto 15, 3, [13]), (14, .aload_n 0, 1, []), (15, .getfield 12, 3, [11, 0, 179]), (18, .getfield 105, 3, [1, 0, 50]), (21, .getfield 170, 3, [5, 12, 46]), (24, .iload_n 1, 1, []), (25, .iaload, 1, []), (26, .ireturn, 1, [])])
set_option maxRecDepth 20000 in
theorem ckX11_chest_0 : ckR mX11_chest 0 40 = true := by decide +kernel
set_option maxRecDepth 20000 in
theorem okX11_chest : okC mX11_chest := ⟨by decide +kernel, memT3 164 rfl rfl, okM.of (n := 1) (Or.inr rfl) (by decide) (fun j hj => by match j, hj with | 0, _ => exact ckX11_chest_0 | _ + 1, hj => exact absurd hj (by omega))⟩
set_option maxRecDepth 20000 in
def mX11_feed : Mt := (yX11_feed, cX11_feed, 6, (some .int), [11, 127, 5, 0, 772, 773], [(0, .aload_n 0, 1, []), (1, .getfield 27, 3, [11, 3, 182]), (4, .getfield 173, 3, [10, 1, 86]), (7, .sipush 380, 3, []), (10, .if_icmp .le 5, 3, [7]), (13, .iconst (-1), 1, []), (14, .ireturn, 1, []), (15, .aload_n 0, 1, []), (16, .getfield 27, 3, [11, 3, 182]), (19, .iload_n 1, 1, []), (20, .invokevirtual 176, 3, []), (23, .aload_n 0, 1, []), (24, .getfield 27, 3, [11, 3, 182]), (27, .iload_n 2, 1, []), (28, .invokevirtual 176, 3, []), (31, .aload_n 0, 1, []), (32, .getfield 27, 3, [11, 3, 182]), (35, .iload_n 3, 1, []), (36, .invokevirtual 176, 3, []), (39, .aload_n 0, 1, []), (40, .getfield 27, 3, [11, 3, 182]), (43, .iload 4, 2, []), (45, .invokevirtual 176, 3, []), (48, .aload_n 0, 1, []), (49, .getfield 27, 3, [11, 3, 182]), (52, .iload 5, 2, []), (54, .invokevirtual 176, 3, []), (57, .aload_n 0, 1, []), (58, .getfield 27, 3, [11, 3, 182]), (61, .getfield 173, 3, [10, 1, 86]), (64, .ireturn, 1, [])])
set_option maxRecDepth 20000 in
theorem ckX11_feed_0 : ckR mX11_feed 0 40 = true := by decide +kernel
set_option maxRecDepth 20000 in
theorem okX11_feed : okC mX11_feed := ⟨by decide +kernel, memT3 168 rfl rfl, okM.of (n := 1) (Or.inr rfl) (by decide) (fun j hj => by match j, hj with | 0, _ => exact ckX11_feed_0 | _ + 1, hj => exact absurd hj (by omega))⟩
set_option maxRecDepth 20000 in
def mX11_end : Mt := (yX11_end, cX11_end, 2, (some .int), [11, 127, 1, 0, 780, 781], [(0, .iload_n 1, 1, []), (1, .ifCond .lt 14, 3, [7]), (4, .iload_n 1, 1, []), (5, .aload_n 0, 1, []), (6, .getfield 27, 3, [11, 3, 182]), (9, .getfield 173, 3, [10, 1, 86]), (12, .if_icmp .le 5, 3, [9]), (15, .iconst (-1), 1, []), (16, .ireturn, 1, []), (17, .aload_n 0, 1, []), (18, .getfield 27, 3, [11, 3, 182]), (21, .iload_n 1, 1, []), (22, .putfield 173, 3, [10, 1, 86]), (25, .iload_n 1, 1, []), (26, .ireturn, 1, [])])
set_option maxRecDepth 20000 in
theorem ckX11_end_0 : ckR mX11_end 0 40 = true := by decide +kernel
set_option maxRecDepth 20000 in
theorem okX11_end : okC mX11_end := ⟨by decide +kernel, memT3 176 rfl rfl, okM.of (n := 1) (Or.inr rfl) (by decide) (fun j hj => by match j, hj with | 0, _ => exact ckX11_end_0 | _ + 1, hj => exact absurd hj (by omega))⟩
set_option maxRecDepth 20000 in
def mX11_row : Mt := (yX11_row, cX11_row, 4, (some .int), [11, 127, 0, 0, 784, 785], [(0, .aload_n 0, 1, []), (1, .getfield 27, 3, [11, 3, 182]), (4, .getfield 173, 3, [10, 1, 86]), (7, .ifCond .ne 10, 3, [8]), (10, .aload_n 0, 1, []), (11, .bipush (-6), 2, []), (13, .invokevirtual 101, 3, []), (16, .ireturn, 1, []), (17, .iconst 0, 1, []), (18, .istore_n 1, 1, []), (19, .iconst 0, 1, []), (20, .istore_n 2, 1, []), (21, .iconst 0, 1, []), (22, .istore_n 3, 1, []), (23, .iload_n 3, 1, []), (24, .aload_n 0, 1, []), (25, .getfield 27, 3, [11, 3, 182]), (28, .getfield 173, 3, [10, 1, 86]), (31, .if_icmp .ge 26, 3, [28]), (34, .aload_n 0, 1, []), (35, .iload_n 3, 1, []), (36, .invokevirtual 180, 3, []), (39, .ifCond .eq 9, 3, [25]), (42, .iinc 1 1, 3, []), (45, .goto 6, 3, [26]), (48, .iinc 2 1, 3, []), (51, .iinc 3 5, 3, []), (54, .goto (-31), 3, [14]), (57, .aload_n 0, 1, []), (58, .getfield 27, 3, [11, 3, 182]), (61, .iconst 0, 1, []), (62, .putfield 173, 3, [10, 1, 86]), (65, .aload_n 0, 1, []), (66, .iload_n 2, 1, []), (67, .putfield 183, 3, [11, 13, 192]), (70, .aload_n 0, 1, []), (71, .getfield 50, 3, [11, 6, 185]), (74, .invokevirtual 113, 3, []), (77, .aload_n 0, 1, []), (78, .iload_n 1, 1, []), (79, .invokevirtual 116, 3, []), (82, .ireturn, 1, [])])
set_option maxRecDepth 20000 in
theorem ckX11_row_0 : ckR mX11_row 0 40 = true := by decide +kernel
set_option maxRecDepth 20000 in
theorem ckX11_row_1 : ckR mX11_row 40 40 = true := by decide +kernel
set_option maxRecDepth 20000 in
theorem okX11_row : okC mX11_row := ⟨by decide +kernel, memT3 180 rfl rfl, okM.of (n := 2) (Or.inr rfl) (by decide) (fun j hj => by match j, hj with | 0, _ => exact ckX11_row_0 | 1, _ => exact ckX11_row_1 | _ + 2, hj => exact absurd hj (by omega))⟩
set_option maxRecDepth 20000 in
def mX11_settleFromTape : Mt := (yX11_settleFromTape, cX11_settleFromTape, 6, (some .boolean), [11, 127, 1, 0, 789, 4], [(0, .iload_n 1, 1, []), (1, .iconst 5, 1, []), (2, .iadd, 1, []), (3, .aload_n 0, 1, []), (4, .getfield 27, 3, [11, 3, 182]), (7, .getfield 173, 3, [10, 1, 86]), (10, .if_icmp .le 5, 3, [9]), (13, .iconst 0, 1, []), (14, .ireturn, 1, []), (15, .aload_n 0, 1, []), (16, .getfield 27, 3, [11, 3, 182]), (19, .iload_n 1, 1, []), (20, .invokevirtual 186, 3, []), (23, .istore_n 2, 1, []), (24, .aload_n 0, 1, []), (25, .getfield 27, 3, [11, 3, 182]), (28, .iload_n 1, 1, []), (29, .iconst 1, 1, []), (30, .iadd, 1, []), (31, .invokevirtual 186, 3, []), (34, .sipush 256, 3, []), (37, .imul, 1, []), (38, .aload_n 0, 1, []), (39, .getfield 27, 3, [11, 3, 182]), (42, .iload_n 1, 1, []), (43, .iconst 2, 1, []), (44, .iadd, 1, []), (45, .invokevirtual 186, 3, []), (48, .iadd, 1, []), (49, .istore_n 3, 1, []), (50, .aload_n 0, 1, []), (51, .getfield 27, 3, [11, 3, 182]), (54, .iload_n 1, 1, []), (55, .iconst 3, 1, []), (56, .iadd, 1, []), (57, .invokevirtual 186, 3, []), (60, .istore 4, 2, []), (62, .aload_n 0, 1, []), (63, .getfield 27, 3, [11, 3, 182]), (66, .iload_n 1, 1, []), (67, .iconst 4, 1, []), (68, .iadd, 1, []), (69, .invokevirtual 186, 3, []), (72, .istore 5, 2, []), (74, .iload_n 2, 1, []), (75, .iload_n 3, 1, []), (76, .iload 4, 2, []), (78, .iload 5, 2, []), (80, .invokestatic 95, 3, []), (83, .ifCond .eq 27, 3, [62]), (86, .aload_n 0, 1, []), (87, .getfield 12, 3, [11, 0, 179]), (90, .getfield 105, 3, [1, 0, 50]), (93, .iload_n 2, 1, []), (94, .iload_n 3, 1, []), (95, .iload 4, 2, []), (97, .iload 5, 2, []), (99, .invokevirtual 109, 3, []), (102, .iconst (-1), 1, []), (103, .if_icmp .eq 7, 3, [62]), (106, .iconst 1, 1, []), (107, .goto 4, 3, [63]), (110, .iconst 0, 1, []), (111, .ireturn, 1, [])])
set_option maxRecDepth 20000 in
theorem ckX11_settleFromTape_0 : ckR mX11_settleFromTape 0 40 = true := by decide +kernel
set_option maxRecDepth 20000 in
theorem ckX11_settleFromTape_1 : ckR mX11_settleFromTape 40 40 = true := by decide +kernel
set_option maxRecDepth 20000 in
theorem okX11_settleFromTape : okC mX11_settleFromTape := ⟨by decide +kernel, memT3 184 rfl rfl, okM.of (n := 2) (Or.inr rfl) (by decide) (fun j hj => by match j, hj with | 0, _ => exact ckX11_settleFromTape_0 | 1, _ => exact ckX11_settleFromTape_1 | _ + 2, hj => exact absurd hj (by omega))⟩
set_option maxRecDepth 20000 in
def mX11_mould : Mt := (yX11_mould, cX11_mould, 1, (some .int), [11, 127, 0, 0, 796, 797], [(0, .aload_n 0, 1, []), (1, .getfield 183, 3, [11, 13, 192]), (4, .ireturn, 1, [])])
set_option maxRecDepth 20000 in
theorem ckX11_mould_0 : ckR mX11_mould 0 40 = true := by decide +kernel
set_option maxRecDepth 20000 in
theorem okX11_mould : okC mX11_mould := ⟨by decide +kernel, memT3 192 rfl rfl, okM.of (n := 1) (Or.inr rfl) (by decide) (fun j hj => by match j, hj with | 0, _ => exact ckX11_mould_0 | _ + 1, hj => exact absurd hj (by omega))⟩
set_option maxRecDepth 20000 in
def mX11_law : Mt := (yX11_law, cX11_law, 3, (some .int), [11, 127, 0, 0, 800, 801], [(0, .aload_n 0, 1, []), (1, .getfield 12, 3, [11, 0, 179]), (4, .getfield 189, 3, [1, 3, 60]), (7, .bipush 6, 2, []), (9, .if_icmp .lt 18, 3, [13]), (12, .aload_n 0, 1, []), (13, .getfield 27, 3, [11, 3, 182]), (16, .iconst 0, 1, []), (17, .putfield 173, 3, [10, 1, 86]), (20, .aload_n 0, 1, []), (21, .bipush (-5), 2, []), (23, .invokevirtual 101, 3, []), (26, .ireturn, 1, []), (27, .aload_n 0, 1, []), (28, .getfield 36, 3, [11, 4, 183]), (31, .iconst 0, 1, []), (32, .invokevirtual 192, 3, []), (35, .istore_n 1, 1, []), (36, .aload_n 0, 1, []), (37, .aload_n 0, 1, []), (38, .getfield 36, 3, [11, 4, 183]), (41, .getfield 196, 3, [6, 2, 121]), (44, .putfield 58, 3, [11, 11, 190]), (47, .aload_n 0, 1, []), (48, .getfield 27, 3, [11, 3, 182]), (51, .iconst 0, 1, []), (52, .putfield 173, 3, [10, 1, 86]), (55, .iload_n 1, 1, []), (56, .ifCond .ne 10, 3, [33]), (59, .aload_n 0, 1, []), (60, .bipush (-6), 2, []), (62, .invokevirtual 101, 3, []), (65, .ireturn, 1, []), (66, .aload_n 0, 1, []), (67, .getfield 12, 3, [11, 0, 179]), (70, .getfield 189, 3, [1, 3, 60]), (73, .istore_n 2, 1, []), (74, .aload_n 0, 1, []), (75, .getfield 12, 3, [11, 0, 179]), (78, .getfield 199, 3, [1, 2, 58]), (81, .iload_n 2, 1, []), (82, .aload_n 0, 1, []), (83, .getfield 36, 3, [11, 4, 183]), (86, .getfield 203, 3, [6, 1, 119]), (89, .invokevirtual 207, 3, []), (92, .aastore, 1, []), (93, .aload_n 0, 1, []), (94, .getfield 12, 3, [11, 0, 179]), (97, .iload_n 2, 1, []), (98, .iconst 1, 1, []), (99, .iadd, 1, []), (100, .putfield 189, 3, [1, 3, 60]), (103, .aload_n 0, 1, []), (104, .iload_n 2, 1, []), (105, .invokevirtual 116, 3, []), (108, .ireturn, 1, [])])
set_option maxRecDepth 20000 in
theorem ckX11_law_0 : ckR mX11_law 0 40 = true := by decide +kernel
set_option maxRecDepth 20000 in
theorem ckX11_law_1 : ckR mX11_law 40 40 = true := by decide +kernel
set_option maxRecDepth 20000 in
theorem okX11_law : okC mX11_law := ⟨by decide +kernel, memT3 196 rfl rfl, okM.of (n := 2) (Or.inr rfl) (by decide) (fun j hj => by match j, hj with | 0, _ => exact ckX11_law_0 | 1, _ => exact ckX11_law_1 | _ + 2, hj => exact absurd hj (by omega))⟩
set_option maxRecDepth 20000 in
def mX11_orders : Mt := (yX11_orders, cX11_orders, 2, (some .int), [11, 127, 0, 0, 995, 996], [(0, .aload_n 0, 1, []), (1, .getfield 36, 3, [11, 4, 183]), (4, .iconst 1, 1, []), (5, .invokevirtual 192, 3, []), (8, .istore_n 1, 1, []), (9, .aload_n 0, 1, []), (10, .aload_n 0, 1, []), (11, .getfield 36, 3, [11, 4, 183]), (14, .getfield 196, 3, [6, 2, 121]), (17, .putfield 58, 3, [11, 11, 190]), (20, .aload_n 0, 1, []), (21, .iconst (-1), 1, []), (22, .putfield 62, 3, [11, 12, 191]), (25, .aload_n 0, 1, []), (26, .getfield 27, 3, [11, 3, 182]), (29, .iconst 0, 1, []), (30, .putfield 173, 3, [10, 1, 86]), (33, .iload_n 1, 1, []), (34, .ifCond .ne 10, 3, [23]), (37, .aload_n 0, 1, []), (38, .bipush (-6), 2, []), (40, .invokevirtual 101, 3, []), (43, .ireturn, 1, []), (44, .aload_n 0, 1, []), (45, .aload_n 0, 1, []), (46, .getfield 82, 3, [11, 8, 187]), (49, .aload_n 0, 1, []), (50, .getfield 36, 3, [11, 4, 183]), (53, .getfield 203, 3, [6, 1, 119]), (56, .invokevirtual 213, 3, []), (59, .putfield 62, 3, [11, 12, 191]), (62, .aload_n 0, 1, []), (63, .getfield 62, 3, [11, 12, 191]), (66, .iconst (-1), 1, []), (67, .if_icmp .ne 17, 3, [41]), (70, .aload_n 0, 1, []), (71, .aload_n 0, 1, []), (72, .getfield 82, 3, [11, 8, 187]), (75, .getfield 217, 3, [0, 8, 152]), (78, .invokevirtual 116, 3, []), (81, .goto 9, 3, [44]), (84, .aload_n 0, 1, []), (85, .bipush (-3), 2, []), (87, .invokevirtual 101, 3, []), (90, .ireturn, 1, [])])
set_option maxRecDepth 20000 in
theorem ckX11_orders_0 : ckR mX11_orders 0 40 = true := by decide +kernel
set_option maxRecDepth 20000 in
theorem ckX11_orders_1 : ckR mX11_orders 40 40 = true := by decide +kernel
set_option maxRecDepth 20000 in
theorem okX11_orders : okC mX11_orders := ⟨by decide +kernel, memT4 151 rfl rfl, okM.of (n := 2) (Or.inr rfl) (by decide) (fun j hj => by match j, hj with | 0, _ => exact ckX11_orders_0 | 1, _ => exact ckX11_orders_1 | _ + 2, hj => exact absurd hj (by omega))⟩
set_option maxRecDepth 20000 in
def mX11_fault : Mt := (yX11_fault, cX11_fault, 1, (some .int), [11, 127, 0, 0, 1089, 1090], [(0, .aload_n 0, 1, []), (1, .getfield 58, 3, [11, 11, 190]), (4, .ireturn, 1, [])])
set_option maxRecDepth 20000 in
theorem ckX11_fault_0 : ckR mX11_fault 0 40 = true := by decide +kernel
set_option maxRecDepth 20000 in
theorem okX11_fault : okC mX11_fault := ⟨by decide +kernel, memT5 5 rfl rfl, okM.of (n := 1) (Or.inr rfl) (by decide) (fun j hj => by match j, hj with | 0, _ => exact ckX11_fault_0 | _ + 1, hj => exact absurd hj (by omega))⟩
set_option maxRecDepth 20000 in
def mX11_stopped : Mt := (yX11_stopped, cX11_stopped, 1, (some .int), [11, 127, 0, 0, 1093, 1094], [(0, .aload_n 0, 1, []), (1, .getfield 62, 3, [11, 12, 191]), (4, .ireturn, 1, [])])
set_option maxRecDepth 20000 in
theorem ckX11_stopped_0 : ckR mX11_stopped 0 40 = true := by decide +kernel
set_option maxRecDepth 20000 in
theorem okX11_stopped : okC mX11_stopped := ⟨by decide +kernel, memT5 9 rfl rfl, okM.of (n := 1) (Or.inr rfl) (by decide) (fun j hj => by match j, hj with | 0, _ => exact ckX11_stopped_0 | _ + 1, hj => exact absurd hj (by omega))⟩
set_option maxRecDepth 20000 in
def mX11_force : Mt := (yX11_force, cX11_force, 3, (some .int), [11, 127, 1, 0, 1097, 1098], [(0, .iload_n 1, 1, []), (1, .iconst (-1), 1, []), (2, .if_icmp .lt 14, 3, [8]), (5, .iload_n 1, 1, []), (6, .aload_n 0, 1, []), (7, .getfield 12, 3, [11, 0, 179]), (10, .getfield 189, 3, [1, 3, 60]), (13, .if_icmp .lt 10, 3, [12]), (16, .aload_n 0, 1, []), (17, .bipush (-2), 2, []), (19, .invokevirtual 101, 3, []), (22, .ireturn, 1, []), (23, .aload_n 0, 1, []), (24, .getfield 12, 3, [11, 0, 179]), (27, .getfield 220, 3, [1, 4, 62]), (30, .istore_n 2, 1, []), (31, .aload_n 0, 1, []), (32, .getfield 12, 3, [11, 0, 179]), (35, .iload_n 1, 1, []), (36, .putfield 220, 3, [1, 4, 62]), (39, .aload_n 0, 1, []), (40, .iload_n 2, 1, []), (41, .invokevirtual 116, 3, []), (44, .ireturn, 1, [])])
set_option maxRecDepth 20000 in
theorem ckX11_force_0 : ckR mX11_force 0 40 = true := by decide +kernel
set_option maxRecDepth 20000 in
theorem okX11_force : okC mX11_force := ⟨by decide +kernel, memT5 13 rfl rfl, okM.of (n := 1) (Or.inr rfl) (by decide) (fun j hj => by match j, hj with | 0, _ => exact ckX11_force_0 | _ + 1, hj => exact absurd hj (by omega))⟩
set_option maxRecDepth 20000 in
def mX11_asks : Mt := (yX11_asks, cX11_asks, 5, (some .int), [11, 127, 3, 0, 1101, 1102], [(0, .aload_n 0, 1, []), (1, .getfield 12, 3, [11, 0, 179]), (4, .getfield 105, 3, [1, 0, 50]), (7, .astore 4, 2, []), (9, .aload 4, 2, []), (11, .iload_n 1, 1, []), (12, .invokevirtual 119, 3, []), (15, .ifCond .eq 17, 3, [15]), (18, .aload 4, 2, []), (20, .iload_n 2, 1, []), (21, .invokevirtual 119, 3, []), (24, .ifCond .eq 8, 3, [15]), (27, .iload_n 1, 1, []), (28, .iload_n 2, 1, []), (29, .if_icmp .ne 5, 3, [17]), (32, .iconst (-1), 1, []), (33, .ireturn, 1, []), (34, .iload_n 3, 1, []), (35, .tableswitch 78 0 2 #[25, 35, 53], 25, []), (60, .aload_n 0, 1, []), (61, .getfield 73, 3, [11, 7, 186]), (64, .iload_n 1, 1, []), (65, .iload_n 2, 1, []), (66, .invokevirtual 223, 3, []), (69, .ireturn, 1, []), (70, .aload_n 0, 1, []), (71, .getfield 73, 3, [11, 7, 186]), (74, .iload_n 1, 1, []), (75, .iload_n 2, 1, []), (76, .invokevirtual 227, 3, []), (79, .ifCond .eq 7, 3, [33]), (82, .iconst 1, 1, []), (83, .goto 4, 3, [34]), (86, .iconst 0, 1, []), (87, .ireturn, 1, []), (88, .aload 4, 2, []), (90, .iload_n 1, 1, []), (91, .iload_n 2, 1, []), (92, .aload_n 0, 1, []), (93, .getfield 12, 3, [11, 0, 179]), (96, .getfield 167, 3, [1, 1, 56]), (99, .iconst 2, 1, []), (100, .iaload, 1, []), (101, .invokevirtual 230, 3, []), (104, .ifCond .eq 7, 3, [47]), (107, .iconst 1, 1, []), (108, .goto 4, 3, [48]), (111, .iconst 0, 1, []), (112, .ireturn, 1, []), (113, .iconst (-1), 1, []), (114, .ireturn, 1, [])])
set_option maxRecDepth 20000 in
theorem ckX11_asks_0 : ckR mX11_asks 0 40 = true := by decide +kernel
set_option maxRecDepth 20000 in
theorem ckX11_asks_1 : ckR mX11_asks 40 40 = true := by decide +kernel
set_option maxRecDepth 20000 in
theorem okX11_asks : okC mX11_asks := ⟨by decide +kernel, memT5 17 rfl rfl, okM.of (n := 2) (Or.inr rfl) (by decide) (fun j hj => by match j, hj with | 0, _ => exact ckX11_asks_0 | 1, _ => exact ckX11_asks_1 | _ + 2, hj => exact absurd hj (by omega))⟩
set_option maxRecDepth 20000 in
def mX11_kin : Mt := (yX11_kin, cX11_kin, 5, (some .int), [11, 127, 3, 0, 1108, 1109], [(0, .aload_n 0, 1, []), (1, .getfield 12, 3, [11, 0, 179]), (4, .getfield 105, 3, [1, 0, 50]), (7, .astore 4, 2, []), (9, .aload 4, 2, []), (11, .iload_n 1, 1, []), (12, .invokevirtual 119, 3, []), (15, .ifCond .eq 12, 3, [12]), (18, .aload 4, 2, []), (20, .iload_n 2, 1, []), (21, .invokevirtual 119, 3, []), (24, .ifCond .ne 5, 3, [14]), (27, .iconst (-1), 1, []), (28, .ireturn, 1, []), (29, .iload_n 3, 1, []), (30, .tableswitch 62 0 2 #[26, 38, 50], 26, []), (56, .aload_n 0, 1, []), (57, .getfield 43, 3, [11, 5, 184]), (60, .aload 4, 2, []), (62, .iload_n 1, 1, []), (63, .iload_n 2, 1, []), (64, .invokevirtual 234, 3, []), (67, .ireturn, 1, []), (68, .aload_n 0, 1, []), (69, .getfield 43, 3, [11, 5, 184]), (72, .aload 4, 2, []), (74, .iload_n 1, 1, []), (75, .iload_n 2, 1, []), (76, .invokevirtual 238, 3, []), (79, .ireturn, 1, []), (80, .aload_n 0, 1, []), (81, .getfield 43, 3, [11, 5, 184]), (84, .aload 4, 2, []), (86, .iload_n 1, 1, []), (87, .iload_n 2, 1, []), (88, .invokevirtual 241, 3, []), (91, .ireturn, 1, []), (92, .iconst (-1), 1, []), (93, .ireturn, 1, [])])
set_option maxRecDepth 20000 in
theorem ckX11_kin_0 : ckR mX11_kin 0 40 = true := by decide +kernel
set_option maxRecDepth 20000 in
theorem okX11_kin : okC mX11_kin := ⟨by decide +kernel, memT5 24 rfl rfl, okM.of (n := 1) (Or.inr rfl) (by decide) (fun j hj => by match j, hj with | 0, _ => exact ckX11_kin_0 | _ + 1, hj => exact absurd hj (by omega))⟩
set_option maxRecDepth 20000 in
def mX11_line : Mt := (yX11_line, cX11_line, 4, (some .int), [11, 127, 2, 0, 1122, 1123], [(0, .aload_n 0, 1, []), (1, .getfield 12, 3, [11, 0, 179]), (4, .getfield 105, 3, [1, 0, 50]), (7, .astore_n 3, 1, []), (8, .aload_n 3, 1, []), (9, .iload_n 1, 1, []), (10, .invokevirtual 119, 3, []), (13, .ifCond .ne 5, 3, [10]), (16, .iconst (-1), 1, []), (17, .ireturn, 1, []), (18, .iload_n 2, 1, []), (19, .tableswitch 109 0 5 #[37, 44, 50, 56, 69, 90], 37, []), (56, .aload_n 3, 1, []), (57, .getfield 244, 3, [5, 11, 43]), (60, .iload_n 1, 1, []), (61, .iaload, 1, []), (62, .ireturn, 1, []), (63, .aload_n 3, 1, []), (64, .iload_n 1, 1, []), (65, .invokevirtual 247, 3, []), (68, .ireturn, 1, []), (69, .aload_n 3, 1, []), (70, .iload_n 1, 1, []), (71, .invokevirtual 250, 3, []), (74, .ireturn, 1, []), (75, .aload_n 3, 1, []), (76, .iload_n 1, 1, []), (77, .aload_n 0, 1, []), (78, .getfield 73, 3, [11, 7, 186]), (81, .invokevirtual 253, 3, []), (84, .invokevirtual 257, 3, []), (87, .ireturn, 1, []), (88, .aload_n 3, 1, []), (89, .iload_n 1, 1, []), (90, .aload_n 0, 1, []), (91, .getfield 73, 3, [11, 7, 186]), (94, .invokevirtual 253, 3, []), (97, .invokevirtual 260, 3, []), (100, .ifCond .eq 7, 3, [41]), (103, .iconst 1, 1, []), (104, .goto 4, 3, [42]), (107, .iconst 0, 1, []), (108, .ireturn, 1, []), (109, .aload_n 0, 1, []), (110, .getfield 43, 3, [11, 5, 184]), (113, .aload_n 3, 1, []), (114, .iload_n 1, 1, []), (115, .aload_n 0, 1, []), (116, .getfield 12, 3, [11, 0, 179]), (119, .getfield 167, 3, [1, 1, 56]), (122, .iconst 0, 1, []), (123, .iaload, 1, []), (124, .invokevirtual 263, 3, []), (127, .ireturn, 1, []), (128, .iconst (-1), 1, []), (129, .ireturn, 1, [])])
set_option maxRecDepth 20000 in
theorem ckX11_line_0 : ckR mX11_line 0 40 = true := by decide +kernel
set_option maxRecDepth 20000 in
theorem ckX11_line_1 : ckR mX11_line 40 40 = true := by decide +kernel
set_option maxRecDepth 20000 in
theorem okX11_line : okC mX11_line := ⟨by decide +kernel, memT5 38 rfl rfl, okM.of (n := 2) (Or.inr rfl) (by decide) (fun j hj => by match j, hj with | 0, _ => exact ckX11_line_0 | 1, _ => exact ckX11_line_1 | _ + 2, hj => exact absurd hj (by omega))⟩
set_option maxRecDepth 20000 in
def mX11_marry : Mt := (yX11_marry, cX11_marry, 4, (some .int), [11, 127, 2, 0, 1163, 1164], [(0, .aload_n 0, 1, []), (1, .getfield 12, 3, [11, 0, 179]), (4, .getfield 105, 3, [1, 0, 50]), (7, .astore_n 3, 1, []), (8, .aload_n 3, 1, []), (9, .iload_n 1, 1, []), (10, .invokevirtual 119, 3, []), (13, .ifCond .eq 11, 3, [12]), (16, .aload_n 3, 1, []), (17, .iload_n 2, 1, []), (18, .invokevirtual 119, 3, []), (21, .ifCond .ne 5, 3, [14]), (24, .iconst (-1), 1, []), (25, .ireturn, 1, []), (26, .aload_n 0, 1, []), (27, .getfield 43, 3, [11, 5, 184]), (30, .aload_n 3, 1, []), (31, .iload_n 1, 1, []), (32, .iload_n 2, 1, []), (33, .aload_n 0, 1, []), (34, .getfield 12, 3, [11, 0, 179]), (37, .getfield 167, 3, [1, 1, 56]), (40, .invokevirtual 266, 3, []), (43, .ifCond .eq 7, 3, [26]), (46, .iconst 1, 1, []), (47, .goto 4, 3, [27]), (50, .iconst 0, 1, []), (51, .ireturn, 1, [])])
set_option maxRecDepth 20000 in
theorem ckX11_marry_0 : ckR mX11_marry 0 40 = true := by decide +kernel
set_option maxRecDepth 20000 in
theorem okX11_marry : okC mX11_marry := ⟨by decide +kernel, memT5 79 rfl rfl, okM.of (n := 1) (Or.inr rfl) (by decide) (fun j hj => by match j, hj with | 0, _ => exact ckX11_marry_0 | _ + 1, hj => exact absurd hj (by omega))⟩
set_option maxRecDepth 20000 in
def mX11_forged : Mt := (yX11_forged, cX11_forged, 1, (some .int), [11, 127, 0, 0, 1171, 1172], [(0, .aload_n 0, 1, []), (1, .getfield 12, 3, [11, 0, 179]), (4, .getfield 105, 3, [1, 0, 50]), (7, .aload_n 0, 1, []), (8, .getfield 12, 3, [11, 0, 179]), (11, .getfield 167, 3, [1, 1, 56]), (14, .iconst 2, 1, []), (15, .iaload, 1, []), (16, .invokevirtual 270, 3, []), (19, .ireturn, 1, [])])
set_option maxRecDepth 20000 in
theorem ckX11_forged_0 : ckR mX11_forged 0 40 = true := by decide +kernel
set_option maxRecDepth 20000 in
theorem okX11_forged : okC mX11_forged := ⟨by decide +kernel, memT5 87 rfl rfl, okM.of (n := 1) (Or.inr rfl) (by decide) (fun j hj => by match j, hj with | 0, _ => exact ckX11_forged_0 | _ + 1, hj => exact absurd hj (by omega))⟩
set_option maxRecDepth 20000 in
def mX11_buy : Mt := (yX11_buy, cX11_buy, 6, (some .int), [11, 127, 3, 0, 1179, 1180], [(0, .aload_n 0, 1, []), (1, .getfield 12, 3, [11, 0, 179]), (4, .getfield 105, 3, [1, 0, 50]), (7, .astore 4, 2, []), (9, .aload 4, 2, []), (11, .iload_n 1, 1, []), (12, .invokevirtual 119, 3, []), (15, .ifCond .eq 21, 3, [16]), (18, .aload 4, 2, []), (20, .iload_n 2, 1, []), (21, .invokevirtual 119, 3, []), (24, .ifCond .eq 12, 3, [16]), (27, .aload 4, 2, []), (29, .iload_n 3, 1, []), (30, .invokevirtual 119, 3, []), (33, .ifCond .ne 10, 3, [20]), (36, .aload_n 0, 1, []), (37, .bipush (-2), 2, []), (39, .invokevirtual 101, 3, []), (42, .ireturn, 1, []), (43, .aload_n 0, 1, []), (44, .getfield 73, 3, [11, 7, 186]), (47, .aload 4, 2, []), (49, .iload_n 1, 1, []), (50, .iload_n 2, 1, []), (51, .iload_n 3, 1, []), (52, .invokevirtual 273, 3, []), (55, .istore 5, 2, []), (57, .iload 5, 2, []), (59, .iconst (-1), 1, []), (60, .if_icmp .ne 10, 3, [35]), (63, .aload_n 0, 1, []), (64, .bipush (-3), 2, []), (66, .invokevirtual 101, 3, []), (69, .ireturn, 1, []), (70, .aload 4, 2, []), (72, .iload_n 1, 1, []), (73, .iload_n 2, 1, []), (74, .iload_n 3, 1, []), (75, .iload 5, 2, []), (77, .invokevirtual 277, 3, []), (80, .aload_n 0, 1, []), (81, .getfield 50, 3, [11, 6, 185]), (84, .iload_n 1, 1, []), (85, .iload_n 2, 1, []), (86, .iload_n 3, 1, []), (87, .iload 5, 2, []), (89, .invokevirtual 281, 3, []), (92, .aload_n 0, 1, []), (93, .iload 5, 2, []), (95, .invokevirtual 116, 3, []), (98, .ireturn, 1, [])])
set_option maxRecDepth 20000 in
theorem ckX11_buy_0 : ckR mX11_buy 0 40 = true := by decide +kernel
set_option maxRecDepth 20000 in
theorem ckX11_buy_1 : ckR mX11_buy 40 40 = true := by decide +kernel
set_option maxRecDepth 20000 in
theorem okX11_buy : okC mX11_buy := ⟨by decide +kernel, memT5 95 rfl rfl, okM.of (n := 2) (Or.inr rfl) (by decide) (fun j hj => by match j, hj with | 0, _ => exact ckX11_buy_0 | 1, _ => exact ckX11_buy_1 | _ + 2, hj => exact absurd hj (by omega))⟩
set_option maxRecDepth 20000 in
def mX11_undo : Mt := (yX11_undo, cX11_undo, 2, (some .int), [11, 127, 0, 0, 1186, 1187], [(0, .aload_n 0, 1, []), (1, .getfield 50, 3, [11, 6, 185]), (4, .aload_n 0, 1, []), (5, .getfield 12, 3, [11, 0, 179]), (8, .getfield 105, 3, [1, 0, 50]), (11, .invokevirtual 284, 3, []), (14, .istore_n 1, 1, []), (15, .iload_n 1, 1, []), (16, .iconst (-1), 1, []), (17, .if_icmp .ne 12, 3, [14]), (20, .aload_n 0, 1, []), (21, .bipush (-3), 2, []), (23, .invokevirtual 101, 3, []), (26, .goto 8, 3, [17]), (29, .aload_n 0, 1, []), (30, .iload_n 1, 1, []), (31, .invokevirtual 116, 3, []), (34, .ireturn, 1, [])])
set_option maxRecDepth 20000 in
theorem ckX11_undo_0 : ckR mX11_undo 0 40 = true := by decide +kernel
set_option maxRecDepth 20000 in
theorem okX11_undo : okC mX11_undo := ⟨by decide +kernel, memT5 102 rfl rfl, okM.of (n := 1) (Or.inr rfl) (by decide) (fun j hj => by match j, hj with | 0, _ => exact ckX11_undo_0 | _ + 1, hj => exact absurd hj (by omega))⟩
set_option maxRecDepth 20000 in
def mX11_offers : Mt := (yX11_offers, cX11_offers, 6, (some .int), [11, 127, 2, 0, 1203, 1204], [(0, .aload_n 0, 1, []), (1, .getfield 12, 3, [11, 0, 179]), (4, .getfield 105, 3, [1, 0, 50]), (7, .astore_n 3, 1, []), (8, .aload_n 3, 1, []), (9, .iload_n 1, 1, []), (10, .invokevirtual 119, 3, []), (13, .ifCond .eq 11, 3, [12]), (16, .aload_n 3, 1, []), (17, .iload_n 2, 1, []), (18, .invokevirtual 119, 3, []), (21, .ifCond .ne 5, 3, [14]), (24, .iconst (-1), 1, []), (25, .ireturn, 1, []), (26, .iconst 0, 1, []), (27, .istore 4, 2, []), (29, .iconst 0, 1, []), (30, .istore 5, 2, []), (32, .iload 5, 2, []), (34, .aload_n 3, 1, []), (35, .getfield 288, 3, [5, 0, 5]), (38, .if_icmp .ge 34, 3, [39]), (41, .aload_n 0, 1, []), (42, .getfield 73, 3, [11, 7, 186]), (45, .aload_n 3, 1, []), (46, .iload 5, 2, []), (48, .iload_n 1, 1, []), (49, .iload_n 2, 1, []), (50, .invokevirtual 273, 3, []), (53, .iconst (-1), 1, []), (54, .if_icmp .eq 12, 3, [37]), (57, .iload 4, 2, []), (59, .iconst 1, 1, []), (60, .iload 5, 2, []), (62, .ishl, 1, []), (63, .ior, 1, []), (64, .istore 4, 2, []), (66, .iinc 5 1, 3, []), (69, .goto (-37), 3, [18]), (72, .iload 4, 2, []), (74, .ireturn, 1, [])])
set_option maxRecDepth 20000 in
theorem ckX11_offers_0 : ckR mX11_offers 0 40 = true := by decide +kernel
set_option maxRecDepth 20000 in
theorem ckX11_offers_1 : ckR mX11_offers 40 40 = true := by decide +kernel
set_option maxRecDepth 20000 in
theorem okX11_offers : okC mX11_offers := ⟨by decide +kernel, memT5 119 rfl rfl, okM.of (n := 2) (Or.inr rfl) (by decide) (fun j hj => by match j, hj with | 0, _ => exact ckX11_offers_0 | 1, _ => exact ckX11_offers_1 | _ + 2, hj => exact absurd hj (by omega))⟩
set_option maxRecDepth 20000 in
def mX11_cheap : Mt := (yX11_cheap, cX11_cheap, 5, (some .int), [11, 127, 3, 0, 1207, 1208], [(0, .aload_n 0, 1, []), (1, .getfield 12, 3, [11, 0, 179]), (4, .getfield 105, 3, [1, 0, 50]), (7, .astore 4, 2, []), (9, .aload 4, 2, []), (11, .iload_n 1, 1, []), (12, .invokevirtual 119, 3, []), (15, .ifCond .eq 26, 3, [20]), (18, .iload_n 2, 1, []), (19, .iconst (-1), 1, []), (20, .if_icmp .eq 12, 3, [15]), (23, .aload 4, 2, []), (25, .iload_n 2, 1, []), (26, .invokevirtual 119, 3, []), (29, .ifCond .eq 12, 3, [20]), (32, .iload_n 3, 1, []), (33, .ifCond .lt 8, 3, [20]), (36, .iload_n 3, 1, []), (37, .iconst 3, 1, []), (38, .if_icmp .le 5, 3, [22]), (41, .iconst (-1), 1, []), (42, .ireturn, 1, []), (43, .aload_n 0, 1, []), (44, .getfield 91, 3, [11, 9, 188]), (47, .iload_n 1, 1, []), (48, .iload_n 2, 1, []), (49, .invokevirtual 289, 3, []), (52, .ifCond .ne 5, 3, [30]), (55, .iconst (-1), 1, []), (56, .ireturn, 1, []), (57, .iload_n 3, 1, []), (58, .tableswitch 50 0 2 #[26, 34, 42], 26, []), (84, .aload_n 0, 1, []), (85, .getfield 91, 3, [11, 9, 188]), (88, .getfield 292, 3, [9, 10, 165]), (91, .ireturn, 1, []), (92, .aload_n 0, 1, []), (93, .getfield 91, 3, [11, 9, 188]), (96, .getfield 295, 3, [9, 11, 167]), (99, .ireturn, 1, []), (100, .aload_n 0, 1, []), (101, .getfield 91, 3, [11, 9, 188]), (104, .getfield 298, 3, [9, 12, 169]), (107, .ireturn, 1, []), (108, .aload_n 0, 1, []), (109, .getfield 91, 3, [11, 9, 188]), (112, .getfield 301, 3, [9, 13, 171]), (115, .ireturn, 1, [])])
set_option maxRecDepth 20000 in
theorem ckX11_cheap_0 : ckR mX11_cheap 0 40 = true := by decide +kernel
set_option maxRecDepth 20000 in
theorem ckX11_cheap_1 : ckR mX11_cheap 40 40 = true := by decide +kernel
set_option maxRecDepth 20000 in
theorem okX11_cheap : okC mX11_cheap := ⟨by decide +kernel, memT5 123 rfl rfl, okM.of (n := 2) (Or.inr rfl) (by decide) (fun j hj => by match j, hj with | 0, _ => exact ckX11_cheap_0 | 1, _ => exact ckX11_cheap_1 | _ + 2, hj => exact absurd hj (by omega))⟩
set_option maxRecDepth 20000 in
def mX11_join : Mt := (yX11_join, cX11_join, 6, (some .int), [11, 127, 3, 0, 1262, 1263], [(0, .aload_n 0, 1, []), (1, .getfield 12, 3, [11, 0, 179]), (4, .getfield 105, 3, [1, 0, 50]), (7, .astore 4, 2, []), (9, .aload 4, 2, []), (11, .iload_n 1, 1, []), (12, .invokevirtual 119, 3, []), (15, .ifCond .eq 21, 3, [17]), (18, .aload 4, 2, []), (20, .iload_n 2, 1, []), (21, .invokevirtual 119, 3, []), (24, .ifCond .eq 12, 3, [17]), (27, .iload_n 3, 1, []), (28, .ifCond .lt 8, 3, [17]), (31, .iload_n 3, 1, []), (32, .iconst 1, 1, []), (33, .if_icmp .le 5, 3, [19]), (36, .iconst (-1), 1, []), (37, .ireturn, 1, []), (38, .aload_n 0, 1, []), (39, .getfield 91, 3, [11, 9, 188]), (42, .iload_n 1, 1, []), (43, .iload_n 2, 1, []), (44, .invokevirtual 304, 3, []), (47, .istore 5, 2, []), (49, .iload_n 3, 1, []), (50, .ifCond .eq 9, 3, [30]), (53, .iload 5, 2, []), (55, .iconst (-1), 1, []), (56, .if_icmp .ne 8, 3, [32]), (59, .iload 5, 2, []), (61, .goto 10, 3, [35]), (64, .aload_n 0, 1, []), (65, .getfield 91, 3, [11, 9, 188]), (68, .getfield 307, 3, [9, 14, 173]), (71, .ireturn, 1, [])])
set_option maxRecDepth 20000 in
theorem ckX11_join_0 : ckR mX11_join 0 40 = true := by decide +kernel
set_option maxRecDepth 20000 in
theorem okX11_join : okC mX11_join := ⟨by decide +kernel, memT5 178 rfl rfl, okM.of (n := 1) (Or.inr rfl) (by decide) (fun j hj => by match j, hj with | 0, _ => exact ckX11_join_0 | _ + 1, hj => exact absurd hj (by omega))⟩
set_option maxRecDepth 20000 in
def mX11_claim : Mt := (yX11_claim, cX11_claim, 3, (some .int), [11, 127, 2, 0, 1275, 1276], [(0, .iload_n 1, 1, []), (1, .iload_n 2, 1, []), (2, .if_icmp .ne 9, 3, [7]), (5, .aload_n 0, 1, []), (6, .iconst (-1), 1, []), (7, .invokevirtual 101, 3, []), (10, .ireturn, 1, []), (11, .aload_n 0, 1, []), (12, .getfield 12, 3, [11, 0, 179]), (15, .getfield 105, 3, [1, 0, 50]), (18, .iload_n 1, 1, []), (19, .invokevirtual 119, 3, []), (22, .ifCond .eq 17, 3, [19]), (25, .aload_n 0, 1, []), (26, .getfield 12, 3, [11, 0, 179]), (29, .getfield 105, 3, [1, 0, 50]), (32, .iload_n 2, 1, []), (33, .invokevirtual 119, 3, []), (36, .ifCond .ne 10, 3, [23]), (39, .aload_n 0, 1, []), (40, .bipush (-2), 2, []), (42, .invokevirtual 101, 3, []), (45, .ireturn, 1, []), (46, .aload_n 0, 1, []), (47, .getfield 12, 3, [11, 0, 179]), (50, .getfield 310, 3, [1, 7, 71]), (53, .bipush 8, 2, []), (55, .if_icmp .lt 10, 3, [32]), (58, .aload_n 0, 1, []), (59, .bipush (-5), 2, []), (61, .invokevirtual 101, 3, []), (64, .ireturn, 1, []), (65, .aload_n 0, 1, []), (66, .getfield 12, 3, [11, 0, 179]), (69, .getfield 313, 3, [1, 5, 65]), (72, .aload_n 0, 1, []), (73, .getfield 12, 3, [11, 0, 179]), (76, .getfield 310, 3, [1, 7, 71]), (79, .iload_n 1, 1, []), (80, .iastore, 1, []), (81, .aload_n 0, 1, []), (82, .getfield 12, 3, [11, 0, 179]), (85, .getfield 316, 3, [1, 6, 68]), (88, .aload_n 0, 1, []), (89, .getfield 12, 3, [11, 0, 179]), (92, .getfield 310, 3, [1, 7, 71]), (95, .iload_n 2, 1, []), (96, .iastore, 1, []), (97, .aload_n 0, 1, []), (98, .getfield 12, 3, [11, 0, 179]), (101, .dup, 1, []), (102, .getfield 310, 3, [1, 7, 71]), (105, .iconst 1, 1, []), (106, .iadd, 1, []), (107, .putfield 310, 3, [1, 7, 71]), (110, .aload_n 0, 1, []), (111, .aload_n 0, 1, []), (112, .getfield 12, 3, [11, 0, 179]), (115, .getfield 310, 3, [1, 7, 71]), (118, .invokevirtual 116, 3, []), (121, .ireturn, 1, [])])
set_option maxRecDepth 20000 in
theorem ckX11_claim_0 : ckR mX11_claim 0 40 = true := by decide +kernel
set_option maxRecDepth 20000 in
theorem ckX11_claim_1 : ckR mX11_claim 40 40 = true := by decide +kernel
set_option maxRecDepth 20000 in
theorem okX11_claim : okC mX11_claim := ⟨by decide +kernel, memT5 191 rfl rfl, okM.of (n := 2) (Or.inr rfl) (by decide) (fun j hj => by match j, hj with | 0, _ => exact ckX11_claim_0 | 1, _ => exact ckX11_claim_1 | _ + 2, hj => exact absurd hj (by omega))⟩
set_option maxRecDepth 20000 in
def mX11_dismiss : Mt := (yX11_dismiss, cX11_dismiss, 2, (some .int), [11, 127, 0, 0, 1279, 1280], [(0, .aload_n 0, 1, []), (1, .getfield 12, 3, [11, 0, 179]), (4, .getfield 310, 3, [1, 7, 71]), (7, .istore_n 1, 1, []), (8, .aload_n 0, 1, []), (9, .getfield 12, 3, [11, 0, 179]), (12, .iconst 0, 1, []), (13, .putfield 310, 3, [1, 7, 71]), (16, .iload_n 1, 1, []), (17, .ireturn, 1, [])])
set_option maxRecDepth 20000 in
theorem ckX11_dismiss_0 : ckR mX11_dismiss 0 40 = true := by decide +kernel
set_option maxRecDepth 20000 in
theorem okX11_dismiss : okC mX11_dismiss := ⟨by decide +kernel, memT5 195 rfl rfl, okM.of (n := 1) (Or.inr rfl) (by decide) (fun j hj => by match j, hj with | 0, _ => exact ckX11_dismiss_0 | _ + 1, hj => exact absurd hj (by omega))⟩
set_option maxRecDepth 20000 in
def mX11_lies : Mt := (yX11_lies, cX11_lies, 3, (some .int), [11, 127, 1, 0, 1283, 1284], [(0, .iload_n 1, 1, []), (1, .ifCond .lt 8, 3, [5]), (4, .iload_n 1, 1, []), (5, .iconst 1, 1, []), (6, .if_icmp .le 5, 3, [7]), (9, .iconst (-1), 1, []), (10, .ireturn, 1, []), (11, .aload_n 0, 1, []), (12, .getfield 91, 3, [11, 9, 188]), (15, .invokevirtual 319, 3, []), (18, .istore_n 2, 1, []), (19, .iload_n 1, 1, []), (20, .ifCond .ne 10, 3, [16]), (23, .iload_n 2, 1, []), (24, .invokestatic 322, 3, []), (27, .goto 4, 3, [17]), (30, .iload_n 2, 1, []), (31, .ireturn, 1, [])])
set_option maxRecDepth 20000 in
theorem ckX11_lies_0 : ckR mX11_lies 0 40 = true := by decide +kernel
set_option maxRecDepth 20000 in
theorem okX11_lies : okC mX11_lies := ⟨by decide +kernel, memT5 199 rfl rfl, okM.of (n := 1) (Or.inr rfl) (by decide) (fun j hj => by match j, hj with | 0, _ => exact ckX11_lies_0 | _ + 1, hj => exact absurd hj (by omega))⟩
set_option maxRecDepth 20000 in
def mX11_sight : Mt := (yX11_sight, cX11_sight, 4, (some .int), [11, 127, 3, 0, 1303, 1304], [(0, .iload_n 3, 1, []), (1, .iconst (-1), 1, []), (2, .if_icmp .lt 9, 3, [6]), (5, .iload_n 3, 1, []), (6, .bipush 20, 2, []), (8, .if_icmp .le 9, 3, [10]), (11, .aload_n 0, 1, []), (12, .iconst (-1), 1, []), (13, .invokevirtual 101, 3, []), (16, .ireturn, 1, []), (17, .aload_n 0, 1, []), (18, .getfield 12, 3, [11, 0, 179]), (21, .getfield 105, 3, [1, 0, 50]), (24, .iload_n 1, 1, []), (25, .invokevirtual 119, 3, []), (28, .ifCond .eq 17, 3, [22]), (31, .aload_n 0, 1, []), (32, .getfield 12, 3, [11, 0, 179]), (35, .getfield 105, 3, [1, 0, 50]), (38, .iload_n 2, 1, []), (39, .invokevirtual 119, 3, []), (42, .ifCond .ne 10, 3, [26]), (45, .aload_n 0, 1, []), (46, .bipush (-2), 2, []), (48, .invokevirtual 101, 3, []), (51, .ireturn, 1, []), (52, .aload_n 0, 1, []), (53, .getfield 12, 3, [11, 0, 179]), (56, .getfield 327, 3, [1, 11, 83]), (59, .bipush 8, 2, []), (61, .if_icmp .lt 10, 3, [35]), (64, .aload_n 0, 1, []), (65, .bipush (-5), 2, []), (67, .invokevirtual 101, 3, []), (70, .ireturn, 1, []), (71, .aload_n 0, 1, []), (72, .getfield 12, 3, [11, 0, 179]), (75, .getfield 330, 3, [1, 8, 74]), (78, .aload_n 0, 1, []), (79, .getfield 12, 3, [11, 0, 179]), (82, .getfield 327, 3, [1, 11, 83]), (85, .iload_n 1, 1, []), (86, .iastore, 1, []), (87, .aload_n 0, 1, []), (88, .getfield 12, 3, [11, 0, 179]), (91, .getfield 333, 3, [1, 9, 77]), (94, .aload_n 0, 1, []), (95, .getfield 12, 3, [11, 0, 179]), (98, .getfield 327, 3, [1, 11, 83]), (101, .iload_n 2, 1, []), (102, .iastore, 1, []), (103, .aload_n 0, 1, []), (104, .getfield 12, 3, [11, 0, 179]), (107, .getfield 336, 3, [1, 10, 80]), (110, .aload_n 0, 1, []), (111, .getfield 12, 3, [11, 0, 179]), (114, .getfield 327, 3, [1, 11, 83]), (117, .iload_n 3, 1, []), (118, .iastore, 1, []), (119, .aload_n 0, 1, []), (120, .getfield 12, 3, [11, 0, 179]), (123, .dup, 1, []), (124, .getfield 327, 3, [1, 11, 83]), (127, .iconst 1, 1, []), (128, .iadd, 1, []), (129, .putfield 327, 3, [1, 11, 83]), (132, .aload_n 0, 1, []), (133, .aload_n 0, 1, []), (134, .getfield 12, 3, [11, 0, 179]), (137, .getfield 327, 3, [1, 11, 83]), (140, .invokevirtual 116, 3, []), (143, .ireturn, 1, [])])
set_option maxRecDepth 20000 in
theorem ckX11_sight_0 : ckR mX11_sight 0 40 = true := by decide +kernel
set_option maxRecDepth 20000 in
theorem ckX11_sight_1 : ckR mX11_sight 40 40 = true := by decide +kernel
set_option maxRecDepth 20000 in
theorem okX11_sight : okC mX11_sight := ⟨by decide +kernel, memT5 219 rfl rfl, okM.of (n := 2) (Or.inr rfl) (by decide) (fun j hj => by match j, hj with | 0, _ => exact ckX11_sight_0 | 1, _ => exact ckX11_sight_1 | _ + 2, hj => exact absurd hj (by omega))⟩
set_option maxRecDepth 20000 in
def mX11_forget : Mt := (yX11_forget, cX11_forget, 2, (some .int), [11, 127, 0, 0, 1307, 1308], [(0, .aload_n 0, 1, []), (1, .getfield 12, 3, [11, 0, 179]), (4, .getfield 327, 3, [1, 11, 83]), (7, .istore_n 1, 1, []), (8, .aload_n 0, 1, []), (9, .getfield 12, 3, [11, 0, 179]), (12, .iconst 0, 1, []), (13, .putfield 327, 3, [1, 11, 83]), (16, .iload_n 1, 1, []), (17, .ireturn, 1, [])])
set_option maxRecDepth 20000 in
theorem ckX11_forget_0 : ckR mX11_forget 0 40 = true := by decide +kernel
set_option maxRecDepth 20000 in
theorem okX11_forget : okC mX11_forget := ⟨by decide +kernel, memT5 223 rfl rfl, okM.of (n := 1) (Or.inr rfl) (by decide) (fun j hj => by match j, hj with | 0, _ => exact ckX11_forget_0 | _ + 1, hj => exact absurd hj (by omega))⟩
set_option maxRecDepth 20000 in
def mX11_secret : Mt := (yX11_secret, cX11_secret, 3, (some .int), [11, 127, 1, 0, 1311, 1312], [(0, .iload_n 1, 1, []), (1, .iconst (-1), 1, []), (2, .if_icmp .lt 10, 3, [6]), (5, .iload_n 1, 1, []), (6, .sipush 256, 3, []), (9, .if_icmp .lt 5, 3, [8]), (12, .iconst (-1), 1, []), (13, .ireturn, 1, []), (14, .aload_n 0, 1, []), (15, .getfield 91, 3, [11, 9, 188]), (18, .invokevirtual 339, 3, []), (21, .istore_n 2, 1, []), (22, .iload_n 1, 1, []), (23, .iconst (-1), 1, []), (24, .if_icmp .ne 5, 3, [17]), (27, .iload_n 2, 1, []), (28, .ireturn, 1, []), (29, .iload_n 1, 1, []), (30, .iload_n 2, 1, []), (31, .if_icmp .ge 15, 3, [26]), (34, .aload_n 0, 1, []), (35, .getfield 91, 3, [11, 9, 188]), (38, .getfield 342, 3, [9, 15, 175]), (41, .iload_n 1, 1, []), (42, .iaload, 1, []), (43, .goto 4, 3, [27]), (46, .iconst (-1), 1, []), (47, .ireturn, 1, [])])
set_option maxRecDepth 20000 in
theorem ckX11_secret_0 : ckR mX11_secret 0 40 = true := by decide +kernel
set_option maxRecDepth 20000 in
theorem okX11_secret : okC mX11_secret := ⟨by decide +kernel, memT5 227 rfl rfl, okM.of (n := 1) (Or.inr rfl) (by decide) (fun j hj => by match j, hj with | 0, _ => exact ckX11_secret_0 | _ + 1, hj => exact absurd hj (by omega))⟩
set_option maxRecDepth 20000 in
def mX11_fair : Mt := (yX11_fair, cX11_fair, 3, (some .int), [11, 127, 2, 0, 1324, 1325], [(0, .iload_n 1, 1, []), (1, .ifCond .lt 21, 3, [11]), (4, .iload_n 1, 1, []), (5, .ldc_w 345, 3, []), (8, .if_icmp .gt 14, 3, [11]), (11, .iload_n 2, 1, []), (12, .iconst 1, 1, []), (13, .if_icmp .lt 9, 3, [11]), (16, .iload_n 2, 1, []), (17, .bipush 60, 2, []), (19, .if_icmp .le 9, 3, [15]), (22, .aload_n 0, 1, []), (23, .iconst (-1), 1, []), (24, .invokevirtual 101, 3, []), (27, .ireturn, 1, []), (28, .aload_n 0, 1, []), (29, .getfield 12, 3, [11, 0, 179]), (32, .getfield 105, 3, [1, 0, 50]), (35, .getfield 288, 3, [5, 0, 5]), (38, .ifCond .ne 10, 3, [24]), (41, .aload_n 0, 1, []), (42, .bipush (-3), 2, []), (44, .invokevirtual 101, 3, []), (47, .ireturn, 1, []), (48, .aload_n 0, 1, []), (49, .aload_n 0, 1, []), (50, .getfield 91, 3, [11, 9, 188]), (53, .iload_n 1, 1, []), (54, .iload_n 2, 1, []), (55, .invokevirtual 346, 3, []), (58, .invokevirtual 116, 3, []), (61, .ireturn, 1, [])])
set_option maxRecDepth 20000 in
theorem ckX11_fair_0 : ckR mX11_fair 0 40 = true := by decide +kernel
set_option maxRecDepth 20000 in
theorem okX11_fair : okC mX11_fair := ⟨by decide +kernel, memT6 0 rfl rfl, okM.of (n := 1) (Or.inr rfl) (by decide) (fun j hj => by match j, hj with | 0, _ => exact ckX11_fair_0 | _ + 1, hj => exact absurd hj (by omega))⟩
set_option maxRecDepth 20000 in
def mX11_drawn : Mt := (yX11_drawn, cX11_drawn, 4, (some .int), [11, 127, 2, 0, 1341, 1342], [(0, .aload_n 0, 1, []), (1, .getfield 91, 3, [11, 9, 188]), (4, .getfield 349, 3, [9, 16, 177]), (7, .astore_n 3, 1, []), (8, .aload_n 3, 1, []), (9, .iload_n 1, 1, []), (10, .invokevirtual 119, 3, []), (13, .ifCond .ne 5, 3, [10]), (16, .iconst (-1), 1, []), (17, .ireturn, 1, []), (18, .iload_n 2, 1, []), (19, .lookupswitch 39 #[(0, 25), (1, 32)], 25, []), (44, .aload_n 3, 1, []), (45, .getfield 129, 3, [5, 8, 30]), (48, .iload_n 1, 1, []), (49, .iaload, 1, []), (50, .ireturn, 1, []), (51, .aload_n 3, 1, []), (52, .getfield 244, 3, [5, 11, 43]), (55, .iload_n 1, 1, []), (56, .iaload, 1, []), (57, .ireturn, 1, []), (58, .iconst (-1), 1, []), (59, .ireturn, 1, [])])
set_option maxRecDepth 20000 in
theorem ckX11_drawn_0 : ckR mX11_drawn 0 40 = true := by decide +kernel
set_option maxRecDepth 20000 in
theorem okX11_drawn : okC mX11_drawn := ⟨by decide +kernel, memT6 17 rfl rfl, okM.of (n := 1) (Or.inr rfl) (by decide) (fun j hj => by match j, hj with | 0, _ => exact ckX11_drawn_0 | _ + 1, hj => exact absurd hj (by omega))⟩
set_option maxRecDepth 20000 in
def mX11_image : Mt := (yX11_image, cX11_image, 2, (some .int), [11, 127, 1, 0, 1345, 1346], [(0, .iload_n 1, 1, []), (1, .ifCond .lt 8, 3, [5]), (4, .iload_n 1, 1, []), (5, .iconst 2, 1, []), (6, .if_icmp .lt 9, 3, [9]), (9, .aload_n 0, 1, []), (10, .iconst (-1), 1, []), (11, .invokevirtual 101, 3, []), (14, .ireturn, 1, []), (15, .aload_n 0, 1, []), (16, .getfield 16, 3, [11, 1, 180]), (19, .iload_n 1, 1, []), (20, .aaload, 1, []), (21, .aload_n 0, 1, []), (22, .getfield 12, 3, [11, 0, 179]), (25, .invokevirtual 352, 3, []), (28, .aload_n 0, 1, []), (29, .getfield 20, 3, [11, 2, 181]), (32, .iload_n 1, 1, []), (33, .iconst 1, 1, []), (34, .bastore, 1, []), (35, .aload_n 0, 1, []), (36, .iconst 0, 1, []), (37, .invokevirtual 116, 3, []), (40, .ireturn, 1, [])])
set_option maxRecDepth 20000 in
theorem ckX11_image_0 : ckR mX11_image 0 40 = true := by decide +kernel
set_option maxRecDepth 20000 in
theorem okX11_image : okC mX11_image := ⟨by decide +kernel, memT6 21 rfl rfl, okM.of (n := 1) (Or.inr rfl) (by decide) (fun j hj => by match j, hj with | 0, _ => exact ckX11_image_0 | _ + 1, hj => exact absurd hj (by omega))⟩
set_option maxRecDepth 20000 in
def mX11_back : Mt := (yX11_back, cX11_back, 2, (some .int), [11, 127, 1, 0, 1350, 1351], [(0, .iload_n 1, 1, []), (1, .ifCond .lt 8, 3, [5]), (4, .iload_n 1, 1, []), (5, .iconst 2, 1, []), (6, .if_icmp .lt 9, 3, [9]), (9, .aload_n 0, 1, []), (10, .iconst (-1), 1, []), (11, .invokevirtual 101, 3, []), (14, .ireturn, 1, []), (15, .aload_n 0, 1, []), (16, .getfield 20, 3, [11, 2, 181]), (19, .iload_n 1, 1, []), (20, .baload, 1, []), (21, .ifCond .ne 10, 3, [18]), (24, .aload_n 0, 1, []), (25, .bipush (-2), 2, []), (27, .invokevirtual 101, 3, []), (30, .ireturn, 1, []), (31, .aload_n 0, 1, []), (32, .getfield 12, 3, [11, 0, 179]), (35, .aload_n 0, 1, []), (36, .getfield 16, 3, [11, 1, 180]), (39, .iload_n 1, 1, []), (40, .aaload, 1, []), (41, .invokevirtual 352, 3, []), (44, .aload_n 0, 1, []), (45, .getfield 50, 3, [11, 6, 185]), (48, .invokevirtual 113, 3, []), (51, .aload_n 0, 1, []), (52, .iconst 0, 1, []), (53, .invokevirtual 116, 3, []), (56, .ireturn, 1, [])])
set_option maxRecDepth 20000 in
theorem ckX11_back_0 : ckR mX11_back 0 40 = true := by decide +kernel
set_option maxRecDepth 20000 in
theorem okX11_back : okC mX11_back := ⟨by decide +kernel, memT6 26 rfl rfl, okM.of (n := 1) (Or.inr rfl) (by decide) (fun j hj => by match j, hj with | 0, _ => exact ckX11_back_0 | _ + 1, hj => exact absurd hj (by omega))⟩
set_option maxRecDepth 20000 in
def mX11_count : Mt := (yX11_count, cX11_count, 2, (some .int), [11, 127, 1, 0, 1354, 1355], [(0, .iload_n 1, 1, []), (1, .bipush 7, 2, []), (3, .if_icmp .lt 19, 3, [13]), (6, .iload_n 1, 1, []), (7, .bipush 11, 2, []), (9, .if_icmp .gt 13, 3, [13]), (12, .aload_n 0, 1, []), (13, .getfield 54, 3, [11, 10, 189]), (16, .iload_n 1, 1, []), (17, .bipush 7, 2, []), (19, .isub, 1, []), (20, .iaload, 1, []), (21, .ireturn, 1, []), (22, .iload_n 1, 1, []), (23, .bipush 13, 2, []), (25, .if_icmp .lt 22, 3, [27]), (28, .iload_n 1, 1, []), (29, .bipush 16, 2, []), (31, .if_icmp .gt 16, 3, [27]), (34, .aload_n 0, 1, []), (35, .getfield 12, 3, [11, 0, 179]), (38, .getfield 167, 3, [1, 1, 56]), (41, .iload_n 1, 1, []), (42, .bipush 13, 2, []), (44, .isub, 1, []), (45, .iaload, 1, []), (46, .ireturn, 1, []), (47, .iload_n 1, 1, []), (48, .tableswitch 141 0 12 #[68, 79, 93, 101, 109, 117, 125, 141, 141, 141, 141, 141, 133], 68, []), (116, .aload_n 0, 1, []), (117, .getfield 12, 3, [11, 0, 179]), (120, .getfield 105, 3, [1, 0, 50]), (123, .getfield 288, 3, [5, 0, 5]), (126, .ireturn, 1, []), (127, .aload_n 0, 1, []), (128, .getfield 12, 3, [11, 0, 179]), (131, .getfield 105, 3, [1, 0, 50]), (134, .getfield 356, 3, [5, 1, 7]), (137, .invokestatic 322, 3, []), (140, .ireturn, 1, []), (141, .aload_n 0, 1, []), (142, .getfield 12, 3, [11, 0, 179]), (145, .getfield 310, 3, [1, 7, 71]), (148, .ireturn, 1, []), (149, .aload_n 0, 1, []), (150, .getfield 12, 3, [11, 0, 179]), (153, .getfield 327, 3, [1, 11, 83]), (156, .ireturn, 1, []), (157, .aload_n 0, 1, []), (158, .getfield 12, 3, [11, 0, 179]), (161, .getfield 189, 3, [1, 3, 60]), (164, .ireturn, 1, []), (165, .aload_n 0, 1, []), (166, .getfield 50, 3, [11, 6, 185]), (169, .getfield 359, 3, [4, 4, 135]), (172, .ireturn, 1, []), (173, .aload_n 0, 1, []), (174, .getfield 27, 3, [11, 3, 182]), (177, .getfield 173, 3, [10, 1, 86]), (180, .ireturn, 1, []), (181, .aload_n 0, 1, []), (182, .getfield 12, 3, [11, 0, 179]), (185, .getfield 220, 3, [1, 4, 62]), (188, .ireturn, 1, []), (189, .iconst (-1), 1, []), (190, .ireturn, 1, [])])
set_option maxRecDepth 20000 in
theorem ckX11_count_0 : ckR mX11_count 0 40 = true := by decide +kernel
set_option maxRecDepth 20000 in
theorem ckX11_count_1 : ckR mX11_count 40 40 = true := by decide +kernel
set_option maxRecDepth 20000 in
theorem okX11_count : okC mX11_count := ⟨by decide +kernel, memT6 30 rfl rfl, okM.of (n := 2) (Or.inr rfl) (by decide) (fun j hj => by match j, hj with | 0, _ => exact ckX11_count_0 | 1, _ => exact ckX11_count_1 | _ + 2, hj => exact absurd hj (by omega))⟩
end
section
set_option maxRecDepth 20000 in
def mX11_status : Mt := (yX11_status, cX11_status, 1, (some .int), [11, 127, 0, 0, 1358, 1359], [(0, .aload_n 0, 1, []), (1, .getfield 360, 3, [11, 14, 193]), (4, .ireturn, 1, [])])
set_option maxRecDepth 20000 in
theorem ckX11_status_0 : ckR mX11_status 0 40 = true := by decide +kernel
set_option maxRecDepth 20000 in
theorem okX11_status : okC mX11_status := ⟨by decide +kernel, memT6 34 rfl rfl, okM.of (n := 1) (Or.inr rfl) (by decide) (fun j hj => by match j, hj with | 0, _ => exact ckX11_status_0 | _ + 1, hj => exact absurd hj (by omega))⟩
set_option maxRecDepth 20000 in
def mX11_accept : Mt := (yX11_accept, cX11_accept, 2, (some .int), [11, 127, 1, 0, 676, 1], [(0, .aload_n 0, 1, []), (1, .iconst 0, 1, []), (2, .putfield 360, 3, [11, 14, 193]), (5, .iload_n 1, 1, []), (6, .ireturn, 1, [])])
set_option maxRecDepth 20000 in
theorem ckX11_accept_0 : ckR mX11_accept 0 40 = true := by decide +kernel
set_option maxRecDepth 20000 in
theorem okX11_accept : okC mX11_accept := ⟨by decide +kernel, memT3 71 rfl rfl, okM.of (n := 1) (Or.inr rfl) (by decide) (fun j hj => by match j, hj with | 0, _ => exact ckX11_accept_0 | _ + 1, hj => exact absurd hj (by omega))⟩
set_option maxRecDepth 20000 in
def mX11_refuse : Mt := (yX11_refuse, cX11_refuse, 2, (some .int), [11, 127, 1, 0, 664, 0], [(0, .aload_n 0, 1, []), (1, .iload_n 1, 1, []), (2, .putfield 360, 3, [11, 14, 193]), (5, .iload_n 1, 1, []), (6, .tableswitch 86 (-5) (-1) #[73, 86, 60, 47, 34], 34, []), (40, .aload_n 0, 1, []), (41, .getfield 54, 3, [11, 10, 189]), (44, .iconst 0, 1, []), (45, .dup2, 1, []), (46, .iaload, 1, []), (47, .iconst 1, 1, []), (48, .iadd, 1, []), (49, .iastore, 1, []), (50, .goto 52, 3, [49]), (53, .aload_n 0, 1, []), (54, .getfield 54, 3, [11, 10, 189]), (57, .iconst 1, 1, []), (58, .dup2, 1, []), (59, .iaload, 1, []), (60, .iconst 1, 1, []), (61, .iadd, 1, []), (62, .iastore, 1, []), (63, .goto 39, 3, [49]), (66, .aload_n 0, 1, []), (67, .getfield 54, 3, [11, 10, 189]), (70, .iconst 2, 1, []), (71, .dup2, 1, []), (72, .iaload, 1, []), (73, .iconst 1, 1, []), (74, .iadd, 1, []), (75, .iastore, 1, []), (76, .goto 26, 3, [49]), (79, .aload_n 0, 1, []), (80, .getfield 54, 3, [11, 10, 189]), (83, .iconst 3, 1, []), (84, .dup2, 1, []), (85, .iaload, 1, []), (86, .iconst 1, 1, []), (87, .iadd, 1, []), (88, .iastore, 1, []), (89, .goto 13, 3, [49]), (92, .aload_n 0, 1, []), (93, .getfield 54, 3, [11, 10, 189]), (96, .iconst 4, 1, []), (97, .dup2, 1, []), (98, .iaload, 1, []), (99, .iconst 1, 1, []), (100, .iadd, 1, []), (101, .iastore, 1, []), (102, .iload_n 1, 1, []), (103, .ireturn, 1, [])])
set_option maxRecDepth 20000 in
theorem ckX11_refuse_0 : ckR mX11_refuse 0 40 = true := by decide +kernel
set_option maxRecDepth 20000 in
theorem ckX11_refuse_1 : ckR mX11_refuse 40 40 = true := by decide +kernel
set_option maxRecDepth 20000 in
theorem okX11_refuse : okC mX11_refuse := ⟨by decide +kernel, memT3 59 rfl rfl, okM.of (n := 2) (Or.inr rfl) (by decide) (fun j hj => by match j, hj with | 0, _ => exact ckX11_refuse_0 | 1, _ => exact ckX11_refuse_1 | _ + 2, hj => exact absurd hj (by omega))⟩
set_option maxRecDepth 20000 in
def mX11_within : Mt := (yX11_within, cX11_within, 3, (some .int), [11, 127, 3, 1, 356], [(0, .iload_n 1, 1, []), (1, .iload_n 2, 1, []), (2, .iload_n 0, 1, []), (3, .invokestatic 363, 3, []), (6, .invokestatic 368, 3, []), (9, .ireturn, 1, [])])
set_option maxRecDepth 20000 in
theorem ckX11_within_0 : ckR mX11_within 0 40 = true := by decide +kernel
set_option maxRecDepth 20000 in
theorem okX11_within : okC mX11_within := ⟨by decide +kernel, memT1 231 rfl rfl, okM.of (n := 1) (Or.inr rfl) (by decide) (fun j hj => by match j, hj with | 0, _ => exact ckX11_within_0 | _ + 1, hj => exact absurd hj (by omega))⟩
set_option maxRecDepth 20000 in
def mX12_within : Mt := (yX12_within, cX12_within, 3, (some .boolean), [12, 140, 3, 1, 1534], [(0, .iload_n 0, 1, []), (1, .iload_n 1, 1, []), (2, .if_icmp .lt 12, 3, [8]), (5, .iload_n 0, 1, []), (6, .iload_n 2, 1, []), (7, .if_icmp .gt 7, 3, [8]), (10, .iconst 1, 1, []), (11, .goto 4, 3, [9]), (14, .iconst 0, 1, []), (15, .ireturn, 1, [])])
set_option maxRecDepth 20000 in
theorem ckX12_within_0 : ckR mX12_within 0 40 = true := by decide +kernel
set_option maxRecDepth 20000 in
theorem okX12_within : okC mX12_within := ⟨by decide +kernel, memT6 209 rfl rfl, okM.of (n := 1) (Or.inr rfl) (by decide) (fun j hj => by match j, hj with | 0, _ => exact ckX12_within_0 | _ + 1, hj => exact absurd hj (by omega))⟩
set_option maxRecDepth 20000 in
def mX12_refuses : Mt := (yX12_refuses, cX12_refuses, 2, (some .int), [12, 140, 1, 0, 1538, 46], [(0, .aload_n 0, 1, []), (1, .iload_n 1, 1, []), (2, .putfield 3, 3, [12, 0, 194]), (5, .aload_n 0, 1, []), (6, .getfield 7, 3, [12, 1, 195]), (9, .iload_n 1, 1, []), (10, .ineg, 1, []), (11, .dup2, 1, []), (12, .iaload, 1, []), (13, .iconst 1, 1, []), (14, .iadd, 1, []), (15, .iastore, 1, []), (16, .iload_n 1, 1, []), (17, .ireturn, 1, [])])
set_option maxRecDepth 20000 in
theorem ckX12_refuses_0 : ckR mX12_refuses 0 40 = true := by decide +kernel
set_option maxRecDepth 20000 in
theorem okX12_refuses : okC mX12_refuses := ⟨by decide +kernel, memT6 213 rfl rfl, okM.of (n := 1) (Or.inr rfl) (by decide) (fun j hj => by match j, hj with | 0, _ => exact ckX12_refuses_0 | _ + 1, hj => exact absurd hj (by omega))⟩
set_option maxRecDepth 20000 in
def mX12_good : Mt := (yX12_good, cX12_good, 2, (some .int), [12, 140, 1, 0, 1542, 47], [(0, .aload_n 0, 1, []), (1, .iconst 0, 1, []), (2, .putfield 3, 3, [12, 0, 194]), (5, .iload_n 1, 1, []), (6, .ireturn, 1, [])])
set_option maxRecDepth 20000 in
theorem ckX12_good_0 : ckR mX12_good 0 40 = true := by decide +kernel
set_option maxRecDepth 20000 in
theorem okX12_good : okC mX12_good := ⟨by decide +kernel, memT6 217 rfl rfl, okM.of (n := 1) (Or.inr rfl) (by decide) (fun j hj => by match j, hj with | 0, _ => exact ckX12_good_0 | _ + 1, hj => exact absurd hj (by omega))⟩
set_option maxRecDepth 20000 in
def mX12_settled : Mt := (yX12_settled, cX12_settled, 2, (some .int), [12, 140, 1, 0, 1550, 48], [(0, .aload_n 0, 1, []), (1, .iconst 0, 1, []), (2, .putfield 11, 3, [12, 33, 226]), (5, .aload_n 0, 1, []), (6, .iload_n 1, 1, []), (7, .invokevirtual 14, 3, []), (10, .ireturn, 1, [])])
set_option maxRecDepth 20000 in
theorem ckX12_settled_0 : ckR mX12_settled 0 40 = true := by decide +kernel
set_option maxRecDepth 20000 in
theorem okX12_settled : okC mX12_settled := ⟨by decide +kernel, memT6 225 rfl rfl, okM.of (n := 1) (Or.inr rfl) (by decide) (fun j hj => by match j, hj with | 0, _ => exact ckX12_settled_0 | _ + 1, hj => exact absurd hj (by omega))⟩
set_option maxRecDepth 20000 in
def mX12_isIn : Mt := (yX12_isIn, cX12_isIn, 2, (some .boolean), [12, 140, 2, 1, 1803], [(0, .iload_n 0, 1, []), (1, .iload_n 1, 1, []), (2, .ishr, 1, []), (3, .iconst 1, 1, []), (4, .iand, 1, []), (5, .iconst 1, 1, []), (6, .if_icmp .ne 7, 3, [9]), (9, .iconst 1, 1, []), (10, .goto 4, 3, [10]), (13, .iconst 0, 1, []), (14, .ireturn, 1, [])])
set_option maxRecDepth 20000 in
theorem ckX12_isIn_0 : ckR mX12_isIn 0 40 = true := by decide +kernel
set_option maxRecDepth 20000 in
theorem okX12_isIn : okC mX12_isIn := ⟨by decide +kernel, memT7 238 rfl rfl, okM.of (n := 1) (Or.inr rfl) (by decide) (fun j hj => by match j, hj with | 0, _ => exact ckX12_isIn_0 | _ + 1, hj => exact absurd hj (by omega))⟩
set_option maxRecDepth 20000 in
def mX12_ones : Mt := (yX12_ones, cX12_ones, 3, (some .int), [12, 140, 1, 1, 1969], [(0, .iconst 0, 1, []), (1, .istore_n 1, 1, []), (2, .iconst 0, 1, []), (3, .istore_n 2, 1, []), (4, .iload_n 2, 1, []), (5, .bipush 16, 2, []), (7, .if_icmp .ge 17, 3, [17]), (10, .iload_n 1, 1, []), (11, .iload_n 0, 1, []), (12, .iload_n 2, 1, []), (13, .ishr, 1, []), (14, .iconst 1, 1, []), (15, .iand, 1, []), (16, .iadd, 1, []), (17, .istore_n 1, 1, []), (18, .iinc 2 1, 3, []), (21, .goto (-17), 3, [4]), (24, .iload_n 1, 1, []), (25, .ireturn, 1, [])])
set_option maxRecDepth 20000 in
theorem ckX12_ones_0 : ckR mX12_ones 0 40 = true := by decide +kernel
set_option maxRecDepth 20000 in
theorem okX12_ones : okC mX12_ones := ⟨by decide +kernel, memT8 164 rfl rfl, okM.of (n := 1) (Or.inr rfl) (by decide) (fun j hj => by match j, hj with | 0, _ => exact ckX12_ones_0 | _ + 1, hj => exact absurd hj (by omega))⟩
set_option maxRecDepth 20000 in
def mX12_init : Mt := (yX12_init, cX12_init, 1, none, [12, 140, 0, 2, 1364], [(0, .aload_n 0, 1, []), (1, .invokespecial 18, 3, []), (4, .aload_n 0, 1, []), (5, .bipush 7, 2, []), (7, .newarray .int, 2, []), (9, .putfield 7, 3, [12, 1, 195]), (12, .aload_n 0, 1, []), (13, .sipush 5822, 3, []), (16, .newarray .int, 2, []), (18, .putfield 24, 3, [12, 2, 196]), (21, .aload_n 0, 1, []), (22, .sipush 11644, 3, []), (25, .newarray .int, 2, []), (27, .putfield 27, 3, [12, 3, 197]), (30, .aload_n 0, 1, []), (31, .iconst 2, 1, []), (32, .newarray .boolean, 2, []), (34, .putfield 30, 3, [12, 4, 198]), (37, .aload_n 0, 1, []), (38, .sipush 210, 3, []), (41, .newarray .int, 2, []), (43, .putfield 34, 3, [12, 5, 199]), (46, .aload_n 0, 1, []), (47, .sipush 131, 3, []), (50, .newarray .byte, 2, []), (52, .dup, 1, []), (53, .iconst 0, 1, []), (54, .bipush 112, 2, []), (56, .bastore, 1, []), (57, .dup, 1, []), (58, .iconst 1, 1, []), (59, .bipush 114, 2, []), (61, .bastore, 1, []), (62, .dup, 1, []), (63, .iconst 2, 1, []), (64, .bipush 105, 2, []), (66, .bastore, 1, []), (67, .dup, 1, []), (68, .iconst 3, 1, []), (69, .bipush 99, 2, []), (71, .bastore, 1, []), (72, .dup, 1, []), (73, .iconst 4, 1, []), (74, .bipush 101, 2, []), (76, .bastore, 1, []), (77, .dup, 1, []), (78, .iconst 5, 1, []), (79, .bipush 32, 2, []), (81, .bastore, 1, []), (82, .dup, 1, []), (83, .bipush 6, 2, []), (85, .bipush 114, 2, []), (87, .bastore, 1, []), (88, .dup, 1, []), (89, .bipush 7, 2, []), (91, .bipush 97, 2, []), (93, .bastore, 1, []), (94, .dup, 1, []), (95, .bipush 8, 2, []), (97, .bipush 110, 2, []), (99, .bastore, 1, []), (100, .dup, 1, []), (101, .bipush 9, 2, []), (103, .bipush 107, 2, []), (105, .bastore, 1, []), (106, .dup, 1, []), (107, .bipush 10, 2, []), (109, .bipush 115, 2, []), (111, .bastore, 1, []), (112, .dup, 1, []), (113, .bipush 11, 2, []), (115, .bipush 32, 2, []), (117, .bastore, 1, []), (118, .dup, 1, []), (119, .bipush 12, 2, []), (121, .bipush 98, 2, []), (123, .bastore, 1, []), (124, .dup, 1, []), (125, .bipush 13, 2, []), (127, .bipush 97, 2, []), (129, .bastore, 1, []), (130, .dup, 1, []), (131, .bipush 14, 2, []), (133, .bipush 114, 2, []), (135, .bastore, 1, []), (136, .dup, 1, []), (137, .bipush 15, 2, []), (139, .bipush 115, 2, []), (141, .bastore, 1, []), (142, .dup, 1, []), (143, .bipush 16, 2, []), (145, .bipush 32, 2, []), (147, .bastore, 1, []), (148, .dup, 1, []), (149, .bipush 17, 2, []), (151, .bipush 105, 2, []), (153, .bastore, 1, []), (154, .dup, 1, []), (155, .bipush 18, 2, []), (157, .bipush 102, 2, []), (159, .bastore, 1, []), (160, .dup, 1, []), (161, .bipush 19, 2, []), (163, .bipush 32, 2, []), (165, .bastore, 1, []), (166, .dup, 1, []), (167, .bipush 20, 2, []), (169, .bipush 111, 2, []), (171, .bastore, 1, []), (172, .dup, 1, []), (173, .bipush 21, 2, []), (175, .bipush 114, 2, []), (177, .bastore, 1, []), (178, .dup, 1, []), (179, .bipush 22, 2, []), (181, .bipush 32, 2, []), (183, .bastore, 1, []), (184, .dup, 1, []), (185, .bipush 23, 2, []), (187, .bipush 97, 2, []), (189, .bastore, 1, []), (190, .dup, 1, []), (191, .bipush 24, 2, []), (193, .bipush 110, 2, []), (195, .bastore, 1, []), (196, .dup, 1, []), (197, .bipush 25, 2, []), (199, .bipush 100, 2, []), (201, .bastore, 1, []), (202, .dup, 1, []), (203, .bipush 26, 2, []), (205, .bipush 32, 2, []), (207, .bastore, 1, []), (208, .dup, 1, []), (209, .bipush 27, 2, []), (211, .bipush 110, 2, []), (213, .bastore, 1, []), (214, .dup, 1, []), (215, .bipush 28, 2, []), (217, .bipush 111, 2, []), (219, .bastore, 1, []), (220, .dup, 1, []), (221, .bipush 29, 2, []), (223, .bipush 116, 2, []), (225, .bastore, 1, []), (226, .dup, 1, []), (227, .bipush 30, 2, []), (229, .bipush 32, 2, []), (231, .bastore, 1, []), (232, .dup, 1, []), (233, .bipush 31, 2, []), (235, .bipush 98, 2, []), (237, .bastore, 1, []), (238, .dup, 1, []), (239, .bipush 32, 2, []), (241, .bipush 111, 2, []), (243, .bastore, 1, []), (244, .dup, 1, []), (245, .bipush 33, 2, []), (247, .bipush 114, 2, []), (249, .bastore, 1, []), (250, .dup, 1, []), (251, .bipush 34, 2, []), (253, .bipush 110, 2, []), (255, .bastore, 1, []), (256, .dup, 1, []), (257, .bipush 35, 2, []), (259, .bipush 32, 2, []), (261, .bastore, 1, []), (262, .dup, 1, []), (263, .bipush 36, 2, []), (265, .bipush 108, 2, []), (267, .bastore, 1, []), (268, .dup, 1, []), (269, .bipush 37, 2, []), (271, .bipush 105, 2, []), (273, .bastore, 1, []), (274, .dup, 1, []), (275, .bipush 38, 2, []), (277, .bipush 118, 2, []), (279, .bastore, 1, []), (280, .dup, 1, []), (281, .bipush 39, 2, []), (283, .bipush 101, 2, []), (285, .bastore, 1, []), (286, .dup, 1, []), (287, .bipush 40, 2, []), (289, .bipush 100, 2, []), (291, .bastore, 1, []), (292, .dup, 1, []), (293, .bipush 41, 2, []), (295, .bipush 32, 2, []), (297, .bastore, 1, []), (298, .dup, 1, []), (299, .bipush 42, 2, []), (301, .bipush 110, 2, []), (303, .bastore, 1, []), (304, .dup, 1, []), (305, .bipush 43, 2, []), (307, .bipush 111, 2, []), (309, .bastore, 1, []), (310, .dup, 1, []), (311, .bipush 44, 2, []), (313, .bipush 98, 2, []), (315, .bastore, 1, []), (316, .dup, 1, []), (317, .bipush 45, 2, []), (319, .bipush 108, 2, []), (321, .bastore, 1, []), (322, .dup, 1, []), (323, .bipush 46, 2, []), (325, .bipush 101, 2, []), (327, .bastore, 1, []), (328, .dup, 1, []), (329, .bipush 47, 2, []), (331, .bipush 32, 2, []), (333, .bastore, 1, []), (334, .dup, 1, []), (335, .bipush 48, 2, []), (337, .bipush 100, 2, []), (339, .bastore, 1, []), (340, .dup, 1, []), (341, .bipush 49, 2, []), (343, .bipush 101, 2, []), (345, .bastore, 1, []), (346, .dup, 1, []), (347, .bipush 50, 2, []), (349, .bipush 98, 2, []), (351, .bastore, 1, []), (352, .dup, 1, []), (353, .bipush 51, 2, []), (355, .bipush 116, 2, []), (357, .bastore, 1, []), (358, .dup, 1, []), (359, .bipush 52, 2, []), (361, .bipush 32, 2, []), (363, .bastore, 1, []), (364, .dup, 1, []), (365, .bipush 53, 2, []), (367, .bipush 102, 2, []), (369, .bastore, 1, []), (370, .dup, 1, []), (371, .bipush 54, 2, []), (373, .bipush 97, 2, []), (375, .bastore, 1, []), (376, .dup, 1, []), (377, .bipush 55, 2, []), (379, .bipush 109, 2, []), (381, .bastore, 1, []), (382, .dup, 1, []), (383, .bipush 56, 2, []), (385, .bipush 105, 2, []), (387, .bastore, 1, []), (388, .dup, 1, []), (389, .bipush 57, 2, []), (391, .bipush 108, 2, []), (393, .bastore, 1, []), (394, .dup, 1, []), (395, .bipush 58, 2, []), (397, .bipush 121, 2, []), (399, .bastore, 1, []), (400, .dup, 1, []), (401, .bipush 59, 2, []), (403, .bipush 32, 2, []), (405, .bastore, 1, []), (406, .dup, 1, []), (407, .bipush 60, 2, []), (409, .bipush 115, 2, []), (411, .bastore, 1, []), (412, .dup, 1, []), (413, .bipush 61, 2, []), (415, .bipush 105, 2, []), (417, .bastore, 1, []), (418, .dup, 1, []), (419, .bipush 62, 2, []), (421, .bipush 100, 2, []), (423, .bastore, 1, []), (424, .dup, 1, []), (425, .bipush 63, 2, []), (427, .bipush 101, 2, []), (429, .bastore, 1, []), (430, .dup, 1, []), (431, .bipush 64, 2, []), (433, .bipush 32, 2, []), (435, .bastore, 1, []), (436, .dup, 1, []), (437, .bipush 65, 2, []), (439, .bipush 97, 2, []), (441, .bastore, 1, []), (442, .dup, 1, []), (443, .bipush 66, 2, []), (445, .bipush 103, 2, []), (447, .bastore, 1, []), (448, .dup, 1, []), (449, .bipush 67, 2, []), (451, .bipush 101, 2, []), (453, .bastore, 1, []), (454, .dup, 1, []), (455, .bipush 68, 2, []), (457, .bipush 32, 2, []), (459, .bastore, 1, []), (460, .dup, 1, []), (461, .bipush 69, 2, []), (463, .bipush 111, 2, []), (465, .bastore, 1, []), (466, .dup, 1, []), (467, .bipush 70, 2, []), (469, .bipush 119, 2, []), (471, .bastore, 1, []), (472, .dup, 1, []), (473, .bipush 71, 2, []), (475, .bipush 110, 2, []), (477, .bastore, 1, []), (478, .dup, 1, []), (479, .bipush 72, 2, []), (481, .bipush 32, 2, []), (483, .bastore, 1, []), (484, .dup, 1, []), (485, .bipush 73, 2, []), (487, .bipush 121, 2, []), (489, .bastore, 1, []), (490, .dup, 1, []), (491, .bipush 74, 2, []), (493, .bipush 101, 2, []), (495, .bastore, 1, []), (496, .dup, 1, []), (497, .bipush 75, 2, []), (499, .bipush 97, 2, []), (501, .bastore, 1, []), (502, .dup, 1, []), (503, .bipush 76, 2, []), (505, .bipush 114, 2, []), (507, .bastore, 1, []), (508, .dup, 1, []), (509, .bipush 77, 2, []), (511, .bipush 32, 2, []), (513, .bastore, 1, []), (514, .dup, 1, []), (515, .bipush 78, 2, []), (517, .bipush 109, 2, []), (519, .bastore, 1, []), (520, .dup, 1, []), (521, .bipush 79, 2, []), (523, .bipush 111, 2, []), (525, .bastore, 1, []), (526, .dup, 1, []), (527, .bipush 80, 2, []), (529, .bipush 111, 2, []), (531, .bastore, 1, []), (532, .dup, 1, []), (533, .bipush 81, 2, []), (535, .bipush 100, 2, []), (537, .bastore, 1, []), (538, .dup, 1, []), (539, .bipush 82, 2, []), (541, .bipush 32, 2, []), (543, .bastore, 1, []), (544, .dup, 1, []), (545, .bipush 83, 2, []), (547, .bipush 110, 2, []), (549, .bastore, 1, []), (550, .dup, 1, []), (551, .bipush 84, 2, []), (553, .bipush 111, 2, []), (555, .bastore, 1, []), (556, .dup, 1, []), (557, .bipush 85, 2, []), (559, .bipush 119, 2, []), (561, .bastore, 1, []), (562, .dup, 1, []), (563, .bipush 86, 2, []), (565, .bipush 32, 2, []), (567, .bastore, 1, []), (568, .dup, 1, []), (569, .bipush 87, 2, []), (571, .bipush 112, 2, []), (573, .bastore, 1, []), (574, .dup, 1, []), (575, .bipush 88, 2, []), (577, .bipush 101, 2, []), (579, .bastore, 1, []), (580, .dup, 1, []), (581, .bipush 89, 2, []), (583, .bipush 111, 2, []), (585, .bastore, 1, []), (586, .dup, 1, []), (587, .bipush 90, 2, []), (589, .bipush 112, 2, []), (591, .bastore, 1, []), (592, .dup, 1, []), (593, .bipush 91, 2, []), (595, .bipush 108, 2, []), (597, .bastore, 1, []), (598, .dup, 1, []), (599, .bipush 92, 2, []), (601, .bipush 101, 2, []), (603, .bastore, 1, []), (604, .dup, 1, []), (605, .bipush 93, 2, []), (607, .bipush 32, 2, []), (609, .bastore, 1, []), (610, .dup, 1, []), (611, .bipush 94, 2, []), (613, .bipush 100, 2, []), (615, .bastore, 1, []), (616, .dup, 1, []), (617, .bipush 95, 2, []), (619, .bipush 111, 2, []), (621, .bastore, 1, []), (622, .dup, 1, []), (623, .bipush 96, 2, []), (625, .bipush 110, 2, []), (627, .bastore, 1, []), (628, .dup, 1, []), (629, .bipush 97, 2, []), (631, .bipush 101, 2, []), (633, .bastore, 1, []), (634, .dup, 1, []), (635, .bipush 98, 2, []), (637, .bipush 32, 2, []), (639, .bastore, 1, []), (640, .dup, 1, []), (641, .bipush 99, 2, []), (643, .bipush 108, 2, []), (645, .bastore, 1, []), (646, .dup, 1, []), (647, .bipush 100, 2, []), (649, .bipush 97, 2, []), (651, .bastore, 1, []), (652, .dup, 1, []), (653, .bipush 101, 2, []), (655, .bipush 115, 2, []), (657, .bastore, 1, []), (658, .dup, 1, []), (659, .bipush 102, 2, []), (661, .bipush 116, 2, []), (663, .bastore, 1, []), (664, .dup, 1, []), (665, .bipush 103, 2, []), (667, .bipush 32, 2, []), (669, .bastore, 1, []), (670, .dup, 1, []), (671, .bipush 104, 2, []), (673, .bipush 112, 2, []), (675, .bastore, 1, []), (676, .dup, 1, []), (677, .bipush 105, 2, []), (679, .bipush 117, 2, []), (681, .bastore, 1, []), (682, .dup, 1, []), (683, .bipush 106, 2, []), (685, .bipush 114, 2, []), (687, .bastore, 1, []), (688, .dup, 1, []), (689, .bipush 107, 2, []), (691, .bipush 115, 2, []), (693, .bastore, 1, []), (694, .dup, 1, []), (695, .bipush 108, 2, []), (697, .bipush 101, 2, []), (699, .bastore, 1, []), (700, .dup, 1, []), (701, .bipush 109, 2, []), (703, .bipush 32, 2, []), (705, .bastore, 1, []), (706, .dup, 1, []), (707, .bipush 110, 2, []), (709, .bipush 107, 2, []), (711, .bastore, 1, []), (712, .dup, 1, []), (713, .bipush 111, 2, []), (715, .bipush 105, 2, []), (717, .bastore, 1, []), (718, .dup, 1, []), (719, .bipush 112, 2, []), (721, .bipush 110, 2, []), (723, .bastore, 1, []), (724, .dup, 1, []), (725, .bipush 113, 2, []), (727, .bipush 32, 2, []), (729, .bastore, 1, []), (730, .dup, 1, []), (731, .bipush 114, 2, []), (733, .bipush 98, 2, []), (735, .bastore, 1, []), (736, .dup, 1, []), (737, .bipush 115, 2, []), (739, .bipush 117, 2, []), (741, .bastore, 1, []), (742, .dup, 1, []), (743, .bipush 116, 2, []), (745, .bipush 121, 2, []), (747, .bastore, 1, []), (748, .dup, 1, []), (749, .bipush 117, 2, []), (751, .bipush 32, 2, []), (753, .bastore, 1, []), (754, .dup, 1, []), (755, .bipush 118, 2, []), (757, .bipush 102, 2, []), (759, .bastore, 1, []), (760, .dup, 1, []), (761, .bipush 119, 2, []), (763, .bipush 111, 2, []), (765, .bastore, 1, []), (766, .dup, 1, []), (767, .bipush 120, 2, []), (769, .bipush 114, 2, []), (771, .bastore, 1, []), (772, .dup, 1, []), (773, .bipush 121, 2, []), (775, .bipush 32, 2, []), (777, .bastore, 1, []), (778, .dup, 1, []), (779, .bipush 122, 2, []), (781, .bipush 98, 2, []), (783, .bastore, 1, []), (784, .dup, 1, []), (785, .bipush 123, 2, []), (787, .bipush 121, 2, []), (789, .bastore, 1, []), (790, .dup, 1, []), (791, .bipush 124, 2, []), (793, .bipush 32, 2, []), (795, .bastore, 1, []), (796, .dup, 1, []), (797, .bipush 125, 2, []), (799, .bipush 116, 2, []), (801, .bastore, 1, []), (802, .dup, 1, []), (803, .bipush 126, 2, []), (805, .bipush 105, 2, []), (807, .bastore, 1, []), (808, .dup, 1, []), (809, .bipush 127, 2, []), (811, .bipush 109, 2, []), (813, .bastore, 1, []), (814, .dup, 1, []), (815, .sipush 128, 3, []), (818, .bipush 101, 2, []), (820, .bastore, 1, []), (821, .dup, 1, []), (822, .sipush 129, 3, []), (825, .bipush 115, 2, []), (827, .bastore, 1, []), (828, .dup, 1, []), (829, .sipush 130, 3, []), (832, .bipush 32, 2, []), (834, .bastore, 1, []), (835, .putfield 37, 3, [12, 7, 201]), (838, .aload_n 0, 1, []), (839, .sipush 400, 3, []), (842, .newarray .byte, 2, []), (844, .putfield 41, 3, [12, 11, 205]), (847, .aload_n 0, 1, []), (848, .iconst 5, 1, []), (849, .newarray .int, 2, []), (851, .putfield 44, 3, [12, 12, 206]), (854, .aload_n 0, 1, []), (855, .iconst (-1), 1, []), (856, .putfield 47, 3, [12, 14, 208]), (859, .aload_n 0, 1, []), (860, .sipush 401, 3, []), (863, .newarray .int, 2, []), (865, .putfield 50, 3, [12, 15, 209]), (868, .aload_n 0, 1, []), (869, .sipush 401, 3, []), (872, .newarray .int, 2, []), (874, .putfield 53, 3, [12, 16, 210]), (877, .aload_n 0, 1, []), (878, .sipush 401, 3, []), (881, .newarray .int, 2, []), (883, .putfield 56, 3, [12, 17, 211]), (886, .aload_n 0, 1, []), (887, .bipush 10, 2, []), (889, .newarray .int, 2, []), (891, .putfield 59, 3, [12, 26, 219]), (894, .aload_n 0, 1, []), (895, .bipush 16, 2, []), (897, .newarray .int, 2, []), (899, .putfield 62, 3, [12, 27, 220]), (902, .aload_n 0, 1, []), (903, .bipush 16, 2, []), (905, .newarray .int, 2, []), (907, .putfield 65, 3, [12, 28, 221]), (910, .aload_n 0, 1, []), (911, .bipush 16, 2, []), (913, .newarray .int, 2, []), (915, .putfield 68, 3, [12, 29, 222]), (918, .aload_n 0, 1, []), (919, .sipush 1136, 3, []), (922, .newarray .int, 2, []), (924, .putfield 71, 3, [12, 31, 224]), (927, .aload_n 0, 1, []), (928, .sipush 1136, 3, []), (931, .newarray .int, 2, []), (933, .putfield 74, 3, [12, 32, 225]), (936, .aload_n 0, 1, []), (937, .sipush 256, 3, []), (940, .newarray .int, 2, []), (942, .putfield 77, 3, [12, 34, 227]), (945, .aload_n 0, 1, []), (946, .sipush 256, 3, []), (949, .newarray .boolean, 2, []), (951, .putfield 80, 3, [12, 35, 228]), (954, .aload_n 0, 1, []), (955, .iconst 2, 1, []), (956, .newarray .int, 2, []), (958, .putfield 83, 3, [12, 36, 229]), (961, .aload_n 0, 1, []), (962, .iconst (-1), 1, []), (963, .putfield 86, 3, [12, 41, 234]), (966, .aload_n 0, 1, []), (967, .iconst 3, 1, []), (968, .newarray .long, 2, []), (970, .putfield 89, 3, [12, 49, 242]), (973, .aload_n 0, 1, []), (974, .bipush 16, 2, []), (976, .newarray .int, 2, []), (978, .putfield 93, 3, [12, 50, 243]), (981, .aload_n 0, 1, []), (982, .bipush 16, 2, []), (984, .newarray .int, 2, []), (986, .putfield 96, 3, [12, 51, 244]), (989, .aload_n 0, 1, []), (990, .getfield 24, 3, [12, 2, 196]), (993, .sipush 206, 3, []), (996, .sipush 500, 3, []), (999, .iastore, 1, []), (1000, .aload_n 0, 1, []), (1001, .getfield 24, 3, [12, 2, 196]), (1004, .sipush 207, 3, []), (1007, .iconst 4, 1, []), (1008, .iastore, 1, []), (1009, .aload_n 0, 1, []), (1010, .getfield 24, 3, [12, 2, 196]), (1013, .sipush 208, 3, []), (1016, .bipush 16, 2, []), (1018, .iastore, 1, []), (1019, .aload_n 0, 1, []), (1020, .getfield 24, 3, [12, 2, 196]), (1023, .sipush 214, 3, []), (1026, .iconst (-1), 1, []), (1027, .iastore, 1, []), (1028, .return_, 1, [])])
set_option maxRecDepth 20000 in
theorem ckX12_init_0 : ckR mX12_init 0 40 = true := by decide +kernel
set_option maxRecDepth 20000 in
theorem ckX12_init_1 : ckR mX12_init 40 40 = true := by decide +kernel
set_option maxRecDepth 20000 in
theorem ckX12_init_2 : ckR mX12_init 80 40 = true := by decide +kernel
set_option maxRecDepth 20000 in
theorem ckX12_init_3 : ckR mX12_init 120 40 = true := by decide +kernel
set_option maxRecDepth 20000 in
theorem ckX12_init_4 : ckR mX12_init 160 40 = true := by decide +kernel
set_option maxRecDepth 20000 in
theorem ckX12_init_5 : ckR mX12_init 200 40 = true := by decide +kernel
set_option maxRecDepth 20000 in
theorem ckX12_init_6 : ckR mX12_init 240 40 = true := by decide +kernel
set_option maxRecDepth 20000 in
theorem ckX12_init_7 : ckR mX12_init 280 40 = true := by decide +kernel
set_option maxRecDepth 20000 in
theorem ckX12_init_8 : ckR mX12_init 320 40 = true := by decide +kernel
set_option maxRecDepth 20000 in
theorem ckX12_init_9 : ckR mX12_init 360 40 = true := by decide +kernel
set_option maxRecDepth 20000 in
theorem ckX12_init_10 : ckR mX12_init 400 40 = true := by decide +kernel
set_option maxRecDepth 20000 in
theorem ckX12_init_11 : ckR mX12_init 440 40 = true := by decide +kernel
set_option maxRecDepth 20000 in
theorem ckX12_init_12 : ckR mX12_init 480 40 = true := by decide +kernel
set_option maxRecDepth 20000 in
theorem ckX12_init_13 : ckR mX12_init 520 40 = true := by decide +kernel
set_option maxRecDepth 20000 in
theorem ckX12_init_14 : ckR mX12_init 560 40 = true := by decide +kernel
set_option maxRecDepth 20000 in
theorem ckX12_init_15 : ckR mX12_init 600 40 = true := by decide +kernel
set_option maxRecDepth 20000 in
theorem ckX12_init_16 : ckR mX12_init 640 40 = true := by decide +kernel
set_option maxRecDepth 20000 in
theorem okX12_init : okC mX12_init := ⟨by decide +kernel, memT6 39 rfl rfl, okM.of (n := 17) (Or.inr rfl) (by decide) (fun j hj => by match j, hj with | 0, _ => exact ckX12_init_0 | 1, _ => exact ckX12_init_1 | 2, _ => exact ckX12_init_2 | 3, _ => exact ckX12_init_3 | 4, _ => exact ckX12_init_4 | 5, _ => exact ckX12_init_5 | 6, _ => exact ckX12_init_6 | 7, _ => exact ckX12_init_7 | 8, _ => exact ckX12_init_8 | 9, _ => exact ckX12_init_9 | 10, _ => exact ckX12_init_10 | 11, _ => exact ckX12_init_11 | 12, _ => exact ckX12_init_12 | 13, _ => exact ckX12_init_13 | 14, _ => exact ckX12_init_14 | 15, _ => exact ckX12_init_15 | 16, _ => exact ckX12_init_16 | _ + 17, hj => exact absurd hj (by omega))⟩
set_option maxRecDepth 20000 in
def mX12_laysAside : Mt := (yX12_laysAside, cX12_laysAside, 3, none, [12, 140, 1, 0, 1926, 113], [(0, .iconst 0, 1, []), (1, .istore_n 2, 1, []), (2, .iload_n 2, 1, []), (3, .bipush 70, 2, []), (5, .if_icmp .ge 26, 3, [19]), (8, .aload_n 0, 1, []), (9, .getfield 34, 3, [12, 5, 199]), (12, .bipush 70, 2, []), (14, .iload_n 1, 1, []), (15, .imul, 1, []), (16, .iload_n 2, 1, []), (17, .iadd, 1, []), (18, .aload_n 0, 1, []), (19, .getfield 24, 3, [12, 2, 196]), (22, .iload_n 2, 1, []), (23, .iaload, 1, []), (24, .iastore, 1, []), (25, .iinc 2 1, 3, []), (28, .goto (-26), 3, [2]), (31, .return_, 1, [])])
set_option maxRecDepth 20000 in
theorem ckX12_laysAside_0 : ckR mX12_laysAside 0 40 = true := by decide +kernel
set_option maxRecDepth 20000 in
theorem okX12_laysAside : okC mX12_laysAside := ⟨by decide +kernel, memT8 121 rfl rfl, okM.of (n := 1) (Or.inr rfl) (by decide) (fun j hj => by match j, hj with | 0, _ => exact ckX12_laysAside_0 | _ + 1, hj => exact absurd hj (by omega))⟩
set_option maxRecDepth 20000 in
def mX12_takesBack : Mt := (yX12_takesBack, cX12_takesBack, 3, none, [12, 140, 1, 0, 1938, 116], [(0, .iconst 0, 1, []), (1, .istore_n 2, 1, []), (2, .iload_n 2, 1, []), (3, .bipush 70, 2, []), (5, .if_icmp .ge 26, 3, [19]), (8, .aload_n 0, 1, []), (9, .getfield 24, 3, [12, 2, 196]), (12, .iload_n 2, 1, []), (13, .aload_n 0, 1, []), (14, .getfield 34, 3, [12, 5, 199]), (17, .bipush 70, 2, []), (19, .iload_n 1, 1, []), (20, .imul, 1, []), (21, .iload_n 2, 1, []), (22, .iadd, 1, []), (23, .iaload, 1, []), (24, .iastore, 1, []), (25, .iinc 2 1, 3, []), (28, .goto (-26), 3, [2]), (31, .return_, 1, [])])
set_option maxRecDepth 20000 in
theorem ckX12_takesBack_0 : ckR mX12_takesBack 0 40 = true := by decide +kernel
set_option maxRecDepth 20000 in
theorem okX12_takesBack : okC mX12_takesBack := ⟨by decide +kernel, memT8 133 rfl rfl, okM.of (n := 1) (Or.inr rfl) (by decide) (fun j hj => by match j, hj with | 0, _ => exact ckX12_takesBack_0 | _ + 1, hj => exact absurd hj (by omega))⟩
set_option maxRecDepth 20000 in
def mX12_image : Mt := (yX12_image, cX12_image, 3, (some .int), [12, 140, 1, 0, 1530, 1531], [(0, .iload_n 1, 1, []), (1, .iconst 0, 1, []), (2, .iconst 1, 1, []), (3, .invokestatic 99, 3, []), (6, .ifCond .ne 9, 3, [9]), (9, .aload_n 0, 1, []), (10, .iconst (-1), 1, []), (11, .invokevirtual 103, 3, []), (14, .ireturn, 1, []), (15, .iconst 0, 1, []), (16, .istore_n 2, 1, []), (17, .iload_n 2, 1, []), (18, .sipush 5822, 3, []), (21, .if_icmp .ge 27, 3, [28]), (24, .aload_n 0, 1, []), (25, .getfield 27, 3, [12, 3, 197]), (28, .sipush 5822, 3, []), (31, .iload_n 1, 1, []), (32, .imul, 1, []), (33, .iload_n 2, 1, []), (34, .iadd, 1, []), (35, .aload_n 0, 1, []), (36, .getfield 24, 3, [12, 2, 196]), (39, .iload_n 2, 1, []), (40, .iaload, 1, []), (41, .iastore, 1, []), (42, .iinc 2 1, 3, []), (45, .goto (-28), 3, [11]), (48, .aload_n 0, 1, []), (49, .getfield 30, 3, [12, 4, 198]), (52, .iload_n 1, 1, []), (53, .iconst 1, 1, []), (54, .bastore, 1, []), (55, .aload_n 0, 1, []), (56, .iconst 0, 1, []), (57, .invokevirtual 14, 3, []), (60, .ireturn, 1, [])])
set_option maxRecDepth 20000 in
theorem ckX12_image_0 : ckR mX12_image 0 40 = true := by decide +kernel
set_option maxRecDepth 20000 in
theorem okX12_image : okC mX12_image := ⟨by decide +kernel, memT6 206 rfl rfl, okM.of (n := 1) (Or.inr rfl) (by decide) (fun j hj => by match j, hj with | 0, _ => exact ckX12_image_0 | _ + 1, hj => exact absurd hj (by omega))⟩
set_option maxRecDepth 20000 in
def mX12_back : Mt := (yX12_back, cX12_back, 3, (some .int), [12, 140, 1, 0, 1545, 1546], [(0, .iload_n 1, 1, []), (1, .iconst 0, 1, []), (2, .iconst 1, 1, []), (3, .invokestatic 99, 3, []), (6, .ifCond .ne 9, 3, [9]), (9, .aload_n 0, 1, []), (10, .iconst (-1), 1, []), (11, .invokevirtual 103, 3, []), (14, .ireturn, 1, []), (15, .aload_n 0, 1, []), (16, .getfield 30, 3, [12, 4, 198]), (19, .iload_n 1, 1, []), (20, .baload, 1, []), (21, .ifCond .ne 10, 3, [18]), (24, .aload_n 0, 1, []), (25, .bipush (-2), 2, []), (27, .invokevirtual 103, 3, []), (30, .ireturn, 1, []), (31, .iconst 0, 1, []), (32, .istore_n 2, 1, []), (33, .iload_n 2, 1, []), (34, .sipush 5822, 3, []), (37, .if_icmp .ge 27, 3, [37]), (40, .aload_n 0, 1, []), (41, .getfield 24, 3, [12, 2, 196]), (44, .iload_n 2, 1, []), (45, .aload_n 0, 1, []), (46, .getfield 27, 3, [12, 3, 197]), (49, .sipush 5822, 3, []), (52, .iload_n 1, 1, []), (53, .imul, 1, []), (54, .iload_n 2, 1, []), (55, .iadd, 1, []), (56, .iaload, 1, []), (57, .iastore, 1, []), (58, .iinc 2 1, 3, []), (61, .goto (-28), 3, [20]), (64, .aload_n 0, 1, []), (65, .iconst 0, 1, []), (66, .invokevirtual 106, 3, []), (69, .ireturn, 1, [])])
set_option maxRecDepth 20000 in
theorem ckX12_back_0 : ckR mX12_back 0 40 = true := by decide +kernel
set_option maxRecDepth 20000 in
theorem ckX12_back_1 : ckR mX12_back 40 40 = true := by decide +kernel
set_option maxRecDepth 20000 in
theorem okX12_back : okC mX12_back := ⟨by decide +kernel, memT6 221 rfl rfl, okM.of (n := 2) (Or.inr rfl) (by decide) (fun j hj => by match j, hj with | 0, _ => exact ckX12_back_0 | 1, _ => exact ckX12_back_1 | _ + 2, hj => exact absurd hj (by omega))⟩
set_option maxRecDepth 20000 in
def mX12_people : Mt := (yX12_people, cX12_people, 1, (some .int), [12, 140, 0, 0, 1561, 49], [(0, .aload_n 0, 1, []), (1, .getfield 24, 3, [12, 2, 196]), (4, .sipush 210, 3, []), (7, .iaload, 1, []), (8, .ireturn, 1, [])])
set_option maxRecDepth 20000 in
theorem ckX12_people_0 : ckR mX12_people 0 40 = true := by decide +kernel
set_option maxRecDepth 20000 in
theorem okX12_people : okC mX12_people := ⟨by decide +kernel, memT6 236 rfl rfl, okM.of (n := 1) (Or.inr rfl) (by decide) (fun j hj => by match j, hj with | 0, _ => exact ckX12_people_0 | _ + 1, hj => exact absurd hj (by omega))⟩
set_option maxRecDepth 20000 in
def mX12_isPerson : Mt := (yX12_isPerson, cX12_isPerson, 2, (some .boolean), [12, 140, 1, 0, 1576, 51], [(0, .iload_n 1, 1, []), (1, .iconst 0, 1, []), (2, .aload_n 0, 1, []), (3, .invokevirtual 109, 3, []), (6, .iconst 1, 1, []), (7, .isub, 1, []), (8, .invokestatic 99, 3, []), (11, .ireturn, 1, [])])
set_option maxRecDepth 20000 in
theorem ckX12_isPerson_0 : ckR mX12_isPerson 0 40 = true := by decide +kernel
set_option maxRecDepth 20000 in
theorem okX12_isPerson : okC mX12_isPerson := ⟨by decide +kernel, memT7 11 rfl rfl, okM.of (n := 1) (Or.inr rfl) (by decide) (fun j hj => by match j, hj with | 0, _ => exact ckX12_isPerson_0 | _ + 1, hj => exact absurd hj (by omega))⟩
set_option maxRecDepth 20000 in
def mX12_fact : Mt := (yX12_fact, cX12_fact, 3, (some .int), [12, 140, 2, 0, 1584, 52], [(0, .aload_n 0, 1, []), (1, .getfield 24, 3, [12, 2, 196]), (4, .bipush 70, 2, []), (6, .bipush 6, 2, []), (8, .iload_n 1, 1, []), (9, .imul, 1, []), (10, .iadd, 1, []), (11, .iload_n 2, 1, []), (12, .iadd, 1, []), (13, .iaload, 1, []), (14, .ireturn, 1, [])])
set_option maxRecDepth 20000 in
theorem ckX12_fact_0 : ckR mX12_fact 0 40 = true := by decide +kernel
set_option maxRecDepth 20000 in
theorem okX12_fact : okC mX12_fact := ⟨by decide +kernel, memT7 19 rfl rfl, okM.of (n := 1) (Or.inr rfl) (by decide) (fun j hj => by match j, hj with | 0, _ => exact ckX12_fact_0 | _ + 1, hj => exact absurd hj (by omega))⟩
set_option maxRecDepth 20000 in
def mX12_canBe : Mt := (yX12_canBe, cX12_canBe, 4, (some .boolean), [12, 140, 4, 1, 1557], [(0, .iload_n 0, 1, []), (1, .iconst 0, 1, []), (2, .iconst 1, 1, []), (3, .invokestatic 99, 3, []), (6, .ifCond .eq 37, 3, [22]), (9, .iload_n 1, 1, []), (10, .iconst 0, 1, []), (11, .sipush 999, 3, []), (14, .invokestatic 99, 3, []), (17, .ifCond .eq 26, 3, [22]), (20, .iload_n 2, 1, []), (21, .iconst 0, 1, []), (22, .bipush 120, 2, []), (24, .invokestatic 99, 3, []), (27, .ifCond .eq 16, 3, [22]), (30, .iload_n 3, 1, []), (31, .iconst 0, 1, []), (32, .iconst 5, 1, []), (33, .invokestatic 99, 3, []), (36, .ifCond .eq 7, 3, [22]), (39, .iconst 1, 1, []), (40, .goto 4, 3, [23]), (43, .iconst 0, 1, []), (44, .ireturn, 1, [])])
set_option maxRecDepth 20000 in
theorem ckX12_canBe_0 : ckR mX12_canBe 0 40 = true := by decide +kernel
set_option maxRecDepth 20000 in
theorem okX12_canBe : okC mX12_canBe := ⟨by decide +kernel, memT6 232 rfl rfl, okM.of (n := 1) (Or.inr rfl) (by decide) (fun j hj => by match j, hj with | 0, _ => exact ckX12_canBe_0 | _ + 1, hj => exact absurd hj (by omega))⟩
set_option maxRecDepth 20000 in
def mX12_adds : Mt := (yX12_adds, cX12_adds, 7, none, [12, 140, 4, 0, 1565, 50], [(0, .aload_n 0, 1, []), (1, .invokevirtual 109, 3, []), (4, .istore 5, 2, []), (6, .bipush 70, 2, []), (8, .bipush 6, 2, []), (10, .iload 5, 2, []), (12, .imul, 1, []), (13, .iadd, 1, []), (14, .istore 6, 2, []), (16, .aload_n 0, 1, []), (17, .getfield 24, 3, [12, 2, 196]), (20, .iload 6, 2, []), (22, .iconst 0, 1, []), (23, .iadd, 1, []), (24, .iload_n 1, 1, []), (25, .iastore, 1, []), (26, .aload_n 0, 1, []), (27, .getfield 24, 3, [12, 2, 196]), (30, .iload 6, 2, []), (32, .iconst 1, 1, []), (33, .iadd, 1, []), (34, .iload_n 2, 1, []), (35, .iastore, 1, []), (36, .aload_n 0, 1, []), (37, .getfield 24, 3, [12, 2, 196]), (40, .iload 6, 2, []), (42, .iconst 2, 1, []), (43, .iadd, 1, []), (44, .iload_n 3, 1, []), (45, .iastore, 1, []), (46, .aload_n 0, 1, []), (47, .getfield 24, 3, [12, 2, 196]), (50, .iload 6, 2, []), (52, .iconst 3, 1, []), (53, .iadd, 1, []), (54, .iconst 0, 1, []), (55, .iastore, 1, []), (56, .aload_n 0, 1, []), (57, .getfield 24, 3, [12, 2, 196]), (60, .iload 6, 2, []), (62, .iconst 4, 1, []), (63, .iadd, 1, []), (64, .iconst 0, 1, []), (65, .iastore, 1, []), (66, .aload_n 0, 1, []), (67, .getfield 24, 3, [12, 2, 196]), (70, .iload 6, 2, []), (72, .iconst 5, 1, []), (73, .iadd, 1, []), (74, .iload 4, 2, []), (76, .iastore, 1, []), (77, .aload_n 0, 1, []), (78, .getfield 24, 3, [12, 2, 196]), (81, .iconst 0, 1, []), (82, .iload 5, 2, []), (84, .iadd, 1, []), (85, .iconst (-1), 1, []), (86, .iastore, 1, []), (87, .aload_n 0, 1, []), (88, .getfield 24, 3, [12, 2, 196]), (91, .bipush 16, 2, []), (93, .iload 5, 2, []), (95, .iadd, 1, []), (96, .iconst (-1), 1, []), (97, .iastore, 1, []), (98, .aload_n 0, 1, []), (99, .getfield 24, 3, [12, 2, 196]), (102, .bipush 32, 2, []), (104, .iload 5, 2, []), (106, .iadd, 1, []), (107, .iconst 0, 1, []), (108, .iastore, 1, []), (109, .aload_n 0, 1, []), (110, .getfield 24, 3, [12, 2, 196]), (113, .bipush 48, 2, []), (115, .iload 5, 2, []), (117, .iadd, 1, []), (118, .iconst 0, 1, []), (119, .iastore, 1, []), (120, .aload_n 0, 1, []), (121, .getfield 24, 3, [12, 2, 196]), (124, .sipush 210, 3, []), (127, .dup2, 1, []), (128, .iaload, 1, []), (129, .iconst 1, 1, []), (130, .iadd, 1, []), (131, .iastore, 1, []), (132, .return_, 1, [])])
set_option maxRecDepth 20000 in
theorem ckX12_adds_0 : ckR mX12_adds 0 40 = true := by decide +kernel
set_option maxRecDepth 20000 in
theorem ckX12_adds_1 : ckR mX12_adds 40 40 = true := by decide +kernel
set_option maxRecDepth 20000 in
theorem ckX12_adds_2 : ckR mX12_adds 80 40 = true := by decide +kernel
set_option maxRecDepth 20000 in
theorem okX12_adds : okC mX12_adds := ⟨by decide +kernel, memT7 0 rfl rfl, okM.of (n := 3) (Or.inr rfl) (by decide) (fun j hj => by match j, hj with | 0, _ => exact ckX12_adds_0 | 1, _ => exact ckX12_adds_1 | 2, _ => exact ckX12_adds_2 | _ + 3, hj => exact absurd hj (by omega))⟩
set_option maxRecDepth 20000 in
def mX12_person : Mt := (yX12_person, cX12_person, 5, (some .int), [12, 140, 4, 0, 1553, 1554], [(0, .iload_n 1, 1, []), (1, .iload_n 2, 1, []), (2, .iload_n 3, 1, []), (3, .iload 4, 2, []), (5, .invokestatic 113, 3, []), (8, .ifCond .ne 9, 3, [10]), (11, .aload_n 0, 1, []), (12, .iconst (-1), 1, []), (13, .invokevirtual 103, 3, []), (16, .ireturn, 1, []), (17, .aload_n 0, 1, []), (18, .invokevirtual 109, 3, []), (21, .bipush 16, 2, []), (23, .if_icmp .ne 10, 3, [18]), (26, .aload_n 0, 1, []), (27, .bipush (-5), 2, []), (29, .invokevirtual 103, 3, []), (32, .ireturn, 1, []), (33, .aload_n 0, 1, []), (34, .iload_n 1, 1, []), (35, .iload_n 2, 1, []), (36, .iload_n 3, 1, []), (37, .iload 4, 2, []), (39, .invokevirtual 117, 3, []), (42, .aload_n 0, 1, []), (43, .aload_n 0, 1, []), (44, .invokevirtual 109, 3, []), (47, .iconst 1, 1, []), (48, .isub, 1, []), (49, .invokevirtual 106, 3, []), (52, .ireturn, 1, [])])
set_option maxRecDepth 20000 in
theorem ckX12_person_0 : ckR mX12_person 0 40 = true := by decide +kernel
set_option maxRecDepth 20000 in
theorem okX12_person : okC mX12_person := ⟨by decide +kernel, memT6 229 rfl rfl, okM.of (n := 1) (Or.inr rfl) (by decide) (fun j hj => by match j, hj with | 0, _ => exact ckX12_person_0 | _ + 1, hj => exact absurd hj (by omega))⟩
set_option maxRecDepth 20000 in
def mX12_isPut : Mt := (yX12_isPut, cX12_isPut, 2, (some .boolean), [12, 140, 2, 1, 1572], [(0, .iload_n 0, 1, []), (1, .ifCond .ne 12, 3, [7]), (4, .iload_n 1, 1, []), (5, .iconst 0, 1, []), (6, .iconst 1, 1, []), (7, .invokestatic 99, 3, []), (10, .goto 39, 3, [26]), (13, .iload_n 0, 1, []), (14, .iconst 1, 1, []), (15, .if_icmp .ne 13, 3, [15]), (18, .iload_n 1, 1, []), (19, .iconst 0, 1, []), (20, .bipush 99, 2, []), (22, .invokestatic 99, 3, []), (25, .goto 24, 3, [26]), (28, .iload_n 0, 1, []), (29, .iconst 2, 1, []), (30, .if_icmp .ne 18, 3, [25]), (33, .iload_n 1, 1, []), (34, .iconst 0, 1, []), (35, .sipush 9999, 3, []), (38, .invokestatic 99, 3, []), (41, .ifCond .eq 7, 3, [25]), (44, .iconst 1, 1, []), (45, .goto 4, 3, [26]), (48, .iconst 0, 1, []), (49, .ireturn, 1, [])])
set_option maxRecDepth 20000 in
theorem ckX12_isPut_0 : ckR mX12_isPut 0 40 = true := by decide +kernel
set_option maxRecDepth 20000 in
theorem okX12_isPut : okC mX12_isPut := ⟨by decide +kernel, memT7 7 rfl rfl, okM.of (n := 1) (Or.inr rfl) (by decide) (fun j hj => by match j, hj with | 0, _ => exact ckX12_isPut_0 | _ + 1, hj => exact absurd hj (by omega))⟩
set_option maxRecDepth 20000 in
def mX12_put : Mt := (yX12_put, cX12_put, 6, (some .int), [12, 140, 3, 0, 1568, 1569], [(0, .iload_n 2, 1, []), (1, .iload_n 3, 1, []), (2, .invokestatic 121, 3, []), (5, .ifCond .ne 9, 3, [8]), (8, .aload_n 0, 1, []), (9, .iconst (-1), 1, []), (10, .invokevirtual 103, 3, []), (13, .ireturn, 1, []), (14, .aload_n 0, 1, []), (15, .iload_n 1, 1, []), (16, .invokevirtual 125, 3, []), (19, .ifCond .ne 10, 3, [16]), (22, .aload_n 0, 1, []), (23, .bipush (-2), 2, []), (25, .invokevirtual 103, 3, []), (28, .ireturn, 1, []), (29, .iload_n 2, 1, []), (30, .iconst 2, 1, []), (31, .if_icmp .ne 10, 3, [23]), (34, .bipush 48, 2, []), (36, .iload_n 1, 1, []), (37, .iadd, 1, []), (38, .goto 14, 3, [32]), (41, .bipush 70, 2, []), (43, .bipush 6, 2, []), (45, .iload_n 1, 1, []), (46, .imul, 1, []), (47, .iadd, 1, []), (48, .iconst 3, 1, []), (49, .iadd, 1, []), (50, .iload_n 2, 1, []), (51, .iadd, 1, []), (52, .istore 4, 2, []), (54, .aload_n 0, 1, []), (55, .getfield 24, 3, [12, 2, 196]), (58, .iload 4, 2, []), (60, .iaload, 1, []), (61, .istore 5, 2, []), (63, .aload_n 0, 1, []), (64, .getfield 24, 3, [12, 2, 196]), (67, .iload 4, 2, []), (69, .iload_n 3, 1, []), (70, .iastore, 1, []), (71, .aload_n 0, 1, []), (72, .iload 5, 2, []), (74, .invokevirtual 106, 3, []), (77, .ireturn, 1, [])])
set_option maxRecDepth 20000 in
theorem ckX12_put_0 : ckR mX12_put 0 40 = true := by decide +kernel
set_option maxRecDepth 20000 in
theorem ckX12_put_1 : ckR mX12_put 40 40 = true := by decide +kernel
set_option maxRecDepth 20000 in
theorem okX12_put : okC mX12_put := ⟨by decide +kernel, memT7 4 rfl rfl, okM.of (n := 2) (Or.inr rfl) (by decide) (fun j hj => by match j, hj with | 0, _ => exact ckX12_put_0 | 1, _ => exact ckX12_put_1 | _ + 2, hj => exact absurd hj (by omega))⟩
set_option maxRecDepth 20000 in
def mX12_of : Mt := (yX12_of, cX12_of, 3, (some .int), [12, 140, 2, 0, 1579, 1580], [(0, .aload_n 0, 1, []), (1, .iload_n 1, 1, []), (2, .invokevirtual 125, 3, []), (5, .ifCond .ne 5, 3, [6]), (8, .iconst (-1), 1, []), (9, .ireturn, 1, []), (10, .iload_n 2, 1, []), (11, .tableswitch 144 0 10 #[57, 64, 71, 81, 88, 95, 102, 109, 118, 128, 138], 57, []), (68, .aload_n 0, 1, []), (69, .iload_n 1, 1, []), (70, .iconst 3, 1, []), (71, .invokevirtual 129, 3, []), (74, .ireturn, 1, []), (75, .aload_n 0, 1, []), (76, .iload_n 1, 1, []), (77, .iconst 4, 1, []), (78, .invokevirtual 129, 3, []), (81, .ireturn, 1, []), (82, .aload_n 0, 1, []), (83, .getfield 24, 3, [12, 2, 196]), (86, .bipush 48, 2, []), (88, .iload_n 1, 1, []), (89, .iadd, 1, []), (90, .iaload, 1, []), (91, .ireturn, 1, []), (92, .aload_n 0, 1, []), (93, .iload_n 1, 1, []), (94, .iconst 0, 1, []), (95, .invokevirtual 129, 3, []), (98, .ireturn, 1, []), (99, .aload_n 0, 1, []), (100, .iload_n 1, 1, []), (101, .iconst 1, 1, []), (102, .invokevirtual 129, 3, []), (105, .ireturn, 1, []), (106, .aload_n 0, 1, []), (107, .iload_n 1, 1, []), (108, .iconst 2, 1, []), (109, .invokevirtual 129, 3, []), (112, .ireturn, 1, []), (113, .aload_n 0, 1, []), (114, .iload_n 1, 1, []), (115, .iconst 5, 1, []), (116, .invokevirtual 129, 3, []), (119, .ireturn, 1, []), (120, .aload_n 0, 1, []), (121, .getfield 24, 3, [12, 2, 196]), (124, .iconst 0, 1, []), (125, .iload_n 1, 1, []), (126, .iadd, 1, []), (127, .iaload, 1, []), (128, .ireturn, 1, []), (129, .aload_n 0, 1, []), (130, .getfield 24, 3, [12, 2, 196]), (133, .bipush 16, 2, []), (135, .iload_n 1, 1, []), (136, .iadd, 1, []), (137, .iaload, 1, []), (138, .ireturn, 1, []), (139, .aload_n 0, 1, []), (140, .getfield 24, 3, [12, 2, 196]), (143, .bipush 32, 2, []), (145, .iload_n 1, 1, []), (146, .iadd, 1, []), (147, .iaload, 1, []), (148, .ireturn, 1, []), (149, .aload_n 0, 1, []), (150, .iload_n 1, 1, []), (151, .invokevirtual 133, 3, []), (154, .ireturn, 1, []), (155, .iconst (-1), 1, []), (156, .ireturn, 1, [])])
set_option maxRecDepth 20000 in
theorem ckX12_of_0 : ckR mX12_of 0 40 = true := by decide +kernel
set_option maxRecDepth 20000 in
theorem ckX12_of_1 : ckR mX12_of 40 40 = true := by decide +kernel
set_option maxRecDepth 20000 in
theorem okX12_of : okC mX12_of := ⟨by decide +kernel, memT7 15 rfl rfl, okM.of (n := 2) (Or.inr rfl) (by decide) (fun j hj => by match j, hj with | 0, _ => exact ckX12_of_0 | 1, _ => exact ckX12_of_1 | _ + 2, hj => exact absurd hj (by omega))⟩
set_option maxRecDepth 20000 in
def mX12_isTerm : Mt := (yX12_isTerm, cX12_isTerm, 2, (some .boolean), [12, 140, 2, 1, 1658], [(0, .iload_n 0, 1, []), (1, .tableswitch 57 0 3 #[31, 40, 48, 40], 31, []), (32, .iload_n 1, 1, []), (33, .iconst 0, 1, []), (34, .sipush 999, 3, []), (37, .invokestatic 99, 3, []), (40, .ireturn, 1, []), (41, .iload_n 1, 1, []), (42, .iconst 0, 1, []), (43, .bipush 9, 2, []), (45, .invokestatic 99, 3, []), (48, .ireturn, 1, []), (49, .iload_n 1, 1, []), (50, .bipush 12, 2, []), (52, .bipush 40, 2, []), (54, .invokestatic 99, 3, []), (57, .ireturn, 1, []), (58, .iconst 0, 1, []), (59, .ireturn, 1, [])])
set_option maxRecDepth 20000 in
theorem ckX12_isTerm_0 : ckR mX12_isTerm 0 40 = true := by decide +kernel
set_option maxRecDepth 20000 in
theorem okX12_isTerm : okC mX12_isTerm := ⟨by decide +kernel, memT7 93 rfl rfl, okM.of (n := 1) (Or.inr rfl) (by decide) (fun j hj => by match j, hj with | 0, _ => exact ckX12_isTerm_0 | _ + 1, hj => exact absurd hj (by omega))⟩
set_option maxRecDepth 20000 in
def mX12_terms : Mt := (yX12_terms, cX12_terms, 4, (some .int), [12, 140, 2, 0, 1654, 1655], [(0, .iload_n 1, 1, []), (1, .iload_n 2, 1, []), (2, .invokestatic 136, 3, []), (5, .ifCond .ne 9, 3, [8]), (8, .aload_n 0, 1, []), (9, .iconst (-1), 1, []), (10, .invokevirtual 103, 3, []), (13, .ireturn, 1, []), (14, .aload_n 0, 1, []), (15, .getfield 24, 3, [12, 2, 196]), (18, .sipush 206, 3, []), (21, .iload_n 1, 1, []), (22, .iadd, 1, []), (23, .iaload, 1, []), (24, .istore_n 3, 1, []), (25, .aload_n 0, 1, []), (26, .getfield 24, 3, [12, 2, 196]), (29, .sipush 206, 3, []), (32, .iload_n 1, 1, []), (33, .iadd, 1, []), (34, .iload_n 2, 1, []), (35, .iastore, 1, []), (36, .aload_n 0, 1, []), (37, .iload_n 3, 1, []), (38, .invokevirtual 14, 3, []), (41, .ireturn, 1, [])])
set_option maxRecDepth 20000 in
theorem ckX12_terms_0 : ckR mX12_terms 0 40 = true := by decide +kernel
set_option maxRecDepth 20000 in
theorem okX12_terms : okC mX12_terms := ⟨by decide +kernel, memT7 90 rfl rfl, okM.of (n := 1) (Or.inr rfl) (by decide) (fun j hj => by match j, hj with | 0, _ => exact ckX12_terms_0 | _ + 1, hj => exact absurd hj (by omega))⟩
set_option maxRecDepth 20000 in
def mX12_chest : Mt := (yX12_chest, cX12_chest, 2, (some .int), [12, 140, 1, 0, 1661, 1662], [(0, .iload_n 1, 1, []), (1, .iconst 0, 1, []), (2, .iconst 5, 1, []), (3, .invokestatic 99, 3, []), (6, .ifCond .eq 15, 3, [12]), (9, .aload_n 0, 1, []), (10, .getfield 24, 3, [12, 2, 196]), (13, .bipush 64, 2, []), (15, .iload_n 1, 1, []), (16, .iadd, 1, []), (17, .iaload, 1, []), (18, .goto 4, 3, [13]), (21, .iconst (-1), 1, []), (22, .ireturn, 1, [])])
set_option maxRecDepth 20000 in
theorem ckX12_chest_0 : ckR mX12_chest 0 40 = true := by decide +kernel
set_option maxRecDepth 20000 in
theorem okX12_chest : okC mX12_chest := ⟨by decide +kernel, memT7 97 rfl rfl, okM.of (n := 1) (Or.inr rfl) (by decide) (fun j hj => by match j, hj with | 0, _ => exact ckX12_chest_0 | _ + 1, hj => exact absurd hj (by omega))⟩
end
section
set_option maxRecDepth 20000 in
def mX12_row : Mt := (yX12_row, cX12_row, 6, (some .int), [12, 140, 0, 0, 1665, 1666], [(0, .aload_n 0, 1, []), (1, .getfield 139, 3, [12, 13, 207]), (4, .istore_n 1, 1, []), (5, .aload_n 0, 1, []), (6, .iconst 0, 1, []), (7, .putfield 139, 3, [12, 13, 207]), (10, .iload_n 1, 1, []), (11, .ifCond .ne 10, 3, [12]), (14, .aload_n 0, 1, []), (15, .bipush (-6), 2, []), (17, .invokevirtual 103, 3, []), (20, .ireturn, 1, []), (21, .iconst 0, 1, []), (22, .istore_n 2, 1, []), (23, .aload_n 0, 1, []), (24, .iload_n 1, 1, []), (25, .iconst 5, 1, []), (26, .irem, 1, []), (27, .ifCond .ne 7, 3, [21]), (30, .iconst 0, 1, []), (31, .goto 4, 3, [22]), (34, .iconst 1, 1, []), (35, .putfield 142, 3, [12, 6, 200]), (38, .iconst 0, 1, []), (39, .istore_n 3, 1, []), (40, .iload_n 3, 1, []), (41, .iconst 5, 1, []), (42, .iadd, 1, []), (43, .iload_n 1, 1, []), (44, .if_icmp .gt 151, 3, [118]), (47, .aload_n 0, 1, []), (48, .getfield 41, 3, [12, 11, 205]), (51, .iload_n 3, 1, []), (52, .iconst 1, 1, []), (53, .iadd, 1, []), (54, .baload, 1, []), (55, .sipush 255, 3, []), (58, .iand, 1, []), (59, .sipush 256, 3, []), (62, .imul, 1, []), (63, .aload_n 0, 1, []), (64, .getfield 41, 3, [12, 11, 205]), (67, .iload_n 3, 1, []), (68, .iconst 2, 1, []), (69, .iadd, 1, []), (70, .baload, 1, []), (71, .sipush 255, 3, []), (74, .iand, 1, []), (75, .iadd, 1, []), (76, .istore 4, 2, []), (78, .aload_n 0, 1, []), (79, .getfield 41, 3, [12, 11, 205]), (82, .iload_n 3, 1, []), (83, .baload, 1, []), (84, .iload 4, 2, []), (86, .aload_n 0, 1, []), (87, .getfield 41, 3, [12, 11, 205]), (90, .iload_n 3, 1, []), (91, .iconst 3, 1, []), (92, .iadd, 1, []), (93, .baload, 1, []), (94, .aload_n 0, 1, []), (95, .getfield 41, 3, [12, 11, 205]), (98, .iload_n 3, 1, []), (99, .iconst 4, 1, []), (100, .iadd, 1, []), (101, .baload, 1, []), (102, .invokestatic 113, 3, []), (105, .ifCond .eq 16, 3, [75]), (108, .aload_n 0, 1, []), (109, .invokevirtual 109, 3, []), (112, .bipush 16, 2, []), (114, .if_icmp .ge 7, 3, [75]), (117, .iconst 1, 1, []), (118, .goto 4, 3, [76]), (121, .iconst 0, 1, []), (122, .istore 5, 2, []), (124, .iload 5, 2, []), (126, .ifCond .eq 31, 3, [98]), (129, .aload_n 0, 1, []), (130, .aload_n 0, 1, []), (131, .getfield 41, 3, [12, 11, 205]), (134, .iload_n 3, 1, []), (135, .baload, 1, []), (136, .iload 4, 2, []), (138, .aload_n 0, 1, []), (139, .getfield 41, 3, [12, 11, 205]), (142, .iload_n 3, 1, []), (143, .iconst 3, 1, []), (144, .iadd, 1, []), (145, .baload, 1, []), (146, .aload_n 0, 1, []), (147, .getfield 41, 3, [12, 11, 205]), (150, .iload_n 3, 1, []), (151, .iconst 4, 1, []), (152, .iadd, 1, []), (153, .baload, 1, []), (154, .invokevirtual 117, 3, []), (157, .iload_n 2, 1, []), (158, .iload 5, 2, []), (160, .ifCond .eq 7, 3, [103]), (163, .iconst 1, 1, []), (164, .goto 4, 3, [104]), (167, .iconst 0, 1, []), (168, .iadd, 1, []), (169, .istore_n 2, 1, []), (170, .aload_n 0, 1, []), (171, .dup, 1, []), (172, .getfield 142, 3, [12, 6, 200]), (175, .iload 5, 2, []), (177, .ifCond .eq 7, 3, [113]), (180, .iconst 0, 1, []), (181, .goto 4, 3, [114]), (184, .iconst 1, 1, []), (185, .iadd, 1, []), (186, .putfield 142, 3, [12, 6, 200]), (189, .iinc 3 5, 3, []), (192, .goto (-152), 3, [25]), (195, .aload_n 0, 1, []), (196, .iload_n 2, 1, []), (197, .invokevirtual 106, 3, []), (200, .ireturn, 1, [])])
set_option maxRecDepth 20000 in
theorem ckX12_row_0 : ckR mX12_row 0 40 = true := by decide +kernel
set_option maxRecDepth 20000 in
theorem ckX12_row_1 : ckR mX12_row 40 40 = true := by decide +kernel
set_option maxRecDepth 20000 in
theorem ckX12_row_2 : ckR mX12_row 80 40 = true := by decide +kernel
set_option maxRecDepth 20000 in
theorem ckX12_row_3 : ckR mX12_row 120 40 = true := by decide +kernel
set_option maxRecDepth 20000 in
theorem okX12_row : okC mX12_row := ⟨by decide +kernel, memT7 101 rfl rfl, okM.of (n := 4) (Or.inr rfl) (by decide) (fun j hj => by match j, hj with | 0, _ => exact ckX12_row_0 | 1, _ => exact ckX12_row_1 | 2, _ => exact ckX12_row_2 | 3, _ => exact ckX12_row_3 | _ + 4, hj => exact absurd hj (by omega))⟩
set_option maxRecDepth 20000 in
def mX12_mould : Mt := (yX12_mould, cX12_mould, 1, (some .int), [12, 140, 0, 0, 1669, 1670], [(0, .aload_n 0, 1, []), (1, .getfield 142, 3, [12, 6, 200]), (4, .ireturn, 1, [])])
set_option maxRecDepth 20000 in
theorem ckX12_mould_0 : ckR mX12_mould 0 40 = true := by decide +kernel
set_option maxRecDepth 20000 in
theorem okX12_mould : okC mX12_mould := ⟨by decide +kernel, memT7 105 rfl rfl, okM.of (n := 1) (Or.inr rfl) (by decide) (fun j hj => by match j, hj with | 0, _ => exact ckX12_mould_0 | _ + 1, hj => exact absurd hj (by omega))⟩
set_option maxRecDepth 20000 in
def mX12_feed : Mt := (yX12_feed, cX12_feed, 7, (some .int), [12, 140, 5, 0, 1673, 1674], [(0, .aload_n 0, 1, []), (1, .getfield 139, 3, [12, 13, 207]), (4, .bipush 20, 2, []), (6, .iadd, 1, []), (7, .sipush 400, 3, []), (10, .if_icmp .le 5, 3, [8]), (13, .iconst (-1), 1, []), (14, .ireturn, 1, []), (15, .aload_n 0, 1, []), (16, .getfield 44, 3, [12, 12, 206]), (19, .iconst 0, 1, []), (20, .iload_n 1, 1, []), (21, .iastore, 1, []), (22, .aload_n 0, 1, []), (23, .getfield 44, 3, [12, 12, 206]), (26, .iconst 1, 1, []), (27, .iload_n 2, 1, []), (28, .iastore, 1, []), (29, .aload_n 0, 1, []), (30, .getfield 44, 3, [12, 12, 206]), (33, .iconst 2, 1, []), (34, .iload_n 3, 1, []), (35, .iastore, 1, []), (36, .aload_n 0, 1, []), (37, .getfield 44, 3, [12, 12, 206]), (40, .iconst 3, 1, []), (41, .iload 4, 2, []), (43, .iastore, 1, []), (44, .aload_n 0, 1, []), (45, .getfield 44, 3, [12, 12, 206]), (48, .iconst 4, 1, []), (49, .iload 5, 2, []), (51, .iastore, 1, []), (52, .iconst 0, 1, []), (53, .istore 6, 2, []), (55, .iload 6, 2, []), (57, .bipush 20, 2, []), (59, .if_icmp .ge 42, 3, [62]), (62, .aload_n 0, 1, []), (63, .getfield 41, 3, [12, 11, 205]), (66, .aload_n 0, 1, []), (67, .getfield 139, 3, [12, 13, 207]), (70, .iload 6, 2, []), (72, .iadd, 1, []), (73, .aload_n 0, 1, []), (74, .getfield 44, 3, [12, 12, 206]), (77, .iload 6, 2, []), (79, .iconst 4, 1, []), (80, .idiv, 1, []), (81, .iaload, 1, []), (82, .bipush 24, 2, []), (84, .bipush 8, 2, []), (86, .iload 6, 2, []), (88, .iconst 4, 1, []), (89, .irem, 1, []), (90, .imul, 1, []), (91, .isub, 1, []), (92, .ishr, 1, []), (93, .i2b, 1, []), (94, .bastore, 1, []), (95, .iinc 6 1, 3, []), (98, .goto (-43), 3, [35]), (101, .aload_n 0, 1, []), (102, .dup, 1, []), (103, .getfield 139, 3, [12, 13, 207]), (106, .bipush 20, 2, []), (108, .iadd, 1, []), (109, .putfield 139, 3, [12, 13, 207]), (112, .aload_n 0, 1, []), (113, .getfield 139, 3, [12, 13, 207]), (116, .ireturn, 1, [])])
set_option maxRecDepth 20000 in
theorem ckX12_feed_0 : ckR mX12_feed 0 40 = true := by decide +kernel
set_option maxRecDepth 20000 in
theorem ckX12_feed_1 : ckR mX12_feed 40 40 = true := by decide +kernel
set_option maxRecDepth 20000 in
theorem okX12_feed : okC mX12_feed := ⟨by decide +kernel, memT7 109 rfl rfl, okM.of (n := 2) (Or.inr rfl) (by decide) (fun j hj => by match j, hj with | 0, _ => exact ckX12_feed_0 | 1, _ => exact ckX12_feed_1 | _ + 2, hj => exact absurd hj (by omega))⟩
set_option maxRecDepth 20000 in
def mX12_end : Mt := (yX12_end, cX12_end, 2, (some .int), [12, 140, 1, 0, 1677, 1678], [(0, .iload_n 1, 1, []), (1, .iconst 0, 1, []), (2, .aload_n 0, 1, []), (3, .getfield 139, 3, [12, 13, 207]), (6, .invokestatic 99, 3, []), (9, .ifCond .ne 5, 3, [8]), (12, .iconst (-1), 1, []), (13, .ireturn, 1, []), (14, .aload_n 0, 1, []), (15, .iload_n 1, 1, []), (16, .putfield 139, 3, [12, 13, 207]), (19, .iload_n 1, 1, []), (20, .ireturn, 1, [])])
set_option maxRecDepth 20000 in
theorem ckX12_end_0 : ckR mX12_end 0 40 = true := by decide +kernel
set_option maxRecDepth 20000 in
theorem okX12_end : okC mX12_end := ⟨by decide +kernel, memT7 113 rfl rfl, okM.of (n := 1) (Or.inr rfl) (by decide) (fun j hj => by match j, hj with | 0, _ => exact ckX12_end_0 | _ + 1, hj => exact absurd hj (by omega))⟩
set_option maxRecDepth 20000 in
def mX12_isSmall : Mt := (yX12_isSmall, cX12_isSmall, 1, (some .boolean), [12, 140, 1, 1, 1697], [(0, .iload_n 0, 1, []), (1, .bipush 97, 2, []), (3, .if_icmp .lt 13, 3, [8]), (6, .iload_n 0, 1, []), (7, .bipush 122, 2, []), (9, .if_icmp .gt 7, 3, [8]), (12, .iconst 1, 1, []), (13, .goto 4, 3, [9]), (16, .iconst 0, 1, []), (17, .ireturn, 1, [])])
set_option maxRecDepth 20000 in
theorem ckX12_isSmall_0 : ckR mX12_isSmall 0 40 = true := by decide +kernel
set_option maxRecDepth 20000 in
theorem okX12_isSmall : okC mX12_isSmall := ⟨by decide +kernel, memT7 132 rfl rfl, okM.of (n := 1) (Or.inr rfl) (by decide) (fun j hj => by match j, hj with | 0, _ => exact ckX12_isSmall_0 | _ + 1, hj => exact absurd hj (by omega))⟩
set_option maxRecDepth 20000 in
def mX12_isDigit : Mt := (yX12_isDigit, cX12_isDigit, 1, (some .boolean), [12, 140, 1, 1, 1700], [(0, .iload_n 0, 1, []), (1, .bipush 48, 2, []), (3, .if_icmp .lt 13, 3, [8]), (6, .iload_n 0, 1, []), (7, .bipush 57, 2, []), (9, .if_icmp .gt 7, 3, [8]), (12, .iconst 1, 1, []), (13, .goto 4, 3, [9]), (16, .iconst 0, 1, []), (17, .ireturn, 1, [])])
set_option maxRecDepth 20000 in
theorem ckX12_isDigit_0 : ckR mX12_isDigit 0 40 = true := by decide +kernel
set_option maxRecDepth 20000 in
theorem okX12_isDigit : okC mX12_isDigit := ⟨by decide +kernel, memT7 135 rfl rfl, okM.of (n := 1) (Or.inr rfl) (by decide) (fun j hj => by match j, hj with | 0, _ => exact ckX12_isDigit_0 | _ + 1, hj => exact absurd hj (by omega))⟩
set_option maxRecDepth 20000 in
def mX12_wordOf : Mt := (yX12_wordOf, cX12_wordOf, 8, (some .int), [12, 140, 2, 0, 1704, 71], [(0, .iconst 1, 1, []), (1, .istore_n 3, 1, []), (2, .iconst 0, 1, []), (3, .istore 4, 2, []), (5, .iload 4, 2, []), (7, .aload_n 0, 1, []), (8, .getfield 37, 3, [12, 7, 201]), (11, .arraylength, 1, []), (12, .if_icmp .ge 114, 3, [68]), (15, .iconst 0, 1, []), (16, .istore 5, 2, []), (18, .aload_n 0, 1, []), (19, .getfield 37, 3, [12, 7, 201]), (22, .iload 4, 2, []), (24, .iload 5, 2, []), (26, .iadd, 1, []), (27, .baload, 1, []), (28, .bipush 32, 2, []), (30, .if_icmp .eq 9, 3, [21]), (33, .iinc 5 1, 3, []), (36, .goto (-18), 3, [11]), (39, .iload 5, 2, []), (41, .iload_n 2, 1, []), (42, .iload_n 1, 1, []), (43, .isub, 1, []), (44, .if_icmp .ne 7, 3, [28]), (47, .iconst 1, 1, []), (48, .goto 4, 3, [29]), (51, .iconst 0, 1, []), (52, .istore 6, 2, []), (54, .iconst 0, 1, []), (55, .istore 7, 2, []), (57, .iload 7, 2, []), (59, .iload 5, 2, []), (61, .if_icmp .ge 43, 3, [56]), (64, .iload 6, 2, []), (66, .ifCond .eq 38, 3, [56]), (69, .aload_n 0, 1, []), (70, .getfield 37, 3, [12, 7, 201]), (73, .iload 4, 2, []), (75, .iload 7, 2, []), (77, .iadd, 1, []), (78, .baload, 1, []), (79, .aload_n 0, 1, []), (80, .getfield 41, 3, [12, 11, 205]), (83, .iload_n 1, 1, []), (84, .iload 7, 2, []), (86, .iadd, 1, []), (87, .baload, 1, []), (88, .if_icmp .ne 7, 3, [52]), (91, .iconst 1, 1, []), (92, .goto 4, 3, [53]), (95, .iconst 0, 1, []), (96, .istore 6, 2, []), (98, .iinc 7 1, 3, []), (101, .goto (-44), 3, [32]), (104, .iload 6, 2, []), (106, .ifCond .eq 5, 3, [60]), (109, .iload_n 3, 1, []), (110, .ireturn, 1, []), (111, .iload 4, 2, []), (113, .iload 5, 2, []), (115, .iconst 1, 1, []), (116, .iadd, 1, []), (117, .iadd, 1, []), (118, .istore 4, 2, []), (120, .iinc 3 1, 3, []), (123, .goto (-118), 3, [4]), (126, .iconst 0, 1, []), (127, .ireturn, 1, [])])
set_option maxRecDepth 20000 in
theorem ckX12_wordOf_0 : ckR mX12_wordOf 0 40 = true := by decide +kernel
set_option maxRecDepth 20000 in
theorem ckX12_wordOf_1 : ckR mX12_wordOf 40 40 = true := by decide +kernel
set_option maxRecDepth 20000 in
theorem okX12_wordOf : okC mX12_wordOf := ⟨by decide +kernel, memT7 139 rfl rfl, okM.of (n := 2) (Or.inr rfl) (by decide) (fun j hj => by match j, hj with | 0, _ => exact ckX12_wordOf_0 | 1, _ => exact ckX12_wordOf_1 | _ + 2, hj => exact absurd hj (by omega))⟩
set_option maxRecDepth 20000 in
def mX12_splits : Mt := (yX12_splits, cX12_splits, 6, none, [12, 140, 1, 0, 1694, 70], [(0, .aload_n 0, 1, []), (1, .iconst 0, 1, []), (2, .putfield 145, 3, [12, 18, 212]), (5, .iconst 0, 1, []), (6, .istore_n 2, 1, []), (7, .iload_n 2, 1, []), (8, .iload_n 1, 1, []), (9, .if_icmp .ge 254, 3, [136]), (12, .aload_n 0, 1, []), (13, .getfield 41, 3, [12, 11, 205]), (16, .iload_n 2, 1, []), (17, .baload, 1, []), (18, .istore_n 3, 1, []), (19, .iload_n 3, 1, []), (20, .bipush 32, 2, []), (22, .if_icmp .ne 9, 3, [18]), (25, .iinc 2 1, 3, []), (28, .goto (-21), 3, [5]), (31, .iload_n 2, 1, []), (32, .iconst 1, 1, []), (33, .iadd, 1, []), (34, .istore 4, 2, []), (36, .iload_n 3, 1, []), (37, .invokestatic 148, 3, []), (40, .ifCond .eq 28, 3, [36]), (43, .iload 4, 2, []), (45, .iload_n 1, 1, []), (46, .if_icmp .ge 22, 3, [36]), (49, .aload_n 0, 1, []), (50, .getfield 41, 3, [12, 11, 205]), (53, .iload 4, 2, []), (55, .baload, 1, []), (56, .invokestatic 148, 3, []), (59, .ifCond .eq 9, 3, [36]), (62, .iinc 4 1, 3, []), (65, .goto (-22), 3, [25]), (68, .iload_n 3, 1, []), (69, .invokestatic 151, 3, []), (72, .ifCond .eq 28, 3, [50]), (75, .iload 4, 2, []), (77, .iload_n 1, 1, []), (78, .if_icmp .ge 22, 3, [50]), (81, .aload_n 0, 1, []), (82, .getfield 41, 3, [12, 11, 205]), (85, .iload 4, 2, []), (87, .baload, 1, []), (88, .invokestatic 151, 3, []), (91, .ifCond .eq 9, 3, [50]), (94, .iinc 4 1, 3, []), (97, .goto (-22), 3, [39]), (100, .aload_n 0, 1, []), (101, .getfield 56, 3, [12, 17, 211]), (104, .aload_n 0, 1, []), (105, .getfield 145, 3, [12, 18, 212]), (108, .iload_n 2, 1, []), (109, .iastore, 1, []), (110, .aload_n 0, 1, []), (111, .getfield 53, 3, [12, 16, 210]), (114, .aload_n 0, 1, []), (115, .getfield 145, 3, [12, 18, 212]), (118, .iconst 0, 1, []), (119, .iastore, 1, []), (120, .aload_n 0, 1, []), (121, .getfield 50, 3, [12, 15, 209]), (124, .aload_n 0, 1, []), (125, .getfield 145, 3, [12, 18, 212]), (128, .iload_n 3, 1, []), (129, .invokestatic 148, 3, []), (132, .ifCond .eq 13, 3, [74]), (135, .aload_n 0, 1, []), (136, .iload_n 2, 1, []), (137, .iload 4, 2, []), (139, .invokevirtual 154, 3, []), (142, .goto 23, 3, [84]), (145, .iload_n 3, 1, []), (146, .invokestatic 151, 3, []), (149, .ifCond .eq 8, 3, [79]), (152, .bipush 50, 2, []), (154, .goto 11, 3, [84]), (157, .bipush 100, 2, []), (159, .iload_n 3, 1, []), (160, .sipush 255, 3, []), (163, .iand, 1, []), (164, .iadd, 1, []), (165, .iastore, 1, []), (166, .iload_n 2, 1, []), (167, .istore 5, 2, []), (169, .iload 5, 2, []), (171, .iload 4, 2, []), (173, .if_icmp .ge 74, 3, [127]), (176, .iload_n 3, 1, []), (177, .invokestatic 151, 3, []), (180, .ifCond .eq 67, 3, [127]), (183, .aload_n 0, 1, []), (184, .getfield 53, 3, [12, 16, 210]), (187, .aload_n 0, 1, []), (188, .getfield 145, 3, [12, 18, 212]), (191, .aload_n 0, 1, []), (192, .getfield 53, 3, [12, 16, 210]), (195, .aload_n 0, 1, []), (196, .getfield 145, 3, [12, 18, 212]), (199, .iaload, 1, []), (200, .ldc 157, 2, []), (202, .if_icmp .le 15, 3, [110]), (205, .aload_n 0, 1, []), (206, .getfield 53, 3, [12, 16, 210]), (209, .aload_n 0, 1, []), (210, .getfield 145, 3, [12, 18, 212]), (213, .iaload, 1, []), (214, .goto 26, 3, [124]), (217, .bipush 10, 2, []), (219, .aload_n 0, 1, []), (220, .getfield 53, 3, [12, 16, 210]), (223, .aload_n 0, 1, []), (224, .getfield 145, 3, [12, 18, 212]), (227, .iaload, 1, []), (228, .imul, 1, []), (229, .aload_n 0, 1, []), (230, .getfield 41, 3, [12, 11, 205]), (233, .iload 5, 2, []), (235, .baload, 1, []), (236, .iadd, 1, []), (237, .bipush 48, 2, []), (239, .isub, 1, []), (240, .iastore, 1, []), (241, .iinc 5 1, 3, []), (244, .goto (-75), 3, [87]), (247, .aload_n 0, 1, []), (248, .dup, 1, []), (249, .getfield 145, 3, [12, 18, 212]), (252, .iconst 1, 1, []), (253, .iadd, 1, []), (254, .putfield 145, 3, [12, 18, 212]), (257, .iload 4, 2, []), (259, .istore_n 2, 1, []), (260, .goto (-253), 3, [5]), (263, .aload_n 0, 1, []), (264, .getfield 56, 3, [12, 17, 211]), (267, .aload_n 0, 1, []), (268, .getfield 145, 3, [12, 18, 212]), (271, .iload_n 1, 1, []), (272, .iastore, 1, []), (273, .aload_n 0, 1, []), (274, .getfield 50, 3, [12, 15, 209]), (277, .aload_n 0, 1, []), (278, .getfield 145, 3, [12, 18, 212]), (281, .iconst 0, 1, []), (282, .iastore, 1, []), (283, .aload_n 0, 1, []), (284, .getfield 53, 3, [12, 16, 210]), (287, .aload_n 0, 1, []), (288, .getfield 145, 3, [12, 18, 212]), (291, .iconst 0, 1, []), (292, .iastore, 1, []), (293, .return_, 1, [])])
set_option maxRecDepth 20000 in
theorem ckX12_splits_0 : ckR mX12_splits 0 40 = true := by decide +kernel
set_option maxRecDepth 20000 in
theorem ckX12_splits_1 : ckR mX12_splits 40 40 = true := by decide +kernel
set_option maxRecDepth 20000 in
theorem ckX12_splits_2 : ckR mX12_splits 80 40 = true := by decide +kernel
set_option maxRecDepth 20000 in
theorem ckX12_splits_3 : ckR mX12_splits 120 40 = true := by decide +kernel
set_option maxRecDepth 20000 in
theorem okX12_splits : okC mX12_splits := ⟨by decide +kernel, memT7 129 rfl rfl, okM.of (n := 4) (Or.inr rfl) (by decide) (fun j hj => by match j, hj with | 0, _ => exact ckX12_splits_0 | 1, _ => exact ckX12_splits_1 | 2, _ => exact ckX12_splits_2 | 3, _ => exact ckX12_splits_3 | _ + 4, hj => exact absurd hj (by omega))⟩
set_option maxRecDepth 20000 in
def mX12_fine : Mt := (yX12_fine, cX12_fine, 1, (some .boolean), [12, 140, 0, 0, 1720, 75], [(0, .aload_n 0, 1, []), (1, .getfield 158, 3, [12, 21, 215]), (4, .iconst (-1), 1, []), (5, .if_icmp .ne 7, 3, [6]), (8, .iconst 1, 1, []), (9, .goto 4, 3, [7]), (12, .iconst 0, 1, []), (13, .ireturn, 1, [])])
set_option maxRecDepth 20000 in
theorem ckX12_fine_0 : ckR mX12_fine 0 40 = true := by decide +kernel
set_option maxRecDepth 20000 in
theorem okX12_fine : okC mX12_fine := ⟨by decide +kernel, memT7 155 rfl rfl, okM.of (n := 1) (Or.inr rfl) (by decide) (fun j hj => by match j, hj with | 0, _ => exact ckX12_fine_0 | _ + 1, hj => exact absurd hj (by omega))⟩
set_option maxRecDepth 20000 in
def mX12_faults : Mt := (yX12_faults, cX12_faults, 1, none, [12, 140, 0, 0, 1736, 79], [(0, .aload_n 0, 1, []), (1, .invokevirtual 161, 3, []), (4, .ifCond .eq 16, 3, [10]), (7, .aload_n 0, 1, []), (8, .aload_n 0, 1, []), (9, .getfield 56, 3, [12, 17, 211]), (12, .aload_n 0, 1, []), (13, .getfield 165, 3, [12, 19, 213]), (16, .iaload, 1, []), (17, .putfield 158, 3, [12, 21, 215]), (20, .return_, 1, [])])
set_option maxRecDepth 20000 in
theorem ckX12_faults_0 : ckR mX12_faults 0 40 = true := by decide +kernel
set_option maxRecDepth 20000 in
theorem okX12_faults : okC mX12_faults := ⟨by decide +kernel, memT7 171 rfl rfl, okM.of (n := 1) (Or.inr rfl) (by decide) (fun j hj => by match j, hj with | 0, _ => exact ckX12_faults_0 | _ + 1, hj => exact absurd hj (by omega))⟩
set_option maxRecDepth 20000 in
def mX12_takes0 : Mt := (yX12_takes0, cX12_takes0, 3, (some .boolean), [12, 140, 1, 0, 1716, 74], [(0, .aload_n 0, 1, []), (1, .invokevirtual 161, 3, []), (4, .ifCond .eq 20, 3, [12]), (7, .aload_n 0, 1, []), (8, .getfield 50, 3, [12, 15, 209]), (11, .aload_n 0, 1, []), (12, .getfield 165, 3, [12, 19, 213]), (15, .iaload, 1, []), (16, .iload_n 1, 1, []), (17, .if_icmp .ne 7, 3, [12]), (20, .iconst 1, 1, []), (21, .goto 4, 3, [13]), (24, .iconst 0, 1, []), (25, .istore_n 2, 1, []), (26, .iload_n 2, 1, []), (27, .ifCond .eq 13, 3, [22]), (30, .aload_n 0, 1, []), (31, .dup, 1, []), (32, .getfield 165, 3, [12, 19, 213]), (35, .iconst 1, 1, []), (36, .iadd, 1, []), (37, .putfield 165, 3, [12, 19, 213]), (40, .iload_n 2, 1, []), (41, .ireturn, 1, [])])
set_option maxRecDepth 20000 in
theorem ckX12_takes0_0 : ckR mX12_takes0 0 40 = true := by decide +kernel
set_option maxRecDepth 20000 in
theorem okX12_takes0 : okC mX12_takes0 := ⟨by decide +kernel, memT7 151 rfl rfl, okM.of (n := 1) (Or.inr rfl) (by decide) (fun j hj => by match j, hj with | 0, _ => exact ckX12_takes0_0 | _ + 1, hj => exact absurd hj (by omega))⟩
set_option maxRecDepth 20000 in
def mX12_must : Mt := (yX12_must, cX12_must, 2, none, [12, 140, 1, 0, 1740, 80], [(0, .aload_n 0, 1, []), (1, .iload_n 1, 1, []), (2, .invokevirtual 168, 3, []), (5, .ifCond .ne 7, 3, [6]), (8, .aload_n 0, 1, []), (9, .invokevirtual 171, 3, []), (12, .return_, 1, [])])
set_option maxRecDepth 20000 in
theorem ckX12_must_0 : ckR mX12_must 0 40 = true := by decide +kernel
set_option maxRecDepth 20000 in
theorem okX12_must : okC mX12_must := ⟨by decide +kernel, memT7 175 rfl rfl, okM.of (n := 1) (Or.inr rfl) (by decide) (fun j hj => by match j, hj with | 0, _ => exact ckX12_must_0 | _ + 1, hj => exact absurd hj (by omega))⟩
set_option maxRecDepth 20000 in
def mX12_leaf : Mt := (yX12_leaf, cX12_leaf, 1, none, [12, 140, 0, 0, 1744, 81], [(0, .aload_n 0, 1, []), (1, .getfield 174, 3, [12, 20, 214]), (4, .bipush 50, 2, []), (6, .if_icmp .ne 7, 3, [6]), (9, .aload_n 0, 1, []), (10, .invokevirtual 171, 3, []), (13, .aload_n 0, 1, []), (14, .dup, 1, []), (15, .getfield 174, 3, [12, 20, 214]), (18, .iconst 1, 1, []), (19, .iadd, 1, []), (20, .putfield 174, 3, [12, 20, 214]), (23, .aload_n 0, 1, []), (24, .invokevirtual 161, 3, []), (27, .ifCond .eq 13, 3, [21]), (30, .aload_n 0, 1, []), (31, .dup, 1, []), (32, .getfield 165, 3, [12, 19, 213]), (35, .iconst 1, 1, []), (36, .iadd, 1, []), (37, .putfield 165, 3, [12, 19, 213]), (40, .return_, 1, [])])
set_option maxRecDepth 20000 in
theorem ckX12_leaf_0 : ckR mX12_leaf 0 40 = true := by decide +kernel
set_option maxRecDepth 20000 in
theorem okX12_leaf : okC mX12_leaf := ⟨by decide +kernel, memT7 179 rfl rfl, okM.of (n := 1) (Or.inr rfl) (by decide) (fun j hj => by match j, hj with | 0, _ => exact ckX12_leaf_0 | _ + 1, hj => exact absurd hj (by omega))⟩
set_option maxRecDepth 20000 in
def mX12_sign : Mt := (yX12_sign, cX12_sign, 1, (some .int), [12, 140, 1, 1, 1615], [(0, .bipush 100, 2, []), (2, .iload_n 0, 1, []), (3, .iadd, 1, []), (4, .ireturn, 1, [])])
set_option maxRecDepth 20000 in
theorem ckX12_sign_0 : ckR mX12_sign 0 40 = true := by decide +kernel
set_option maxRecDepth 20000 in
theorem okX12_sign : okC mX12_sign := ⟨by decide +kernel, memT7 50 rfl rfl, okM.of (n := 1) (Or.inr rfl) (by decide) (fun j hj => by match j, hj with | 0, _ => exact ckX12_sign_0 | _ + 1, hj => exact absurd hj (by omega))⟩
set_option maxRecDepth 20000 in
def mX12_mustNumber : Mt := (yX12_mustNumber, cX12_mustNumber, 3, none, [12, 140, 2, 0, 1748, 82], [(0, .aload_n 0, 1, []), (1, .invokevirtual 161, 3, []), (4, .ifCond .eq 38, 3, [21]), (7, .aload_n 0, 1, []), (8, .getfield 50, 3, [12, 15, 209]), (11, .aload_n 0, 1, []), (12, .getfield 165, 3, [12, 19, 213]), (15, .iaload, 1, []), (16, .bipush 50, 2, []), (18, .if_icmp .ne 20, 3, [19]), (21, .aload_n 0, 1, []), (22, .getfield 53, 3, [12, 16, 210]), (25, .aload_n 0, 1, []), (26, .getfield 165, 3, [12, 19, 213]), (29, .iaload, 1, []), (30, .iload_n 1, 1, []), (31, .iload_n 2, 1, []), (32, .invokestatic 99, 3, []), (35, .ifCond .ne 7, 3, [21]), (38, .aload_n 0, 1, []), (39, .invokevirtual 171, 3, []), (42, .aload_n 0, 1, []), (43, .invokevirtual 161, 3, []), (46, .ifCond .eq 13, 3, [30]), (49, .aload_n 0, 1, []), (50, .dup, 1, []), (51, .getfield 165, 3, [12, 19, 213]), (54, .iconst 1, 1, []), (55, .iadd, 1, []), (56, .putfield 165, 3, [12, 19, 213]), (59, .return_, 1, [])])
set_option maxRecDepth 20000 in
theorem ckX12_mustNumber_0 : ckR mX12_mustNumber 0 40 = true := by decide +kernel
set_option maxRecDepth 20000 in
theorem okX12_mustNumber : okC mX12_mustNumber := ⟨by decide +kernel, memT7 183 rfl rfl, okM.of (n := 1) (Or.inr rfl) (by decide) (fun j hj => by match j, hj with | 0, _ => exact ckX12_mustNumber_0 | _ + 1, hj => exact absurd hj (by omega))⟩
set_option maxRecDepth 20000 in
def mX12_readClause : Mt := (yX12_readClause, cX12_readClause, 1, none, [12, 140, 0, 0, 1764, 86], [(0, .aload_n 0, 1, []), (1, .iconst 1, 1, []), (2, .invokevirtual 168, 3, []), (5, .ifCond .ne 11, 3, [8]), (8, .aload_n 0, 1, []), (9, .iconst 2, 1, []), (10, .invokevirtual 168, 3, []), (13, .ifCond .eq 11, 3, [12]), (16, .aload_n 0, 1, []), (17, .iconst 0, 1, []), (18, .invokevirtual 177, 3, []), (21, .goto 8, 3, [15]), (24, .aload_n 0, 1, []), (25, .iconst 3, 1, []), (26, .invokevirtual 181, 3, []), (29, .aload_n 0, 1, []), (30, .iconst 4, 1, []), (31, .invokevirtual 168, 3, []), (34, .ifCond .eq 8, 3, [22]), (37, .aload_n 0, 1, []), (38, .iconst 0, 1, []), (39, .invokevirtual 184, 3, []), (42, .return_, 1, [])])
set_option maxRecDepth 20000 in
theorem ckX12_readClause_0 : ckR mX12_readClause 0 40 = true := by decide +kernel
set_option maxRecDepth 20000 in
theorem okX12_readClause : okC mX12_readClause := ⟨by decide +kernel, memT7 199 rfl rfl, okM.of (n := 1) (Or.inr rfl) (by decide) (fun j hj => by match j, hj with | 0, _ => exact ckX12_readClause_0 | _ + 1, hj => exact absurd hj (by omega))⟩
set_option maxRecDepth 20000 in
def mX12_readOrder : Mt := (yX12_readOrder, cX12_readOrder, 1, none, [12, 140, 0, 0, 1712, 73], [(0, .aload_n 0, 1, []), (1, .bipush 24, 2, []), (3, .invokevirtual 168, 3, []), (6, .ifCond .eq 33, 3, [20]), (9, .aload_n 0, 1, []), (10, .iconst 0, 1, []), (11, .invokevirtual 177, 3, []), (14, .aload_n 0, 1, []), (15, .bipush 25, 2, []), (17, .invokevirtual 181, 3, []), (20, .aload_n 0, 1, []), (21, .iconst 0, 1, []), (22, .invokevirtual 177, 3, []), (25, .aload_n 0, 1, []), (26, .bipush 26, 2, []), (28, .invokevirtual 181, 3, []), (31, .aload_n 0, 1, []), (32, .iconst 0, 1, []), (33, .invokevirtual 177, 3, []), (36, .goto 14, 3, [26]), (39, .aload_n 0, 1, []), (40, .bipush 16, 2, []), (42, .invokevirtual 181, 3, []), (45, .aload_n 0, 1, []), (46, .iconst 0, 1, []), (47, .invokevirtual 177, 3, []), (50, .aload_n 0, 1, []), (51, .bipush 27, 2, []), (53, .invokevirtual 168, 3, []), (56, .ifCond .eq 10, 3, [34]), (59, .aload_n 0, 1, []), (60, .iconst 1, 1, []), (61, .bipush 20, 2, []), (63, .invokevirtual 187, 3, []), (66, .aload_n 0, 1, []), (67, .iconst 4, 1, []), (68, .invokevirtual 168, 3, []), (71, .ifCond .eq 8, 3, [41]), (74, .aload_n 0, 1, []), (75, .iconst 0, 1, []), (76, .invokevirtual 184, 3, []), (79, .return_, 1, [])])
set_option maxRecDepth 20000 in
theorem ckX12_readOrder_0 : ckR mX12_readOrder 0 40 = true := by decide +kernel
set_option maxRecDepth 20000 in
theorem ckX12_readOrder_1 : ckR mX12_readOrder 40 40 = true := by decide +kernel
set_option maxRecDepth 20000 in
theorem okX12_readOrder : okC mX12_readOrder := ⟨by decide +kernel, memT7 147 rfl rfl, okM.of (n := 2) (Or.inr rfl) (by decide) (fun j hj => by match j, hj with | 0, _ => exact ckX12_readOrder_0 | 1, _ => exact ckX12_readOrder_1 | _ + 2, hj => exact absurd hj (by omega))⟩
set_option maxRecDepth 20000 in
def mX12_readOne : Mt := (yX12_readOne, cX12_readOne, 1, none, [12, 140, 0, 0, 1708, 72], [(0, .aload_n 0, 1, []), (1, .getfield 191, 3, [12, 10, 204]), (4, .ifCond .eq 10, 3, [6]), (7, .aload_n 0, 1, []), (8, .invokevirtual 195, 3, []), (11, .goto 7, 3, [8]), (14, .aload_n 0, 1, []), (15, .invokevirtual 198, 3, []), (18, .return_, 1, [])])
set_option maxRecDepth 20000 in
theorem ckX12_readOne_0 : ckR mX12_readOne 0 40 = true := by decide +kernel
set_option maxRecDepth 20000 in
theorem okX12_readOne : okC mX12_readOne := ⟨by decide +kernel, memT7 143 rfl rfl, okM.of (n := 1) (Or.inr rfl) (by decide) (fun j hj => by match j, hj with | 0, _ => exact ckX12_readOne_0 | _ + 1, hj => exact absurd hj (by omega))⟩
set_option maxRecDepth 20000 in
def mX12_readTest : Mt := (yX12_readTest, cX12_readTest, 2, none, [12, 140, 1, 0, 1752, 83], [(0, .aload_n 0, 1, []), (1, .iload_n 1, 1, []), (2, .invokevirtual 201, 3, []), (5, .aload_n 0, 1, []), (6, .iconst 5, 1, []), (7, .invokevirtual 168, 3, []), (10, .ifCond .eq 11, 3, [11]), (13, .aload_n 0, 1, []), (14, .iload_n 1, 1, []), (15, .invokevirtual 201, 3, []), (18, .goto (-13), 3, [3]), (21, .return_, 1, [])])
set_option maxRecDepth 20000 in
theorem ckX12_readTest_0 : ckR mX12_readTest 0 40 = true := by decide +kernel
set_option maxRecDepth 20000 in
theorem okX12_readTest : okC mX12_readTest := ⟨by decide +kernel, memT7 187 rfl rfl, okM.of (n := 1) (Or.inr rfl) (by decide) (fun j hj => by match j, hj with | 0, _ => exact ckX12_readTest_0 | _ + 1, hj => exact absurd hj (by omega))⟩
set_option maxRecDepth 20000 in
def mX12_readBoth : Mt := (yX12_readBoth, cX12_readBoth, 2, none, [12, 140, 1, 0, 1756, 84], [(0, .aload_n 0, 1, []), (1, .iload_n 1, 1, []), (2, .invokevirtual 204, 3, []), (5, .aload_n 0, 1, []), (6, .bipush 6, 2, []), (8, .invokevirtual 168, 3, []), (11, .ifCond .eq 11, 3, [11]), (14, .aload_n 0, 1, []), (15, .iload_n 1, 1, []), (16, .invokevirtual 204, 3, []), (19, .goto (-14), 3, [3]), (22, .return_, 1, [])])
set_option maxRecDepth 20000 in
theorem ckX12_readBoth_0 : ckR mX12_readBoth 0 40 = true := by decide +kernel
set_option maxRecDepth 20000 in
theorem okX12_readBoth : okC mX12_readBoth := ⟨by decide +kernel, memT7 191 rfl rfl, okM.of (n := 1) (Or.inr rfl) (by decide) (fun j hj => by match j, hj with | 0, _ => exact ckX12_readBoth_0 | _ + 1, hj => exact absurd hj (by omega))⟩
set_option maxRecDepth 20000 in
def mX12_readPlain : Mt := (yX12_readPlain, cX12_readPlain, 4, none, [12, 140, 1, 0, 1760, 85], [(0, .iconst 1, 1, []), (1, .istore_n 2, 1, []), (2, .iload_n 2, 1, []), (3, .ifCond .eq 13, 3, [9]), (6, .aload_n 0, 1, []), (7, .bipush 7, 2, []), (9, .invokevirtual 168, 3, []), (12, .istore_n 2, 1, []), (13, .goto (-11), 3, [2]), (16, .aload_n 0, 1, []), (17, .invokevirtual 161, 3, []), (20, .ifCond .ne 4, 3, [13]), (23, .return_, 1, []), (24, .aload_n 0, 1, []), (25, .getfield 50, 3, [12, 15, 209]), (28, .aload_n 0, 1, []), (29, .getfield 165, 3, [12, 19, 213]), (32, .iaload, 1, []), (33, .istore_n 3, 1, []), (34, .iload_n 3, 1, []), (35, .bipush 40, 2, []), (37, .invokestatic 207, 3, []), (40, .if_icmp .ne 50, 3, [48]), (43, .iload_n 1, 1, []), (44, .bipush 8, 2, []), (46, .if_icmp .ne 7, 3, [28]), (49, .aload_n 0, 1, []), (50, .invokevirtual 171, 3, []), (53, .aload_n 0, 1, []), (54, .invokevirtual 161, 3, []), (57, .ifCond .ne 4, 3, [32]), (60, .return_, 1, []), (61, .aload_n 0, 1, []), (62, .dup, 1, []), (63, .getfield 165, 3, [12, 19, 213]), (66, .iconst 1, 1, []), (67, .iadd, 1, []), (68, .putfield 165, 3, [12, 19, 213]), (71, .aload_n 0, 1, []), (72, .iload_n 1, 1, []), (73, .iconst 1, 1, []), (74, .iadd, 1, []), (75, .invokevirtual 184, 3, []), (78, .aload_n 0, 1, []), (79, .bipush 41, 2, []), (81, .invokestatic 207, 3, []), (84, .invokevirtual 181, 3, []), (87, .goto 46, 3, [68]), (90, .aload_n 0, 1, []), (91, .iload_n 1, 1, []), (92, .invokevirtual 177, 3, []), (95, .aload_n 0, 1, []), (96, .bipush 60, 2, []), (98, .invokestatic 207, 3, []), (101, .invokevirtual 168, 3, []), (104, .ifCond .ne 24, 3, [65]), (107, .aload_n 0, 1, []), (108, .bipush 62, 2, []), (110, .invokestatic 207, 3, []), (113, .invokevirtual 168, 3, []), (116, .ifCond .ne 12, 3, [65]), (119, .aload_n 0, 1, []), (120, .bipush 61, 2, []), (122, .invokestatic 207, 3, []), (125, .invokevirtual 181, 3, []), (128, .aload_n 0, 1, []), (129, .iload_n 1, 1, []), (130, .invokevirtual 177, 3, []), (133, .return_, 1, [])])
set_option maxRecDepth 20000 in
theorem ckX12_readPlain_0 : ckR mX12_readPlain 0 40 = true := by decide +kernel
set_option maxRecDepth 20000 in
theorem ckX12_readPlain_1 : ckR mX12_readPlain 40 40 = true := by decide +kernel
set_option maxRecDepth 20000 in
theorem okX12_readPlain : okC mX12_readPlain := ⟨by decide +kernel, memT7 195 rfl rfl, okM.of (n := 2) (Or.inr rfl) (by decide) (fun j hj => by match j, hj with | 0, _ => exact ckX12_readPlain_0 | 1, _ => exact ckX12_readPlain_1 | _ + 2, hj => exact absurd hj (by omega))⟩
set_option maxRecDepth 20000 in
def mX12_readSum : Mt := (yX12_readSum, cX12_readSum, 2, none, [12, 140, 1, 0, 1724, 76], [(0, .aload_n 0, 1, []), (1, .iload_n 1, 1, []), (2, .invokevirtual 211, 3, []), (5, .aload_n 0, 1, []), (6, .bipush 43, 2, []), (8, .invokestatic 207, 3, []), (11, .invokevirtual 168, 3, []), (14, .ifCond .ne 15, 3, [13]), (17, .aload_n 0, 1, []), (18, .bipush 45, 2, []), (20, .invokestatic 207, 3, []), (23, .invokevirtual 168, 3, []), (26, .ifCond .eq 11, 3, [17]), (29, .aload_n 0, 1, []), (30, .iload_n 1, 1, []), (31, .invokevirtual 211, 3, []), (34, .goto (-29), 3, [3]), (37, .return_, 1, [])])
set_option maxRecDepth 20000 in
theorem ckX12_readSum_0 : ckR mX12_readSum 0 40 = true := by decide +kernel
set_option maxRecDepth 20000 in
theorem okX12_readSum : okC mX12_readSum := ⟨by decide +kernel, memT7 159 rfl rfl, okM.of (n := 1) (Or.inr rfl) (by decide) (fun j hj => by match j, hj with | 0, _ => exact ckX12_readSum_0 | _ + 1, hj => exact absurd hj (by omega))⟩
set_option maxRecDepth 20000 in
def mX12_readTerm : Mt := (yX12_readTerm, cX12_readTerm, 2, none, [12, 140, 1, 0, 1728, 77], [(0, .aload_n 0, 1, []), (1, .iload_n 1, 1, []), (2, .invokevirtual 214, 3, []), (5, .aload_n 0, 1, []), (6, .bipush 42, 2, []), (8, .invokestatic 207, 3, []), (11, .invokevirtual 168, 3, []), (14, .ifCond .ne 27, 3, [18]), (17, .aload_n 0, 1, []), (18, .bipush 47, 2, []), (20, .invokestatic 207, 3, []), (23, .invokevirtual 168, 3, []), (26, .ifCond .ne 15, 3, [18]), (29, .aload_n 0, 1, []), (30, .bipush 37, 2, []), (32, .invokestatic 207, 3, []), (35, .invokevirtual 168, 3, []), (38, .ifCond .eq 11, 3, [22]), (41, .aload_n 0, 1, []), (42, .iload_n 1, 1, []), (43, .invokevirtual 214, 3, []), (46, .goto (-41), 3, [3]), (49, .return_, 1, [])])
set_option maxRecDepth 20000 in
theorem ckX12_readTerm_0 : ckR mX12_readTerm 0 40 = true := by decide +kernel
set_option maxRecDepth 20000 in
theorem okX12_readTerm : okC mX12_readTerm := ⟨by decide +kernel, memT7 163 rfl rfl, okM.of (n := 1) (Or.inr rfl) (by decide) (fun j hj => by match j, hj with | 0, _ => exact ckX12_readTerm_0 | _ + 1, hj => exact absurd hj (by omega))⟩
set_option maxRecDepth 20000 in
def mX12_readPart : Mt := (yX12_readPart, cX12_readPart, 3, none, [12, 140, 1, 0, 1732, 78], [(0, .aload_n 0, 1, []), (1, .invokevirtual 161, 3, []), (4, .ifCond .ne 4, 3, [4]), (7, .return_, 1, []), (8, .aload_n 0, 1, []), (9, .getfield 50, 3, [12, 15, 209]), (12, .aload_n 0, 1, []), (13, .getfield 165, 3, [12, 19, 213]), (16, .iaload, 1, []), (17, .istore_n 2, 1, []), (18, .iload_n 2, 1, []), (19, .bipush 91, 2, []), (21, .invokestatic 207, 3, []), (24, .if_icmp .ne 50, 3, [39]), (27, .iload_n 1, 1, []), (28, .bipush 8, 2, []), (30, .if_icmp .ne 7, 3, [19]), (33, .aload_n 0, 1, []), (34, .invokevirtual 171, 3, []), (37, .aload_n 0, 1, []), (38, .invokevirtual 161, 3, []), (41, .ifCond .ne 4, 3, [23]), (44, .return_, 1, []), (45, .aload_n 0, 1, []), (46, .dup, 1, []), (47, .getfield 165, 3, [12, 19, 213]), (50, .iconst 1, 1, []), (51, .iadd, 1, []), (52, .putfield 165, 3, [12, 19, 213]), (55, .aload_n 0, 1, []), (56, .iload_n 1, 1, []), (57, .iconst 1, 1, []), (58, .iadd, 1, []), (59, .invokevirtual 177, 3, []), (62, .aload_n 0, 1, []), (63, .bipush 93, 2, []), (65, .invokestatic 207, 3, []), (68, .invokevirtual 181, 3, []), (71, .goto 83, 3, [79]), (74, .iload_n 2, 1, []), (75, .bipush 50, 2, []), (77, .if_icmp .ne 18, 3, [49]), (80, .aload_n 0, 1, []), (81, .getfield 53, 3, [12, 16, 210]), (84, .aload_n 0, 1, []), (85, .getfield 165, 3, [12, 19, 213]), (88, .iaload, 1, []), (89, .sipush 1000, 3, []), (92, .if_icmp .le 19, 3, [57]), (95, .iload_n 2, 1, []), (96, .aload_n 0, 1, []), (97, .getfield 217, 3, [12, 8, 202]), (100, .if_icmp .lt 50, 3, [77]), (103, .iload_n 2, 1, []), (104, .aload_n 0, 1, []), (105, .getfield 220, 3, [12, 9, 203]), (108, .if_icmp .gt 42, 3, [77]), (111, .aload_n 0, 1, []), (112, .invokevirtual 223, 3, []), (115, .iload_n 2, 1, []), (116, .bipush 22, 2, []), (118, .if_icmp .eq 9, 3, [65]), (121, .iload_n 2, 1, []), (122, .bipush 23, 2, []), (124, .if_icmp .ne 10, 3, [69]), (127, .aload_n 0, 1, []), (128, .iconst 0, 1, []), (129, .bipush 15, 2, []), (131, .invokevirtual 187, 3, []), (134, .iload_n 2, 1, []), (135, .bipush 23, 2, []), (137, .if_icmp .ne 17, 3, [79]), (140, .aload_n 0, 1, []), (141, .iconst 0, 1, []), (142, .bipush 15, 2, []), (144, .invokevirtual 187, 3, []), (147, .goto 7, 3, [79]), (150, .aload_n 0, 1, []), (151, .invokevirtual 171, 3, []), (154, .return_, 1, [])])
set_option maxRecDepth 20000 in
theorem ckX12_readPart_0 : ckR mX12_readPart 0 40 = true := by decide +kernel
set_option maxRecDepth 20000 in
theorem ckX12_readPart_1 : ckR mX12_readPart 40 40 = true := by decide +kernel
set_option maxRecDepth 20000 in
theorem okX12_readPart : okC mX12_readPart := ⟨by decide +kernel, memT7 167 rfl rfl, okM.of (n := 2) (Or.inr rfl) (by decide) (fun j hj => by match j, hj with | 0, _ => exact ckX12_readPart_0 | 1, _ => exact ckX12_readPart_1 | _ + 2, hj => exact absurd hj (by omega))⟩
set_option maxRecDepth 20000 in
def mX12_reads : Mt := (yX12_reads, cX12_reads, 2, (some .boolean), [12, 140, 0, 0, 1690, 69], [(0, .aload_n 0, 1, []), (1, .aload_n 0, 1, []), (2, .getfield 139, 3, [12, 13, 207]), (5, .invokevirtual 226, 3, []), (8, .aload_n 0, 1, []), (9, .iconst 0, 1, []), (10, .putfield 139, 3, [12, 13, 207]), (13, .aload_n 0, 1, []), (14, .iconst 0, 1, []), (15, .putfield 165, 3, [12, 19, 213]), (18, .aload_n 0, 1, []), (19, .iconst 0, 1, []), (20, .putfield 174, 3, [12, 20, 214]), (23, .aload_n 0, 1, []), (24, .iconst (-1), 1, []), (25, .putfield 158, 3, [12, 21, 215]), (28, .aload_n 0, 1, []), (29, .invokevirtual 229, 3, []), (32, .iconst 1, 1, []), (33, .istore_n 1, 1, []), (34, .aload_n 0, 1, []), (35, .bipush 59, 2, []), (37, .invokestatic 207, 3, []), (40, .invokevirtual 168, 3, []), (43, .ifCond .eq 30, 3, [37]), (46, .iload_n 1, 1, []), (47, .bipush 12, 2, []), (49, .if_icmp .ne 7, 3, [30]), (52, .aload_n 0, 1, []), (53, .invokevirtual 171, 3, []), (56, .aload_n 0, 1, []), (57, .invokevirtual 161, 3, []), (60, .ifCond .eq 7, 3, [35]), (63, .aload_n 0, 1, []), (64, .invokevirtual 229, 3, []), (67, .iinc 1 1, 3, []), (70, .goto (-36), 3, [20]), (73, .aload_n 0, 1, []), (74, .invokevirtual 161, 3, []), (77, .ifCond .eq 18, 3, [47]), (80, .aload_n 0, 1, []), (81, .getfield 165, 3, [12, 19, 213]), (84, .aload_n 0, 1, []), (85, .getfield 145, 3, [12, 18, 212]), (88, .if_icmp .ge 7, 3, [47]), (91, .aload_n 0, 1, []), (92, .invokevirtual 171, 3, []), (95, .aload_n 0, 1, []), (96, .aload_n 0, 1, []), (97, .getfield 158, 3, [12, 21, 215]), (100, .putfield 47, 3, [12, 14, 208]), (103, .aload_n 0, 1, []), (104, .invokevirtual 161, 3, []), (107, .ireturn, 1, [])])
set_option maxRecDepth 20000 in
theorem ckX12_reads_0 : ckR mX12_reads 0 40 = true := by decide +kernel
set_option maxRecDepth 20000 in
theorem ckX12_reads_1 : ckR mX12_reads 40 40 = true := by decide +kernel
set_option maxRecDepth 20000 in
theorem okX12_reads : okC mX12_reads := ⟨by decide +kernel, memT7 125 rfl rfl, okM.of (n := 2) (Or.inr rfl) (by decide) (fun j hj => by match j, hj with | 0, _ => exact ckX12_reads_0 | 1, _ => exact ckX12_reads_1 | _ + 2, hj => exact absurd hj (by omega))⟩
set_option maxRecDepth 20000 in
def mX12_readsAs : Mt := (yX12_readsAs, cX12_readsAs, 2, (some .boolean), [12, 140, 1, 0, 1686, 68], [(0, .aload_n 0, 1, []), (1, .iload_n 1, 1, []), (2, .putfield 191, 3, [12, 10, 204]), (5, .aload_n 0, 1, []), (6, .iload_n 1, 1, []), (7, .ifCond .eq 8, 3, [8]), (10, .bipush 18, 2, []), (12, .goto 5, 3, [9]), (15, .bipush 8, 2, []), (17, .putfield 217, 3, [12, 8, 202]), (20, .aload_n 0, 1, []), (21, .iload_n 1, 1, []), (22, .ifCond .eq 8, 3, [15]), (25, .bipush 23, 2, []), (27, .goto 5, 3, [16]), (30, .bipush 17, 2, []), (32, .putfield 220, 3, [12, 9, 203]), (35, .aload_n 0, 1, []), (36, .invokevirtual 232, 3, []), (39, .ireturn, 1, [])])
set_option maxRecDepth 20000 in
theorem ckX12_readsAs_0 : ckR mX12_readsAs 0 40 = true := by decide +kernel
set_option maxRecDepth 20000 in
theorem okX12_readsAs : okC mX12_readsAs := ⟨by decide +kernel, memT7 121 rfl rfl, okM.of (n := 1) (Or.inr rfl) (by decide) (fun j hj => by match j, hj with | 0, _ => exact ckX12_readsAs_0 | _ + 1, hj => exact absurd hj (by omega))⟩
set_option maxRecDepth 20000 in
def mX12_lays : Mt := (yX12_lays, cX12_lays, 3, none, [12, 140, 1, 0, 1768, 87], [(0, .aload_n 0, 1, []), (1, .getfield 24, 3, [12, 2, 196]), (4, .sipush 215, 3, []), (7, .iload_n 1, 1, []), (8, .iadd, 1, []), (9, .aload_n 0, 1, []), (10, .getfield 145, 3, [12, 18, 212]), (13, .iastore, 1, []), (14, .iconst 0, 1, []), (15, .istore_n 2, 1, []), (16, .iload_n 2, 1, []), (17, .aload_n 0, 1, []), (18, .getfield 145, 3, [12, 18, 212]), (21, .if_icmp .ge 53, 3, [44]), (24, .aload_n 0, 1, []), (25, .getfield 24, 3, [12, 2, 196]), (28, .sipush 222, 3, []), (31, .sipush 400, 3, []), (34, .iload_n 1, 1, []), (35, .imul, 1, []), (36, .iadd, 1, []), (37, .iload_n 2, 1, []), (38, .iadd, 1, []), (39, .aload_n 0, 1, []), (40, .getfield 50, 3, [12, 15, 209]), (43, .iload_n 2, 1, []), (44, .iaload, 1, []), (45, .iastore, 1, []), (46, .aload_n 0, 1, []), (47, .getfield 24, 3, [12, 2, 196]), (50, .sipush 3022, 3, []), (53, .sipush 400, 3, []), (56, .iload_n 1, 1, []), (57, .imul, 1, []), (58, .iadd, 1, []), (59, .iload_n 2, 1, []), (60, .iadd, 1, []), (61, .aload_n 0, 1, []), (62, .getfield 53, 3, [12, 16, 210]), (65, .iload_n 2, 1, []), (66, .iaload, 1, []), (67, .iastore, 1, []), (68, .iinc 2 1, 3, []), (71, .goto (-55), 3, [10]), (74, .return_, 1, [])])
set_option maxRecDepth 20000 in
theorem ckX12_lays_0 : ckR mX12_lays 0 40 = true := by decide +kernel
set_option maxRecDepth 20000 in
theorem ckX12_lays_1 : ckR mX12_lays 40 40 = true := by decide +kernel
set_option maxRecDepth 20000 in
theorem okX12_lays : okC mX12_lays := ⟨by decide +kernel, memT7 203 rfl rfl, okM.of (n := 2) (Or.inr rfl) (by decide) (fun j hj => by match j, hj with | 0, _ => exact ckX12_lays_0 | 1, _ => exact ckX12_lays_1 | _ + 2, hj => exact absurd hj (by omega))⟩
set_option maxRecDepth 20000 in
def mX12_law : Mt := (yX12_law, cX12_law, 1, (some .int), [12, 140, 0, 0, 1681, 1682], [(0, .aload_n 0, 1, []), (1, .getfield 24, 3, [12, 2, 196]), (4, .sipush 213, 3, []), (7, .iaload, 1, []), (8, .bipush 6, 2, []), (10, .if_icmp .ne 15, 3, [13]), (13, .aload_n 0, 1, []), (14, .iconst 0, 1, []), (15, .putfield 139, 3, [12, 13, 207]), (18, .aload_n 0, 1, []), (19, .bipush (-5), 2, []), (21, .invokevirtual 103, 3, []), (24, .ireturn, 1, []), (25, .aload_n 0, 1, []), (26, .iconst 0, 1, []), (27, .invokevirtual 235, 3, []), (30, .ifCond .ne 10, 3, [21]), (33, .aload_n 0, 1, []), (34, .bipush (-6), 2, []), (36, .invokevirtual 103, 3, []), (39, .ireturn, 1, []), (40, .aload_n 0, 1, []), (41, .aload_n 0, 1, []), (42, .getfield 24, 3, [12, 2, 196]), (45, .sipush 213, 3, []), (48, .iaload, 1, []), (49, .invokevirtual 239, 3, []), (52, .aload_n 0, 1, []), (53, .getfield 24, 3, [12, 2, 196]), (56, .sipush 213, 3, []), (59, .dup2, 1, []), (60, .iaload, 1, []), (61, .iconst 1, 1, []), (62, .iadd, 1, []), (63, .iastore, 1, []), (64, .aload_n 0, 1, []), (65, .aload_n 0, 1, []), (66, .getfield 24, 3, [12, 2, 196]), (69, .sipush 213, 3, []), (72, .iaload, 1, []), (73, .iconst 1, 1, []), (74, .isub, 1, []), (75, .invokevirtual 14, 3, []), (78, .ireturn, 1, [])])
set_option maxRecDepth 20000 in
theorem ckX12_law_0 : ckR mX12_law 0 40 = true := by decide +kernel
set_option maxRecDepth 20000 in
theorem ckX12_law_1 : ckR mX12_law 40 40 = true := by decide +kernel
set_option maxRecDepth 20000 in
theorem okX12_law : okC mX12_law := ⟨by decide +kernel, memT7 117 rfl rfl, okM.of (n := 2) (Or.inr rfl) (by decide) (fun j hj => by match j, hj with | 0, _ => exact ckX12_law_0 | 1, _ => exact ckX12_law_1 | _ + 2, hj => exact absurd hj (by omega))⟩
set_option maxRecDepth 20000 in
def mX12_fault : Mt := (yX12_fault, cX12_fault, 1, (some .int), [12, 140, 0, 0, 1771, 1772], [(0, .aload_n 0, 1, []), (1, .getfield 47, 3, [12, 14, 208]), (4, .ireturn, 1, [])])
set_option maxRecDepth 20000 in
theorem ckX12_fault_0 : ckR mX12_fault 0 40 = true := by decide +kernel
set_option maxRecDepth 20000 in
theorem okX12_fault : okC mX12_fault := ⟨by decide +kernel, memT7 207 rfl rfl, okM.of (n := 1) (Or.inr rfl) (by decide) (fun j hj => by match j, hj with | 0, _ => exact ckX12_fault_0 | _ + 1, hj => exact absurd hj (by omega))⟩
set_option maxRecDepth 20000 in
def mX12_force : Mt := (yX12_force, cX12_force, 3, (some .int), [12, 140, 1, 0, 1775, 1776], [(0, .iload_n 1, 1, []), (1, .iconst (-1), 1, []), (2, .aload_n 0, 1, []), (3, .getfield 24, 3, [12, 2, 196]), (6, .sipush 213, 3, []), (9, .iaload, 1, []), (10, .iconst 1, 1, []), (11, .isub, 1, []), (12, .invokestatic 99, 3, []), (15, .ifCond .ne 10, 3, [14]), (18, .aload_n 0, 1, []), (19, .bipush (-2), 2, []), (21, .invokevirtual 103, 3, []), (24, .ireturn, 1, []), (25, .aload_n 0, 1, []), (26, .getfield 24, 3, [12, 2, 196]), (29, .sipush 214, 3, []), (32, .iaload, 1, []), (33, .istore_n 2, 1, []), (34, .aload_n 0, 1, []), (35, .getfield 24, 3, [12, 2, 196]), (38, .sipush 214, 3, []), (41, .iload_n 1, 1, []), (42, .iastore, 1, []), (43, .aload_n 0, 1, []), (44, .iload_n 2, 1, []), (45, .invokevirtual 14, 3, []), (48, .ireturn, 1, [])])
set_option maxRecDepth 20000 in
theorem ckX12_force_0 : ckR mX12_force 0 40 = true := by decide +kernel
set_option maxRecDepth 20000 in
theorem okX12_force : okC mX12_force := ⟨by decide +kernel, memT7 211 rfl rfl, okM.of (n := 1) (Or.inr rfl) (by decide) (fun j hj => by match j, hj with | 0, _ => exact ckX12_force_0 | _ + 1, hj => exact absurd hj (by omega))⟩
set_option maxRecDepth 20000 in
def mX12_codeAt : Mt := (yX12_codeAt, cX12_codeAt, 2, (some .int), [12, 140, 1, 0, 1600, 56], [(0, .iload_n 1, 1, []), (1, .aload_n 0, 1, []), (2, .getfield 242, 3, [12, 23, 217]), (5, .if_icmp .ge 16, 3, [11]), (8, .aload_n 0, 1, []), (9, .getfield 24, 3, [12, 2, 196]), (12, .sipush 222, 3, []), (15, .iload_n 1, 1, []), (16, .iadd, 1, []), (17, .iaload, 1, []), (18, .goto 4, 3, [12]), (21, .iconst 0, 1, []), (22, .ireturn, 1, [])])
set_option maxRecDepth 20000 in
theorem ckX12_codeAt_0 : ckR mX12_codeAt 0 40 = true := by decide +kernel
set_option maxRecDepth 20000 in
theorem okX12_codeAt : okC mX12_codeAt := ⟨by decide +kernel, memT7 35 rfl rfl, okM.of (n := 1) (Or.inr rfl) (by decide) (fun j hj => by match j, hj with | 0, _ => exact ckX12_codeAt_0 | _ + 1, hj => exact absurd hj (by omega))⟩
set_option maxRecDepth 20000 in
def mX12_passes0 : Mt := (yX12_passes0, cX12_passes0, 3, (some .boolean), [12, 140, 1, 0, 1619, 60], [(0, .aload_n 0, 1, []), (1, .aload_n 0, 1, []), (2, .getfield 245, 3, [12, 22, 216]), (5, .invokevirtual 248, 3, []), (8, .iload_n 1, 1, []), (9, .if_icmp .ne 7, 3, [8]), (12, .iconst 1, 1, []), (13, .goto 4, 3, [9]), (16, .iconst 0, 1, []), (17, .istore_n 2, 1, []), (18, .iload_n 2, 1, []), (19, .ifCond .eq 13, 3, [18]), (22, .aload_n 0, 1, []), (23, .dup, 1, []), (24, .getfield 245, 3, [12, 22, 216]), (27, .iconst 1, 1, []), (28, .iadd, 1, []), (29, .putfield 245, 3, [12, 22, 216]), (32, .iload_n 2, 1, []), (33, .ireturn, 1, [])])
set_option maxRecDepth 20000 in
theorem ckX12_passes0_0 : ckR mX12_passes0 0 40 = true := by decide +kernel
set_option maxRecDepth 20000 in
theorem okX12_passes0 : okC mX12_passes0 := ⟨by decide +kernel, memT7 54 rfl rfl, okM.of (n := 1) (Or.inr rfl) (by decide) (fun j hj => by match j, hj with | 0, _ => exact ckX12_passes0_0 | _ + 1, hj => exact absurd hj (by omega))⟩
set_option maxRecDepth 20000 in
def mX12_bounded : Mt := (yX12_bounded, cX12_bounded, 4, (some .long), [12, 140, 2, 0, 1633, 63], [(0, .iload_n 3, 1, []), (1, .ifCond .eq 24, 3, [13]), (4, .lload_n 1, 1, []), (5, .ldc2_w 251, 3, []), (8, .lcmp, 1, []), (9, .ifCond .gt 11, 3, [10]), (12, .lload_n 1, 1, []), (13, .ldc2_w 253, 3, []), (16, .lcmp, 1, []), (17, .ifCond .ge 8, 3, [13]), (20, .aload_n 0, 1, []), (21, .iconst 1, 1, []), (22, .putfield 255, 3, [12, 24, 218]), (25, .aload_n 0, 1, []), (26, .getfield 255, 3, [12, 24, 218]), (29, .ifCond .eq 7, 3, [18]), (32, .lconst 0, 1, []), (33, .goto 4, 3, [19]), (36, .lload_n 1, 1, []), (37, .lreturn, 1, [])])
set_option maxRecDepth 20000 in
theorem ckX12_bounded_0 : ckR mX12_bounded 0 40 = true := by decide +kernel
set_option maxRecDepth 20000 in
theorem okX12_bounded : okC mX12_bounded := ⟨by decide +kernel, memT7 68 rfl rfl, okM.of (n := 1) (Or.inr rfl) (by decide) (fun j hj => by match j, hj with | 0, _ => exact ckX12_bounded_0 | _ + 1, hj => exact absurd hj (by omega))⟩
set_option maxRecDepth 20000 in
def mX12_sumOf : Mt := (yX12_sumOf, cX12_sumOf, 7, (some .long), [12, 140, 1, 0, 1604, 57], [(0, .aload_n 0, 1, []), (1, .iload_n 1, 1, []), (2, .invokevirtual 258, 3, []), (5, .lstore_n 2, 1, []), (6, .aload_n 0, 1, []), (7, .aload_n 0, 1, []), (8, .getfield 245, 3, [12, 22, 216]), (11, .invokevirtual 248, 3, []), (14, .bipush 43, 2, []), (16, .invokestatic 207, 3, []), (19, .if_icmp .eq 19, 3, [18]), (22, .aload_n 0, 1, []), (23, .aload_n 0, 1, []), (24, .getfield 245, 3, [12, 22, 216]), (27, .invokevirtual 248, 3, []), (30, .bipush 45, 2, []), (32, .invokestatic 207, 3, []), (35, .if_icmp .ne 68, 3, [53]), (38, .aload_n 0, 1, []), (39, .aload_n 0, 1, []), (40, .getfield 245, 3, [12, 22, 216]), (43, .invokevirtual 248, 3, []), (46, .bipush 43, 2, []), (48, .invokestatic 207, 3, []), (51, .if_icmp .ne 7, 3, [27]), (54, .iconst 1, 1, []), (55, .goto 4, 3, [28]), (58, .iconst 0, 1, []), (59, .istore 4, 2, []), (61, .aload_n 0, 1, []), (62, .dup, 1, []), (63, .getfield 245, 3, [12, 22, 216]), (66, .iconst 1, 1, []), (67, .iadd, 1, []), (68, .putfield 245, 3, [12, 22, 216]), (71, .aload_n 0, 1, []), (72, .iload_n 1, 1, []), (73, .invokevirtual 258, 3, []), (76, .lstore 5, 2, []), (78, .aload_n 0, 1, []), (79, .iload 4, 2, []), (81, .ifCond .eq 10, 3, [46]), (84, .lload_n 2, 1, []), (85, .lload 5, 2, []), (87, .ladd, 1, []), (88, .goto 7, 3, [49]), (91, .lload_n 2, 1, []), (92, .lload 5, 2, []), (94, .lsub, 1, []), (95, .iload_n 1, 1, []), (96, .invokevirtual 262, 3, []), (99, .lstore_n 2, 1, []), (100, .goto (-94), 3, [4]), (103, .lload_n 2, 1, []), (104, .lreturn, 1, [])])
set_option maxRecDepth 20000 in
theorem ckX12_sumOf_0 : ckR mX12_sumOf 0 40 = true := by decide +kernel
set_option maxRecDepth 20000 in
theorem ckX12_sumOf_1 : ckR mX12_sumOf 40 40 = true := by decide +kernel
set_option maxRecDepth 20000 in
theorem okX12_sumOf : okC mX12_sumOf := ⟨by decide +kernel, memT7 39 rfl rfl, okM.of (n := 2) (Or.inr rfl) (by decide) (fun j hj => by match j, hj with | 0, _ => exact ckX12_sumOf_0 | 1, _ => exact ckX12_sumOf_1 | _ + 2, hj => exact absurd hj (by omega))⟩
end
section
set_option maxRecDepth 20000 in
def mX12_termOf : Mt := (yX12_termOf, cX12_termOf, 7, (some .long), [12, 140, 1, 0, 1608, 58], [(0, .aload_n 0, 1, []), (1, .iload_n 1, 1, []), (2, .invokevirtual 266, 3, []), (5, .lstore_n 2, 1, []), (6, .aload_n 0, 1, []), (7, .aload_n 0, 1, []), (8, .getfield 245, 3, [12, 22, 216]), (11, .invokevirtual 248, 3, []), (14, .bipush 42, 2, []), (16, .invokestatic 207, 3, []), (19, .if_icmp .eq 35, 3, [25]), (22, .aload_n 0, 1, []), (23, .aload_n 0, 1, []), (24, .getfield 245, 3, [12, 22, 216]), (27, .invokevirtual 248, 3, []), (30, .bipush 47, 2, []), (32, .invokestatic 207, 3, []), (35, .if_icmp .eq 19, 3, [25]), (38, .aload_n 0, 1, []), (39, .aload_n 0, 1, []), (40, .getfield 245, 3, [12, 22, 216]), (43, .invokevirtual 248, 3, []), (46, .bipush 37, 2, []), (48, .invokestatic 207, 3, []), (51, .if_icmp .ne 117, 3, [84]), (54, .aload_n 0, 1, []), (55, .aload_n 0, 1, []), (56, .getfield 245, 3, [12, 22, 216]), (59, .invokevirtual 248, 3, []), (62, .istore 4, 2, []), (64, .aload_n 0, 1, []), (65, .dup, 1, []), (66, .getfield 245, 3, [12, 22, 216]), (69, .iconst 1, 1, []), (70, .iadd, 1, []), (71, .putfield 245, 3, [12, 22, 216]), (74, .aload_n 0, 1, []), (75, .iload_n 1, 1, []), (76, .invokevirtual 266, 3, []), (79, .lstore 5, 2, []), (81, .iload 4, 2, []), (83, .bipush 42, 2, []), (85, .invokestatic 207, 3, []), (88, .if_icmp .eq 33, 3, [60]), (91, .lload 5, 2, []), (93, .lconst 0, 1, []), (94, .lcmp, 1, []), (95, .ifCond .ne 26, 3, [60]), (98, .aload_n 0, 1, []), (99, .aload_n 0, 1, []), (100, .getfield 255, 3, [12, 24, 218]), (103, .ifCond .ne 7, 3, [54]), (106, .iload_n 1, 1, []), (107, .ifCond .eq 7, 3, [56]), (110, .iconst 1, 1, []), (111, .goto 4, 3, [57]), (114, .iconst 0, 1, []), (115, .putfield 255, 3, [12, 24, 218]), (118, .lconst 1, 1, []), (119, .lstore 5, 2, []), (121, .aload_n 0, 1, []), (122, .iload 4, 2, []), (124, .bipush 42, 2, []), (126, .invokestatic 207, 3, []), (129, .if_icmp .ne 10, 3, [69]), (132, .lload_n 2, 1, []), (133, .lload 5, 2, []), (135, .lmul, 1, []), (136, .goto 24, 3, [80]), (139, .iload 4, 2, []), (141, .bipush 47, 2, []), (143, .invokestatic 207, 3, []), (146, .if_icmp .ne 10, 3, [77]), (149, .lload_n 2, 1, []), (150, .lload 5, 2, []), (152, .ldiv, 1, []), (153, .goto 7, 3, [80]), (156, .lload_n 2, 1, []), (157, .lload 5, 2, []), (159, .lrem, 1, []), (160, .iload_n 1, 1, []), (161, .invokevirtual 262, 3, []), (164, .lstore_n 2, 1, []), (165, .goto (-159), 3, [4]), (168, .lload_n 2, 1, []), (169, .lreturn, 1, [])])
set_option maxRecDepth 20000 in
theorem ckX12_termOf_0 : ckR mX12_termOf 0 40 = true := by decide +kernel
set_option maxRecDepth 20000 in
theorem ckX12_termOf_1 : ckR mX12_termOf 40 40 = true := by decide +kernel
set_option maxRecDepth 20000 in
theorem ckX12_termOf_2 : ckR mX12_termOf 80 40 = true := by decide +kernel
set_option maxRecDepth 20000 in
theorem okX12_termOf : okC mX12_termOf := ⟨by decide +kernel, memT7 43 rfl rfl, okM.of (n := 3) (Or.inr rfl) (by decide) (fun j hj => by match j, hj with | 0, _ => exact ckX12_termOf_0 | 1, _ => exact ckX12_termOf_1 | 2, _ => exact ckX12_termOf_2 | _ + 3, hj => exact absurd hj (by omega))⟩
set_option maxRecDepth 20000 in
def mX12_partOf : Mt := (yX12_partOf, cX12_partOf, 5, (some .long), [12, 140, 1, 0, 1612, 59], [(0, .aload_n 0, 1, []), (1, .bipush 91, 2, []), (3, .invokestatic 207, 3, []), (6, .invokevirtual 269, 3, []), (9, .ifCond .eq 21, 3, [17]), (12, .aload_n 0, 1, []), (13, .iload_n 1, 1, []), (14, .invokevirtual 272, 3, []), (17, .lstore_n 2, 1, []), (18, .aload_n 0, 1, []), (19, .dup, 1, []), (20, .getfield 245, 3, [12, 22, 216]), (23, .iconst 1, 1, []), (24, .iadd, 1, []), (25, .putfield 245, 3, [12, 22, 216]), (28, .lload_n 2, 1, []), (29, .lreturn, 1, []), (30, .aload_n 0, 1, []), (31, .aload_n 0, 1, []), (32, .getfield 245, 3, [12, 22, 216]), (35, .invokevirtual 248, 3, []), (38, .istore_n 2, 1, []), (39, .iconst 0, 1, []), (40, .istore_n 3, 1, []), (41, .iconst 0, 1, []), (42, .istore 4, 2, []), (44, .aload_n 0, 1, []), (45, .dup, 1, []), (46, .getfield 245, 3, [12, 22, 216]), (49, .iconst 1, 1, []), (50, .iadd, 1, []), (51, .putfield 245, 3, [12, 22, 216]), (54, .iload_n 2, 1, []), (55, .bipush 22, 2, []), (57, .if_icmp .eq 9, 3, [38]), (60, .iload_n 2, 1, []), (61, .bipush 23, 2, []), (63, .if_icmp .ne 27, 3, [52]), (66, .aload_n 0, 1, []), (67, .getfield 24, 3, [12, 2, 196]), (70, .sipush 3022, 3, []), (73, .aload_n 0, 1, []), (74, .getfield 245, 3, [12, 22, 216]), (77, .iadd, 1, []), (78, .iaload, 1, []), (79, .istore_n 3, 1, []), (80, .aload_n 0, 1, []), (81, .dup, 1, []), (82, .getfield 245, 3, [12, 22, 216]), (85, .iconst 1, 1, []), (86, .iadd, 1, []), (87, .putfield 245, 3, [12, 22, 216]), (90, .iload_n 2, 1, []), (91, .bipush 23, 2, []), (93, .if_icmp .ne 28, 3, [69]), (96, .aload_n 0, 1, []), (97, .getfield 24, 3, [12, 2, 196]), (100, .sipush 3022, 3, []), (103, .aload_n 0, 1, []), (104, .getfield 245, 3, [12, 22, 216]), (107, .iadd, 1, []), (108, .iaload, 1, []), (109, .istore 4, 2, []), (111, .aload_n 0, 1, []), (112, .dup, 1, []), (113, .getfield 245, 3, [12, 22, 216]), (116, .iconst 1, 1, []), (117, .iadd, 1, []), (118, .putfield 245, 3, [12, 22, 216]), (121, .iload_n 1, 1, []), (122, .ifCond .eq 10, 3, [74]), (125, .aload_n 0, 1, []), (126, .getfield 255, 3, [12, 24, 218]), (129, .ifCond .eq 5, 3, [76]), (132, .lconst 0, 1, []), (133, .lreturn, 1, []), (134, .iload_n 2, 1, []), (135, .bipush 22, 2, []), (137, .if_icmp .ne 28, 3, [93]), (140, .aload_n 0, 1, []), (141, .iload_n 3, 1, []), (142, .invokevirtual 125, 3, []), (145, .ifCond .eq 16, 3, [91]), (148, .aload_n 0, 1, []), (149, .getfield 24, 3, [12, 2, 196]), (152, .bipush 48, 2, []), (154, .iload_n 3, 1, []), (155, .iadd, 1, []), (156, .iaload, 1, []), (157, .i2l, 1, []), (158, .goto 6, 3, [92]), (161, .ldc2_w 275, 3, []), (164, .lreturn, 1, []), (165, .iload_n 2, 1, []), (166, .bipush 23, 2, []), (168, .if_icmp .ne 35, 3, [112]), (171, .aload_n 0, 1, []), (172, .iload_n 3, 1, []), (173, .invokevirtual 125, 3, []), (176, .ifCond .eq 23, 3, [110]), (179, .aload_n 0, 1, []), (180, .iload 4, 2, []), (182, .invokevirtual 125, 3, []), (185, .ifCond .eq 14, 3, [110]), (188, .aload_n 0, 1, []), (189, .iload_n 3, 1, []), (190, .iload 4, 2, []), (192, .invokevirtual 277, 3, []), (195, .i2l, 1, []), (196, .goto 6, 3, [111]), (199, .ldc2_w 275, 3, []), (202, .lreturn, 1, []), (203, .iload_n 2, 1, []), (204, .bipush 50, 2, []), (206, .if_icmp .ne 22, 3, [126]), (209, .aload_n 0, 1, []), (210, .getfield 24, 3, [12, 2, 196]), (213, .sipush 3022, 3, []), (216, .aload_n 0, 1, []), (217, .getfield 245, 3, [12, 22, 216]), (220, .iadd, 1, []), (221, .iconst 1, 1, []), (222, .isub, 1, []), (223, .iaload, 1, []), (224, .i2l, 1, []), (225, .goto 15, 3, [134]), (228, .aload_n 0, 1, []), (229, .getfield 59, 3, [12, 26, 219]), (232, .iload_n 2, 1, []), (233, .aload_n 0, 1, []), (234, .getfield 217, 3, [12, 8, 202]), (237, .isub, 1, []), (238, .iaload, 1, []), (239, .i2l, 1, []), (240, .lreturn, 1, [])])
set_option maxRecDepth 20000 in
theorem ckX12_partOf_0 : ckR mX12_partOf 0 40 = true := by decide +kernel
set_option maxRecDepth 20000 in
theorem ckX12_partOf_1 : ckR mX12_partOf 40 40 = true := by decide +kernel
set_option maxRecDepth 20000 in
theorem ckX12_partOf_2 : ckR mX12_partOf 80 40 = true := by decide +kernel
set_option maxRecDepth 20000 in
theorem ckX12_partOf_3 : ckR mX12_partOf 120 40 = true := by decide +kernel
set_option maxRecDepth 20000 in
theorem okX12_partOf : okC mX12_partOf := ⟨by decide +kernel, memT7 47 rfl rfl, okM.of (n := 4) (Or.inr rfl) (by decide) (fun j hj => by match j, hj with | 0, _ => exact ckX12_partOf_0 | 1, _ => exact ckX12_partOf_1 | 2, _ => exact ckX12_partOf_2 | 3, _ => exact ckX12_partOf_3 | _ + 4, hj => exact absurd hj (by omega))⟩
set_option maxRecDepth 20000 in
def mX12_testOf : Mt := (yX12_testOf, cX12_testOf, 4, (some .boolean), [12, 140, 1, 0, 1639, 64], [(0, .aload_n 0, 1, []), (1, .iload_n 1, 1, []), (2, .invokevirtual 280, 3, []), (5, .istore_n 2, 1, []), (6, .aload_n 0, 1, []), (7, .iconst 5, 1, []), (8, .invokevirtual 269, 3, []), (11, .ifCond .eq 38, 3, [27]), (14, .aload_n 0, 1, []), (15, .iload_n 1, 1, []), (16, .ifCond .eq 11, 3, [15]), (19, .iload_n 2, 1, []), (20, .ifCond .ne 7, 3, [15]), (23, .iconst 1, 1, []), (24, .goto 4, 3, [16]), (27, .iconst 0, 1, []), (28, .invokevirtual 280, 3, []), (31, .istore_n 3, 1, []), (32, .iload_n 2, 1, []), (33, .ifCond .ne 7, 3, [22]), (36, .iload_n 3, 1, []), (37, .ifCond .eq 7, 3, [24]), (40, .iconst 1, 1, []), (41, .goto 4, 3, [25]), (44, .iconst 0, 1, []), (45, .istore_n 2, 1, []), (46, .goto (-40), 3, [4]), (49, .iload_n 2, 1, []), (50, .ireturn, 1, [])])
set_option maxRecDepth 20000 in
theorem ckX12_testOf_0 : ckR mX12_testOf 0 40 = true := by decide +kernel
set_option maxRecDepth 20000 in
theorem okX12_testOf : okC mX12_testOf := ⟨by decide +kernel, memT7 74 rfl rfl, okM.of (n := 1) (Or.inr rfl) (by decide) (fun j hj => by match j, hj with | 0, _ => exact ckX12_testOf_0 | _ + 1, hj => exact absurd hj (by omega))⟩
set_option maxRecDepth 20000 in
def mX12_bothOf : Mt := (yX12_bothOf, cX12_bothOf, 4, (some .boolean), [12, 140, 1, 0, 1643, 65], [(0, .aload_n 0, 1, []), (1, .iload_n 1, 1, []), (2, .invokevirtual 283, 3, []), (5, .istore_n 2, 1, []), (6, .aload_n 0, 1, []), (7, .bipush 6, 2, []), (9, .invokevirtual 269, 3, []), (12, .ifCond .eq 38, 3, [27]), (15, .aload_n 0, 1, []), (16, .iload_n 1, 1, []), (17, .ifCond .eq 11, 3, [15]), (20, .iload_n 2, 1, []), (21, .ifCond .eq 7, 3, [15]), (24, .iconst 1, 1, []), (25, .goto 4, 3, [16]), (28, .iconst 0, 1, []), (29, .invokevirtual 283, 3, []), (32, .istore_n 3, 1, []), (33, .iload_n 2, 1, []), (34, .ifCond .eq 11, 3, [24]), (37, .iload_n 3, 1, []), (38, .ifCond .eq 7, 3, [24]), (41, .iconst 1, 1, []), (42, .goto 4, 3, [25]), (45, .iconst 0, 1, []), (46, .istore_n 2, 1, []), (47, .goto (-41), 3, [4]), (50, .iload_n 2, 1, []), (51, .ireturn, 1, [])])
set_option maxRecDepth 20000 in
theorem ckX12_bothOf_0 : ckR mX12_bothOf 0 40 = true := by decide +kernel
set_option maxRecDepth 20000 in
theorem okX12_bothOf : okC mX12_bothOf := ⟨by decide +kernel, memT7 78 rfl rfl, okM.of (n := 1) (Or.inr rfl) (by decide) (fun j hj => by match j, hj with | 0, _ => exact ckX12_bothOf_0 | _ + 1, hj => exact absurd hj (by omega))⟩
set_option maxRecDepth 20000 in
def mX12_plainOf : Mt := (yX12_plainOf, cX12_plainOf, 3, (some .boolean), [12, 140, 1, 0, 1647, 66], [(0, .iconst 0, 1, []), (1, .istore_n 2, 1, []), (2, .aload_n 0, 1, []), (3, .bipush 7, 2, []), (5, .invokevirtual 269, 3, []), (8, .ifCond .eq 16, 3, [13]), (11, .iload_n 2, 1, []), (12, .ifCond .ne 7, 3, [10]), (15, .iconst 1, 1, []), (16, .goto 4, 3, [11]), (19, .iconst 0, 1, []), (20, .istore_n 2, 1, []), (21, .goto (-19), 3, [2]), (24, .aload_n 0, 1, []), (25, .iload_n 1, 1, []), (26, .invokevirtual 286, 3, []), (29, .iload_n 2, 1, []), (30, .if_icmp .eq 7, 3, [20]), (33, .iconst 1, 1, []), (34, .goto 4, 3, [21]), (37, .iconst 0, 1, []), (38, .ireturn, 1, [])])
set_option maxRecDepth 20000 in
theorem ckX12_plainOf_0 : ckR mX12_plainOf 0 40 = true := by decide +kernel
set_option maxRecDepth 20000 in
theorem okX12_plainOf : okC mX12_plainOf := ⟨by decide +kernel, memT7 82 rfl rfl, okM.of (n := 1) (Or.inr rfl) (by decide) (fun j hj => by match j, hj with | 0, _ => exact ckX12_plainOf_0 | _ + 1, hj => exact absurd hj (by omega))⟩
set_option maxRecDepth 20000 in
def mX12_positiveOf : Mt := (yX12_positiveOf, cX12_positiveOf, 7, (some .boolean), [12, 140, 1, 0, 1651, 67], [(0, .aload_n 0, 1, []), (1, .bipush 40, 2, []), (3, .invokestatic 207, 3, []), (6, .invokevirtual 269, 3, []), (9, .ifCond .eq 21, 3, [17]), (12, .aload_n 0, 1, []), (13, .iload_n 1, 1, []), (14, .invokevirtual 289, 3, []), (17, .istore_n 2, 1, []), (18, .aload_n 0, 1, []), (19, .dup, 1, []), (20, .getfield 245, 3, [12, 22, 216]), (23, .iconst 1, 1, []), (24, .iadd, 1, []), (25, .putfield 245, 3, [12, 22, 216]), (28, .iload_n 2, 1, []), (29, .ireturn, 1, []), (30, .aload_n 0, 1, []), (31, .iload_n 1, 1, []), (32, .invokevirtual 272, 3, []), (35, .lstore_n 2, 1, []), (36, .aload_n 0, 1, []), (37, .aload_n 0, 1, []), (38, .getfield 245, 3, [12, 22, 216]), (41, .invokevirtual 248, 3, []), (44, .istore 4, 2, []), (46, .aload_n 0, 1, []), (47, .dup, 1, []), (48, .getfield 245, 3, [12, 22, 216]), (51, .iconst 1, 1, []), (52, .iadd, 1, []), (53, .putfield 245, 3, [12, 22, 216]), (56, .aload_n 0, 1, []), (57, .iload_n 1, 1, []), (58, .invokevirtual 272, 3, []), (61, .lstore 5, 2, []), (63, .iload_n 1, 1, []), (64, .ifCond .eq 61, 3, [65]), (67, .aload_n 0, 1, []), (68, .getfield 255, 3, [12, 24, 218]), (71, .ifCond .ne 54, 3, [65]), (74, .iload 4, 2, []), (76, .bipush 60, 2, []), (78, .invokestatic 207, 3, []), (81, .if_icmp .ne 13, 3, [50]), (84, .lload_n 2, 1, []), (85, .lload 5, 2, []), (87, .lcmp, 1, []), (88, .ifCond .ge 37, 3, [65]), (91, .goto 30, 3, [63]), (94, .iload 4, 2, []), (96, .bipush 62, 2, []), (98, .invokestatic 207, 3, []), (101, .if_icmp .ne 13, 3, [59]), (104, .lload_n 2, 1, []), (105, .lload 5, 2, []), (107, .lcmp, 1, []), (108, .ifCond .le 17, 3, [65]), (111, .goto 10, 3, [63]), (114, .lload_n 2, 1, []), (115, .lload 5, 2, []), (117, .lcmp, 1, []), (118, .ifCond .ne 7, 3, [65]), (121, .iconst 1, 1, []), (122, .goto 4, 3, [66]), (125, .iconst 0, 1, []), (126, .ireturn, 1, [])])
set_option maxRecDepth 20000 in
theorem ckX12_positiveOf_0 : ckR mX12_positiveOf 0 40 = true := by decide +kernel
set_option maxRecDepth 20000 in
theorem ckX12_positiveOf_1 : ckR mX12_positiveOf 40 40 = true := by decide +kernel
set_option maxRecDepth 20000 in
theorem okX12_positiveOf : okC mX12_positiveOf := ⟨by decide +kernel, memT7 86 rfl rfl, okM.of (n := 2) (Or.inr rfl) (by decide) (fun j hj => by match j, hj with | 0, _ => exact ckX12_positiveOf_0 | 1, _ => exact ckX12_positiveOf_1 | _ + 2, hj => exact absurd hj (by omega))⟩
set_option maxRecDepth 20000 in
def mX12_sets : Mt := (yX12_sets, cX12_sets, 4, none, [12, 140, 3, 0, 1592, 54], [(0, .aload_n 0, 1, []), (1, .getfield 59, 3, [12, 26, 219]), (4, .iconst 0, 1, []), (5, .aload_n 0, 1, []), (6, .iload_n 1, 1, []), (7, .iconst 1, 1, []), (8, .invokevirtual 129, 3, []), (11, .iastore, 1, []), (12, .aload_n 0, 1, []), (13, .getfield 59, 3, [12, 26, 219]), (16, .iconst 1, 1, []), (17, .aload_n 0, 1, []), (18, .iload_n 1, 1, []), (19, .iconst 2, 1, []), (20, .invokevirtual 129, 3, []), (23, .iastore, 1, []), (24, .aload_n 0, 1, []), (25, .getfield 59, 3, [12, 26, 219]), (28, .iconst 2, 1, []), (29, .aload_n 0, 1, []), (30, .iload_n 1, 1, []), (31, .iconst 3, 1, []), (32, .invokevirtual 129, 3, []), (35, .iastore, 1, []), (36, .aload_n 0, 1, []), (37, .getfield 59, 3, [12, 26, 219]), (40, .iconst 3, 1, []), (41, .aload_n 0, 1, []), (42, .iload_n 1, 1, []), (43, .iconst 4, 1, []), (44, .invokevirtual 129, 3, []), (47, .iastore, 1, []), (48, .aload_n 0, 1, []), (49, .getfield 59, 3, [12, 26, 219]), (52, .iconst 4, 1, []), (53, .aload_n 0, 1, []), (54, .iload_n 1, 1, []), (55, .iconst 5, 1, []), (56, .invokevirtual 129, 3, []), (59, .iastore, 1, []), (60, .aload_n 0, 1, []), (61, .getfield 59, 3, [12, 26, 219]), (64, .iconst 5, 1, []), (65, .aload_n 0, 1, []), (66, .iload_n 1, 1, []), (67, .iconst 0, 1, []), (68, .invokevirtual 129, 3, []), (71, .iastore, 1, []), (72, .aload_n 0, 1, []), (73, .getfield 59, 3, [12, 26, 219]), (76, .bipush 6, 2, []), (78, .iload_n 2, 1, []), (79, .iastore, 1, []), (80, .aload_n 0, 1, []), (81, .getfield 59, 3, [12, 26, 219]), (84, .bipush 7, 2, []), (86, .iload_n 3, 1, []), (87, .iastore, 1, []), (88, .aload_n 0, 1, []), (89, .getfield 59, 3, [12, 26, 219]), (92, .bipush 8, 2, []), (94, .aload_n 0, 1, []), (95, .getfield 24, 3, [12, 2, 196]), (98, .sipush 206, 3, []), (101, .iaload, 1, []), (102, .iastore, 1, []), (103, .aload_n 0, 1, []), (104, .getfield 59, 3, [12, 26, 219]), (107, .bipush 9, 2, []), (109, .aload_n 0, 1, []), (110, .getfield 24, 3, [12, 2, 196]), (113, .sipush 209, 3, []), (116, .iaload, 1, []), (117, .iastore, 1, []), (118, .return_, 1, [])])
set_option maxRecDepth 20000 in
theorem ckX12_sets_0 : ckR mX12_sets 0 40 = true := by decide +kernel
set_option maxRecDepth 20000 in
theorem ckX12_sets_1 : ckR mX12_sets 40 40 = true := by decide +kernel
set_option maxRecDepth 20000 in
theorem okX12_sets : okC mX12_sets := ⟨by decide +kernel, memT7 27 rfl rfl, okM.of (n := 2) (Or.inr rfl) (by decide) (fun j hj => by match j, hj with | 0, _ => exact ckX12_sets_0 | 1, _ => exact ckX12_sets_1 | _ + 2, hj => exact absurd hj (by omega))⟩
set_option maxRecDepth 20000 in
def mX12_tells : Mt := (yX12_tells, cX12_tells, 11, (some .int), [12, 140, 3, 0, 1596, 55], [(0, .aload_n 0, 1, []), (1, .getfield 24, 3, [12, 2, 196]), (4, .sipush 214, 3, []), (7, .iaload, 1, []), (8, .iconst (-1), 1, []), (9, .if_icmp .ne 5, 3, [8]), (12, .iload_n 3, 1, []), (13, .ireturn, 1, []), (14, .aload_n 0, 1, []), (15, .bipush 8, 2, []), (17, .putfield 217, 3, [12, 8, 202]), (20, .iload_n 3, 1, []), (21, .i2l, 1, []), (22, .lstore 4, 2, []), (24, .aload_n 0, 1, []), (25, .sipush 400, 3, []), (28, .aload_n 0, 1, []), (29, .getfield 24, 3, [12, 2, 196]), (32, .sipush 214, 3, []), (35, .iaload, 1, []), (36, .imul, 1, []), (37, .putfield 245, 3, [12, 22, 216]), (40, .aload_n 0, 1, []), (41, .aload_n 0, 1, []), (42, .getfield 245, 3, [12, 22, 216]), (45, .aload_n 0, 1, []), (46, .getfield 24, 3, [12, 2, 196]), (49, .sipush 215, 3, []), (52, .aload_n 0, 1, []), (53, .getfield 24, 3, [12, 2, 196]), (56, .sipush 214, 3, []), (59, .iaload, 1, []), (60, .iadd, 1, []), (61, .iaload, 1, []), (62, .iadd, 1, []), (63, .putfield 242, 3, [12, 23, 217]), (66, .aload_n 0, 1, []), (67, .getfield 245, 3, [12, 22, 216]), (70, .aload_n 0, 1, []), (71, .getfield 242, 3, [12, 23, 217]), (74, .if_icmp .ge 143, 3, [115]), (77, .aload_n 0, 1, []), (78, .aload_n 0, 1, []), (79, .getfield 245, 3, [12, 22, 216]), (82, .invokevirtual 248, 3, []), (85, .istore 6, 2, []), (87, .aload_n 0, 1, []), (88, .iconst 0, 1, []), (89, .putfield 255, 3, [12, 24, 218]), (92, .aload_n 0, 1, []), (93, .dup, 1, []), (94, .getfield 245, 3, [12, 22, 216]), (97, .iconst 1, 1, []), (98, .iadd, 1, []), (99, .putfield 245, 3, [12, 22, 216]), (102, .iload 6, 2, []), (104, .iconst 3, 1, []), (105, .if_icmp .ne 7, 3, [60]), (108, .lconst 1, 1, []), (109, .goto 8, 3, [63]), (112, .aload_n 0, 1, []), (113, .iconst 1, 1, []), (114, .invokevirtual 272, 3, []), (117, .lstore 7, 2, []), (119, .aload_n 0, 1, []), (120, .getfield 255, 3, [12, 24, 218]), (123, .istore 9, 2, []), (125, .aload_n 0, 1, []), (126, .iconst 0, 1, []), (127, .putfield 255, 3, [12, 24, 218]), (130, .aload_n 0, 1, []), (131, .iconst 4, 1, []), (132, .invokevirtual 269, 3, []), (135, .ifCond .eq 11, 3, [78]), (138, .aload_n 0, 1, []), (139, .iconst 1, 1, []), (140, .invokevirtual 289, 3, []), (143, .ifCond .eq 7, 3, [80]), (146, .iconst 1, 1, []), (147, .goto 4, 3, [81]), (150, .iconst 0, 1, []), (151, .istore 10, 2, []), (153, .iload 6, 2, []), (155, .iload_n 1, 1, []), (156, .if_icmp .ne 48, 3, [108]), (159, .iload 10, 2, []), (161, .ifCond .eq 43, 3, [108]), (164, .aload_n 0, 1, []), (165, .getfield 255, 3, [12, 24, 218]), (168, .ifCond .ne 36, 3, [108]), (171, .iload 9, 2, []), (173, .ifCond .ne 31, 3, [108]), (176, .lload 7, 2, []), (178, .lconst 0, 1, []), (179, .lcmp, 1, []), (180, .ifCond .ge 7, 3, [98]), (183, .lconst 0, 1, []), (184, .goto 18, 3, [107]), (187, .lload 7, 2, []), (189, .iload_n 2, 1, []), (190, .i2l, 1, []), (191, .lcmp, 1, []), (192, .ifCond .le 8, 3, [106]), (195, .iload_n 2, 1, []), (196, .i2l, 1, []), (197, .goto 5, 3, [107]), (200, .lload 7, 2, []), (202, .lstore 4, 2, []), (204, .aload_n 0, 1, []), (205, .dup, 1, []), (206, .getfield 245, 3, [12, 22, 216]), (209, .iconst 1, 1, []), (210, .iadd, 1, []), (211, .putfield 245, 3, [12, 22, 216]), (214, .goto (-148), 3, [36]), (217, .lload 4, 2, []), (219, .l2i, 1, []), (220, .ireturn, 1, [])])
set_option maxRecDepth 20000 in
theorem ckX12_tells_0 : ckR mX12_tells 0 40 = true := by decide +kernel
set_option maxRecDepth 20000 in
theorem ckX12_tells_1 : ckR mX12_tells 40 40 = true := by decide +kernel
set_option maxRecDepth 20000 in
theorem ckX12_tells_2 : ckR mX12_tells 80 40 = true := by decide +kernel
set_option maxRecDepth 20000 in
theorem okX12_tells : okC mX12_tells := ⟨by decide +kernel, memT7 31 rfl rfl, okM.of (n := 3) (Or.inr rfl) (by decide) (fun j hj => by match j, hj with | 0, _ => exact ckX12_tells_0 | 1, _ => exact ckX12_tells_1 | 2, _ => exact ckX12_tells_2 | _ + 3, hj => exact absurd hj (by omega))⟩
set_option maxRecDepth 20000 in
def mX12_priceOf : Mt := (yX12_priceOf, cX12_priceOf, 3, (some .int), [12, 140, 2, 0, 1862, 101], [(0, .aload_n 0, 1, []), (1, .iload_n 1, 1, []), (2, .aload_n 0, 1, []), (3, .iload_n 2, 1, []), (4, .iconst 1, 1, []), (5, .invokevirtual 129, 3, []), (8, .aload_n 0, 1, []), (9, .iload_n 1, 1, []), (10, .iconst 1, 1, []), (11, .invokevirtual 129, 3, []), (14, .isub, 1, []), (15, .aload_n 0, 1, []), (16, .iload_n 2, 1, []), (17, .iconst 5, 1, []), (18, .invokevirtual 129, 3, []), (21, .invokevirtual 292, 3, []), (24, .aload_n 0, 1, []), (25, .iconst 1, 1, []), (26, .sipush 9999, 3, []), (29, .bipush 100, 2, []), (31, .bipush 100, 2, []), (33, .aload_n 0, 1, []), (34, .iload_n 1, 1, []), (35, .iconst 3, 1, []), (36, .invokevirtual 129, 3, []), (39, .imul, 1, []), (40, .iadd, 1, []), (41, .invokevirtual 296, 3, []), (44, .ireturn, 1, [])])
set_option maxRecDepth 20000 in
theorem ckX12_priceOf_0 : ckR mX12_priceOf 0 40 = true := by decide +kernel
set_option maxRecDepth 20000 in
theorem okX12_priceOf : okC mX12_priceOf := ⟨by decide +kernel, memT8 57 rfl rfl, okM.of (n := 1) (Or.inr rfl) (by decide) (fun j hj => by match j, hj with | 0, _ => exact ckX12_priceOf_0 | _ + 1, hj => exact absurd hj (by omega))⟩
set_option maxRecDepth 20000 in
def mX12_isBarred : Mt := (yX12_isBarred, cX12_isBarred, 3, (some .boolean), [12, 140, 2, 0, 1866, 102], [(0, .aload_n 0, 1, []), (1, .iload_n 1, 1, []), (2, .aload_n 0, 1, []), (3, .iload_n 2, 1, []), (4, .iconst 1, 1, []), (5, .invokevirtual 129, 3, []), (8, .aload_n 0, 1, []), (9, .iload_n 1, 1, []), (10, .iconst 1, 1, []), (11, .invokevirtual 129, 3, []), (14, .isub, 1, []), (15, .aload_n 0, 1, []), (16, .iload_n 2, 1, []), (17, .iconst 5, 1, []), (18, .invokevirtual 129, 3, []), (21, .invokevirtual 292, 3, []), (24, .aload_n 0, 1, []), (25, .iconst 3, 1, []), (26, .iconst 1, 1, []), (27, .iconst 0, 1, []), (28, .invokevirtual 296, 3, []), (31, .iconst 1, 1, []), (32, .if_icmp .ne 7, 3, [25]), (35, .iconst 1, 1, []), (36, .goto 4, 3, [26]), (39, .iconst 0, 1, []), (40, .ireturn, 1, [])])
set_option maxRecDepth 20000 in
theorem ckX12_isBarred_0 : ckR mX12_isBarred 0 40 = true := by decide +kernel
set_option maxRecDepth 20000 in
theorem okX12_isBarred : okC mX12_isBarred := ⟨by decide +kernel, memT8 61 rfl rfl, okM.of (n := 1) (Or.inr rfl) (by decide) (fun j hj => by match j, hj with | 0, _ => exact ckX12_isBarred_0 | _ + 1, hj => exact absurd hj (by omega))⟩
set_option maxRecDepth 20000 in
def mX12_rankOf : Mt := (yX12_rankOf, cX12_rankOf, 2, (some .int), [12, 140, 1, 0, 1588, 53], [(0, .aload_n 0, 1, []), (1, .iload_n 1, 1, []), (2, .iconst (-1), 1, []), (3, .iconst (-1), 1, []), (4, .invokevirtual 292, 3, []), (7, .aload_n 0, 1, []), (8, .iconst 2, 1, []), (9, .bipush 99, 2, []), (11, .aload_n 0, 1, []), (12, .iload_n 1, 1, []), (13, .iconst 3, 1, []), (14, .invokevirtual 129, 3, []), (17, .invokevirtual 296, 3, []), (20, .ireturn, 1, [])])
set_option maxRecDepth 20000 in
theorem ckX12_rankOf_0 : ckR mX12_rankOf 0 40 = true := by decide +kernel
set_option maxRecDepth 20000 in
theorem okX12_rankOf : okC mX12_rankOf := ⟨by decide +kernel, memT7 23 rfl rfl, okM.of (n := 1) (Or.inr rfl) (by decide) (fun j hj => by match j, hj with | 0, _ => exact ckX12_rankOf_0 | _ + 1, hj => exact absurd hj (by omega))⟩
set_option maxRecDepth 20000 in
def mX12_lineOf : Mt := (yX12_lineOf, cX12_lineOf, 7, (some .int), [12, 140, 1, 0, 1800, 90], [(0, .iconst 0, 1, []), (1, .istore_n 2, 1, []), (2, .iconst 1, 1, []), (3, .iload_n 1, 1, []), (4, .ishl, 1, []), (5, .istore_n 3, 1, []), (6, .iload_n 3, 1, []), (7, .ifCond .eq 93, 3, [59]), (10, .iconst 0, 1, []), (11, .istore 4, 2, []), (13, .iload_n 3, 1, []), (14, .iload 4, 2, []), (16, .invokestatic 300, 3, []), (19, .ifCond .ne 9, 3, [16]), (22, .iinc 4 1, 3, []), (25, .goto (-12), 3, [10]), (28, .iload_n 3, 1, []), (29, .iconst 1, 1, []), (30, .iload 4, 2, []), (32, .ishl, 1, []), (33, .iconst (-1), 1, []), (34, .ixor, 1, []), (35, .iand, 1, []), (36, .istore_n 3, 1, []), (37, .iconst 0, 1, []), (38, .istore 5, 2, []), (40, .iload 5, 2, []), (42, .bipush 16, 2, []), (44, .if_icmp .gt 53, 3, [58]), (47, .aload_n 0, 1, []), (48, .getfield 24, 3, [12, 2, 196]), (51, .iload 5, 2, []), (53, .iload 4, 2, []), (55, .iadd, 1, []), (56, .iaload, 1, []), (57, .istore 6, 2, []), (59, .iload 6, 2, []), (61, .iconst (-1), 1, []), (62, .if_icmp .eq 29, 3, [56]), (65, .iload_n 2, 1, []), (66, .iload 6, 2, []), (68, .invokestatic 300, 3, []), (71, .ifCond .eq 6, 3, [44]), (74, .goto 17, 3, [56]), (77, .iload_n 2, 1, []), (78, .iconst 1, 1, []), (79, .iload 6, 2, []), (81, .ishl, 1, []), (82, .ior, 1, []), (83, .istore_n 2, 1, []), (84, .iload_n 3, 1, []), (85, .iconst 1, 1, []), (86, .iload 6, 2, []), (88, .ishl, 1, []), (89, .ior, 1, []), (90, .istore_n 3, 1, []), (91, .iinc 5 16, 3, []), (94, .goto (-54), 3, [26]), (97, .goto (-91), 3, [6]), (100, .iload_n 2, 1, []), (101, .ireturn, 1, [])])
set_option maxRecDepth 20000 in
theorem ckX12_lineOf_0 : ckR mX12_lineOf 0 40 = true := by decide +kernel
set_option maxRecDepth 20000 in
theorem ckX12_lineOf_1 : ckR mX12_lineOf 40 40 = true := by decide +kernel
set_option maxRecDepth 20000 in
theorem okX12_lineOf : okC mX12_lineOf := ⟨by decide +kernel, memT7 235 rfl rfl, okM.of (n := 2) (Or.inr rfl) (by decide) (fun j hj => by match j, hj with | 0, _ => exact ckX12_lineOf_0 | 1, _ => exact ckX12_lineOf_1 | _ + 2, hj => exact absurd hj (by omega))⟩
set_option maxRecDepth 20000 in
def mX12_climbs : Mt := (yX12_climbs, cX12_climbs, 7, none, [12, 140, 2, 0, 1628, 62], [(0, .iconst 0, 1, []), (1, .istore_n 3, 1, []), (2, .iload_n 3, 1, []), (3, .bipush 16, 2, []), (5, .if_icmp .ge 14, 3, [11]), (8, .aload_n 2, 1, []), (9, .iload_n 3, 1, []), (10, .ldc 157, 2, []), (12, .iastore, 1, []), (13, .iinc 3 1, 3, []), (16, .goto (-14), 3, [2]), (19, .aload_n 2, 1, []), (20, .iload_n 1, 1, []), (21, .iconst 0, 1, []), (22, .iastore, 1, []), (23, .aload_n 0, 1, []), (24, .getfield 68, 3, [12, 29, 222]), (27, .iconst 0, 1, []), (28, .iload_n 1, 1, []), (29, .iastore, 1, []), (30, .iconst 1, 1, []), (31, .istore_n 3, 1, []), (32, .iconst 0, 1, []), (33, .istore 4, 2, []), (35, .iload 4, 2, []), (37, .iload_n 3, 1, []), (38, .if_icmp .ge 86, 3, [72]), (41, .iconst 0, 1, []), (42, .istore 5, 2, []), (44, .iload 5, 2, []), (46, .bipush 16, 2, []), (48, .if_icmp .gt 70, 3, [70]), (51, .aload_n 0, 1, []), (52, .getfield 24, 3, [12, 2, 196]), (55, .iload 5, 2, []), (57, .aload_n 0, 1, []), (58, .getfield 68, 3, [12, 29, 222]), (61, .iload 4, 2, []), (63, .iaload, 1, []), (64, .iadd, 1, []), (65, .iaload, 1, []), (66, .istore 6, 2, []), (68, .iload 6, 2, []), (70, .iconst (-1), 1, []), (71, .if_icmp .eq 41, 3, [68]), (74, .aload_n 2, 1, []), (75, .iload 6, 2, []), (77, .iaload, 1, []), (78, .ldc 157, 2, []), (80, .if_icmp .ge 6, 3, [51]), (83, .goto 29, 3, [68]), (86, .aload_n 2, 1, []), (87, .iload 6, 2, []), (89, .aload_n 2, 1, []), (90, .aload_n 0, 1, []), (91, .getfield 68, 3, [12, 29, 222]), (94, .iload 4, 2, []), (96, .iaload, 1, []), (97, .iaload, 1, []), (98, .iconst 1, 1, []), (99, .iadd, 1, []), (100, .iastore, 1, []), (101, .aload_n 0, 1, []), (102, .getfield 68, 3, [12, 29, 222]), (105, .iload_n 3, 1, []), (106, .iload 6, 2, []), (108, .iastore, 1, []), (109, .iinc 3 1, 3, []), (112, .iinc 5 16, 3, []), (115, .goto (-71), 3, [29]), (118, .iinc 4 1, 3, []), (121, .goto (-86), 3, [24]), (124, .return_, 1, [])])
set_option maxRecDepth 20000 in
theorem ckX12_climbs_0 : ckR mX12_climbs 0 40 = true := by decide +kernel
set_option maxRecDepth 20000 in
theorem ckX12_climbs_1 : ckR mX12_climbs 40 40 = true := by decide +kernel
set_option maxRecDepth 20000 in
theorem okX12_climbs : okC mX12_climbs := ⟨by decide +kernel, memT7 63 rfl rfl, okM.of (n := 2) (Or.inr rfl) (by decide) (fun j hj => by match j, hj with | 0, _ => exact ckX12_climbs_0 | 1, _ => exact ckX12_climbs_1 | _ + 2, hj => exact absurd hj (by omega))⟩
set_option maxRecDepth 20000 in
def mX12_kinFar : Mt := (yX12_kinFar, cX12_kinFar, 4, (some .int), [12, 140, 2, 0, 1624, 61], [(0, .aload_n 0, 1, []), (1, .iload_n 1, 1, []), (2, .aload_n 0, 1, []), (3, .getfield 62, 3, [12, 27, 220]), (6, .invokevirtual 303, 3, []), (9, .aload_n 0, 1, []), (10, .iload_n 2, 1, []), (11, .aload_n 0, 1, []), (12, .getfield 65, 3, [12, 28, 221]), (15, .invokevirtual 303, 3, []), (18, .aload_n 0, 1, []), (19, .iconst (-1), 1, []), (20, .putfield 307, 3, [12, 30, 223]), (23, .iconst 0, 1, []), (24, .istore_n 3, 1, []), (25, .iload_n 3, 1, []), (26, .aload_n 0, 1, []), (27, .invokevirtual 109, 3, []), (30, .if_icmp .ge 79, 3, [61]), (33, .aload_n 0, 1, []), (34, .getfield 62, 3, [12, 27, 220]), (37, .iload_n 3, 1, []), (38, .iaload, 1, []), (39, .ldc 157, 2, []), (41, .if_icmp .ge 62, 3, [59]), (44, .aload_n 0, 1, []), (45, .getfield 65, 3, [12, 28, 221]), (48, .iload_n 3, 1, []), (49, .iaload, 1, []), (50, .ldc 157, 2, []), (52, .if_icmp .ge 51, 3, [59]), (55, .aload_n 0, 1, []), (56, .getfield 307, 3, [12, 30, 223]), (59, .iconst (-1), 1, []), (60, .if_icmp .eq 38, 3, [56]), (63, .aload_n 0, 1, []), (64, .getfield 62, 3, [12, 27, 220]), (67, .iload_n 3, 1, []), (68, .iaload, 1, []), (69, .aload_n 0, 1, []), (70, .getfield 65, 3, [12, 28, 221]), (73, .iload_n 3, 1, []), (74, .iaload, 1, []), (75, .iadd, 1, []), (76, .aload_n 0, 1, []), (77, .getfield 62, 3, [12, 27, 220]), (80, .aload_n 0, 1, []), (81, .getfield 307, 3, [12, 30, 223]), (84, .iaload, 1, []), (85, .aload_n 0, 1, []), (86, .getfield 65, 3, [12, 28, 221]), (89, .aload_n 0, 1, []), (90, .getfield 307, 3, [12, 30, 223]), (93, .iaload, 1, []), (94, .iadd, 1, []), (95, .if_icmp .ge 8, 3, [59]), (98, .aload_n 0, 1, []), (99, .iload_n 3, 1, []), (100, .putfield 307, 3, [12, 30, 223]), (103, .iinc 3 1, 3, []), (106, .goto (-81), 3, [15]), (109, .aload_n 0, 1, []), (110, .getfield 307, 3, [12, 30, 223]), (113, .iconst (-1), 1, []), (114, .if_icmp .ne 7, 3, [67]), (117, .iconst (-1), 1, []), (118, .goto 22, 3, [78]), (121, .aload_n 0, 1, []), (122, .getfield 62, 3, [12, 27, 220]), (125, .aload_n 0, 1, []), (126, .getfield 307, 3, [12, 30, 223]), (129, .iaload, 1, []), (130, .aload_n 0, 1, []), (131, .getfield 65, 3, [12, 28, 221]), (134, .aload_n 0, 1, []), (135, .getfield 307, 3, [12, 30, 223]), (138, .iaload, 1, []), (139, .iadd, 1, []), (140, .ireturn, 1, [])])
set_option maxRecDepth 20000 in
theorem ckX12_kinFar_0 : ckR mX12_kinFar 0 40 = true := by decide +kernel
set_option maxRecDepth 20000 in
theorem ckX12_kinFar_1 : ckR mX12_kinFar 40 40 = true := by decide +kernel
set_option maxRecDepth 20000 in
theorem okX12_kinFar : okC mX12_kinFar := ⟨by decide +kernel, memT7 59 rfl rfl, okM.of (n := 2) (Or.inr rfl) (by decide) (fun j hj => by match j, hj with | 0, _ => exact ckX12_kinFar_0 | 1, _ => exact ckX12_kinFar_1 | _ + 2, hj => exact absurd hj (by omega))⟩
set_option maxRecDepth 20000 in
def mX12_areTwo : Mt := (yX12_areTwo, cX12_areTwo, 3, (some .boolean), [12, 140, 2, 0, 1858, 100], [(0, .aload_n 0, 1, []), (1, .iload_n 1, 1, []), (2, .invokevirtual 125, 3, []), (5, .ifCond .eq 20, 3, [13]), (8, .aload_n 0, 1, []), (9, .iload_n 2, 1, []), (10, .invokevirtual 125, 3, []), (13, .ifCond .eq 12, 3, [13]), (16, .iload_n 1, 1, []), (17, .iload_n 2, 1, []), (18, .if_icmp .eq 7, 3, [13]), (21, .iconst 1, 1, []), (22, .goto 4, 3, [14]), (25, .iconst 0, 1, []), (26, .ireturn, 1, [])])
set_option maxRecDepth 20000 in
theorem ckX12_areTwo_0 : ckR mX12_areTwo 0 40 = true := by decide +kernel
set_option maxRecDepth 20000 in
theorem okX12_areTwo : okC mX12_areTwo := ⟨by decide +kernel, memT8 53 rfl rfl, okM.of (n := 1) (Or.inr rfl) (by decide) (fun j hj => by match j, hj with | 0, _ => exact ckX12_areTwo_0 | _ + 1, hj => exact absurd hj (by omega))⟩
set_option maxRecDepth 20000 in
def mX12_kin : Mt := (yX12_kin, cX12_kin, 5, (some .int), [12, 140, 3, 0, 1779, 1780], [(0, .aload_n 0, 1, []), (1, .iload_n 1, 1, []), (2, .invokevirtual 125, 3, []), (5, .ifCond .eq 20, 3, [13]), (8, .aload_n 0, 1, []), (9, .iload_n 2, 1, []), (10, .invokevirtual 125, 3, []), (13, .ifCond .eq 12, 3, [13]), (16, .iload_n 3, 1, []), (17, .iconst 0, 1, []), (18, .iconst 2, 1, []), (19, .invokestatic 99, 3, []), (22, .ifCond .ne 5, 3, [15]), (25, .iconst (-1), 1, []), (26, .ireturn, 1, []), (27, .aload_n 0, 1, []), (28, .iload_n 1, 1, []), (29, .iload_n 2, 1, []), (30, .invokevirtual 277, 3, []), (33, .istore 4, 2, []), (35, .iload 4, 2, []), (37, .iconst (-1), 1, []), (38, .if_icmp .eq 7, 3, [25]), (41, .iload_n 3, 1, []), (42, .ifCond .ne 6, 3, [27]), (45, .iload 4, 2, []), (47, .ireturn, 1, []), (48, .iload_n 3, 1, []), (49, .iconst 1, 1, []), (50, .if_icmp .ne 10, 3, [33]), (53, .aload_n 0, 1, []), (54, .getfield 307, 3, [12, 30, 223]), (57, .goto 24, 3, [45]), (60, .aload_n 0, 1, []), (61, .getfield 62, 3, [12, 27, 220]), (64, .iload_n 2, 1, []), (65, .iaload, 1, []), (66, .ldc 157, 2, []), (68, .if_icmp .ne 7, 3, [41]), (71, .iconst (-1), 1, []), (72, .goto 9, 3, [45]), (75, .aload_n 0, 1, []), (76, .getfield 62, 3, [12, 27, 220]), (79, .iload_n 2, 1, []), (80, .iaload, 1, []), (81, .ireturn, 1, [])])
set_option maxRecDepth 20000 in
theorem ckX12_kin_0 : ckR mX12_kin 0 40 = true := by decide +kernel
set_option maxRecDepth 20000 in
theorem ckX12_kin_1 : ckR mX12_kin 40 40 = true := by decide +kernel
set_option maxRecDepth 20000 in
theorem okX12_kin : okC mX12_kin := ⟨by decide +kernel, memT7 215 rfl rfl, okM.of (n := 2) (Or.inr rfl) (by decide) (fun j hj => by match j, hj with | 0, _ => exact ckX12_kin_0 | 1, _ => exact ckX12_kin_1 | _ + 2, hj => exact absurd hj (by omega))⟩
set_option maxRecDepth 20000 in
def mX12_livesIn : Mt := (yX12_livesIn, cX12_livesIn, 3, (some .boolean), [12, 140, 2, 0, 1792, 89], [(0, .iload_n 2, 1, []), (1, .aload_n 0, 1, []), (2, .iload_n 1, 1, []), (3, .iconst 1, 1, []), (4, .invokevirtual 129, 3, []), (7, .aload_n 0, 1, []), (8, .iload_n 1, 1, []), (9, .iconst 1, 1, []), (10, .invokevirtual 129, 3, []), (13, .aload_n 0, 1, []), (14, .iload_n 1, 1, []), (15, .iconst 2, 1, []), (16, .invokevirtual 129, 3, []), (19, .iadd, 1, []), (20, .iconst 1, 1, []), (21, .isub, 1, []), (22, .invokestatic 99, 3, []), (25, .ireturn, 1, [])])
set_option maxRecDepth 20000 in
theorem ckX12_livesIn_0 : ckR mX12_livesIn 0 40 = true := by decide +kernel
set_option maxRecDepth 20000 in
theorem okX12_livesIn : okC mX12_livesIn := ⟨by decide +kernel, memT7 227 rfl rfl, okM.of (n := 1) (Or.inr rfl) (by decide) (fun j hj => by match j, hj with | 0, _ => exact ckX12_livesIn_0 | _ + 1, hj => exact absurd hj (by omega))⟩
set_option maxRecDepth 20000 in
def mX12_mayMarry : Mt := (yX12_mayMarry, cX12_mayMarry, 4, (some .boolean), [12, 140, 2, 0, 1788, 88], [(0, .aload_n 0, 1, []), (1, .iload_n 1, 1, []), (2, .iconst 0, 1, []), (3, .invokevirtual 129, 3, []), (6, .aload_n 0, 1, []), (7, .iload_n 2, 1, []), (8, .iconst 0, 1, []), (9, .invokevirtual 129, 3, []), (12, .if_icmp .eq 35, 3, [25]), (15, .aload_n 0, 1, []), (16, .iload_n 1, 1, []), (17, .aload_n 0, 1, []), (18, .getfield 24, 3, [12, 2, 196]), (21, .sipush 206, 3, []), (24, .iaload, 1, []), (25, .invokevirtual 310, 3, []), (28, .ifCond .eq 19, 3, [25]), (31, .aload_n 0, 1, []), (32, .iload_n 2, 1, []), (33, .aload_n 0, 1, []), (34, .getfield 24, 3, [12, 2, 196]), (37, .sipush 206, 3, []), (40, .iaload, 1, []), (41, .invokevirtual 310, 3, []), (44, .ifCond .ne 5, 3, [27]), (47, .iconst 0, 1, []), (48, .ireturn, 1, []), (49, .aload_n 0, 1, []), (50, .iload_n 1, 1, []), (51, .iload_n 2, 1, []), (52, .invokevirtual 277, 3, []), (55, .istore_n 3, 1, []), (56, .iload_n 3, 1, []), (57, .iconst (-1), 1, []), (58, .if_icmp .eq 15, 3, [41]), (61, .iload_n 3, 1, []), (62, .aload_n 0, 1, []), (63, .getfield 24, 3, [12, 2, 196]), (66, .sipush 207, 3, []), (69, .iaload, 1, []), (70, .if_icmp .le 7, 3, [43]), (73, .iconst 1, 1, []), (74, .goto 4, 3, [44]), (77, .iconst 0, 1, []), (78, .ireturn, 1, [])])
set_option maxRecDepth 20000 in
theorem ckX12_mayMarry_0 : ckR mX12_mayMarry 0 40 = true := by decide +kernel
set_option maxRecDepth 20000 in
theorem ckX12_mayMarry_1 : ckR mX12_mayMarry 40 40 = true := by decide +kernel
set_option maxRecDepth 20000 in
theorem okX12_mayMarry : okC mX12_mayMarry := ⟨by decide +kernel, memT7 223 rfl rfl, okM.of (n := 2) (Or.inr rfl) (by decide) (fun j hj => by match j, hj with | 0, _ => exact ckX12_mayMarry_0 | 1, _ => exact ckX12_mayMarry_1 | _ + 2, hj => exact absurd hj (by omega))⟩
set_option maxRecDepth 20000 in
def mX12_marry : Mt := (yX12_marry, cX12_marry, 3, (some .int), [12, 140, 2, 0, 1783, 1784], [(0, .aload_n 0, 1, []), (1, .iload_n 1, 1, []), (2, .invokevirtual 125, 3, []), (5, .ifCond .eq 11, 3, [8]), (8, .aload_n 0, 1, []), (9, .iload_n 2, 1, []), (10, .invokevirtual 125, 3, []), (13, .ifCond .ne 7, 3, [10]), (16, .iconst (-1), 1, []), (17, .goto 17, 3, [18]), (20, .aload_n 0, 1, []), (21, .iload_n 1, 1, []), (22, .iload_n 2, 1, []), (23, .invokevirtual 313, 3, []), (26, .ifCond .eq 7, 3, [17]), (29, .iconst 1, 1, []), (30, .goto 4, 3, [18]), (33, .iconst 0, 1, []), (34, .ireturn, 1, [])])
set_option maxRecDepth 20000 in
theorem ckX12_marry_0 : ckR mX12_marry 0 40 = true := by decide +kernel
set_option maxRecDepth 20000 in
theorem okX12_marry : okC mX12_marry := ⟨by decide +kernel, memT7 219 rfl rfl, okM.of (n := 1) (Or.inr rfl) (by decide) (fun j hj => by match j, hj with | 0, _ => exact ckX12_marry_0 | _ + 1, hj => exact absurd hj (by omega))⟩
set_option maxRecDepth 20000 in
def mX12_ranked : Mt := (yX12_ranked, cX12_ranked, 3, (some .int), [12, 140, 0, 0, 1819, 94], [(0, .iconst 0, 1, []), (1, .istore_n 1, 1, []), (2, .iconst 0, 1, []), (3, .istore_n 2, 1, []), (4, .iload_n 2, 1, []), (5, .aload_n 0, 1, []), (6, .invokevirtual 109, 3, []), (9, .if_icmp .ge 27, 3, [22]), (12, .iload_n 1, 1, []), (13, .aload_n 0, 1, []), (14, .iload_n 2, 1, []), (15, .invokevirtual 133, 3, []), (18, .ifCond .le 9, 3, [17]), (21, .iconst 1, 1, []), (22, .iload_n 2, 1, []), (23, .ishl, 1, []), (24, .goto 4, 3, [18]), (27, .iconst 0, 1, []), (28, .ior, 1, []), (29, .istore_n 1, 1, []), (30, .iinc 2 1, 3, []), (33, .goto (-29), 3, [4]), (36, .iload_n 1, 1, []), (37, .ireturn, 1, [])])
set_option maxRecDepth 20000 in
theorem ckX12_ranked_0 : ckR mX12_ranked 0 40 = true := by decide +kernel
set_option maxRecDepth 20000 in
theorem okX12_ranked : okC mX12_ranked := ⟨by decide +kernel, memT8 14 rfl rfl, okM.of (n := 1) (Or.inr rfl) (by decide) (fun j hj => by match j, hj with | 0, _ => exact ckX12_ranked_0 | _ + 1, hj => exact absurd hj (by omega))⟩
set_option maxRecDepth 20000 in
def mX12_isGrandBy : Mt := (yX12_isGrandBy, cX12_isGrandBy, 3, (some .boolean), [12, 140, 2, 0, 1827, 96], [(0, .iload_n 1, 1, []), (1, .iconst (-1), 1, []), (2, .if_icmp .eq 21, 3, [15]), (5, .aload_n 0, 1, []), (6, .iload_n 1, 1, []), (7, .invokevirtual 316, 3, []), (10, .iconst 1, 1, []), (11, .iload_n 1, 1, []), (12, .ishl, 1, []), (13, .ior, 1, []), (14, .iload_n 2, 1, []), (15, .iand, 1, []), (16, .ifCond .eq 7, 3, [15]), (19, .iconst 1, 1, []), (20, .goto 4, 3, [16]), (23, .iconst 0, 1, []), (24, .ireturn, 1, [])])
set_option maxRecDepth 20000 in
theorem ckX12_isGrandBy_0 : ckR mX12_isGrandBy 0 40 = true := by decide +kernel
set_option maxRecDepth 20000 in
theorem okX12_isGrandBy : okC mX12_isGrandBy := ⟨by decide +kernel, memT8 22 rfl rfl, okM.of (n := 1) (Or.inr rfl) (by decide) (fun j hj => by match j, hj with | 0, _ => exact ckX12_isGrandBy_0 | _ + 1, hj => exact absurd hj (by omega))⟩
set_option maxRecDepth 20000 in
def mX12_isGrand : Mt := (yX12_isGrand, cX12_isGrand, 3, (some .boolean), [12, 140, 2, 0, 1823, 95], [(0, .aload_n 0, 1, []), (1, .aload_n 0, 1, []), (2, .getfield 24, 3, [12, 2, 196]), (5, .iconst 0, 1, []), (6, .iload_n 1, 1, []), (7, .iadd, 1, []), (8, .iaload, 1, []), (9, .iload_n 2, 1, []), (10, .invokevirtual 319, 3, []), (13, .ifCond .eq 24, 3, [22]), (16, .aload_n 0, 1, []), (17, .aload_n 0, 1, []), (18, .getfield 24, 3, [12, 2, 196]), (21, .bipush 16, 2, []), (23, .iload_n 1, 1, []), (24, .iadd, 1, []), (25, .iaload, 1, []), (26, .iload_n 2, 1, []), (27, .invokevirtual 319, 3, []), (30, .ifCond .eq 7, 3, [22]), (33, .iconst 1, 1, []), (34, .goto 4, 3, [23]), (37, .iconst 0, 1, []), (38, .ireturn, 1, [])])
set_option maxRecDepth 20000 in
theorem ckX12_isGrand_0 : ckR mX12_isGrand 0 40 = true := by decide +kernel
set_option maxRecDepth 20000 in
theorem okX12_isGrand : okC mX12_isGrand := ⟨by decide +kernel, memT8 18 rfl rfl, okM.of (n := 1) (Or.inr rfl) (by decide) (fun j hj => by match j, hj with | 0, _ => exact ckX12_isGrand_0 | _ + 1, hj => exact absurd hj (by omega))⟩
set_option maxRecDepth 20000 in
def mX12_quartersOf : Mt := (yX12_quartersOf, cX12_quartersOf, 7, (some .int), [12, 140, 1, 0, 1815, 93], [(0, .aload_n 0, 1, []), (1, .invokevirtual 322, 3, []), (4, .istore_n 2, 1, []), (5, .iconst 0, 1, []), (6, .istore_n 3, 1, []), (7, .iconst 0, 1, []), (8, .istore 4, 2, []), (10, .iload 4, 2, []), (12, .bipush 16, 2, []), (14, .if_icmp .gt 89, 3, [61]), (17, .aload_n 0, 1, []), (18, .getfield 24, 3, [12, 2, 196]), (21, .iload 4, 2, []), (23, .iload_n 1, 1, []), (24, .iadd, 1, []), (25, .iaload, 1, []), (26, .istore 5, 2, []), (28, .iload 5, 2, []), (30, .iconst (-1), 1, []), (31, .if_icmp .ne 6, 3, [21]), (34, .goto 63, 3, [59]), (37, .iload_n 3, 1, []), (38, .iload_n 2, 1, []), (39, .iload 5, 2, []), (41, .ishr, 1, []), (42, .iconst 1, 1, []), (43, .iand, 1, []), (44, .iadd, 1, []), (45, .istore_n 3, 1, []), (46, .iconst 0, 1, []), (47, .istore 6, 2, []), (49, .iload 6, 2, []), (51, .bipush 16, 2, []), (53, .if_icmp .gt 44, 3, [59]), (56, .iload_n 3, 1, []), (57, .aload_n 0, 1, []), (58, .getfield 24, 3, [12, 2, 196]), (61, .iload 6, 2, []), (63, .iload 5, 2, []), (65, .iadd, 1, []), (66, .iaload, 1, []), (67, .iconst (-1), 1, []), (68, .if_icmp .ne 7, 3, [45]), (71, .iconst 0, 1, []), (72, .goto 17, 3, [55]), (75, .iload_n 2, 1, []), (76, .aload_n 0, 1, []), (77, .getfield 24, 3, [12, 2, 196]), (80, .iload 6, 2, []), (82, .iload 5, 2, []), (84, .iadd, 1, []), (85, .iaload, 1, []), (86, .ishr, 1, []), (87, .iconst 1, 1, []), (88, .iand, 1, []), (89, .iadd, 1, []), (90, .istore_n 3, 1, []), (91, .iinc 6 16, 3, []), (94, .goto (-45), 3, [31]), (97, .iinc 4 16, 3, []), (100, .goto (-90), 3, [7]), (103, .iload_n 3, 1, []), (104, .ireturn, 1, [])])
set_option maxRecDepth 20000 in
theorem ckX12_quartersOf_0 : ckR mX12_quartersOf 0 40 = true := by decide +kernel
set_option maxRecDepth 20000 in
theorem ckX12_quartersOf_1 : ckR mX12_quartersOf 40 40 = true := by decide +kernel
set_option maxRecDepth 20000 in
theorem okX12_quartersOf : okC mX12_quartersOf := ⟨by decide +kernel, memT8 10 rfl rfl, okM.of (n := 2) (Or.inr rfl) (by decide) (fun j hj => by match j, hj with | 0, _ => exact ckX12_quartersOf_0 | 1, _ => exact ckX12_quartersOf_1 | _ + 2, hj => exact absurd hj (by omega))⟩
set_option maxRecDepth 20000 in
def mX12_heirOf : Mt := (yX12_heirOf, cX12_heirOf, 6, (some .int), [12, 140, 1, 0, 1831, 97], [(0, .iconst (-1), 1, []), (1, .istore_n 2, 1, []), (2, .ldc 157, 2, []), (4, .istore_n 3, 1, []), (5, .iconst 0, 1, []), (6, .istore 4, 2, []), (8, .iload 4, 2, []), (10, .aload_n 0, 1, []), (11, .invokevirtual 109, 3, []), (14, .if_icmp .ge 87, 3, [52]), (17, .iload 4, 2, []), (19, .iload_n 1, 1, []), (20, .if_icmp .eq 75, 3, [50]), (23, .aload_n 0, 1, []), (24, .iload 4, 2, []), (26, .aload_n 0, 1, []), (27, .getfield 24, 3, [12, 2, 196]), (30, .sipush 206, 3, []), (33, .iaload, 1, []), (34, .invokevirtual 310, 3, []), (37, .ifCond .ne 6, 3, [22]), (40, .goto 55, 3, [50]), (43, .aload_n 0, 1, []), (44, .iload_n 1, 1, []), (45, .iload 4, 2, []), (47, .invokevirtual 277, 3, []), (50, .istore 5, 2, []), (52, .iload 5, 2, []), (54, .iconst (-1), 1, []), (55, .if_icmp .eq 40, 3, [50]), (58, .iload 5, 2, []), (60, .iload_n 3, 1, []), (61, .if_icmp .gt 34, 3, [50]), (64, .iload 5, 2, []), (66, .iload_n 3, 1, []), (67, .if_icmp .ne 22, 3, [46]), (70, .aload_n 0, 1, []), (71, .iload 4, 2, []), (73, .iconst 1, 1, []), (74, .invokevirtual 129, 3, []), (77, .aload_n 0, 1, []), (78, .iload_n 2, 1, []), (79, .iconst 1, 1, []), (80, .invokevirtual 129, 3, []), (83, .if_icmp .lt 6, 3, [46]), (86, .goto 9, 3, [50]), (89, .iload 5, 2, []), (91, .istore_n 3, 1, []), (92, .iload 4, 2, []), (94, .istore_n 2, 1, []), (95, .iinc 4 1, 3, []), (98, .goto (-90), 3, [6]), (101, .iload_n 2, 1, []), (102, .ireturn, 1, [])])
set_option maxRecDepth 20000 in
theorem ckX12_heirOf_0 : ckR mX12_heirOf 0 40 = true := by decide +kernel
set_option maxRecDepth 20000 in
theorem ckX12_heirOf_1 : ckR mX12_heirOf 40 40 = true := by decide +kernel
set_option maxRecDepth 20000 in
theorem okX12_heirOf : okC mX12_heirOf := ⟨by decide +kernel, memT8 26 rfl rfl, okM.of (n := 2) (Or.inr rfl) (by decide) (fun j hj => by match j, hj with | 0, _ => exact ckX12_heirOf_0 | 1, _ => exact ckX12_heirOf_1 | _ + 2, hj => exact absurd hj (by omega))⟩
set_option maxRecDepth 20000 in
def mX12_debtsOf : Mt := (yX12_debtsOf, cX12_debtsOf, 5, (some .int), [12, 140, 1, 0, 1811, 92], [(0, .aload_n 0, 1, []), (1, .iload_n 1, 1, []), (2, .invokevirtual 316, 3, []), (5, .istore_n 2, 1, []), (6, .aload_n 0, 1, []), (7, .iload_n 1, 1, []), (8, .iconst 4, 1, []), (9, .invokevirtual 129, 3, []), (12, .istore_n 3, 1, []), (13, .iconst 0, 1, []), (14, .istore 4, 2, []), (16, .iload 4, 2, []), (18, .aload_n 0, 1, []), (19, .invokevirtual 109, 3, []), (22, .if_icmp .ge 32, 3, [30]), (25, .iload_n 3, 1, []), (26, .iload_n 2, 1, []), (27, .iload 4, 2, []), (29, .invokestatic 300, 3, []), (32, .ifCond .eq 13, 3, [25]), (35, .aload_n 0, 1, []), (36, .iload 4, 2, []), (38, .iconst 4, 1, []), (39, .invokevirtual 129, 3, []), (42, .goto 4, 3, [26]), (45, .iconst 0, 1, []), (46, .iadd, 1, []), (47, .istore_n 3, 1, []), (48, .iinc 4 1, 3, []), (51, .goto (-35), 3, [11]), (54, .iload_n 3, 1, []), (55, .ireturn, 1, [])])
set_option maxRecDepth 20000 in
theorem ckX12_debtsOf_0 : ckR mX12_debtsOf 0 40 = true := by decide +kernel
set_option maxRecDepth 20000 in
theorem okX12_debtsOf : okC mX12_debtsOf := ⟨by decide +kernel, memT8 6 rfl rfl, okM.of (n := 1) (Or.inr rfl) (by decide) (fun j hj => by match j, hj with | 0, _ => exact ckX12_debtsOf_0 | _ + 1, hj => exact absurd hj (by omega))⟩
set_option maxRecDepth 20000 in
def mX12_childrenOf : Mt := (yX12_childrenOf, cX12_childrenOf, 4, (some .int), [12, 140, 1, 0, 1807, 91], [(0, .iconst 0, 1, []), (1, .istore_n 2, 1, []), (2, .iconst 0, 1, []), (3, .istore_n 3, 1, []), (4, .iload_n 3, 1, []), (5, .aload_n 0, 1, []), (6, .invokevirtual 109, 3, []), (9, .if_icmp .ge 31, 3, [24]), (12, .iload_n 2, 1, []), (13, .aload_n 0, 1, []), (14, .iload_n 3, 1, []), (15, .invokevirtual 316, 3, []), (18, .iload_n 1, 1, []), (19, .invokestatic 300, 3, []), (22, .ifCond .eq 9, 3, [19]), (25, .iconst 1, 1, []), (26, .iload_n 3, 1, []), (27, .ishl, 1, []), (28, .goto 4, 3, [20]), (31, .iconst 0, 1, []), (32, .ior, 1, []), (33, .istore_n 2, 1, []), (34, .iinc 3 1, 3, []), (37, .goto (-33), 3, [4]), (40, .iload_n 2, 1, []), (41, .ireturn, 1, [])])
set_option maxRecDepth 20000 in
theorem ckX12_childrenOf_0 : ckR mX12_childrenOf 0 40 = true := by decide +kernel
set_option maxRecDepth 20000 in
theorem okX12_childrenOf : okC mX12_childrenOf := ⟨by decide +kernel, memT8 2 rfl rfl, okM.of (n := 1) (Or.inr rfl) (by decide) (fun j hj => by match j, hj with | 0, _ => exact ckX12_childrenOf_0 | _ + 1, hj => exact absurd hj (by omega))⟩
set_option maxRecDepth 20000 in
def mX12_line : Mt := (yX12_line, cX12_line, 3, (some .int), [12, 140, 2, 0, 1795, 1796], [(0, .aload_n 0, 1, []), (1, .iload_n 1, 1, []), (2, .invokevirtual 125, 3, []), (5, .ifCond .ne 5, 3, [6]), (8, .iconst (-1), 1, []), (9, .ireturn, 1, []), (10, .iload_n 2, 1, []), (11, .tableswitch 85 0 5 #[37, 43, 49, 55, 61, 79], 37, []), (48, .aload_n 0, 1, []), (49, .iload_n 1, 1, []), (50, .invokevirtual 316, 3, []), (53, .ireturn, 1, []), (54, .aload_n 0, 1, []), (55, .iload_n 1, 1, []), (56, .invokevirtual 325, 3, []), (59, .ireturn, 1, []), (60, .aload_n 0, 1, []), (61, .iload_n 1, 1, []), (62, .invokevirtual 328, 3, []), (65, .ireturn, 1, []), (66, .aload_n 0, 1, []), (67, .iload_n 1, 1, []), (68, .invokevirtual 331, 3, []), (71, .ireturn, 1, []), (72, .aload_n 0, 1, []), (73, .iload_n 1, 1, []), (74, .aload_n 0, 1, []), (75, .invokevirtual 322, 3, []), (78, .invokevirtual 334, 3, []), (81, .ifCond .eq 7, 3, [32]), (84, .iconst 1, 1, []), (85, .goto 4, 3, [33]), (88, .iconst 0, 1, []), (89, .ireturn, 1, []), (90, .aload_n 0, 1, []), (91, .iload_n 1, 1, []), (92, .invokevirtual 337, 3, []), (95, .ireturn, 1, []), (96, .iconst (-1), 1, []), (97, .ireturn, 1, [])])
set_option maxRecDepth 20000 in
theorem ckX12_line_0 : ckR mX12_line 0 40 = true := by decide +kernel
set_option maxRecDepth 20000 in
theorem okX12_line : okC mX12_line := ⟨by decide +kernel, memT7 231 rfl rfl, okM.of (n := 1) (Or.inr rfl) (by decide) (fun j hj => by match j, hj with | 0, _ => exact ckX12_line_0 | _ + 1, hj => exact absurd hj (by omega))⟩
end
section
set_option maxRecDepth 20000 in
def mX12_placeOf : Mt := (yX12_placeOf, cX12_placeOf, 1, (some .int), [12, 140, 1, 1, 1850], [(0, .iload_n 0, 1, []), (1, .ifCond .ne 7, 3, [4]), (4, .iconst 0, 1, []), (5, .goto 5, 3, [5]), (8, .bipush 16, 2, []), (10, .ireturn, 1, [])])
set_option maxRecDepth 20000 in
theorem ckX12_placeOf_0 : ckR mX12_placeOf 0 40 = true := by decide +kernel
set_option maxRecDepth 20000 in
theorem okX12_placeOf : okC mX12_placeOf := ⟨by decide +kernel, memT8 45 rfl rfl, okM.of (n := 1) (Or.inr rfl) (by decide) (fun j hj => by match j, hj with | 0, _ => exact ckX12_placeOf_0 | _ + 1, hj => exact absurd hj (by omega))⟩
set_option maxRecDepth 20000 in
def mX12_datesFit : Mt := (yX12_datesFit, cX12_datesFit, 4, (some .boolean), [12, 140, 2, 0, 1839, 98], [(0, .aload_n 0, 1, []), (1, .iload_n 1, 1, []), (2, .iconst 1, 1, []), (3, .invokevirtual 129, 3, []), (6, .aload_n 0, 1, []), (7, .iload_n 1, 1, []), (8, .iconst 2, 1, []), (9, .invokevirtual 129, 3, []), (12, .iadd, 1, []), (13, .iconst 1, 1, []), (14, .isub, 1, []), (15, .aload_n 0, 1, []), (16, .iload_n 1, 1, []), (17, .iconst 0, 1, []), (18, .invokevirtual 129, 3, []), (21, .ifCond .ne 7, 3, [18]), (24, .iconst 1, 1, []), (25, .goto 4, 3, [19]), (28, .iconst 0, 1, []), (29, .iadd, 1, []), (30, .istore_n 3, 1, []), (31, .aload_n 0, 1, []), (32, .iload_n 2, 1, []), (33, .iconst 1, 1, []), (34, .invokevirtual 129, 3, []), (37, .aload_n 0, 1, []), (38, .iload_n 1, 1, []), (39, .iconst 1, 1, []), (40, .invokevirtual 129, 3, []), (43, .aload_n 0, 1, []), (44, .getfield 24, 3, [12, 2, 196]), (47, .sipush 208, 3, []), (50, .iaload, 1, []), (51, .iadd, 1, []), (52, .iload_n 3, 1, []), (53, .invokestatic 99, 3, []), (56, .ireturn, 1, [])])
set_option maxRecDepth 20000 in
theorem ckX12_datesFit_0 : ckR mX12_datesFit 0 40 = true := by decide +kernel
set_option maxRecDepth 20000 in
theorem okX12_datesFit : okC mX12_datesFit := ⟨by decide +kernel, memT8 34 rfl rfl, okM.of (n := 1) (Or.inr rfl) (by decide) (fun j hj => by match j, hj with | 0, _ => exact ckX12_datesFit_0 | _ + 1, hj => exact absurd hj (by omega))⟩
set_option maxRecDepth 20000 in
def mX12_forged : Mt := (yX12_forged, cX12_forged, 4, (some .int), [12, 140, 0, 0, 1834, 1835], [(0, .iconst 0, 1, []), (1, .istore_n 1, 1, []), (2, .iconst 0, 1, []), (3, .istore_n 2, 1, []), (4, .iload_n 2, 1, []), (5, .aload_n 0, 1, []), (6, .invokevirtual 109, 3, []), (9, .if_icmp .ge 57, 3, [41]), (12, .iconst 0, 1, []), (13, .istore_n 3, 1, []), (14, .iload_n 3, 1, []), (15, .bipush 16, 2, []), (17, .if_icmp .gt 43, 3, [39]), (20, .aload_n 0, 1, []), (21, .getfield 24, 3, [12, 2, 196]), (24, .iload_n 3, 1, []), (25, .iload_n 2, 1, []), (26, .iadd, 1, []), (27, .iaload, 1, []), (28, .iconst (-1), 1, []), (29, .if_icmp .eq 25, 3, [37]), (32, .aload_n 0, 1, []), (33, .aload_n 0, 1, []), (34, .getfield 24, 3, [12, 2, 196]), (37, .iload_n 3, 1, []), (38, .iload_n 2, 1, []), (39, .iadd, 1, []), (40, .iaload, 1, []), (41, .iload_n 2, 1, []), (42, .invokevirtual 340, 3, []), (45, .ifCond .ne 9, 3, [37]), (48, .iload_n 1, 1, []), (49, .iconst 1, 1, []), (50, .iload_n 2, 1, []), (51, .ishl, 1, []), (52, .ior, 1, []), (53, .istore_n 1, 1, []), (54, .iinc 3 16, 3, []), (57, .goto (-43), 3, [10]), (60, .iinc 2 1, 3, []), (63, .goto (-59), 3, [4]), (66, .iload_n 1, 1, []), (67, .ireturn, 1, [])])
set_option maxRecDepth 20000 in
theorem ckX12_forged_0 : ckR mX12_forged 0 40 = true := by decide +kernel
set_option maxRecDepth 20000 in
theorem ckX12_forged_1 : ckR mX12_forged 40 40 = true := by decide +kernel
set_option maxRecDepth 20000 in
theorem okX12_forged : okC mX12_forged := ⟨by decide +kernel, memT8 30 rfl rfl, okM.of (n := 2) (Or.inr rfl) (by decide) (fun j hj => by match j, hj with | 0, _ => exact ckX12_forged_0 | 1, _ => exact ckX12_forged_1 | _ + 2, hj => exact absurd hj (by omega))⟩
set_option maxRecDepth 20000 in
def mX12_mayBeParent : Mt := (yX12_mayBeParent, cX12_mayBeParent, 3, (some .boolean), [12, 140, 2, 0, 1847, 99], [(0, .iload_n 1, 1, []), (1, .iload_n 2, 1, []), (2, .if_icmp .eq 39, 3, [23]), (5, .aload_n 0, 1, []), (6, .getfield 24, 3, [12, 2, 196]), (9, .aload_n 0, 1, []), (10, .iload_n 1, 1, []), (11, .iconst 0, 1, []), (12, .invokevirtual 129, 3, []), (15, .invokestatic 343, 3, []), (18, .iload_n 2, 1, []), (19, .iadd, 1, []), (20, .iaload, 1, []), (21, .iconst (-1), 1, []), (22, .if_icmp .ne 19, 3, [23]), (25, .aload_n 0, 1, []), (26, .iload_n 1, 1, []), (27, .invokevirtual 316, 3, []), (30, .iload_n 2, 1, []), (31, .invokestatic 300, 3, []), (34, .ifCond .ne 7, 3, [23]), (37, .iconst 1, 1, []), (38, .goto 4, 3, [24]), (41, .iconst 0, 1, []), (42, .ireturn, 1, [])])
set_option maxRecDepth 20000 in
theorem ckX12_mayBeParent_0 : ckR mX12_mayBeParent 0 40 = true := by decide +kernel
set_option maxRecDepth 20000 in
theorem okX12_mayBeParent : okC mX12_mayBeParent := ⟨by decide +kernel, memT8 42 rfl rfl, okM.of (n := 1) (Or.inr rfl) (by decide) (fun j hj => by match j, hj with | 0, _ => exact ckX12_mayBeParent_0 | _ + 1, hj => exact absurd hj (by omega))⟩
set_option maxRecDepth 20000 in
def mX12_parent : Mt := (yX12_parent, cX12_parent, 3, (some .int), [12, 140, 2, 0, 1842, 1843], [(0, .aload_n 0, 1, []), (1, .iload_n 1, 1, []), (2, .invokevirtual 125, 3, []), (5, .ifCond .eq 11, 3, [8]), (8, .aload_n 0, 1, []), (9, .iload_n 2, 1, []), (10, .invokevirtual 125, 3, []), (13, .ifCond .ne 10, 3, [12]), (16, .aload_n 0, 1, []), (17, .bipush (-2), 2, []), (19, .invokevirtual 103, 3, []), (22, .ireturn, 1, []), (23, .aload_n 0, 1, []), (24, .iload_n 1, 1, []), (25, .iload_n 2, 1, []), (26, .invokevirtual 346, 3, []), (29, .ifCond .ne 10, 3, [21]), (32, .aload_n 0, 1, []), (33, .bipush (-3), 2, []), (35, .invokevirtual 103, 3, []), (38, .ireturn, 1, []), (39, .aload_n 0, 1, []), (40, .getfield 24, 3, [12, 2, 196]), (43, .aload_n 0, 1, []), (44, .iload_n 1, 1, []), (45, .iconst 0, 1, []), (46, .invokevirtual 129, 3, []), (49, .invokestatic 343, 3, []), (52, .iload_n 2, 1, []), (53, .iadd, 1, []), (54, .iload_n 1, 1, []), (55, .iastore, 1, []), (56, .aload_n 0, 1, []), (57, .iconst 0, 1, []), (58, .invokevirtual 106, 3, []), (61, .ireturn, 1, [])])
set_option maxRecDepth 20000 in
theorem ckX12_parent_0 : ckR mX12_parent 0 40 = true := by decide +kernel
set_option maxRecDepth 20000 in
theorem okX12_parent : okC mX12_parent := ⟨by decide +kernel, memT8 38 rfl rfl, okM.of (n := 1) (Or.inr rfl) (by decide) (fun j hj => by match j, hj with | 0, _ => exact ckX12_parent_0 | _ + 1, hj => exact absurd hj (by omega))⟩
set_option maxRecDepth 20000 in
def mX12_canBeHad : Mt := (yX12_canBeHad, cX12_canBeHad, 3, (some .boolean), [12, 140, 2, 0, 1886, 106], [(0, .aload_n 0, 1, []), (1, .getfield 24, 3, [12, 2, 196]), (4, .bipush 32, 2, []), (6, .iload_n 1, 1, []), (7, .iadd, 1, []), (8, .iaload, 1, []), (9, .ifCond .ne 25, 3, [19]), (12, .aload_n 0, 1, []), (13, .iload_n 1, 1, []), (14, .iload_n 2, 1, []), (15, .invokevirtual 346, 3, []), (18, .ifCond .eq 16, 3, [19]), (21, .aload_n 0, 1, []), (22, .iload_n 1, 1, []), (23, .iload_n 2, 1, []), (24, .invokevirtual 340, 3, []), (27, .ifCond .eq 7, 3, [19]), (30, .iconst 1, 1, []), (31, .goto 4, 3, [20]), (34, .iconst 0, 1, []), (35, .ireturn, 1, [])])
set_option maxRecDepth 20000 in
theorem ckX12_canBeHad_0 : ckR mX12_canBeHad 0 40 = true := by decide +kernel
set_option maxRecDepth 20000 in
theorem okX12_canBeHad : okC mX12_canBeHad := ⟨by decide +kernel, memT8 81 rfl rfl, okM.of (n := 1) (Or.inr rfl) (by decide) (fun j hj => by match j, hj with | 0, _ => exact ckX12_canBeHad_0 | _ + 1, hj => exact absurd hj (by omega))⟩
set_option maxRecDepth 20000 in
def mX12_mayPay : Mt := (yX12_mayPay, cX12_mayPay, 3, (some .boolean), [12, 140, 2, 0, 1882, 105], [(0, .iload_n 1, 1, []), (1, .iload_n 2, 1, []), (2, .if_icmp .eq 15, 3, [9]), (5, .aload_n 0, 1, []), (6, .iload_n 1, 1, []), (7, .invokevirtual 316, 3, []), (10, .iload_n 2, 1, []), (11, .invokestatic 300, 3, []), (14, .ifCond .eq 7, 3, [11]), (17, .iconst 1, 1, []), (18, .goto 4, 3, [12]), (21, .iconst 0, 1, []), (22, .ireturn, 1, [])])
set_option maxRecDepth 20000 in
theorem ckX12_mayPay_0 : ckR mX12_mayPay 0 40 = true := by decide +kernel
set_option maxRecDepth 20000 in
theorem okX12_mayPay : okC mX12_mayPay := ⟨by decide +kernel, memT8 77 rfl rfl, okM.of (n := 1) (Or.inr rfl) (by decide) (fun j hj => by match j, hj with | 0, _ => exact ckX12_mayPay_0 | _ + 1, hj => exact absurd hj (by omega))⟩
set_option maxRecDepth 20000 in
def mX12_canBuy : Mt := (yX12_canBuy, cX12_canBuy, 4, (some .boolean), [12, 140, 3, 0, 1878, 104], [(0, .aload_n 0, 1, []), (1, .iload_n 3, 1, []), (2, .iload_n 2, 1, []), (3, .invokevirtual 349, 3, []), (6, .ifCond .eq 43, 3, [28]), (9, .aload_n 0, 1, []), (10, .iload_n 1, 1, []), (11, .iload_n 2, 1, []), (12, .invokevirtual 352, 3, []), (15, .ifCond .eq 34, 3, [28]), (18, .aload_n 0, 1, []), (19, .iload_n 1, 1, []), (20, .iload_n 2, 1, []), (21, .invokevirtual 355, 3, []), (24, .ifCond .ne 25, 3, [28]), (27, .aload_n 0, 1, []), (28, .getfield 24, 3, [12, 2, 196]), (31, .bipush 48, 2, []), (33, .iload_n 3, 1, []), (34, .iadd, 1, []), (35, .iaload, 1, []), (36, .aload_n 0, 1, []), (37, .iload_n 1, 1, []), (38, .iload_n 2, 1, []), (39, .invokevirtual 358, 3, []), (42, .if_icmp .lt 7, 3, [28]), (45, .iconst 1, 1, []), (46, .goto 4, 3, [29]), (49, .iconst 0, 1, []), (50, .ireturn, 1, [])])
set_option maxRecDepth 20000 in
theorem ckX12_canBuy_0 : ckR mX12_canBuy 0 40 = true := by decide +kernel
set_option maxRecDepth 20000 in
theorem okX12_canBuy : okC mX12_canBuy := ⟨by decide +kernel, memT8 73 rfl rfl, okM.of (n := 1) (Or.inr rfl) (by decide) (fun j hj => by match j, hj with | 0, _ => exact ckX12_canBuy_0 | _ + 1, hj => exact absurd hj (by omega))⟩
set_option maxRecDepth 20000 in
def mX12_has : Mt := (yX12_has, cX12_has, 3, none, [12, 140, 2, 0, 1898, 109], [(0, .aload_n 0, 1, []), (1, .getfield 24, 3, [12, 2, 196]), (4, .aload_n 0, 1, []), (5, .iload_n 1, 1, []), (6, .iconst 0, 1, []), (7, .invokevirtual 129, 3, []), (10, .invokestatic 343, 3, []), (13, .iload_n 2, 1, []), (14, .iadd, 1, []), (15, .iload_n 1, 1, []), (16, .iastore, 1, []), (17, .aload_n 0, 1, []), (18, .getfield 24, 3, [12, 2, 196]), (21, .bipush 32, 2, []), (23, .iload_n 1, 1, []), (24, .iadd, 1, []), (25, .iconst 1, 1, []), (26, .iastore, 1, []), (27, .return_, 1, [])])
set_option maxRecDepth 20000 in
theorem ckX12_has_0 : ckR mX12_has 0 40 = true := by decide +kernel
set_option maxRecDepth 20000 in
theorem okX12_has : okC mX12_has := ⟨by decide +kernel, memT8 93 rfl rfl, okM.of (n := 1) (Or.inr rfl) (by decide) (fun j hj => by match j, hj with | 0, _ => exact ckX12_has_0 | _ + 1, hj => exact absurd hj (by omega))⟩
set_option maxRecDepth 20000 in
def mX12_buys : Mt := (yX12_buys, cX12_buys, 5, (some .int), [12, 140, 3, 0, 1894, 108], [(0, .aload_n 0, 1, []), (1, .iload_n 1, 1, []), (2, .iload_n 2, 1, []), (3, .invokevirtual 358, 3, []), (6, .istore 4, 2, []), (8, .aload_n 0, 1, []), (9, .iload_n 1, 1, []), (10, .iload_n 2, 1, []), (11, .invokevirtual 361, 3, []), (14, .aload_n 0, 1, []), (15, .getfield 24, 3, [12, 2, 196]), (18, .bipush 48, 2, []), (20, .iload_n 3, 1, []), (21, .iadd, 1, []), (22, .dup2, 1, []), (23, .iaload, 1, []), (24, .iload 4, 2, []), (26, .isub, 1, []), (27, .iastore, 1, []), (28, .aload_n 0, 1, []), (29, .getfield 24, 3, [12, 2, 196]), (32, .bipush 64, 2, []), (34, .aload_n 0, 1, []), (35, .iload_n 1, 1, []), (36, .iconst 5, 1, []), (37, .invokevirtual 129, 3, []), (40, .iadd, 1, []), (41, .dup2, 1, []), (42, .iaload, 1, []), (43, .iload 4, 2, []), (45, .iadd, 1, []), (46, .iastore, 1, []), (47, .iload 4, 2, []), (49, .ireturn, 1, [])])
set_option maxRecDepth 20000 in
theorem ckX12_buys_0 : ckR mX12_buys 0 40 = true := by decide +kernel
set_option maxRecDepth 20000 in
theorem okX12_buys : okC mX12_buys := ⟨by decide +kernel, memT8 89 rfl rfl, okM.of (n := 1) (Or.inr rfl) (by decide) (fun j hj => by match j, hj with | 0, _ => exact ckX12_buys_0 | _ + 1, hj => exact absurd hj (by omega))⟩
set_option maxRecDepth 20000 in
def mX12_asks : Mt := (yX12_asks, cX12_asks, 4, (some .int), [12, 140, 3, 0, 1853, 1854], [(0, .aload_n 0, 1, []), (1, .iload_n 1, 1, []), (2, .iload_n 2, 1, []), (3, .invokevirtual 364, 3, []), (6, .ifCond .ne 5, 3, [7]), (9, .iconst (-1), 1, []), (10, .ireturn, 1, []), (11, .iload_n 3, 1, []), (12, .tableswitch 65 0 2 #[28, 35, 50], 28, []), (40, .aload_n 0, 1, []), (41, .iload_n 1, 1, []), (42, .iload_n 2, 1, []), (43, .invokevirtual 358, 3, []), (46, .ireturn, 1, []), (47, .aload_n 0, 1, []), (48, .iload_n 1, 1, []), (49, .iload_n 2, 1, []), (50, .invokevirtual 355, 3, []), (53, .ifCond .eq 7, 3, [21]), (56, .iconst 1, 1, []), (57, .goto 4, 3, [22]), (60, .iconst 0, 1, []), (61, .ireturn, 1, []), (62, .aload_n 0, 1, []), (63, .iload_n 1, 1, []), (64, .iload_n 2, 1, []), (65, .invokevirtual 340, 3, []), (68, .ifCond .eq 7, 3, [30]), (71, .iconst 1, 1, []), (72, .goto 4, 3, [31]), (75, .iconst 0, 1, []), (76, .ireturn, 1, []), (77, .iconst (-1), 1, []), (78, .ireturn, 1, [])])
set_option maxRecDepth 20000 in
theorem ckX12_asks_0 : ckR mX12_asks 0 40 = true := by decide +kernel
set_option maxRecDepth 20000 in
theorem okX12_asks : okC mX12_asks := ⟨by decide +kernel, memT8 49 rfl rfl, okM.of (n := 1) (Or.inr rfl) (by decide) (fun j hj => by match j, hj with | 0, _ => exact ckX12_asks_0 | _ + 1, hj => exact absurd hj (by omega))⟩
set_option maxRecDepth 20000 in
def mX12_keeps : Mt := (yX12_keeps, cX12_keeps, 4, none, [12, 140, 1, 0, 1890, 107], [(0, .bipush 71, 2, []), (2, .istore_n 2, 1, []), (3, .aload_n 0, 1, []), (4, .getfield 11, 3, [12, 33, 226]), (7, .bipush 16, 2, []), (9, .if_icmp .ne 43, 3, [31]), (12, .iconst 0, 1, []), (13, .istore_n 3, 1, []), (14, .iload_n 3, 1, []), (15, .bipush 15, 2, []), (17, .iload_n 2, 1, []), (18, .imul, 1, []), (19, .if_icmp .ge 23, 3, [25]), (22, .aload_n 0, 1, []), (23, .getfield 71, 3, [12, 31, 224]), (26, .iload_n 3, 1, []), (27, .aload_n 0, 1, []), (28, .getfield 71, 3, [12, 31, 224]), (31, .iload_n 3, 1, []), (32, .iload_n 2, 1, []), (33, .iadd, 1, []), (34, .iaload, 1, []), (35, .iastore, 1, []), (36, .iinc 3 1, 3, []), (39, .goto (-25), 3, [8]), (42, .aload_n 0, 1, []), (43, .dup, 1, []), (44, .getfield 11, 3, [12, 33, 226]), (47, .iconst 1, 1, []), (48, .isub, 1, []), (49, .putfield 11, 3, [12, 33, 226]), (52, .iconst 0, 1, []), (53, .istore_n 3, 1, []), (54, .iload_n 3, 1, []), (55, .bipush 70, 2, []), (57, .if_icmp .ge 28, 3, [51]), (60, .aload_n 0, 1, []), (61, .getfield 71, 3, [12, 31, 224]), (64, .iload_n 2, 1, []), (65, .aload_n 0, 1, []), (66, .getfield 11, 3, [12, 33, 226]), (69, .imul, 1, []), (70, .iload_n 3, 1, []), (71, .iadd, 1, []), (72, .aload_n 0, 1, []), (73, .getfield 24, 3, [12, 2, 196]), (76, .iload_n 3, 1, []), (77, .iaload, 1, []), (78, .iastore, 1, []), (79, .iinc 3 1, 3, []), (82, .goto (-28), 3, [33]), (85, .aload_n 0, 1, []), (86, .getfield 71, 3, [12, 31, 224]), (89, .iload_n 2, 1, []), (90, .aload_n 0, 1, []), (91, .getfield 11, 3, [12, 33, 226]), (94, .imul, 1, []), (95, .bipush 70, 2, []), (97, .iadd, 1, []), (98, .iload_n 1, 1, []), (99, .iastore, 1, []), (100, .aload_n 0, 1, []), (101, .dup, 1, []), (102, .getfield 11, 3, [12, 33, 226]), (105, .iconst 1, 1, []), (106, .iadd, 1, []), (107, .putfield 11, 3, [12, 33, 226]), (110, .return_, 1, [])])
set_option maxRecDepth 20000 in
theorem ckX12_keeps_0 : ckR mX12_keeps 0 40 = true := by decide +kernel
set_option maxRecDepth 20000 in
theorem ckX12_keeps_1 : ckR mX12_keeps 40 40 = true := by decide +kernel
set_option maxRecDepth 20000 in
theorem okX12_keeps : okC mX12_keeps := ⟨by decide +kernel, memT8 85 rfl rfl, okM.of (n := 2) (Or.inr rfl) (by decide) (fun j hj => by match j, hj with | 0, _ => exact ckX12_keeps_0 | 1, _ => exact ckX12_keeps_1 | _ + 2, hj => exact absurd hj (by omega))⟩
set_option maxRecDepth 20000 in
def mX12_buysKept : Mt := (yX12_buysKept, cX12_buysKept, 4, (some .int), [12, 140, 3, 0, 1874, 103], [(0, .aload_n 0, 1, []), (1, .iload_n 1, 1, []), (2, .invokevirtual 125, 3, []), (5, .ifCond .eq 19, 3, [12]), (8, .aload_n 0, 1, []), (9, .iload_n 2, 1, []), (10, .invokevirtual 125, 3, []), (13, .ifCond .eq 11, 3, [12]), (16, .aload_n 0, 1, []), (17, .iload_n 3, 1, []), (18, .invokevirtual 125, 3, []), (21, .ifCond .ne 6, 3, [14]), (24, .bipush (-2), 2, []), (26, .ireturn, 1, []), (27, .aload_n 0, 1, []), (28, .iload_n 1, 1, []), (29, .iload_n 2, 1, []), (30, .iload_n 3, 1, []), (31, .invokevirtual 367, 3, []), (34, .ifCond .ne 6, 3, [22]), (37, .bipush (-3), 2, []), (39, .ireturn, 1, []), (40, .aload_n 0, 1, []), (41, .iload_n 1, 1, []), (42, .invokevirtual 370, 3, []), (45, .aload_n 0, 1, []), (46, .iload_n 1, 1, []), (47, .iload_n 2, 1, []), (48, .iload_n 3, 1, []), (49, .invokevirtual 373, 3, []), (52, .ireturn, 1, [])])
set_option maxRecDepth 20000 in
theorem ckX12_buysKept_0 : ckR mX12_buysKept 0 40 = true := by decide +kernel
set_option maxRecDepth 20000 in
theorem okX12_buysKept : okC mX12_buysKept := ⟨by decide +kernel, memT8 69 rfl rfl, okM.of (n := 1) (Or.inr rfl) (by decide) (fun j hj => by match j, hj with | 0, _ => exact ckX12_buysKept_0 | _ + 1, hj => exact absurd hj (by omega))⟩
set_option maxRecDepth 20000 in
def mX12_buy : Mt := (yX12_buy, cX12_buy, 5, (some .int), [12, 140, 3, 0, 1869, 1870], [(0, .aload_n 0, 1, []), (1, .iload_n 1, 1, []), (2, .iload_n 2, 1, []), (3, .iload_n 3, 1, []), (4, .invokevirtual 376, 3, []), (7, .istore 4, 2, []), (9, .iload 4, 2, []), (11, .ifCond .ge 12, 3, [12]), (14, .aload_n 0, 1, []), (15, .iload 4, 2, []), (17, .invokevirtual 103, 3, []), (20, .goto 9, 3, [15]), (23, .aload_n 0, 1, []), (24, .iload 4, 2, []), (26, .invokevirtual 14, 3, []), (29, .ireturn, 1, [])])
set_option maxRecDepth 20000 in
theorem ckX12_buy_0 : ckR mX12_buy 0 40 = true := by decide +kernel
set_option maxRecDepth 20000 in
theorem okX12_buy : okC mX12_buy := ⟨by decide +kernel, memT8 65 rfl rfl, okM.of (n := 1) (Or.inr rfl) (by decide) (fun j hj => by match j, hj with | 0, _ => exact ckX12_buy_0 | _ + 1, hj => exact absurd hj (by omega))⟩
set_option maxRecDepth 20000 in
def mX12_undo : Mt := (yX12_undo, cX12_undo, 3, (some .int), [12, 140, 0, 0, 1901, 1902], [(0, .aload_n 0, 1, []), (1, .getfield 11, 3, [12, 33, 226]), (4, .ifCond .ne 10, 3, [7]), (7, .aload_n 0, 1, []), (8, .bipush (-3), 2, []), (10, .invokevirtual 103, 3, []), (13, .ireturn, 1, []), (14, .aload_n 0, 1, []), (15, .dup, 1, []), (16, .getfield 11, 3, [12, 33, 226]), (19, .iconst 1, 1, []), (20, .isub, 1, []), (21, .putfield 11, 3, [12, 33, 226]), (24, .bipush 71, 2, []), (26, .aload_n 0, 1, []), (27, .getfield 11, 3, [12, 33, 226]), (30, .imul, 1, []), (31, .istore_n 1, 1, []), (32, .iconst 0, 1, []), (33, .istore_n 2, 1, []), (34, .iload_n 2, 1, []), (35, .bipush 70, 2, []), (37, .if_icmp .ge 23, 3, [35]), (40, .aload_n 0, 1, []), (41, .getfield 24, 3, [12, 2, 196]), (44, .iload_n 2, 1, []), (45, .aload_n 0, 1, []), (46, .getfield 71, 3, [12, 31, 224]), (49, .iload_n 1, 1, []), (50, .iload_n 2, 1, []), (51, .iadd, 1, []), (52, .iaload, 1, []), (53, .iastore, 1, []), (54, .iinc 2 1, 3, []), (57, .goto (-23), 3, [20]), (60, .aload_n 0, 1, []), (61, .aload_n 0, 1, []), (62, .getfield 71, 3, [12, 31, 224]), (65, .iload_n 1, 1, []), (66, .bipush 70, 2, []), (68, .iadd, 1, []), (69, .iaload, 1, []), (70, .invokevirtual 14, 3, []), (73, .ireturn, 1, [])])
set_option maxRecDepth 20000 in
theorem ckX12_undo_0 : ckR mX12_undo 0 40 = true := by decide +kernel
set_option maxRecDepth 20000 in
theorem ckX12_undo_1 : ckR mX12_undo 40 40 = true := by decide +kernel
set_option maxRecDepth 20000 in
theorem okX12_undo : okC mX12_undo := ⟨by decide +kernel, memT8 97 rfl rfl, okM.of (n := 2) (Or.inr rfl) (by decide) (fun j hj => by match j, hj with | 0, _ => exact ckX12_undo_0 | 1, _ => exact ckX12_undo_1 | _ + 2, hj => exact absurd hj (by omega))⟩
set_option maxRecDepth 20000 in
def mX12_offers : Mt := (yX12_offers, cX12_offers, 5, (some .int), [12, 140, 2, 0, 1905, 1906], [(0, .aload_n 0, 1, []), (1, .iload_n 1, 1, []), (2, .invokevirtual 125, 3, []), (5, .ifCond .eq 11, 3, [8]), (8, .aload_n 0, 1, []), (9, .iload_n 2, 1, []), (10, .invokevirtual 125, 3, []), (13, .ifCond .ne 5, 3, [10]), (16, .iconst (-1), 1, []), (17, .ireturn, 1, []), (18, .iconst 0, 1, []), (19, .istore_n 3, 1, []), (20, .iconst 0, 1, []), (21, .istore 4, 2, []), (23, .iload 4, 2, []), (25, .aload_n 0, 1, []), (26, .invokevirtual 109, 3, []), (29, .if_icmp .ge 31, 3, [34]), (32, .iload_n 3, 1, []), (33, .aload_n 0, 1, []), (34, .iload 4, 2, []), (36, .iload_n 1, 1, []), (37, .iload_n 2, 1, []), (38, .invokevirtual 367, 3, []), (41, .ifCond .eq 10, 3, [29]), (44, .iconst 1, 1, []), (45, .iload 4, 2, []), (47, .ishl, 1, []), (48, .goto 4, 3, [30]), (51, .iconst 0, 1, []), (52, .ior, 1, []), (53, .istore_n 3, 1, []), (54, .iinc 4 1, 3, []), (57, .goto (-34), 3, [14]), (60, .iload_n 3, 1, []), (61, .ireturn, 1, [])])
set_option maxRecDepth 20000 in
theorem ckX12_offers_0 : ckR mX12_offers 0 40 = true := by decide +kernel
set_option maxRecDepth 20000 in
theorem okX12_offers : okC mX12_offers := ⟨by decide +kernel, memT8 101 rfl rfl, okM.of (n := 1) (Or.inr rfl) (by decide) (fun j hj => by match j, hj with | 0, _ => exact ckX12_offers_0 | _ + 1, hj => exact absurd hj (by omega))⟩
set_option maxRecDepth 20000 in
def mX12_isWell : Mt := (yX12_isWell, cX12_isWell, 3, (some .boolean), [12, 140, 2, 0, 1918, 111], [(0, .aload_n 0, 1, []), (1, .iload_n 1, 1, []), (2, .aload_n 0, 1, []), (3, .getfield 379, 3, [12, 39, 232]), (6, .invokevirtual 334, 3, []), (9, .ifCond .eq 21, 3, [16]), (12, .iload_n 2, 1, []), (13, .iconst (-1), 1, []), (14, .if_icmp .eq 12, 3, [14]), (17, .aload_n 0, 1, []), (18, .iload_n 1, 1, []), (19, .iload_n 2, 1, []), (20, .invokevirtual 313, 3, []), (23, .ifCond .eq 7, 3, [16]), (26, .iconst 1, 1, []), (27, .goto 4, 3, [17]), (30, .iconst 0, 1, []), (31, .ireturn, 1, [])])
set_option maxRecDepth 20000 in
theorem ckX12_isWell_0 : ckR mX12_isWell 0 40 = true := by decide +kernel
set_option maxRecDepth 20000 in
theorem okX12_isWell : okC mX12_isWell := ⟨by decide +kernel, memT8 113 rfl rfl, okM.of (n := 1) (Or.inr rfl) (by decide) (fun j hj => by match j, hj with | 0, _ => exact ckX12_isWell_0 | _ + 1, hj => exact absurd hj (by omega))⟩
set_option maxRecDepth 20000 in
def mX12_canPair : Mt := (yX12_canPair, cX12_canPair, 5, (some .boolean), [12, 140, 2, 0, 1930, 114], [(0, .iload_n 1, 1, []), (1, .bipush 16, 2, []), (3, .idiv, 1, []), (4, .istore_n 3, 1, []), (5, .iload_n 1, 1, []), (6, .bipush 16, 2, []), (8, .irem, 1, []), (9, .istore 4, 2, []), (11, .aload_n 0, 1, []), (12, .iload_n 3, 1, []), (13, .invokevirtual 125, 3, []), (16, .ifCond .eq 62, 3, [44]), (19, .aload_n 0, 1, []), (20, .iload 4, 2, []), (22, .invokevirtual 125, 3, []), (25, .ifCond .eq 53, 3, [44]), (28, .aload_n 0, 1, []), (29, .getfield 80, 3, [12, 35, 228]), (32, .iload_n 1, 1, []), (33, .baload, 1, []), (34, .ifCond .ne 44, 3, [44]), (37, .aload_n 0, 1, []), (38, .getfield 24, 3, [12, 2, 196]), (41, .bipush 48, 2, []), (43, .iload_n 2, 1, []), (44, .iadd, 1, []), (45, .iaload, 1, []), (46, .aload_n 0, 1, []), (47, .getfield 77, 3, [12, 34, 227]), (50, .iload_n 1, 1, []), (51, .iaload, 1, []), (52, .if_icmp .lt 26, 3, [44]), (55, .aload_n 0, 1, []), (56, .iload 4, 2, []), (58, .iload_n 3, 1, []), (59, .invokevirtual 352, 3, []), (62, .ifCond .eq 16, 3, [44]), (65, .aload_n 0, 1, []), (66, .iload_n 2, 1, []), (67, .iload_n 3, 1, []), (68, .invokevirtual 349, 3, []), (71, .ifCond .eq 7, 3, [44]), (74, .iconst 1, 1, []), (75, .goto 4, 3, [45]), (78, .iconst 0, 1, []), (79, .ireturn, 1, [])])
set_option maxRecDepth 20000 in
theorem ckX12_canPair_0 : ckR mX12_canPair 0 40 = true := by decide +kernel
set_option maxRecDepth 20000 in
theorem ckX12_canPair_1 : ckR mX12_canPair 40 40 = true := by decide +kernel
set_option maxRecDepth 20000 in
theorem okX12_canPair : okC mX12_canPair := ⟨by decide +kernel, memT8 125 rfl rfl, okM.of (n := 2) (Or.inr rfl) (by decide) (fun j hj => by match j, hj with | 0, _ => exact ckX12_canPair_0 | 1, _ => exact ckX12_canPair_1 | _ + 2, hj => exact absurd hj (by omega))⟩
set_option maxRecDepth 20000 in
def mX12_triesPair : Mt := (yX12_triesPair, cX12_triesPair, 3, (some .int), [12, 140, 2, 0, 1934, 115], [(0, .aload_n 0, 1, []), (1, .iload_n 1, 1, []), (2, .bipush 16, 2, []), (4, .irem, 1, []), (5, .iload_n 1, 1, []), (6, .bipush 16, 2, []), (8, .idiv, 1, []), (9, .invokevirtual 361, 3, []), (12, .aload_n 0, 1, []), (13, .getfield 24, 3, [12, 2, 196]), (16, .bipush 48, 2, []), (18, .iload_n 2, 1, []), (19, .iadd, 1, []), (20, .dup2, 1, []), (21, .iaload, 1, []), (22, .aload_n 0, 1, []), (23, .getfield 77, 3, [12, 34, 227]), (26, .iload_n 1, 1, []), (27, .iaload, 1, []), (28, .isub, 1, []), (29, .iastore, 1, []), (30, .aload_n 0, 1, []), (31, .getfield 77, 3, [12, 34, 227]), (34, .iload_n 1, 1, []), (35, .iaload, 1, []), (36, .ireturn, 1, [])])
set_option maxRecDepth 20000 in
theorem ckX12_triesPair_0 : ckR mX12_triesPair 0 40 = true := by decide +kernel
set_option maxRecDepth 20000 in
theorem okX12_triesPair : okC mX12_triesPair := ⟨by decide +kernel, memT8 129 rfl rfl, okM.of (n := 1) (Or.inr rfl) (by decide) (fun j hj => by match j, hj with | 0, _ => exact ckX12_triesPair_0 | _ + 1, hj => exact absurd hj (by omega))⟩
set_option maxRecDepth 20000 in
def mX12_isCheaper : Mt := (yX12_isCheaper, cX12_isCheaper, 5, none, [12, 140, 4, 0, 1922, 112], [(0, .aload_n 0, 1, []), (1, .getfield 382, 3, [12, 38, 231]), (4, .iconst (-1), 1, []), (5, .if_icmp .eq 28, 3, [17]), (8, .iload_n 1, 1, []), (9, .aload_n 0, 1, []), (10, .getfield 385, 3, [12, 37, 230]), (13, .if_icmp .gt 19, 3, [16]), (16, .iload_n 1, 1, []), (17, .aload_n 0, 1, []), (18, .getfield 385, 3, [12, 37, 230]), (21, .if_icmp .ne 12, 3, [17]), (24, .iload_n 2, 1, []), (25, .aload_n 0, 1, []), (26, .getfield 382, 3, [12, 38, 231]), (29, .if_icmp .lt 4, 3, [17]), (32, .return_, 1, []), (33, .aload_n 0, 1, []), (34, .iload_n 1, 1, []), (35, .putfield 385, 3, [12, 37, 230]), (38, .aload_n 0, 1, []), (39, .iload_n 2, 1, []), (40, .putfield 382, 3, [12, 38, 231]), (43, .aload_n 0, 1, []), (44, .getfield 83, 3, [12, 36, 229]), (47, .iconst 0, 1, []), (48, .iload_n 3, 1, []), (49, .iastore, 1, []), (50, .aload_n 0, 1, []), (51, .getfield 83, 3, [12, 36, 229]), (54, .iconst 1, 1, []), (55, .iload 4, 2, []), (57, .iastore, 1, []), (58, .return_, 1, [])])
set_option maxRecDepth 20000 in
theorem ckX12_isCheaper_0 : ckR mX12_isCheaper 0 40 = true := by decide +kernel
set_option maxRecDepth 20000 in
theorem okX12_isCheaper : okC mX12_isCheaper := ⟨by decide +kernel, memT8 117 rfl rfl, okM.of (n := 1) (Or.inr rfl) (by decide) (fun j hj => by match j, hj with | 0, _ => exact ckX12_isCheaper_0 | _ + 1, hj => exact absurd hj (by omega))⟩
set_option maxRecDepth 20000 in
def mX12_findsCheap : Mt := (yX12_findsCheap, cX12_findsCheap, 7, none, [12, 140, 2, 0, 1914, 110], [(0, .aload_n 0, 1, []), (1, .iconst (-1), 1, []), (2, .putfield 382, 3, [12, 38, 231]), (5, .aload_n 0, 1, []), (6, .aload_n 0, 1, []), (7, .invokevirtual 322, 3, []), (10, .putfield 379, 3, [12, 39, 232]), (13, .iconst 0, 1, []), (14, .istore_n 3, 1, []), (15, .iload_n 3, 1, []), (16, .sipush 256, 3, []), (19, .if_icmp .ge 63, 3, [48]), (22, .aload_n 0, 1, []), (23, .iload_n 3, 1, []), (24, .bipush 16, 2, []), (26, .idiv, 1, []), (27, .iload_n 3, 1, []), (28, .bipush 16, 2, []), (30, .irem, 1, []), (31, .invokevirtual 364, 3, []), (34, .ifCond .ne 6, 3, [22]), (37, .goto 39, 3, [46]), (40, .aload_n 0, 1, []), (41, .getfield 77, 3, [12, 34, 227]), (44, .iload_n 3, 1, []), (45, .aload_n 0, 1, []), (46, .iload_n 3, 1, []), (47, .bipush 16, 2, []), (49, .irem, 1, []), (50, .iload_n 3, 1, []), (51, .bipush 16, 2, []), (53, .idiv, 1, []), (54, .invokevirtual 358, 3, []), (57, .iastore, 1, []), (58, .aload_n 0, 1, []), (59, .getfield 80, 3, [12, 35, 228]), (62, .iload_n 3, 1, []), (63, .aload_n 0, 1, []), (64, .iload_n 3, 1, []), (65, .bipush 16, 2, []), (67, .irem, 1, []), (68, .iload_n 3, 1, []), (69, .bipush 16, 2, []), (71, .idiv, 1, []), (72, .invokevirtual 355, 3, []), (75, .bastore, 1, []), (76, .iinc 3 1, 3, []), (79, .goto (-64), 3, [9]), (82, .aload_n 0, 1, []), (83, .iload_n 1, 1, []), (84, .iload_n 2, 1, []), (85, .invokevirtual 388, 3, []), (88, .ifCond .eq 11, 3, [59]), (91, .aload_n 0, 1, []), (92, .iconst 0, 1, []), (93, .iconst 0, 1, []), (94, .iconst (-1), 1, []), (95, .iconst (-1), 1, []), (96, .invokevirtual 391, 3, []), (99, .aload_n 0, 1, []), (100, .iconst 0, 1, []), (101, .invokevirtual 394, 3, []), (104, .iconst 0, 1, []), (105, .istore_n 3, 1, []), (106, .iload_n 3, 1, []), (107, .sipush 256, 3, []), (110, .if_icmp .ge 123, 3, [131]), (113, .aload_n 0, 1, []), (114, .iload_n 3, 1, []), (115, .iload_n 1, 1, []), (116, .invokevirtual 397, 3, []), (119, .ifCond .ne 6, 3, [73]), (122, .goto 105, 3, [129]), (125, .aload_n 0, 1, []), (126, .iload_n 3, 1, []), (127, .iload_n 1, 1, []), (128, .invokevirtual 400, 3, []), (131, .istore 4, 2, []), (133, .aload_n 0, 1, []), (134, .iload_n 1, 1, []), (135, .iload_n 2, 1, []), (136, .invokevirtual 388, 3, []), (139, .ifCond .eq 12, 3, [89]), (142, .aload_n 0, 1, []), (143, .iload 4, 2, []), (145, .iconst 1, 1, []), (146, .iload_n 3, 1, []), (147, .iconst (-1), 1, []), (148, .invokevirtual 391, 3, []), (151, .aload_n 0, 1, []), (152, .iconst 1, 1, []), (153, .invokevirtual 394, 3, []), (156, .iconst 0, 1, []), (157, .istore 5, 2, []), (159, .iload 5, 2, []), (161, .sipush 256, 3, []), (164, .if_icmp .ge 58, 3, [126]), (167, .aload_n 0, 1, []), (168, .iload 5, 2, []), (170, .iload_n 1, 1, []), (171, .invokevirtual 397, 3, []), (174, .ifCond .ne 6, 3, [103]), (177, .goto 39, 3, [124]), (180, .iload 4, 2, []), (182, .aload_n 0, 1, []), (183, .iload 5, 2, []), (185, .iload_n 1, 1, []), (186, .invokevirtual 400, 3, []), (189, .iadd, 1, []), (190, .istore 6, 2, []), (192, .aload_n 0, 1, []), (193, .iload_n 1, 1, []), (194, .iload_n 2, 1, []), (195, .invokevirtual 388, 3, []), (198, .ifCond .eq 13, 3, [121]), (201, .aload_n 0, 1, []), (202, .iload 6, 2, []), (204, .iconst 2, 1, []), (205, .iload_n 3, 1, []), (206, .iload 5, 2, []), (208, .invokevirtual 391, 3, []), (211, .aload_n 0, 1, []), (212, .iconst 1, 1, []), (213, .invokevirtual 403, 3, []), (216, .iinc 5 1, 3, []), (219, .goto (-60), 3, [94]), (222, .aload_n 0, 1, []), (223, .iconst 0, 1, []), (224, .invokevirtual 403, 3, []), (227, .iinc 3 1, 3, []), (230, .goto (-124), 3, [64]), (233, .return_, 1, [])])
set_option maxRecDepth 20000 in
theorem ckX12_findsCheap_0 : ckR mX12_findsCheap 0 40 = true := by decide +kernel
set_option maxRecDepth 20000 in
theorem ckX12_findsCheap_1 : ckR mX12_findsCheap 40 40 = true := by decide +kernel
set_option maxRecDepth 20000 in
theorem ckX12_findsCheap_2 : ckR mX12_findsCheap 80 40 = true := by decide +kernel
set_option maxRecDepth 20000 in
theorem ckX12_findsCheap_3 : ckR mX12_findsCheap 120 40 = true := by decide +kernel
set_option maxRecDepth 20000 in
theorem okX12_findsCheap : okC mX12_findsCheap := ⟨by decide +kernel, memT8 109 rfl rfl, okM.of (n := 4) (Or.inr rfl) (by decide) (fun j hj => by match j, hj with | 0, _ => exact ckX12_findsCheap_0 | 1, _ => exact ckX12_findsCheap_1 | 2, _ => exact ckX12_findsCheap_2 | 3, _ => exact ckX12_findsCheap_3 | _ + 4, hj => exact absurd hj (by omega))⟩
set_option maxRecDepth 20000 in
def mX12_cheap : Mt := (yX12_cheap, cX12_cheap, 4, (some .int), [12, 140, 3, 0, 1909, 1910], [(0, .aload_n 0, 1, []), (1, .iload_n 1, 1, []), (2, .invokevirtual 125, 3, []), (5, .ifCond .eq 25, 3, [16]), (8, .iload_n 2, 1, []), (9, .iconst (-1), 1, []), (10, .if_icmp .eq 11, 3, [11]), (13, .aload_n 0, 1, []), (14, .iload_n 2, 1, []), (15, .invokevirtual 125, 3, []), (18, .ifCond .eq 12, 3, [16]), (21, .iload_n 3, 1, []), (22, .iconst 0, 1, []), (23, .iconst 3, 1, []), (24, .invokestatic 99, 3, []), (27, .ifCond .ne 5, 3, [18]), (30, .iconst (-1), 1, []), (31, .ireturn, 1, []), (32, .aload_n 0, 1, []), (33, .iload_n 1, 1, []), (34, .iload_n 2, 1, []), (35, .invokevirtual 406, 3, []), (38, .aload_n 0, 1, []), (39, .getfield 382, 3, [12, 38, 231]), (42, .iconst (-1), 1, []), (43, .if_icmp .eq 13, 3, [32]), (46, .iload_n 3, 1, []), (47, .iconst 2, 1, []), (48, .aload_n 0, 1, []), (49, .getfield 382, 3, [12, 38, 231]), (52, .iadd, 1, []), (53, .if_icmp .lt 5, 3, [34]), (56, .iconst (-1), 1, []), (57, .ireturn, 1, []), (58, .iload_n 3, 1, []), (59, .ifCond .ne 10, 3, [39]), (62, .aload_n 0, 1, []), (63, .getfield 385, 3, [12, 37, 230]), (66, .goto 23, 3, [51]), (69, .iload_n 3, 1, []), (70, .iconst 1, 1, []), (71, .if_icmp .ne 10, 3, [45]), (74, .aload_n 0, 1, []), (75, .getfield 382, 3, [12, 38, 231]), (78, .goto 11, 3, [51]), (81, .aload_n 0, 1, []), (82, .getfield 83, 3, [12, 36, 229]), (85, .iload_n 3, 1, []), (86, .iconst 2, 1, []), (87, .isub, 1, []), (88, .iaload, 1, []), (89, .ireturn, 1, [])])
set_option maxRecDepth 20000 in
theorem ckX12_cheap_0 : ckR mX12_cheap 0 40 = true := by decide +kernel
set_option maxRecDepth 20000 in
theorem ckX12_cheap_1 : ckR mX12_cheap 40 40 = true := by decide +kernel
set_option maxRecDepth 20000 in
theorem okX12_cheap : okC mX12_cheap := ⟨by decide +kernel, memT8 105 rfl rfl, okM.of (n := 2) (Or.inr rfl) (by decide) (fun j hj => by match j, hj with | 0, _ => exact ckX12_cheap_0 | 1, _ => exact ckX12_cheap_1 | _ + 2, hj => exact absurd hj (by omega))⟩
set_option maxRecDepth 20000 in
def mX12_areKin : Mt := (yX12_areKin, cX12_areKin, 3, (some .boolean), [12, 140, 2, 0, 1946, 117], [(0, .aload_n 0, 1, []), (1, .iload_n 1, 1, []), (2, .invokevirtual 316, 3, []), (5, .iconst 1, 1, []), (6, .iload_n 1, 1, []), (7, .ishl, 1, []), (8, .ior, 1, []), (9, .aload_n 0, 1, []), (10, .iload_n 2, 1, []), (11, .invokevirtual 316, 3, []), (14, .iconst 1, 1, []), (15, .iload_n 2, 1, []), (16, .ishl, 1, []), (17, .ior, 1, []), (18, .iand, 1, []), (19, .ifCond .eq 7, 3, [18]), (22, .iconst 1, 1, []), (23, .goto 4, 3, [19]), (26, .iconst 0, 1, []), (27, .ireturn, 1, [])])
set_option maxRecDepth 20000 in
theorem ckX12_areKin_0 : ckR mX12_areKin 0 40 = true := by decide +kernel
set_option maxRecDepth 20000 in
theorem okX12_areKin : okC mX12_areKin := ⟨by decide +kernel, memT8 141 rfl rfl, okM.of (n := 1) (Or.inr rfl) (by decide) (fun j hj => by match j, hj with | 0, _ => exact ckX12_areKin_0 | _ + 1, hj => exact absurd hj (by omega))⟩
set_option maxRecDepth 20000 in
def mX12_canHave : Mt := (yX12_canHave, cX12_canHave, 2, (some .boolean), [12, 140, 1, 0, 1954, 119], [(0, .aload_n 0, 1, []), (1, .iload_n 1, 1, []), (2, .bipush 16, 2, []), (4, .idiv, 1, []), (5, .invokevirtual 125, 3, []), (8, .ifCond .eq 33, 3, [23]), (11, .aload_n 0, 1, []), (12, .iload_n 1, 1, []), (13, .bipush 16, 2, []), (15, .irem, 1, []), (16, .invokevirtual 125, 3, []), (19, .ifCond .eq 22, 3, [23]), (22, .aload_n 0, 1, []), (23, .iload_n 1, 1, []), (24, .bipush 16, 2, []), (26, .irem, 1, []), (27, .iload_n 1, 1, []), (28, .bipush 16, 2, []), (30, .idiv, 1, []), (31, .invokevirtual 352, 3, []), (34, .ifCond .eq 7, 3, [23]), (37, .iconst 1, 1, []), (38, .goto 4, 3, [24]), (41, .iconst 0, 1, []), (42, .ireturn, 1, [])])
set_option maxRecDepth 20000 in
theorem ckX12_canHave_0 : ckR mX12_canHave 0 40 = true := by decide +kernel
set_option maxRecDepth 20000 in
theorem okX12_canHave : okC mX12_canHave := ⟨by decide +kernel, memT8 149 rfl rfl, okM.of (n := 1) (Or.inr rfl) (by decide) (fun j hj => by match j, hj with | 0, _ => exact ckX12_canHave_0 | _ + 1, hj => exact absurd hj (by omega))⟩
set_option maxRecDepth 20000 in
def mX12_joins : Mt := (yX12_joins, cX12_joins, 6, none, [12, 140, 3, 0, 1950, 118], [(0, .aload_n 0, 1, []), (1, .iconst 0, 1, []), (2, .putfield 409, 3, [12, 40, 233]), (5, .aload_n 0, 1, []), (6, .iconst 0, 1, []), (7, .invokevirtual 394, 3, []), (10, .iconst 0, 1, []), (11, .istore 4, 2, []), (13, .iload 4, 2, []), (15, .sipush 256, 3, []), (18, .if_icmp .ge 149, 3, [87]), (21, .aload_n 0, 1, []), (22, .iload 4, 2, []), (24, .invokevirtual 412, 3, []), (27, .ifCond .ne 6, 3, [16]), (30, .goto 131, 3, [85]), (33, .aload_n 0, 1, []), (34, .iload 4, 2, []), (36, .bipush 16, 2, []), (38, .irem, 1, []), (39, .iload 4, 2, []), (41, .bipush 16, 2, []), (43, .idiv, 1, []), (44, .invokevirtual 361, 3, []), (47, .iload_n 3, 1, []), (48, .iconst 1, 1, []), (49, .if_icmp .ne 26, 3, [40]), (52, .aload_n 0, 1, []), (53, .dup, 1, []), (54, .getfield 409, 3, [12, 40, 233]), (57, .aload_n 0, 1, []), (58, .iload_n 1, 1, []), (59, .iload_n 2, 1, []), (60, .invokevirtual 415, 3, []), (63, .ifCond .eq 7, 3, [37]), (66, .iconst 1, 1, []), (67, .goto 4, 3, [38]), (70, .iconst 0, 1, []), (71, .iadd, 1, []), (72, .putfield 409, 3, [12, 40, 233]), (75, .aload_n 0, 1, []), (76, .iconst 1, 1, []), (77, .invokevirtual 394, 3, []), (80, .iconst 0, 1, []), (81, .istore 5, 2, []), (83, .iload 5, 2, []), (85, .sipush 256, 3, []), (88, .if_icmp .ge 68, 3, [82]), (91, .iload_n 3, 1, []), (92, .iconst 2, 1, []), (93, .if_icmp .ne 63, 3, [82]), (96, .aload_n 0, 1, []), (97, .iload 5, 2, []), (99, .invokevirtual 412, 3, []), (102, .ifCond .ne 6, 3, [56]), (105, .goto 45, 3, [80]), (108, .aload_n 0, 1, []), (109, .iload 5, 2, []), (111, .bipush 16, 2, []), (113, .irem, 1, []), (114, .iload 5, 2, []), (116, .bipush 16, 2, []), (118, .idiv, 1, []), (119, .invokevirtual 361, 3, []), (122, .aload_n 0, 1, []), (123, .dup, 1, []), (124, .getfield 409, 3, [12, 40, 233]), (127, .aload_n 0, 1, []), (128, .iload_n 1, 1, []), (129, .iload_n 2, 1, []), (130, .invokevirtual 415, 3, []), (133, .ifCond .eq 7, 3, [74]), (136, .iconst 1, 1, []), (137, .goto 4, 3, [75]), (140, .iconst 0, 1, []), (141, .iadd, 1, []), (142, .putfield 409, 3, [12, 40, 233]), (145, .aload_n 0, 1, []), (146, .iconst 1, 1, []), (147, .invokevirtual 403, 3, []), (150, .iinc 5 1, 3, []), (153, .goto (-70), 3, [45]), (156, .aload_n 0, 1, []), (157, .iconst 0, 1, []), (158, .invokevirtual 403, 3, []), (161, .iinc 4 1, 3, []), (164, .goto (-151), 3, [8]), (167, .return_, 1, [])])
set_option maxRecDepth 20000 in
theorem ckX12_joins_0 : ckR mX12_joins 0 40 = true := by decide +kernel
set_option maxRecDepth 20000 in
theorem ckX12_joins_1 : ckR mX12_joins 40 40 = true := by decide +kernel
set_option maxRecDepth 20000 in
theorem ckX12_joins_2 : ckR mX12_joins 80 40 = true := by decide +kernel
set_option maxRecDepth 20000 in
theorem okX12_joins : okC mX12_joins := ⟨by decide +kernel, memT8 145 rfl rfl, okM.of (n := 3) (Or.inr rfl) (by decide) (fun j hj => by match j, hj with | 0, _ => exact ckX12_joins_0 | 1, _ => exact ckX12_joins_1 | 2, _ => exact ckX12_joins_2 | _ + 3, hj => exact absurd hj (by omega))⟩
set_option maxRecDepth 20000 in
def mX12_join : Mt := (yX12_join, cX12_join, 5, (some .int), [12, 140, 3, 0, 1941, 1942], [(0, .aload_n 0, 1, []), (1, .iload_n 1, 1, []), (2, .invokevirtual 125, 3, []), (5, .ifCond .eq 20, 3, [13]), (8, .aload_n 0, 1, []), (9, .iload_n 2, 1, []), (10, .invokevirtual 125, 3, []), (13, .ifCond .eq 12, 3, [13]), (16, .iload_n 3, 1, []), (17, .iconst 0, 1, []), (18, .iconst 1, 1, []), (19, .invokestatic 99, 3, []), (22, .ifCond .ne 5, 3, [15]), (25, .iconst (-1), 1, []), (26, .ireturn, 1, []), (27, .aload_n 0, 1, []), (28, .iload_n 1, 1, []), (29, .iload_n 2, 1, []), (30, .invokevirtual 415, 3, []), (33, .ifCond .eq 5, 3, [22]), (36, .iload_n 3, 1, []), (37, .ireturn, 1, []), (38, .iconst 1, 1, []), (39, .istore 4, 2, []), (41, .iload 4, 2, []), (43, .iconst 3, 1, []), (44, .if_icmp .ge 38, 3, [44]), (47, .aload_n 0, 1, []), (48, .iload_n 1, 1, []), (49, .iload_n 2, 1, []), (50, .iload 4, 2, []), (52, .invokevirtual 418, 3, []), (55, .aload_n 0, 1, []), (56, .getfield 409, 3, [12, 40, 233]), (59, .ifCond .le 17, 3, [42]), (62, .iload_n 3, 1, []), (63, .ifCond .ne 8, 3, [39]), (66, .iload 4, 2, []), (68, .goto 7, 3, [41]), (71, .aload_n 0, 1, []), (72, .getfield 409, 3, [12, 40, 233]), (75, .ireturn, 1, []), (76, .iinc 4 1, 3, []), (79, .goto (-38), 3, [24]), (82, .iconst (-1), 1, []), (83, .ireturn, 1, [])])
set_option maxRecDepth 20000 in
theorem ckX12_join_0 : ckR mX12_join 0 40 = true := by decide +kernel
set_option maxRecDepth 20000 in
theorem ckX12_join_1 : ckR mX12_join 40 40 = true := by decide +kernel
set_option maxRecDepth 20000 in
theorem okX12_join : okC mX12_join := ⟨by decide +kernel, memT8 137 rfl rfl, okM.of (n := 2) (Or.inr rfl) (by decide) (fun j hj => by match j, hj with | 0, _ => exact ckX12_join_0 | 1, _ => exact ckX12_join_1 | _ + 2, hj => exact absurd hj (by omega))⟩
set_option maxRecDepth 20000 in
def mX12_claim : Mt := (yX12_claim, cX12_claim, 4, (some .int), [12, 140, 2, 0, 1957, 1958], [(0, .iload_n 1, 1, []), (1, .iload_n 2, 1, []), (2, .if_icmp .ne 9, 3, [7]), (5, .aload_n 0, 1, []), (6, .iconst (-1), 1, []), (7, .invokevirtual 103, 3, []), (10, .ireturn, 1, []), (11, .aload_n 0, 1, []), (12, .iload_n 1, 1, []), (13, .invokevirtual 125, 3, []), (16, .ifCond .eq 11, 3, [15]), (19, .aload_n 0, 1, []), (20, .iload_n 2, 1, []), (21, .invokevirtual 125, 3, []), (24, .ifCond .ne 10, 3, [19]), (27, .aload_n 0, 1, []), (28, .bipush (-2), 2, []), (30, .invokevirtual 103, 3, []), (33, .ireturn, 1, []), (34, .aload_n 0, 1, []), (35, .getfield 24, 3, [12, 2, 196]), (38, .sipush 212, 3, []), (41, .iaload, 1, []), (42, .istore_n 3, 1, []), (43, .iload_n 3, 1, []), (44, .bipush 8, 2, []), (46, .if_icmp .ne 10, 3, [31]), (49, .aload_n 0, 1, []), (50, .bipush (-5), 2, []), (52, .invokevirtual 103, 3, []), (55, .ireturn, 1, []), (56, .aload_n 0, 1, []), (57, .getfield 24, 3, [12, 2, 196]), (60, .sipush 190, 3, []), (63, .iconst 2, 1, []), (64, .iload_n 3, 1, []), (65, .imul, 1, []), (66, .iadd, 1, []), (67, .iload_n 1, 1, []), (68, .iastore, 1, []), (69, .aload_n 0, 1, []), (70, .getfield 24, 3, [12, 2, 196]), (73, .sipush 190, 3, []), (76, .iconst 2, 1, []), (77, .iload_n 3, 1, []), (78, .imul, 1, []), (79, .iadd, 1, []), (80, .iconst 1, 1, []), (81, .iadd, 1, []), (82, .iload_n 2, 1, []), (83, .iastore, 1, []), (84, .aload_n 0, 1, []), (85, .getfield 24, 3, [12, 2, 196]), (88, .sipush 212, 3, []), (91, .dup2, 1, []), (92, .iaload, 1, []), (93, .iconst 1, 1, []), (94, .iadd, 1, []), (95, .iastore, 1, []), (96, .aload_n 0, 1, []), (97, .iload_n 3, 1, []), (98, .iconst 1, 1, []), (99, .iadd, 1, []), (100, .invokevirtual 14, 3, []), (103, .ireturn, 1, [])])
set_option maxRecDepth 20000 in
theorem ckX12_claim_0 : ckR mX12_claim 0 40 = true := by decide +kernel
set_option maxRecDepth 20000 in
theorem ckX12_claim_1 : ckR mX12_claim 40 40 = true := by decide +kernel
set_option maxRecDepth 20000 in
theorem okX12_claim : okC mX12_claim := ⟨by decide +kernel, memT8 153 rfl rfl, okM.of (n := 2) (Or.inr rfl) (by decide) (fun j hj => by match j, hj with | 0, _ => exact ckX12_claim_0 | 1, _ => exact ckX12_claim_1 | _ + 2, hj => exact absurd hj (by omega))⟩
set_option maxRecDepth 20000 in
def mX12_dismiss : Mt := (yX12_dismiss, cX12_dismiss, 2, (some .int), [12, 140, 0, 0, 1961, 1962], [(0, .aload_n 0, 1, []), (1, .getfield 24, 3, [12, 2, 196]), (4, .sipush 212, 3, []), (7, .iaload, 1, []), (8, .istore_n 1, 1, []), (9, .aload_n 0, 1, []), (10, .getfield 24, 3, [12, 2, 196]), (13, .sipush 212, 3, []), (16, .iconst 0, 1, []), (17, .iastore, 1, []), (18, .iload_n 1, 1, []), (19, .ireturn, 1, [])])
set_option maxRecDepth 20000 in
theorem ckX12_dismiss_0 : ckR mX12_dismiss 0 40 = true := by decide +kernel
set_option maxRecDepth 20000 in
theorem okX12_dismiss : okC mX12_dismiss := ⟨by decide +kernel, memT8 157 rfl rfl, okM.of (n := 1) (Or.inr rfl) (by decide) (fun j hj => by match j, hj with | 0, _ => exact ckX12_dismiss_0 | _ + 1, hj => exact absurd hj (by omega))⟩
set_option maxRecDepth 20000 in
def mX12_canBeTrue : Mt := (yX12_canBeTrue, cX12_canBeTrue, 6, (some .boolean), [12, 140, 1, 0, 1973, 120], [(0, .aload_n 0, 1, []), (1, .iconst 0, 1, []), (2, .invokevirtual 394, 3, []), (5, .iconst 1, 1, []), (6, .istore_n 2, 1, []), (7, .iconst 0, 1, []), (8, .istore_n 3, 1, []), (9, .iload_n 3, 1, []), (10, .aload_n 0, 1, []), (11, .getfield 24, 3, [12, 2, 196]), (14, .sipush 212, 3, []), (17, .iaload, 1, []), (18, .if_icmp .ge 75, 3, [53]), (21, .iload_n 2, 1, []), (22, .ifCond .eq 71, 3, [53]), (25, .iload_n 1, 1, []), (26, .iload_n 3, 1, []), (27, .invokestatic 300, 3, []), (30, .ifCond .eq 6, 3, [20]), (33, .goto 54, 3, [51]), (36, .aload_n 0, 1, []), (37, .getfield 24, 3, [12, 2, 196]), (40, .sipush 190, 3, []), (43, .iconst 2, 1, []), (44, .iload_n 3, 1, []), (45, .imul, 1, []), (46, .iadd, 1, []), (47, .iaload, 1, []), (48, .istore 4, 2, []), (50, .aload_n 0, 1, []), (51, .getfield 24, 3, [12, 2, 196]), (54, .sipush 190, 3, []), (57, .iconst 2, 1, []), (58, .iload_n 3, 1, []), (59, .imul, 1, []), (60, .iadd, 1, []), (61, .iconst 1, 1, []), (62, .iadd, 1, []), (63, .iaload, 1, []), (64, .istore 5, 2, []), (66, .aload_n 0, 1, []), (67, .iload 4, 2, []), (69, .iload 5, 2, []), (71, .invokevirtual 352, 3, []), (74, .istore_n 2, 1, []), (75, .iload_n 2, 1, []), (76, .ifCond .eq 11, 3, [51]), (79, .aload_n 0, 1, []), (80, .iload 4, 2, []), (82, .iload 5, 2, []), (84, .invokevirtual 361, 3, []), (87, .iinc 3 1, 3, []), (90, .goto (-81), 3, [7]), (93, .aload_n 0, 1, []), (94, .iconst 0, 1, []), (95, .invokevirtual 403, 3, []), (98, .iload_n 2, 1, []), (99, .ireturn, 1, [])])
set_option maxRecDepth 20000 in
theorem ckX12_canBeTrue_0 : ckR mX12_canBeTrue 0 40 = true := by decide +kernel
set_option maxRecDepth 20000 in
theorem ckX12_canBeTrue_1 : ckR mX12_canBeTrue 40 40 = true := by decide +kernel
set_option maxRecDepth 20000 in
theorem okX12_canBeTrue : okC mX12_canBeTrue := ⟨by decide +kernel, memT8 168 rfl rfl, okM.of (n := 2) (Or.inr rfl) (by decide) (fun j hj => by match j, hj with | 0, _ => exact ckX12_canBeTrue_0 | 1, _ => exact ckX12_canBeTrue_1 | _ + 2, hj => exact absurd hj (by omega))⟩
set_option maxRecDepth 20000 in
def mX12_lies : Mt := (yX12_lies, cX12_lies, 4, (some .int), [12, 140, 1, 0, 1965, 1966], [(0, .iload_n 1, 1, []), (1, .iconst 0, 1, []), (2, .iconst 1, 1, []), (3, .invokestatic 99, 3, []), (6, .ifCond .ne 5, 3, [7]), (9, .iconst (-1), 1, []), (10, .ireturn, 1, []), (11, .iconst (-1), 1, []), (12, .istore_n 2, 1, []), (13, .iconst 0, 1, []), (14, .istore_n 3, 1, []), (15, .iload_n 3, 1, []), (16, .iconst 1, 1, []), (17, .aload_n 0, 1, []), (18, .getfield 24, 3, [12, 2, 196]), (21, .sipush 212, 3, []), (24, .iaload, 1, []), (25, .ishl, 1, []), (26, .if_icmp .ge 35, 3, [35]), (29, .iload_n 2, 1, []), (30, .iconst (-1), 1, []), (31, .if_icmp .eq 14, 3, [27]), (34, .iload_n 3, 1, []), (35, .invokestatic 421, 3, []), (38, .iload_n 2, 1, []), (39, .invokestatic 421, 3, []), (42, .if_icmp .ge 13, 3, [33]), (45, .aload_n 0, 1, []), (46, .iload_n 3, 1, []), (47, .invokevirtual 424, 3, []), (50, .ifCond .eq 5, 3, [33]), (53, .iload_n 3, 1, []), (54, .istore_n 2, 1, []), (55, .iinc 3 1, 3, []), (58, .goto (-43), 3, [11]), (61, .iload_n 1, 1, []), (62, .ifCond .ne 10, 3, [40]), (65, .iload_n 2, 1, []), (66, .invokestatic 421, 3, []), (69, .goto 4, 3, [41]), (72, .iload_n 2, 1, []), (73, .ireturn, 1, [])])
set_option maxRecDepth 20000 in
theorem ckX12_lies_0 : ckR mX12_lies 0 40 = true := by decide +kernel
set_option maxRecDepth 20000 in
theorem ckX12_lies_1 : ckR mX12_lies 40 40 = true := by decide +kernel
set_option maxRecDepth 20000 in
theorem okX12_lies : okC mX12_lies := ⟨by decide +kernel, memT8 161 rfl rfl, okM.of (n := 2) (Or.inr rfl) (by decide) (fun j hj => by match j, hj with | 0, _ => exact ckX12_lies_0 | 1, _ => exact ckX12_lies_1 | _ + 2, hj => exact absurd hj (by omega))⟩
set_option maxRecDepth 20000 in
def mX12_sight : Mt := (yX12_sight, cX12_sight, 5, (some .int), [12, 140, 3, 0, 1976, 1977], [(0, .iload_n 3, 1, []), (1, .iconst (-1), 1, []), (2, .bipush 20, 2, []), (4, .invokestatic 99, 3, []), (7, .ifCond .ne 9, 3, [9]), (10, .aload_n 0, 1, []), (11, .iconst (-1), 1, []), (12, .invokevirtual 103, 3, []), (15, .ireturn, 1, []), (16, .aload_n 0, 1, []), (17, .iload_n 1, 1, []), (18, .invokevirtual 125, 3, []), (21, .ifCond .eq 11, 3, [17]), (24, .aload_n 0, 1, []), (25, .iload_n 2, 1, []), (26, .invokevirtual 125, 3, []), (29, .ifCond .ne 10, 3, [21]), (32, .aload_n 0, 1, []), (33, .bipush (-2), 2, []), (35, .invokevirtual 103, 3, []), (38, .ireturn, 1, []), (39, .aload_n 0, 1, []), (40, .getfield 24, 3, [12, 2, 196]), (43, .sipush 211, 3, []), (46, .iaload, 1, []), (47, .istore 4, 2, []), (49, .iload 4, 2, []), (51, .bipush 8, 2, []), (53, .if_icmp .ne 10, 3, [33]), (56, .aload_n 0, 1, []), (57, .bipush (-5), 2, []), (59, .invokevirtual 103, 3, []), (62, .ireturn, 1, []), (63, .aload_n 0, 1, []), (64, .getfield 24, 3, [12, 2, 196]), (67, .sipush 166, 3, []), (70, .iconst 3, 1, []), (71, .iload 4, 2, []), (73, .imul, 1, []), (74, .iadd, 1, []), (75, .iload_n 1, 1, []), (76, .iastore, 1, []), (77, .aload_n 0, 1, []), (78, .getfield 24, 3, [12, 2, 196]), (81, .sipush 166, 3, []), (84, .iconst 3, 1, []), (85, .iload 4, 2, []), (87, .imul, 1, []), (88, .iadd, 1, []), (89, .iconst 1, 1, []), (90, .iadd, 1, []), (91, .iload_n 2, 1, []), (92, .iastore, 1, []), (93, .aload_n 0, 1, []), (94, .getfield 24, 3, [12, 2, 196]), (97, .sipush 166, 3, []), (100, .iconst 3, 1, []), (101, .iload 4, 2, []), (103, .imul, 1, []), (104, .iadd, 1, []), (105, .iconst 2, 1, []), (106, .iadd, 1, []), (107, .iload_n 3, 1, []), (108, .iastore, 1, []), (109, .aload_n 0, 1, []), (110, .getfield 24, 3, [12, 2, 196]), (113, .sipush 211, 3, []), (116, .dup2, 1, []), (117, .iaload, 1, []), (118, .iconst 1, 1, []), (119, .iadd, 1, []), (120, .iastore, 1, []), (121, .aload_n 0, 1, []), (122, .iload 4, 2, []), (124, .iconst 1, 1, []), (125, .iadd, 1, []), (126, .invokevirtual 14, 3, []), (129, .ireturn, 1, [])])
set_option maxRecDepth 20000 in
theorem ckX12_sight_0 : ckR mX12_sight 0 40 = true := by decide +kernel
set_option maxRecDepth 20000 in
theorem ckX12_sight_1 : ckR mX12_sight 40 40 = true := by decide +kernel
set_option maxRecDepth 20000 in
theorem okX12_sight : okC mX12_sight := ⟨by decide +kernel, memT8 172 rfl rfl, okM.of (n := 2) (Or.inr rfl) (by decide) (fun j hj => by match j, hj with | 0, _ => exact ckX12_sight_0 | 1, _ => exact ckX12_sight_1 | _ + 2, hj => exact absurd hj (by omega))⟩
end
section
set_option maxRecDepth 20000 in
def mX12_forget : Mt := (yX12_forget, cX12_forget, 2, (some .int), [12, 140, 0, 0, 1980, 1981], [(0, .aload_n 0, 1, []), (1, .getfield 24, 3, [12, 2, 196]), (4, .sipush 211, 3, []), (7, .iaload, 1, []), (8, .istore_n 1, 1, []), (9, .aload_n 0, 1, []), (10, .getfield 24, 3, [12, 2, 196]), (13, .sipush 211, 3, []), (16, .iconst 0, 1, []), (17, .iastore, 1, []), (18, .iload_n 1, 1, []), (19, .ireturn, 1, [])])
set_option maxRecDepth 20000 in
theorem ckX12_forget_0 : ckR mX12_forget 0 40 = true := by decide +kernel
set_option maxRecDepth 20000 in
theorem okX12_forget : okC mX12_forget := ⟨by decide +kernel, memT8 176 rfl rfl, okM.of (n := 1) (Or.inr rfl) (by decide) (fun j hj => by match j, hj with | 0, _ => exact ckX12_forget_0 | _ + 1, hj => exact absurd hj (by omega))⟩
set_option maxRecDepth 20000 in
def mX12_areSo : Mt := (yX12_areSo, cX12_areSo, 2, (some .boolean), [12, 140, 0, 0, 1989, 121], [(0, .iconst 0, 1, []), (1, .istore_n 1, 1, []), (2, .iload_n 1, 1, []), (3, .aload_n 0, 1, []), (4, .getfield 24, 3, [12, 2, 196]), (7, .sipush 211, 3, []), (10, .iaload, 1, []), (11, .if_icmp .ge 58, 3, [43]), (14, .aload_n 0, 1, []), (15, .aload_n 0, 1, []), (16, .getfield 24, 3, [12, 2, 196]), (19, .sipush 166, 3, []), (22, .iconst 3, 1, []), (23, .iload_n 1, 1, []), (24, .imul, 1, []), (25, .iadd, 1, []), (26, .iaload, 1, []), (27, .aload_n 0, 1, []), (28, .getfield 24, 3, [12, 2, 196]), (31, .sipush 166, 3, []), (34, .iconst 3, 1, []), (35, .iload_n 1, 1, []), (36, .imul, 1, []), (37, .iadd, 1, []), (38, .iconst 1, 1, []), (39, .iadd, 1, []), (40, .iaload, 1, []), (41, .invokevirtual 277, 3, []), (44, .aload_n 0, 1, []), (45, .getfield 24, 3, [12, 2, 196]), (48, .sipush 166, 3, []), (51, .iconst 3, 1, []), (52, .iload_n 1, 1, []), (53, .imul, 1, []), (54, .iadd, 1, []), (55, .iconst 2, 1, []), (56, .iadd, 1, []), (57, .iaload, 1, []), (58, .if_icmp .eq 5, 3, [41]), (61, .iconst 0, 1, []), (62, .ireturn, 1, []), (63, .iinc 1 1, 3, []), (66, .goto (-64), 3, [2]), (69, .iconst 1, 1, []), (70, .ireturn, 1, [])])
set_option maxRecDepth 20000 in
theorem ckX12_areSo_0 : ckR mX12_areSo 0 40 = true := by decide +kernel
set_option maxRecDepth 20000 in
theorem ckX12_areSo_1 : ckR mX12_areSo 40 40 = true := by decide +kernel
set_option maxRecDepth 20000 in
theorem okX12_areSo : okC mX12_areSo := ⟨by decide +kernel, memT8 184 rfl rfl, okM.of (n := 2) (Or.inr rfl) (by decide) (fun j hj => by match j, hj with | 0, _ => exact ckX12_areSo_0 | 1, _ => exact ckX12_areSo_1 | _ + 2, hj => exact absurd hj (by omega))⟩
set_option maxRecDepth 20000 in
def mX12_secret : Mt := (yX12_secret, cX12_secret, 5, (some .int), [12, 140, 1, 0, 1984, 1985], [(0, .iload_n 1, 1, []), (1, .iconst (-1), 1, []), (2, .if_icmp .ge 5, 3, [5]), (5, .iconst (-1), 1, []), (6, .ireturn, 1, []), (7, .iconst 0, 1, []), (8, .istore_n 2, 1, []), (9, .aload_n 0, 1, []), (10, .iconst 0, 1, []), (11, .invokevirtual 394, 3, []), (14, .iconst 0, 1, []), (15, .istore_n 3, 1, []), (16, .iload_n 3, 1, []), (17, .sipush 256, 3, []), (20, .if_icmp .ge 61, 3, [45]), (23, .aload_n 0, 1, []), (24, .iload_n 3, 1, []), (25, .invokevirtual 412, 3, []), (28, .ifCond .ne 6, 3, [20]), (31, .goto 44, 3, [43]), (34, .aload_n 0, 1, []), (35, .iload_n 3, 1, []), (36, .bipush 16, 2, []), (38, .irem, 1, []), (39, .iload_n 3, 1, []), (40, .bipush 16, 2, []), (42, .idiv, 1, []), (43, .invokevirtual 361, 3, []), (46, .aload_n 0, 1, []), (47, .invokevirtual 427, 3, []), (50, .istore 4, 2, []), (52, .aload_n 0, 1, []), (53, .iconst 0, 1, []), (54, .invokevirtual 403, 3, []), (57, .iload 4, 2, []), (59, .ifCond .ne 6, 3, [37]), (62, .goto 13, 3, [43]), (65, .iload_n 2, 1, []), (66, .iload_n 1, 1, []), (67, .if_icmp .ne 5, 3, [42]), (70, .iload_n 3, 1, []), (71, .ireturn, 1, []), (72, .iinc 2 1, 3, []), (75, .iinc 3 1, 3, []), (78, .goto (-62), 3, [12]), (81, .iload_n 1, 1, []), (82, .iconst (-1), 1, []), (83, .if_icmp .ne 7, 3, [50]), (86, .iload_n 2, 1, []), (87, .goto 4, 3, [51]), (90, .iconst (-1), 1, []), (91, .ireturn, 1, [])])
set_option maxRecDepth 20000 in
theorem ckX12_secret_0 : ckR mX12_secret 0 40 = true := by decide +kernel
set_option maxRecDepth 20000 in
theorem ckX12_secret_1 : ckR mX12_secret 40 40 = true := by decide +kernel
set_option maxRecDepth 20000 in
theorem okX12_secret : okC mX12_secret := ⟨by decide +kernel, memT8 180 rfl rfl, okM.of (n := 2) (Or.inr rfl) (by decide) (fun j hj => by match j, hj with | 0, _ => exact ckX12_secret_0 | 1, _ => exact ckX12_secret_1 | _ + 2, hj => exact absurd hj (by omega))⟩
set_option maxRecDepth 20000 in
def mX12_stopped : Mt := (yX12_stopped, cX12_stopped, 1, (some .int), [12, 140, 0, 0, 1992, 1993], [(0, .aload_n 0, 1, []), (1, .getfield 86, 3, [12, 41, 234]), (4, .ireturn, 1, [])])
set_option maxRecDepth 20000 in
theorem ckX12_stopped_0 : ckR mX12_stopped 0 40 = true := by decide +kernel
set_option maxRecDepth 20000 in
theorem okX12_stopped : okC mX12_stopped := ⟨by decide +kernel, memT8 188 rfl rfl, okM.of (n := 1) (Or.inr rfl) (by decide) (fun j hj => by match j, hj with | 0, _ => exact ckX12_stopped_0 | _ + 1, hj => exact absurd hj (by omega))⟩
set_option maxRecDepth 20000 in
def mX12_orders : Mt := (yX12_orders, cX12_orders, 6, (some .int), [12, 140, 0, 0, 1996, 1997], [(0, .aload_n 0, 1, []), (1, .iconst (-1), 1, []), (2, .putfield 86, 3, [12, 41, 234]), (5, .aload_n 0, 1, []), (6, .iconst 1, 1, []), (7, .invokevirtual 235, 3, []), (10, .ifCond .ne 10, 3, [11]), (13, .aload_n 0, 1, []), (14, .bipush (-6), 2, []), (16, .invokevirtual 103, 3, []), (19, .ireturn, 1, []), (20, .aload_n 0, 1, []), (21, .iconst 2, 1, []), (22, .invokevirtual 394, 3, []), (25, .iconst 0, 1, []), (26, .istore_n 1, 1, []), (27, .iload_n 1, 1, []), (28, .sipush 1136, 3, []), (31, .if_icmp .ge 21, 3, [29]), (34, .aload_n 0, 1, []), (35, .getfield 74, 3, [12, 32, 225]), (38, .iload_n 1, 1, []), (39, .aload_n 0, 1, []), (40, .getfield 71, 3, [12, 31, 224]), (43, .iload_n 1, 1, []), (44, .iaload, 1, []), (45, .iastore, 1, []), (46, .iinc 1 1, 3, []), (49, .goto (-22), 3, [16]), (52, .aload_n 0, 1, []), (53, .getfield 11, 3, [12, 33, 226]), (56, .istore_n 1, 1, []), (57, .aload_n 0, 1, []), (58, .getfield 24, 3, [12, 2, 196]), (61, .sipush 206, 3, []), (64, .iaload, 1, []), (65, .istore_n 2, 1, []), (66, .aload_n 0, 1, []), (67, .bipush 6, 2, []), (69, .invokevirtual 239, 3, []), (72, .aload_n 0, 1, []), (73, .iconst 0, 1, []), (74, .putfield 430, 3, [12, 42, 235]), (77, .aload_n 0, 1, []), (78, .iconst (-1), 1, []), (79, .putfield 433, 3, [12, 43, 236]), (82, .aload_n 0, 1, []), (83, .sipush 2400, 3, []), (86, .putfield 436, 3, [12, 44, 237]), (89, .aload_n 0, 1, []), (90, .getfield 436, 3, [12, 44, 237]), (93, .aload_n 0, 1, []), (94, .getfield 24, 3, [12, 2, 196]), (97, .sipush 221, 3, []), (100, .iaload, 1, []), (101, .iadd, 1, []), (102, .istore_n 3, 1, []), (103, .iconst 0, 1, []), (104, .istore 4, 2, []), (106, .aload_n 0, 1, []), (107, .getfield 436, 3, [12, 44, 237]), (110, .iload_n 3, 1, []), (111, .if_icmp .ge 83, 3, [103]), (114, .aload_n 0, 1, []), (115, .iload_n 3, 1, []), (116, .invokevirtual 439, 3, []), (119, .ifCond .eq 6, 3, [68]), (122, .goto 66, 3, [101]), (125, .aload_n 0, 1, []), (126, .iconst 2, 1, []), (127, .invokevirtual 403, 3, []), (130, .iconst 0, 1, []), (131, .istore 5, 2, []), (133, .iload 5, 2, []), (135, .sipush 1136, 3, []), (138, .if_icmp .ge 23, 3, [86]), (141, .aload_n 0, 1, []), (142, .getfield 71, 3, [12, 31, 224]), (145, .iload 5, 2, []), (147, .aload_n 0, 1, []), (148, .getfield 74, 3, [12, 32, 225]), (151, .iload 5, 2, []), (153, .iaload, 1, []), (154, .iastore, 1, []), (155, .iinc 5 1, 3, []), (158, .goto (-25), 3, [73]), (161, .aload_n 0, 1, []), (162, .iload_n 1, 1, []), (163, .putfield 11, 3, [12, 33, 226]), (166, .aload_n 0, 1, []), (167, .getfield 24, 3, [12, 2, 196]), (170, .sipush 206, 3, []), (173, .iload_n 2, 1, []), (174, .iastore, 1, []), (175, .aload_n 0, 1, []), (176, .iload 4, 2, []), (178, .putfield 86, 3, [12, 41, 234]), (181, .aload_n 0, 1, []), (182, .bipush (-3), 2, []), (184, .invokevirtual 103, 3, []), (187, .ireturn, 1, []), (188, .iinc 4 1, 3, []), (191, .goto (-85), 3, [59]), (194, .aload_n 0, 1, []), (195, .aload_n 0, 1, []), (196, .getfield 430, 3, [12, 42, 235]), (199, .invokevirtual 14, 3, []), (202, .ireturn, 1, [])])
set_option maxRecDepth 20000 in
theorem ckX12_orders_0 : ckR mX12_orders 0 40 = true := by decide +kernel
set_option maxRecDepth 20000 in
theorem ckX12_orders_1 : ckR mX12_orders 40 40 = true := by decide +kernel
set_option maxRecDepth 20000 in
theorem ckX12_orders_2 : ckR mX12_orders 80 40 = true := by decide +kernel
set_option maxRecDepth 20000 in
theorem okX12_orders : okC mX12_orders := ⟨by decide +kernel, memT8 192 rfl rfl, okM.of (n := 3) (Or.inr rfl) (by decide) (fun j hj => by match j, hj with | 0, _ => exact ckX12_orders_0 | 1, _ => exact ckX12_orders_1 | 2, _ => exact ckX12_orders_2 | _ + 3, hj => exact absurd hj (by omega))⟩
set_option maxRecDepth 20000 in
def mX12_goesAlong : Mt := (yX12_goesAlong, cX12_goesAlong, 5, none, [12, 140, 2, 0, 2005, 123], [(0, .aload_n 0, 1, []), (1, .bipush 18, 2, []), (3, .putfield 217, 3, [12, 8, 202]), (6, .aload_n 0, 1, []), (7, .iload_n 1, 1, []), (8, .putfield 242, 3, [12, 23, 217]), (11, .aload_n 0, 1, []), (12, .getfield 59, 3, [12, 26, 219]), (15, .iconst 0, 1, []), (16, .aload_n 0, 1, []), (17, .getfield 24, 3, [12, 2, 196]), (20, .sipush 206, 3, []), (23, .iaload, 1, []), (24, .iastore, 1, []), (25, .aload_n 0, 1, []), (26, .getfield 59, 3, [12, 26, 219]), (29, .iconst 1, 1, []), (30, .aload_n 0, 1, []), (31, .invokevirtual 109, 3, []), (34, .iastore, 1, []), (35, .aload_n 0, 1, []), (36, .getfield 59, 3, [12, 26, 219]), (39, .iconst 2, 1, []), (40, .aload_n 0, 1, []), (41, .getfield 430, 3, [12, 42, 235]), (44, .iastore, 1, []), (45, .aload_n 0, 1, []), (46, .getfield 59, 3, [12, 26, 219]), (49, .iconst 3, 1, []), (50, .aload_n 0, 1, []), (51, .getfield 433, 3, [12, 43, 236]), (54, .iastore, 1, []), (55, .aload_n 0, 1, []), (56, .aload_n 0, 1, []), (57, .getfield 436, 3, [12, 44, 237]), (60, .putfield 245, 3, [12, 22, 216]), (63, .aload_n 0, 1, []), (64, .aload_n 0, 1, []), (65, .aload_n 0, 1, []), (66, .getfield 245, 3, [12, 22, 216]), (69, .invokevirtual 248, 3, []), (72, .putfield 442, 3, [12, 46, 239]), (75, .aload_n 0, 1, []), (76, .dup, 1, []), (77, .getfield 245, 3, [12, 22, 216]), (80, .iconst 1, 1, []), (81, .iadd, 1, []), (82, .putfield 245, 3, [12, 22, 216]), (85, .aload_n 0, 1, []), (86, .iconst 1, 1, []), (87, .putfield 445, 3, [12, 47, 240]), (90, .aload_n 0, 1, []), (91, .getfield 442, 3, [12, 46, 239]), (94, .bipush 24, 2, []), (96, .if_icmp .ne 7, 3, [57]), (99, .iconst 3, 1, []), (100, .goto 4, 3, [58]), (103, .iconst 1, 1, []), (104, .istore_n 3, 1, []), (105, .iconst 0, 1, []), (106, .istore 4, 2, []), (108, .iload 4, 2, []), (110, .iload_n 3, 1, []), (111, .if_icmp .ge 64, 3, [95]), (114, .iload 4, 2, []), (116, .ifCond .le 13, 3, [72]), (119, .aload_n 0, 1, []), (120, .dup, 1, []), (121, .getfield 245, 3, [12, 22, 216]), (124, .iconst 1, 1, []), (125, .iadd, 1, []), (126, .putfield 245, 3, [12, 22, 216]), (129, .aload_n 0, 1, []), (130, .iconst 0, 1, []), (131, .putfield 255, 3, [12, 24, 218]), (134, .aload_n 0, 1, []), (135, .getfield 89, 3, [12, 49, 242]), (138, .iload 4, 2, []), (140, .aload_n 0, 1, []), (141, .iload_n 2, 1, []), (142, .invokevirtual 272, 3, []), (145, .lastore, 1, []), (146, .aload_n 0, 1, []), (147, .aload_n 0, 1, []), (148, .getfield 445, 3, [12, 47, 240]), (151, .ifCond .eq 14, 3, [91]), (154, .aload_n 0, 1, []), (155, .getfield 255, 3, [12, 24, 218]), (158, .ifCond .ne 7, 3, [91]), (161, .iconst 1, 1, []), (162, .goto 4, 3, [92]), (165, .iconst 0, 1, []), (166, .putfield 445, 3, [12, 47, 240]), (169, .iinc 4 1, 3, []), (172, .goto (-64), 3, [61]), (175, .aload_n 0, 1, []), (176, .iconst 1, 1, []), (177, .putfield 448, 3, [12, 45, 238]), (180, .aload_n 0, 1, []), (181, .bipush 27, 2, []), (183, .invokevirtual 269, 3, []), (186, .ifCond .eq 30, 3, [117]), (189, .aload_n 0, 1, []), (190, .aload_n 0, 1, []), (191, .getfield 24, 3, [12, 2, 196]), (194, .sipush 3022, 3, []), (197, .aload_n 0, 1, []), (198, .getfield 245, 3, [12, 22, 216]), (201, .iadd, 1, []), (202, .iaload, 1, []), (203, .putfield 448, 3, [12, 45, 238]), (206, .aload_n 0, 1, []), (207, .dup, 1, []), (208, .getfield 245, 3, [12, 22, 216]), (211, .iconst 1, 1, []), (212, .iadd, 1, []), (213, .putfield 245, 3, [12, 22, 216]), (216, .aload_n 0, 1, []), (217, .iconst 0, 1, []), (218, .putfield 255, 3, [12, 24, 218]), (221, .aload_n 0, 1, []), (222, .aload_n 0, 1, []), (223, .iconst 4, 1, []), (224, .invokevirtual 269, 3, []), (227, .ifCond .eq 11, 3, [129]), (230, .aload_n 0, 1, []), (231, .iload_n 2, 1, []), (232, .invokevirtual 289, 3, []), (235, .ifCond .eq 7, 3, [131]), (238, .iconst 1, 1, []), (239, .goto 4, 3, [132]), (242, .iconst 0, 1, []), (243, .putfield 451, 3, [12, 48, 241]), (246, .aload_n 0, 1, []), (247, .aload_n 0, 1, []), (248, .getfield 451, 3, [12, 48, 241]), (251, .ifCond .eq 14, 3, [142]), (254, .aload_n 0, 1, []), (255, .getfield 255, 3, [12, 24, 218]), (258, .ifCond .ne 7, 3, [142]), (261, .iconst 1, 1, []), (262, .goto 4, 3, [143]), (265, .iconst 0, 1, []), (266, .putfield 451, 3, [12, 48, 241]), (269, .aload_n 0, 1, []), (270, .dup, 1, []), (271, .getfield 245, 3, [12, 22, 216]), (274, .iconst 1, 1, []), (275, .iadd, 1, []), (276, .putfield 245, 3, [12, 22, 216]), (279, .return_, 1, [])])
set_option maxRecDepth 20000 in
theorem ckX12_goesAlong_0 : ckR mX12_goesAlong 0 40 = true := by decide +kernel
set_option maxRecDepth 20000 in
theorem ckX12_goesAlong_1 : ckR mX12_goesAlong 40 40 = true := by decide +kernel
set_option maxRecDepth 20000 in
theorem ckX12_goesAlong_2 : ckR mX12_goesAlong 80 40 = true := by decide +kernel
set_option maxRecDepth 20000 in
theorem ckX12_goesAlong_3 : ckR mX12_goesAlong 120 40 = true := by decide +kernel
set_option maxRecDepth 20000 in
theorem okX12_goesAlong : okC mX12_goesAlong := ⟨by decide +kernel, memT8 200 rfl rfl, okM.of (n := 4) (Or.inr rfl) (by decide) (fun j hj => by match j, hj with | 0, _ => exact ckX12_goesAlong_0 | 1, _ => exact ckX12_goesAlong_1 | 2, _ => exact ckX12_goesAlong_2 | 3, _ => exact ckX12_goesAlong_3 | _ + 4, hj => exact absurd hj (by omega))⟩
set_option maxRecDepth 20000 in
def mX12_small : Mt := (yX12_small, cX12_small, 2, (some .int), [12, 140, 1, 1, 2012], [(0, .lload_n 0, 1, []), (1, .lconst 0, 1, []), (2, .lcmp, 1, []), (3, .ifCond .lt 11, 3, [8]), (6, .lload_n 0, 1, []), (7, .ldc2_w 454, 3, []), (10, .lcmp, 1, []), (11, .ifCond .le 7, 3, [10]), (14, .iconst (-1), 1, []), (15, .goto 5, 3, [12]), (18, .lload_n 0, 1, []), (19, .l2i, 1, []), (20, .ireturn, 1, [])])
set_option maxRecDepth 20000 in
theorem ckX12_small_0 : ckR mX12_small 0 40 = true := by decide +kernel
set_option maxRecDepth 20000 in
theorem okX12_small : okC mX12_small := ⟨by decide +kernel, memT8 207 rfl rfl, okM.of (n := 1) (Or.inr rfl) (by decide) (fun j hj => by match j, hj with | 0, _ => exact ckX12_small_0 | _ + 1, hj => exact absurd hj (by omega))⟩
set_option maxRecDepth 20000 in
def mX12_obeys : Mt := (yX12_obeys, cX12_obeys, 2, (some .boolean), [12, 140, 0, 0, 2009, 124], [(0, .aload_n 0, 1, []), (1, .getfield 442, 3, [12, 46, 239]), (4, .bipush 24, 2, []), (6, .if_icmp .ne 54, 3, [33]), (9, .aload_n 0, 1, []), (10, .aload_n 0, 1, []), (11, .getfield 89, 3, [12, 49, 242]), (14, .iconst 0, 1, []), (15, .laload, 1, []), (16, .invokestatic 456, 3, []), (19, .aload_n 0, 1, []), (20, .getfield 89, 3, [12, 49, 242]), (23, .iconst 1, 1, []), (24, .laload, 1, []), (25, .invokestatic 456, 3, []), (28, .aload_n 0, 1, []), (29, .getfield 89, 3, [12, 49, 242]), (32, .iconst 2, 1, []), (33, .laload, 1, []), (34, .invokestatic 456, 3, []), (37, .invokevirtual 376, 3, []), (40, .istore_n 1, 1, []), (41, .iload_n 1, 1, []), (42, .ifCond .lt 8, 3, [27]), (45, .aload_n 0, 1, []), (46, .iload_n 1, 1, []), (47, .putfield 433, 3, [12, 43, 236]), (50, .iload_n 1, 1, []), (51, .ifCond .lt 7, 3, [31]), (54, .iconst 1, 1, []), (55, .goto 4, 3, [32]), (58, .iconst 0, 1, []), (59, .ireturn, 1, []), (60, .aload_n 0, 1, []), (61, .getfield 89, 3, [12, 49, 242]), (64, .iconst 0, 1, []), (65, .laload, 1, []), (66, .invokestatic 456, 3, []), (69, .istore_n 1, 1, []), (70, .iload_n 1, 1, []), (71, .iconst 0, 1, []), (72, .sipush 999, 3, []), (75, .invokestatic 99, 3, []), (78, .ifCond .ne 5, 3, [46]), (81, .iconst 0, 1, []), (82, .ireturn, 1, []), (83, .aload_n 0, 1, []), (84, .getfield 24, 3, [12, 2, 196]), (87, .sipush 206, 3, []), (90, .iload_n 1, 1, []), (91, .iastore, 1, []), (92, .iconst 1, 1, []), (93, .ireturn, 1, [])])
set_option maxRecDepth 20000 in
theorem ckX12_obeys_0 : ckR mX12_obeys 0 40 = true := by decide +kernel
set_option maxRecDepth 20000 in
theorem ckX12_obeys_1 : ckR mX12_obeys 40 40 = true := by decide +kernel
set_option maxRecDepth 20000 in
theorem okX12_obeys : okC mX12_obeys := ⟨by decide +kernel, memT8 204 rfl rfl, okM.of (n := 2) (Or.inr rfl) (by decide) (fun j hj => by match j, hj with | 0, _ => exact ckX12_obeys_0 | 1, _ => exact ckX12_obeys_1 | _ + 2, hj => exact absurd hj (by omega))⟩
set_option maxRecDepth 20000 in
def mX12_runs : Mt := (yX12_runs, cX12_runs, 5, (some .boolean), [12, 140, 1, 0, 2001, 122], [(0, .aload_n 0, 1, []), (1, .iload_n 1, 1, []), (2, .iconst 0, 1, []), (3, .invokevirtual 460, 3, []), (6, .aload_n 0, 1, []), (7, .getfield 448, 3, [12, 45, 238]), (10, .istore_n 2, 1, []), (11, .aload_n 0, 1, []), (12, .getfield 245, 3, [12, 22, 216]), (15, .istore_n 3, 1, []), (16, .iconst 0, 1, []), (17, .istore 4, 2, []), (19, .iload 4, 2, []), (21, .iload_n 2, 1, []), (22, .if_icmp .ge 51, 3, [39]), (25, .aload_n 0, 1, []), (26, .iload_n 1, 1, []), (27, .iconst 1, 1, []), (28, .invokevirtual 460, 3, []), (31, .aload_n 0, 1, []), (32, .getfield 451, 3, [12, 48, 241]), (35, .ifCond .ne 6, 3, [23]), (38, .goto 29, 3, [37]), (41, .aload_n 0, 1, []), (42, .getfield 445, 3, [12, 47, 240]), (45, .ifCond .eq 10, 3, [29]), (48, .aload_n 0, 1, []), (49, .invokevirtual 464, 3, []), (52, .ifCond .ne 5, 3, [31]), (55, .iconst 0, 1, []), (56, .ireturn, 1, []), (57, .aload_n 0, 1, []), (58, .dup, 1, []), (59, .getfield 430, 3, [12, 42, 235]), (62, .iconst 1, 1, []), (63, .iadd, 1, []), (64, .putfield 430, 3, [12, 42, 235]), (67, .iinc 4 1, 3, []), (70, .goto (-51), 3, [12]), (73, .aload_n 0, 1, []), (74, .iload_n 3, 1, []), (75, .putfield 436, 3, [12, 44, 237]), (78, .iconst 1, 1, []), (79, .ireturn, 1, [])])
set_option maxRecDepth 20000 in
theorem ckX12_runs_0 : ckR mX12_runs 0 40 = true := by decide +kernel
set_option maxRecDepth 20000 in
theorem ckX12_runs_1 : ckR mX12_runs 40 40 = true := by decide +kernel
set_option maxRecDepth 20000 in
theorem okX12_runs : okC mX12_runs := ⟨by decide +kernel, memT8 196 rfl rfl, okM.of (n := 2) (Or.inr rfl) (by decide) (fun j hj => by match j, hj with | 0, _ => exact ckX12_runs_0 | 1, _ => exact ckX12_runs_1 | _ + 2, hj => exact absurd hj (by omega))⟩
set_option maxRecDepth 20000 in
def mX12_draws : Mt := (yX12_draws, cX12_draws, 2, (some .int), [12, 140, 1, 0, 2021, 125], [(0, .aload_n 0, 1, []), (1, .ldc2_w 467, 3, []), (4, .aload_n 0, 1, []), (5, .getfield 469, 3, [12, 53, 246]), (8, .i2l, 1, []), (9, .lmul, 1, []), (10, .ldc2_w 472, 3, []), (13, .ladd, 1, []), (14, .ldc2_w 474, 3, []), (17, .lrem, 1, []), (18, .l2i, 1, []), (19, .putfield 469, 3, [12, 53, 246]), (22, .aload_n 0, 1, []), (23, .getfield 469, 3, [12, 53, 246]), (26, .iload_n 1, 1, []), (27, .irem, 1, []), (28, .ireturn, 1, [])])
set_option maxRecDepth 20000 in
theorem ckX12_draws_0 : ckR mX12_draws 0 40 = true := by decide +kernel
set_option maxRecDepth 20000 in
theorem okX12_draws : okC mX12_draws := ⟨by decide +kernel, memT8 216 rfl rfl, okM.of (n := 1) (Or.inr rfl) (by decide) (fun j hj => by match j, hj with | 0, _ => exact ckX12_draws_0 | _ + 1, hj => exact absurd hj (by omega))⟩
set_option maxRecDepth 20000 in
def mX12_fair : Mt := (yX12_fair, cX12_fair, 8, (some .int), [12, 140, 2, 0, 2016, 2017], [(0, .iload_n 1, 1, []), (1, .iconst 0, 1, []), (2, .ldc 157, 2, []), (4, .invokestatic 99, 3, []), (7, .ifCond .eq 13, 3, [10]), (10, .iload_n 2, 1, []), (11, .iconst 1, 1, []), (12, .bipush 60, 2, []), (14, .invokestatic 99, 3, []), (17, .ifCond .ne 9, 3, [14]), (20, .aload_n 0, 1, []), (21, .iconst (-1), 1, []), (22, .invokevirtual 103, 3, []), (25, .ireturn, 1, []), (26, .aload_n 0, 1, []), (27, .invokevirtual 109, 3, []), (30, .ifCond .ne 10, 3, [21]), (33, .aload_n 0, 1, []), (34, .bipush (-3), 2, []), (36, .invokevirtual 103, 3, []), (39, .ireturn, 1, []), (40, .aload_n 0, 1, []), (41, .iload_n 1, 1, []), (42, .putfield 469, 3, [12, 53, 246]), (45, .aload_n 0, 1, []), (46, .aload_n 0, 1, []), (47, .invokevirtual 109, 3, []), (50, .putfield 476, 3, [12, 52, 245]), (53, .aload_n 0, 1, []), (54, .iconst 0, 1, []), (55, .invokevirtual 394, 3, []), (58, .iconst 0, 1, []), (59, .istore_n 3, 1, []), (60, .iconst 0, 1, []), (61, .istore 4, 2, []), (63, .iload 4, 2, []), (65, .iload_n 2, 1, []), (66, .if_icmp .ge 69, 3, [69]), (69, .aload_n 0, 1, []), (70, .aload_n 0, 1, []), (71, .getfield 476, 3, [12, 52, 245]), (74, .invokevirtual 479, 3, []), (77, .istore 5, 2, []), (79, .aload_n 0, 1, []), (80, .aload_n 0, 1, []), (81, .getfield 476, 3, [12, 52, 245]), (84, .invokevirtual 479, 3, []), (87, .istore 6, 2, []), (89, .aload_n 0, 1, []), (90, .aload_n 0, 1, []), (91, .getfield 476, 3, [12, 52, 245]), (94, .invokevirtual 479, 3, []), (97, .istore 7, 2, []), (99, .aload_n 0, 1, []), (100, .iload 7, 2, []), (102, .iload 6, 2, []), (104, .iload 5, 2, []), (106, .invokevirtual 367, 3, []), (109, .ifCond .ne 6, 3, [60]), (112, .goto 17, 3, [67]), (115, .aload_n 0, 1, []), (116, .iload 7, 2, []), (118, .iload 6, 2, []), (120, .iload 5, 2, []), (122, .invokevirtual 373, 3, []), (125, .pop, 1, []), (126, .iinc 3 1, 3, []), (129, .iinc 4 1, 3, []), (132, .goto (-69), 3, [35]), (135, .iconst 0, 1, []), (136, .istore 4, 2, []), (138, .iload 4, 2, []), (140, .aload_n 0, 1, []), (141, .getfield 476, 3, [12, 52, 245]), (144, .if_icmp .ge 39, 3, [94]), (147, .aload_n 0, 1, []), (148, .getfield 93, 3, [12, 50, 243]), (151, .iload 4, 2, []), (153, .aload_n 0, 1, []), (154, .getfield 24, 3, [12, 2, 196]), (157, .bipush 48, 2, []), (159, .iload 4, 2, []), (161, .iadd, 1, []), (162, .iaload, 1, []), (163, .iastore, 1, []), (164, .aload_n 0, 1, []), (165, .getfield 96, 3, [12, 51, 244]), (168, .iload 4, 2, []), (170, .aload_n 0, 1, []), (171, .iload 4, 2, []), (173, .invokevirtual 316, 3, []), (176, .iastore, 1, []), (177, .iinc 4 1, 3, []), (180, .goto (-42), 3, [71]), (183, .aload_n 0, 1, []), (184, .iconst 0, 1, []), (185, .invokevirtual 403, 3, []), (188, .aload_n 0, 1, []), (189, .iload_n 3, 1, []), (190, .invokevirtual 14, 3, []), (193, .ireturn, 1, [])])
set_option maxRecDepth 20000 in
theorem ckX12_fair_0 : ckR mX12_fair 0 40 = true := by decide +kernel
set_option maxRecDepth 20000 in
theorem ckX12_fair_1 : ckR mX12_fair 40 40 = true := by decide +kernel
set_option maxRecDepth 20000 in
theorem ckX12_fair_2 : ckR mX12_fair 80 40 = true := by decide +kernel
set_option maxRecDepth 20000 in
theorem okX12_fair : okC mX12_fair := ⟨by decide +kernel, memT8 212 rfl rfl, okM.of (n := 3) (Or.inr rfl) (by decide) (fun j hj => by match j, hj with | 0, _ => exact ckX12_fair_0 | 1, _ => exact ckX12_fair_1 | 2, _ => exact ckX12_fair_2 | _ + 3, hj => exact absurd hj (by omega))⟩
set_option maxRecDepth 20000 in
def mX12_drawn : Mt := (yX12_drawn, cX12_drawn, 3, (some .int), [12, 140, 2, 0, 2027, 2028], [(0, .iload_n 1, 1, []), (1, .iconst 0, 1, []), (2, .aload_n 0, 1, []), (3, .getfield 476, 3, [12, 52, 245]), (6, .iconst 1, 1, []), (7, .isub, 1, []), (8, .invokestatic 99, 3, []), (11, .ifCond .eq 12, 3, [13]), (14, .iload_n 2, 1, []), (15, .iconst 0, 1, []), (16, .iconst 1, 1, []), (17, .invokestatic 99, 3, []), (20, .ifCond .ne 7, 3, [15]), (23, .iconst (-1), 1, []), (24, .goto 22, 3, [26]), (27, .iload_n 2, 1, []), (28, .ifCond .ne 12, 3, [22]), (31, .aload_n 0, 1, []), (32, .getfield 93, 3, [12, 50, 243]), (35, .iload_n 1, 1, []), (36, .iaload, 1, []), (37, .goto 9, 3, [26]), (40, .aload_n 0, 1, []), (41, .getfield 96, 3, [12, 51, 244]), (44, .iload_n 1, 1, []), (45, .iaload, 1, []), (46, .ireturn, 1, [])])
set_option maxRecDepth 20000 in
theorem ckX12_drawn_0 : ckR mX12_drawn 0 40 = true := by decide +kernel
set_option maxRecDepth 20000 in
theorem okX12_drawn : okC mX12_drawn := ⟨by decide +kernel, memT8 223 rfl rfl, okM.of (n := 1) (Or.inr rfl) (by decide) (fun j hj => by match j, hj with | 0, _ => exact ckX12_drawn_0 | _ + 1, hj => exact absurd hj (by omega))⟩
set_option maxRecDepth 20000 in
def mX12_count : Mt := (yX12_count, cX12_count, 4, (some .int), [12, 140, 1, 0, 2031, 2032], [(0, .iconst 0, 1, []), (1, .istore_n 2, 1, []), (2, .iconst 0, 1, []), (3, .istore_n 3, 1, []), (4, .iload_n 3, 1, []), (5, .aload_n 0, 1, []), (6, .invokevirtual 109, 3, []), (9, .if_icmp .ge 21, 3, [19]), (12, .iload_n 2, 1, []), (13, .aload_n 0, 1, []), (14, .getfield 24, 3, [12, 2, 196]), (17, .bipush 32, 2, []), (19, .iload_n 3, 1, []), (20, .iadd, 1, []), (21, .iaload, 1, []), (22, .iadd, 1, []), (23, .istore_n 2, 1, []), (24, .iinc 3 1, 3, []), (27, .goto (-23), 3, [4]), (30, .iload_n 1, 1, []), (31, .tableswitch 173 0 16 #[81, 86, 88, 97, 106, 115, 120, 125, 125, 125, 135, 142, 150, 159, 159, 159, 159], 81, []), (112, .aload_n 0, 1, []), (113, .invokevirtual 109, 3, []), (116, .ireturn, 1, []), (117, .iload_n 2, 1, []), (118, .ireturn, 1, []), (119, .aload_n 0, 1, []), (120, .getfield 24, 3, [12, 2, 196]), (123, .sipush 212, 3, []), (126, .iaload, 1, []), (127, .ireturn, 1, []), (128, .aload_n 0, 1, []), (129, .getfield 24, 3, [12, 2, 196]), (132, .sipush 211, 3, []), (135, .iaload, 1, []), (136, .ireturn, 1, []), (137, .aload_n 0, 1, []), (138, .getfield 24, 3, [12, 2, 196]), (141, .sipush 213, 3, []), (144, .iaload, 1, []), (145, .ireturn, 1, []), (146, .aload_n 0, 1, []), (147, .getfield 11, 3, [12, 33, 226]), (150, .ireturn, 1, []), (151, .aload_n 0, 1, []), (152, .getfield 139, 3, [12, 13, 207]), (155, .ireturn, 1, []), (156, .aload_n 0, 1, []), (157, .getfield 7, 3, [12, 1, 195]), (160, .iload_n 1, 1, []), (161, .bipush 6, 2, []), (163, .isub, 1, []), (164, .iaload, 1, []), (165, .ireturn, 1, []), (166, .aload_n 0, 1, []), (167, .getfield 7, 3, [12, 1, 195]), (170, .iconst 5, 1, []), (171, .iaload, 1, []), (172, .ireturn, 1, []), (173, .aload_n 0, 1, []), (174, .getfield 7, 3, [12, 1, 195]), (177, .bipush 6, 2, []), (179, .iaload, 1, []), (180, .ireturn, 1, []), (181, .aload_n 0, 1, []), (182, .getfield 24, 3, [12, 2, 196]), (185, .sipush 214, 3, []), (188, .iaload, 1, []), (189, .ireturn, 1, []), (190, .aload_n 0, 1, []), (191, .getfield 24, 3, [12, 2, 196]), (194, .sipush 206, 3, []), (197, .iload_n 1, 1, []), (198, .iadd, 1, []), (199, .bipush 13, 2, []), (201, .isub, 1, []), (202, .iaload, 1, []), (203, .ireturn, 1, []), (204, .iconst (-1), 1, []), (205, .ireturn, 1, [])])
set_option maxRecDepth 20000 in
theorem ckX12_count_0 : ckR mX12_count 0 40 = true := by decide +kernel
set_option maxRecDepth 20000 in
theorem ckX12_count_1 : ckR mX12_count 40 40 = true := by decide +kernel
set_option maxRecDepth 20000 in
theorem okX12_count : okC mX12_count := ⟨by decide +kernel, memT8 227 rfl rfl, okM.of (n := 2) (Or.inr rfl) (by decide) (fun j hj => by match j, hj with | 0, _ => exact ckX12_count_0 | 1, _ => exact ckX12_count_1 | _ + 2, hj => exact absurd hj (by omega))⟩
set_option maxRecDepth 20000 in
def mX12_status : Mt := (yX12_status, cX12_status, 1, (some .int), [12, 140, 0, 0, 2035, 2036], [(0, .aload_n 0, 1, []), (1, .getfield 3, 3, [12, 0, 194]), (4, .ireturn, 1, [])])
set_option maxRecDepth 20000 in
theorem ckX12_status_0 : ckR mX12_status 0 40 = true := by decide +kernel
set_option maxRecDepth 20000 in
theorem okX12_status : okC mX12_status := ⟨by decide +kernel, memT8 231 rfl rfl, okM.of (n := 1) (Or.inr rfl) (by decide) (fun j hj => by match j, hj with | 0, _ => exact ckX12_status_0 | _ + 1, hj => exact absurd hj (by omega))⟩
end
section
/-! blocks of cells, pictures of them: what all classes' pictures have in common -/
theorem Rn.retz {d kc ks : Nat} {M : Mt} {k pc : Nat} {z : List Nat} {ls : List (Option Value)} {S S2 : Sg} {v w : Int32} {ty : FieldType} (h : M.2.2.2.2.2[k]? = some (pc, .ireturn, 1, z)) (ht : M.2.2.2.1 = some ty) (hv : v = w) (hn : narrow ty (.int w) = .int w) (hS : S = S2) : Rn d kc ks M k ls [.int v] S (some (.int w)) S2 := by
  subst hv
  subst hS
  exact Rn.reti h ht hn
theorem Rn.retw {d kc ks : Nat} {M : Mt} {k pc : Nat} {z : List Nat} {ls : List (Option Value)} {S S2 : Sg} (h : M.2.2.2.2.2[k]? = some (pc, .return_, 1, z)) (ht : M.2.2.2.1 = none) (hS : S = S2) : Rn d kc ks M k ls [] S none S2 := by
  subst hS
  exact Rn.retv h ht
theorem Rn.retq {d kc ks : Nat} {M : Mt} {k pc : Nat} {z : List Nat} {ls : List (Option Value)} {S S2 : Sg} {v w : Int64} (h : M.2.2.2.2.2[k]? = some (pc, .lreturn, 1, z)) (ht : M.2.2.2.1 = some .long) (hv : v = w) (hS : S = S2) : Rn d kc ks M k ls [.long v] S (some (.long w)) S2 := by
  subst hv
  subst hS
  exact Rn.retl h ht
theorem Rn.atS {d kc ks : Nat} {M : Mt} {k : Nat} {ls : List (Option Value)} {st : List Value} {S S1 S' : Sg} {r : Option Value} (h : S1 = S) (hn : Rn d kc ks M k ls st S1 r S') : Rn d kc ks M k ls st S r S' := by
  subst h
  exact hn
def b2i (b : Bool) : Int32 := if b then 1 else 0
theorem b2i_nar (b : Bool) : narrow .boolean (.int (b2i b)) = .int (b2i b) := by cases b <;> rfl
theorem b2i_fit (b : Bool) : fits .boolean (.int (b2i b)) = true := by cases b <;> rfl
theorem b2i_eq0 {b : Bool} : b2i b = 0 ↔ b = false := by cases b <;> decide
theorem b2i_eq1 {b : Bool} : b2i b = 1 ↔ b = true := by cases b <;> decide
/-- the cells cs stand from b on -/
def blk (S : Sg) (b : Nat) (cs : List Cel) : Prop := b + cs.length ≤ S.length ∧ ∀ (j : Nat) (c : Cel), cs[j]? = some c → S[b + j]? = some c
/-- the cells from b on replaced by cs -/
def blkPut (S : Sg) (b : Nat) (cs : List Cel) : Sg := S.mapIdx (fun k c => if b ≤ k then (cs[k - b]?).getD c else c)
theorem blkPut_get (S : Sg) (b : Nat) (cs : List Cel) (k : Nat) : (blkPut S b cs)[k]? = (S[k]?).map (fun c => if b ≤ k then (cs[k - b]?).getD c else c) := by
  unfold blkPut
  rw [List.getElem?_mapIdx]
theorem blkPut_len (S : Sg) (b : Nat) (cs : List Cel) : (blkPut S b cs).length = S.length := by
  unfold blkPut
  rw [List.length_mapIdx]
theorem blkPut_off {S : Sg} {b : Nat} {cs : List Cel} {k : Nat} (h : k < b ∨ b + cs.length ≤ k) : (blkPut S b cs)[k]? = S[k]? := by
  rw [blkPut_get]
  cases S[k]? with
  | none => rfl
  | some c =>
    simp only [Option.map_some]
    rcases h with h | h
    · rw [if_neg (by omega)]
    · rw [if_pos (by omega), List.getElem?_eq_none (by omega)]
      rfl
theorem blkPut_in {S : Sg} {b : Nat} {cs : List Cel} (hl : b + cs.length ≤ S.length) {j : Nat} {c : Cel} (hc : cs[j]? = some c) : (blkPut S b cs)[b + j]? = some c := by
  have hj : j < cs.length := (List.getElem?_eq_some_iff.mp hc).1
  have hS : S[b + j]? = some S[b + j] := List.getElem?_eq_getElem (by omega)
  rw [blkPut_get, hS]
  show some (if b ≤ b + j then (cs[b + j - b]?).getD _ else _) = some c
  rw [if_pos (by omega), show b + j - b = j by omega, hc]
  rfl
theorem blkPut_blk {S : Sg} {b : Nat} {cs : List Cel} (hl : b + cs.length ≤ S.length) : blk (blkPut S b cs) b cs := ⟨by rw [blkPut_len]; exact hl, fun _ _ hc => blkPut_in hl hc⟩
theorem blkPut_blkPut (S : Sg) (b : Nat) {cs cs' : List Cel} (hl : cs.length = cs'.length) : blkPut (blkPut S b cs) b cs' = blkPut S b cs' := by
  apply List.ext_getElem?
  intro k
  rw [blkPut_get, blkPut_get, blkPut_get]
  cases S[k]? with
  | none => rfl
  | some c =>
    simp only [Option.map_some]
    by_cases h : b ≤ k
    · rw [if_pos h, if_pos h, if_pos h]
      cases h1 : cs'[k - b]? with
      | some c1 => rfl
      | none =>
        have := List.getElem?_eq_none_iff.mp h1
        have h2 : cs[k - b]? = none := List.getElem?_eq_none (by omega)
        rw [h2]
        rfl
    · rw [if_neg h, if_neg h, if_neg h]
theorem blk.self {S : Sg} {b : Nat} {cs : List Cel} (h : blk S b cs) : blkPut S b cs = S := by
  apply List.ext_getElem?
  intro k
  by_cases hk : b ≤ k ∧ k < b + cs.length
  · have hc : cs[k - b]? = some cs[k - b] := List.getElem?_eq_getElem (by omega)
    have h1 := h.2 _ _ hc
    rw [show b + (k - b) = k by omega] at h1
    rw [blkPut_get, h1]
    simp only [Option.map_some]
    rw [if_pos hk.1, hc]
    rfl
  · rw [blkPut_off (by omega)]
theorem blk.set {S : Sg} {b : Nat} {cs cs' : List Cel} (h : blk S b cs) {j q : Nat} {c : Cel} (hq : q = b + j) (hj : j < cs.length) (hs : cs.set j c = cs') : S.set q c = blkPut S b cs' := by
  subst hq
  subst hs
  apply List.ext_getElem?
  intro k
  have hl := h.1
  rw [List.getElem?_set]
  by_cases h0 : b + j = k
  · subst h0
    rw [if_pos rfl, if_pos (by omega)]
    rw [blkPut_in (by rw [List.length_set]; omega) (by rw [List.getElem?_set_self hj])]
  · rw [if_neg h0]
    by_cases hk : b ≤ k ∧ k < b + cs.length
    · have hc : cs[k - b]? = some cs[k - b] := List.getElem?_eq_getElem (by omega)
      have h1 := h.2 _ _ hc
      rw [show b + (k - b) = k by omega] at h1
      have h2 : (cs.set j c)[k - b]? = some cs[k - b] := by rw [List.getElem?_set, if_neg (by omega)]; exact hc
      have := blkPut_in (S := S) (b := b) (by rw [List.length_set]; omega) h2
      rw [show b + (k - b) = k by omega] at this
      rw [this, h1]
    · rw [blkPut_off (by rw [List.length_set]; omega)]
/-- a block within a block -/
theorem blk.mid {S : Sg} {b o : Nat} {cs pre mid post : List Cel} (h : blk S b cs) (hcs : cs = pre ++ mid ++ post) (ho : o = b + pre.length) : blk S o mid := by
  subst hcs
  subst ho
  refine ⟨by have := h.1; simp only [List.length_append] at this; omega, fun j c hc => ?_⟩
  have hj : j < mid.length := (List.getElem?_eq_some_iff.mp hc).1
  have := h.2 (pre.length + j) c (by rw [List.append_assoc, List.getElem?_append_right (by omega), show pre.length + j - pre.length = j by omega, List.getElem?_append_left hj]; exact hc)
  rw [← Nat.add_assoc] at this
  exact this
theorem blk.midPut {S : Sg} {b o : Nat} {cs cs' pre mid mid' post : List Cel} (h : blk S b cs) (hcs : cs = pre ++ mid ++ post) (hcs' : cs' = pre ++ mid' ++ post) (hl : mid.length = mid'.length) (ho : o = b + pre.length) : blkPut S o mid' = blkPut S b cs' := by
  subst hcs
  subst hcs'
  subst ho
  apply List.ext_getElem?
  intro k
  have hle := h.1
  simp only [List.length_append] at hle
  by_cases hk : b ≤ k ∧ k < b + (pre ++ mid ++ post).length
  · have hc : (pre ++ mid ++ post)[k - b]? = some (pre ++ mid ++ post)[k - b] := List.getElem?_eq_getElem (by omega)
    have h1 := h.2 _ _ hc
    rw [show b + (k - b) = k by omega] at h1
    simp only [List.length_append] at hk
    by_cases h2 : b + pre.length ≤ k ∧ k < b + pre.length + mid.length
    · have hm : mid'[k - (b + pre.length)]? = some mid'[k - (b + pre.length)] := List.getElem?_eq_getElem (by omega)
      have e1 := blkPut_in (S := S) (b := b + pre.length) (by omega) hm
      rw [show b + pre.length + (k - (b + pre.length)) = k by omega] at e1
      have hm2 : (pre ++ mid' ++ post)[k - b]? = some mid'[k - (b + pre.length)] := by
        rw [List.append_assoc, List.getElem?_append_right (by omega), List.getElem?_append_left (by omega), show k - b - pre.length = k - (b + pre.length) by omega]
        exact hm
      have e2 := blkPut_in (S := S) (b := b) (by simp only [List.length_append]; omega) hm2
      rw [show b + (k - b) = k by omega] at e2
      rw [e1, e2]
    · rw [blkPut_off (by omega)]
      have hm2 : (pre ++ mid' ++ post)[k - b]? = (pre ++ mid ++ post)[k - b]? := by
        by_cases h3 : k < b + pre.length
        · rw [List.append_assoc, List.append_assoc, List.getElem?_append_left (by omega), List.getElem?_append_left (by omega)]
        · rw [List.getElem?_append_right (by simp only [List.length_append]; omega), List.getElem?_append_right (by simp only [List.length_append]; omega)]
          simp only [List.length_append, hl]
      have e2 := blkPut_in (S := S) (b := b) (by simp only [List.length_append]; omega) (hm2.trans hc)
      rw [show b + (k - b) = k by omega] at e2
      rw [e2, h1]
  · simp only [List.length_append] at hk
    rw [blkPut_off (by omega), blkPut_off (by simp only [List.length_append]; omega)]
theorem Rn.cg {d kc ks : Nat} {M : Mt} {k : Nat} {ls : List (Option Value)} {st : List Value} {S S' S2 : Sg} {r r2 : Option Value} (hr : r = r2) (hS : S' = S2) (hn : Rn d kc ks M k ls st S r2 S2) : Rn d kc ks M k ls st S r S' := by
  subst hr
  subst hS
  exact hn
/-- fewer locals are known -/
theorem Rn.forget {d kc ks : Nat} {M : Mt} {k : Nat} {ls ls' : List (Option Value)} {st : List Value} {S S' : Sg} {r : Option Value} (h : ∀ (i : Nat) (v : Value), ls'[i]? = some (some v) → ls[i]? = some (some v)) (hn : Rn d kc ks M k ls' st S r S') : Rn d kc ks M k ls st S r S' := by
  refine ⟨hn.1, ?_⟩
  intro hM g p l e R s m args below meth c Z F E H locs cells slots la hP hS hc hs hl
  exact hn.2 hM g p l e R s m args below meth c Z F E H locs cells slots la hP hS hc hs ⟨hl.1, hl.2.1, fun i v hv => hl.2.2 i v (h i v hv)⟩
/-- a picture: the numbers of cell o (fields of an object, elements of a row), the longs, the references of rows -/
abbrev Pic : Type := (Nat → Nat → Int32) × (Nat → Nat → Int64) × (Nat → Nat → Option Nat)
def pcI (X : Pic) (o : Nat) (f : Nat → Int32) : Pic := (va_up X.1 o f, X.2.1, X.2.2)
def pcL (X : Pic) (o : Nat) (f : Nat → Int64) : Pic := (X.1, va_up X.2.1 o f, X.2.2)
def pcQ (X : Pic) (o : Nat) (f : Nat → Option Nat) : Pic := (X.1, X.2.1, va_up X.2.2 o f)
/-- the part of a picture from cell n on -/
def pcSh (X : Pic) (n : Nat) : Pic := (fun o => X.1 (n + o), fun o => X.2.1 (n + o), fun o => X.2.2 (n + o))
/-- a picture with another one laid over the cells n .. n + l - 1 -/
def pcOv (X : Pic) (n l : Nat) (Y : Pic) : Pic := (fun o => if n ≤ o ∧ o < n + l then Y.1 (o - n) else X.1 o, fun o => if n ≤ o ∧ o < n + l then Y.2.1 (o - n) else X.2.1 o, fun o => if n ≤ o ∧ o < n + l then Y.2.2 (o - n) else X.2.2 o)
/-- cells as a function of base and picture -/
abbrev Cls : Type := Nat → Pic → List Cel
def pcAt_ (C : Cls) (S : Sg) (b : Nat) (X : Pic) : Prop := 4 ≤ b ∧ blk S b (C b X)
def pcW (C : Cls) (S : Sg) (b : Nat) (X : Pic) : Sg := blkPut S b (C b X)
theorem pcAt_.c {C : Cls} {S : Sg} {b : Nat} {X : Pic} (h : pcAt_ C S b X) (j : Nat) {q : Nat} {c : Cel} (hq : q = b + j) (hc : (C b X)[j]? = some c) : S[q]? = some c := by
  subst hq
  exact h.2.2 j c hc
theorem pcAt_.four {C : Cls} {S : Sg} {b : Nat} {X : Pic} (h : pcAt_ C S b X) {q : Nat} (j : Nat) (hq : q = b + j) : 4 ≤ q := by
  have := h.1
  omega
theorem pcAt_.w {C : Cls} {S : Sg} {b : Nat} {X : Pic} (h : pcAt_ C S b X) (X' : Pic) (j : Nat) {q : Nat} {c : Cel} (hq : q = b + j) (hj : j < (C b X).length) (hs : (C b X).set j c = C b X') : S.set q c = pcW C S b X' := h.2.set hq hj hs
theorem pcAt_.put {C : Cls} {S : Sg} {b : Nat} {X : Pic} (h : pcAt_ C S b X) (X' : Pic) (hl : (C b X).length = (C b X').length) : pcAt_ C (pcW C S b X') b X' := ⟨h.1, blkPut_blk (by rw [← hl]; exact h.2.1)⟩
theorem pcW_W {C : Cls} {S : Sg} {b : Nat} {X X' : Pic} (hl : (C b X).length = (C b X').length) : pcW C (pcW C S b X) b X' = pcW C S b X' := blkPut_blkPut S b hl
theorem pcAt_.self {C : Cls} {S : Sg} {b : Nat} {X : Pic} (h : pcAt_ C S b X) : pcW C S b X = S := h.2.self
theorem pcAt_.off {C D : Cls} {S : Sg} {b b2 : Nat} {X Y : Pic} (h : pcAt_ D S b2 Y) (hd : b + (C b X).length ≤ b2 ∨ b2 + (D b2 Y).length ≤ b) : pcAt_ D (pcW C S b X) b2 Y := by
  refine ⟨h.1, by unfold pcW; rw [blkPut_len]; exact h.2.1, fun j c hc => ?_⟩
  have hj : j < (D b2 Y).length := (List.getElem?_eq_some_iff.mp hc).1
  unfold pcW
  rw [blkPut_off (by omega)]
  exact h.2.2 j c hc
/-- a picture within a picture -/
theorem pcAt_.mid {C D : Cls} {S : Sg} {b o : Nat} {X : Pic} {pre post : List Cel} (h : pcAt_ C S b X) (hcs : C b X = pre ++ D (b + o) (pcSh X o) ++ post) (ho : o = pre.length) : pcAt_ D S (b + o) (pcSh X o) := ⟨by have := h.1; omega, h.2.mid hcs (by rw [ho])⟩
theorem pcAt_.midW {C D : Cls} {S : Sg} {b o : Nat} {X Y X' : Pic} {pre post : List Cel} (h : pcAt_ C S b X) (hcs : C b X = pre ++ D (b + o) (pcSh X o) ++ post) (hcs' : C b X' = pre ++ D (b + o) Y ++ post) (hl : (D (b + o) (pcSh X o)).length = (D (b + o) Y).length) (ho : o = pre.length) : pcW D S (b + o) Y = pcW C S b X' := h.2.midPut hcs hcs' hl (by rw [ho])
/-- PEOPLE. Cell 0: size, the sold as bits; rows: 1 sex, 2 born, 3 lived, 4 noble, 5 debt, 6 house, 7 purse, 8 father, 9 mother, 10 line, 11 chests -/
def ppC : Cls := fun b X => [.inr (5, [.int (X.1 0 0), .int (X.1 0 1), .ref (b + 1), .ref (b + 2), .ref (b + 3), .ref (b + 4), .ref (b + 5), .ref (b + 6), .ref (b + 7), .ref (b + 8), .ref (b + 9), .ref (b + 10), .ref (b + 11)]),
  .inl (.int, 16, .inl (X.1 1)), .inl (.int, 16, .inl (X.1 2)), .inl (.int, 16, .inl (X.1 3)), .inl (.int, 16, .inl (X.1 4)), .inl (.int, 16, .inl (X.1 5)), .inl (.int, 16, .inl (X.1 6)), .inl (.int, 16, .inl (X.1 7)), .inl (.int, 16, .inl (X.1 8)), .inl (.int, 16, .inl (X.1 9)), .inl (.int, 16, .inl (X.1 10)), .inl (.int, 6, .inl (X.1 11))]
/-- a row of 16 numbers -/
def rwC : Cls := fun _ X => [.inl (.int, 16, .inl (X.1 0))]
theorem ppC_WW {S : Sg} {b : Nat} {X X' : Pic} : pcW ppC (pcW ppC S b X) b X' = pcW ppC S b X' := pcW_W rfl
theorem rwC_WW {S : Sg} {b : Nat} {X X' : Pic} : pcW rwC (pcW rwC S b X) b X' = pcW rwC S b X' := pcW_W rfl
section CALL0
variable {d kc ks d1 : Nat} {M M' : Mt} {k pc i : Nat} {z : List Nat} {ls : List (Option Value)} {st as stk : List Value} {S S1 : Sg} {r r1 : Option Value} {S' : Sg}
/-- calls that make nothing -/
theorem Rn.callV0 {q ci N : Nat} {T : u_T} {fs : List Value} (h : M.2.2.2.2.2[k]? = some (pc, .invokevirtual i, 3, z)) (hl : Cond.methodLink M.1.cls i M'.1 ∈ wT) (hkd : kindM M' = 0) (h4 : 4 ≤ q) (hq : S[q]? = some (.inr (ci, fs))) (hci : vwCl[ci]? = some (M'.1.cls, T, N)) (hC : Cl d1 0 0 M' (.ref q :: as) S r1 S1) (hd1 : d1 + 1 ≤ d) (hst : stk = as.reverse ++ .ref q :: st) (hlen : as.length = nPar M') (hcat : (st.map fun v => v.category).sum ≤ 8) (hn : Rn d kc ks M (k + 1) ls (r1.toList ++ st) S1 r S') : Rn d kc ks M k ls stk S r S' := by
  have := Rn.callV h hl hkd h4 hq hci hC hd1 hst hlen hcat hn
  rwa [Nat.zero_add, Nat.zero_add] at this
theorem Rn.callS0 (h : M.2.2.2.2.2[k]? = some (pc, .invokestatic i, 3, z)) (hl : Cond.methodLink M.1.cls i M'.1 ∈ wT) (hkd : kindM M' = 1) (hC : Cl d1 0 0 M' as S r1 S1) (hd1 : d1 + 1 ≤ d) (hst : stk = as.reverse ++ st) (hlen : as.length = nPar M') (hcat : (st.map fun v => v.category).sum ≤ 8) (hn : Rn d kc ks M (k + 1) ls (r1.toList ++ st) S1 r S') : Rn d kc ks M k ls stk S r S' := by
  have := Rn.callS h hl hkd hC hd1 hst hlen hcat hn
  rwa [Nat.zero_add, Nat.zero_add] at this
theorem Rn.callSN0 (h : M.2.2.2.2.2[k]? = some (pc, .invokestatic i, 3, z)) (hl : (M.1.cls, i, M'.1) ∈ nstM) (hkd : kindM M' = 1) (hC : Cl d1 0 0 M' as S r1 S1) (hd1 : d1 + 1 ≤ d) (hst : stk = as.reverse ++ st) (hlen : as.length = nPar M') (hcat : (st.map fun v => v.category).sum ≤ 8) (hn : Rn d kc ks M (k + 1) ls (r1.toList ++ st) S1 r S') : Rn d kc ks M k ls stk S r S' := by
  have := Rn.callSN h hl hkd hC hd1 hst hlen hcat hn
  rwa [Nat.zero_add, Nat.zero_add] at this
end CALL0
end
section
/-! PEOPLE of the class: what each method means, and its contract (laid by program) -/
def l_fill (X : Pic) (v : Int32) : Nat → Nat → Pic → Pic
  | 0, k, Q => (Q)
  | n + 1, k, Q => (if 16 ≤ nI k then (Q) else l_fill X v n (k + 1)  ((pcI Q 0 (upd (Q.1 0) (nI k : Int32).toNatClampNeg v))))
set_option maxHeartbeats 4000000 in
set_option maxRecDepth 20000 in
theorem c_fill {d kc ks : Nat} {rv : Option Value} {S' : Sg} {S : Sg} {q : Nat} {X : Pic} (hX : pcAt_ rwC S q X)  (v : Int32)  (hd : 1 ≤ d) : ∀ (n k : Nat)  (Q : Pic), 16 - k < n → k ≤ 16 → (Rn d kc ks mJ7_fill_53178 14 [some (.ref (q)), some (.int (v)), none, some (.int (16))] [] (pcW rwC S q (l_fill X v n k  (Q))) rv S') → Rn d kc ks mJ7_fill_53178 5 [some (.ref (q)), some (.int (v)), some (.int (nI k)), some (.int (16))] [] (pcW rwC S q Q) rv S' := by
  intro n
  induction n with
  | zero => intro k Q h; exact absurd h (Nat.not_lt_zero _)
  | succ n ih =>
    intro k Q hm hkN  hc
    refine Rn.iload_n (k := 5) rfl rfl ?_
    refine Rn.iload_n (k := 6) rfl rfl ?_
    refine Rn.icmp_ge (k := 7) rfl (fun cl_1 => ?_) (fun cl_1 => ?_)
    · refine Rn.forget (ls' := [some (.ref (q)), some (.int (v)), none, some (.int (16))]) (by intro i v h; match i, h with | 0, h => exact h | 1, h => exact h | 2, h => (cases h) | 3, h => exact h | n + 4, h => (cases h)) ?_
      exact (by have e : l_fill X v (n + 1) k  (Q) = (Q) := (by simp only [l_fill, if_pos cl_1]); rw [e] at hc; exact hc)
    · have hltl_2 : k < 16 := Nat.lt_of_not_le (fun q => cl_1 (by exact nI_le q (by omega)))
      have hinl_3 : vp_in (nI k) 16 := vp_in_nI (by omega) (by decide)
      refine Rn.aload_n (k := 8) rfl rfl ?_
      refine Rn.iload_n (k := 9) rfl rfl ?_
      refine Rn.iload_n (k := 10) rfl rfl ?_
      refine Rn.iast (k := 11) rfl ((hX.put Q rfl).four (q := q) 0 rfl) ((hX.put Q rfl).c 0 (q := q) rfl rfl) (by first | with_reducible assumption) ?_
      obtain ⟨Pl_4, ePl_4⟩ : ∃ Q0 : Pic, Q0 = pcI Q 0 (upd (Q.1 0) (nI k : Int32).toNatClampNeg v) := ⟨_, rfl⟩
      rw [(hX.put Q rfl).w Pl_4 0 (q := q) rfl (Nat.le_of_ble_eq_true rfl) (by rw [ePl_4]; rfl), rwC_WW]
      have hPl_4 := hX.put Pl_4 rfl
      refine Rn.iinc (k := 12) (v := nI (k + 1)) rfl rfl (nI_1 k) (by decide) rfl ?_
      refine Rn.goto (k := 13) rfl ?_
      refine Rn.forget (ls' := [some (.ref (q)), some (.int (v)), some (.int (nI (k + 1))), some (.int (16))]) (by intro i v h; match i, h with | 0, h => exact h | 1, h => exact h | 2, h => exact h | 3, h => exact h | n + 4, h => (cases h)) ?_
      exact ih (k + 1)  Pl_4 (by omega) (by omega)  (by have e : l_fill X v (n + 1) k  (Q) = l_fill X v n (k + 1)  (Pl_4) := (by rw [ePl_4]; simp only [l_fill, if_neg cl_1]); rw [e] at hc; exact hc)
def w_fill (X : Pic) (v : Int32) : Pic := let P_1 : Pic := (l_fill X (v) 17 0  X); P_1
set_option maxRecDepth 20000 in
theorem rJ7_fill_53178 {S : Sg} {q : Nat} {X : Pic} (hX : pcAt_ rwC S q X) (v : Int32) : Rn 1 0 0 mJ7_fill_53178 0 [some (.ref (q)), some (.int (v)), none, none] [] S none (pcW rwC S q (w_fill X v)) := by
  refine Rn.iconst (k := 0) (v := 0) rfl (by decide) ?_
  refine Rn.istore_n (k := 1) rfl (by decide) rfl ?_
  refine Rn.aload_n (k := 2) rfl rfl ?_
  refine Rn.alen (k := 3) (v := 16) rfl (hX.four (q := q) 0 rfl) (hX.c 0 (q := q) rfl rfl) (by decide) (by decide) ?_
  refine Rn.istore_n (k := 4) rfl (by decide) rfl ?_
  refine Rn.forget (ls' := [some (.ref (q)), some (.int (v)), some (.int (nI 0)), some (.int (16))]) (by intro i v h; match i, h with | 0, h => exact h | 1, h => exact h | 2, h => exact h | 3, h => exact h | n + 4, h => (cases h)) ?_
  refine Rn.atS (hX.self) ?_
  refine c_fill hX (v)  (by first | decide | omega) 17 0  X (by omega) (Nat.zero_le _)  (?_)
  obtain ⟨P_1, eP_1⟩ : ∃ Q0 : Pic, Q0 = (l_fill X (v) 17 0  X) := ⟨_, rfl⟩
  rw [← eP_1]
  have hP_1 := hX.put P_1 rfl
  exact Rn.retw rfl rfl (by unfold w_fill; subst eP_1; rfl)
theorem kJ7_fill_53178 {S : Sg} {q : Nat} {X : Pic} (hX : pcAt_ rwC S q X) (v : Int32) : Cl 1 0 0 mJ7_fill_53178 [.ref q, .int v] S none (pcW rwC S q (w_fill X v)) := Cl.of okJ7_fill_53178 (by intro i v h; match i, h with | 0, h => exact h | 1, h => exact h | 2, h => (cases h) | 3, h => (cases h) | n + 4, h => (cases h)) (Nat.le_of_ble_eq_true rfl) rfl (rJ7_fill_53178 hX v)
/-- as a write of one cell -/
theorem kfill {S : Sg} {q : Nat} {f : Nat → Int32} (h4 : 4 ≤ q) (hq : S[q]? = some (.inl (.int, 16, .inl f))) (v : Int32) : Cl 1 0 0 mJ7_fill_53178 [.ref q, .int v] S none (S.set q (.inl (.int, 16, .inl ((w_fill (fun _ => f, fun _ _ => 0, fun _ _ => none) v).1 0)))) := by
  have hX : pcAt_ rwC S q (fun _ => f, fun _ _ => 0, fun _ _ => none) := ⟨h4, (List.getElem?_eq_some_iff.mp hq).1, fun j c hc => by
    match j, hc with
    | 0, hc => cases hc; exact hq
    | j + 1, hc => cases hc⟩
  have h := kJ7_fill_53178 hX v
  rw [← hX.w (w_fill (fun _ => f, fun _ _ => 0, fun _ _ => none) v) 0 (q := q) (c := .inl (.int, 16, .inl ((w_fill (fun _ => f, fun _ _ => 0, fun _ _ => none) v).1 0))) rfl (Nat.le_of_ble_eq_true rfl) rfl] at h
  exact h
def v_canBe  (s : Int32) (y : Int32) (v : Int32) (h : Int32) : Bool := (if s < 0 then false else (if 1 < s then false else (if y < 0 then false else (if 999 < y then false else (if v < 0 then false else (if 120 < v then false else (if h < 0 then false else (if 6 ≤ h then false else true))))))))
set_option maxRecDepth 20000 in
theorem rX5_canBe {S : Sg}  (s : Int32) (y : Int32) (v : Int32) (h : Int32)  : Rn 1 0 0 mX5_canBe 0 [some (.int (s)), some (.int (y)), some (.int (v)), some (.int (h))] [] S (some (.int (b2i (v_canBe s y v h)))) S := by
  refine Rn.iload_n (k := 0) rfl rfl ?_
  refine Rn.if_lt (k := 1) rfl (fun c_1 => ?_) (fun c_1 => ?_)
  · refine Rn.iconst (k := 22) (v := 0) rfl (by decide) ?_
    exact Rn.retz rfl rfl (by unfold v_canBe; rw [if_pos c_1]; first | done | rfl) (b2i_nar _) rfl
  · refine Rn.iload_n (k := 2) rfl rfl ?_
    refine Rn.iconst (k := 3) (v := 1) rfl (by decide) ?_
    refine Rn.icmp_gt (k := 4) rfl (fun c_2 => ?_) (fun c_2 => ?_)
    · refine Rn.iconst (k := 22) (v := 0) rfl (by decide) ?_
      exact Rn.retz rfl rfl (by unfold v_canBe; rw [if_neg c_1, if_pos c_2]; first | done | rfl) (b2i_nar _) rfl
    · refine Rn.iload_n (k := 5) rfl rfl ?_
      refine Rn.if_lt (k := 6) rfl (fun c_3 => ?_) (fun c_3 => ?_)
      · refine Rn.iconst (k := 22) (v := 0) rfl (by decide) ?_
        exact Rn.retz rfl rfl (by unfold v_canBe; rw [if_neg c_1, if_neg c_2, if_pos c_3]; first | done | rfl) (b2i_nar _) rfl
      · refine Rn.iload_n (k := 7) rfl rfl ?_
        refine Rn.sipush (k := 8) (v := 999) rfl (by decide) ?_
        refine Rn.icmp_gt (k := 9) rfl (fun c_4 => ?_) (fun c_4 => ?_)
        · refine Rn.iconst (k := 22) (v := 0) rfl (by decide) ?_
          exact Rn.retz rfl rfl (by unfold v_canBe; rw [if_neg c_1, if_neg c_2, if_neg c_3, if_pos c_4]; first | done | rfl) (b2i_nar _) rfl
        · refine Rn.iload_n (k := 10) rfl rfl ?_
          refine Rn.if_lt (k := 11) rfl (fun c_5 => ?_) (fun c_5 => ?_)
          · refine Rn.iconst (k := 22) (v := 0) rfl (by decide) ?_
            exact Rn.retz rfl rfl (by unfold v_canBe; rw [if_neg c_1, if_neg c_2, if_neg c_3, if_neg c_4, if_pos c_5]; first | done | rfl) (b2i_nar _) rfl
          · refine Rn.iload_n (k := 12) rfl rfl ?_
            refine Rn.bipush (k := 13) (v := 120) rfl (by decide) ?_
            refine Rn.icmp_gt (k := 14) rfl (fun c_6 => ?_) (fun c_6 => ?_)
            · refine Rn.iconst (k := 22) (v := 0) rfl (by decide) ?_
              exact Rn.retz rfl rfl (by unfold v_canBe; rw [if_neg c_1, if_neg c_2, if_neg c_3, if_neg c_4, if_neg c_5, if_pos c_6]; first | done | rfl) (b2i_nar _) rfl
            · refine Rn.iload_n (k := 15) rfl rfl ?_
              refine Rn.if_lt (k := 16) rfl (fun c_7 => ?_) (fun c_7 => ?_)
              · refine Rn.iconst (k := 22) (v := 0) rfl (by decide) ?_
                exact Rn.retz rfl rfl (by unfold v_canBe; rw [if_neg c_1, if_neg c_2, if_neg c_3, if_neg c_4, if_neg c_5, if_neg c_6, if_pos c_7]; first | done | rfl) (b2i_nar _) rfl
              · refine Rn.iload_n (k := 17) rfl rfl ?_
                refine Rn.bipush (k := 18) (v := 6) rfl (by decide) ?_
                refine Rn.icmp_ge (k := 19) rfl (fun c_8 => ?_) (fun c_8 => ?_)
                · refine Rn.iconst (k := 22) (v := 0) rfl (by decide) ?_
                  exact Rn.retz rfl rfl (by unfold v_canBe; rw [if_neg c_1, if_neg c_2, if_neg c_3, if_neg c_4, if_neg c_5, if_neg c_6, if_neg c_7, if_pos c_8]; first | done | rfl) (b2i_nar _) rfl
                · refine Rn.iconst (k := 20) (v := 1) rfl (by decide) ?_
                  refine Rn.goto (k := 21) rfl ?_
                  exact Rn.retz rfl rfl (by unfold v_canBe; rw [if_neg c_1, if_neg c_2, if_neg c_3, if_neg c_4, if_neg c_5, if_neg c_6, if_neg c_7, if_neg c_8]; first | done | rfl) (b2i_nar _) rfl
theorem kX5_canBe {S : Sg}  (s : Int32) (y : Int32) (v : Int32) (h : Int32)  : Cl 1 0 0 mX5_canBe [.int (s), .int (y), .int (v), .int (h)] S (some (.int (b2i (v_canBe s y v h)))) S := Cl.of okX5_canBe (by intro i v h; match i, h with | 0, h => exact h | 1, h => exact h | 2, h => exact h | 3, h => exact h | n + 4, h => (cases h)) (Nat.le_of_ble_eq_true rfl) rfl (rX5_canBe s y v h)
def v_has (P : Pic) (p : Int32) : Bool := (if p < 0 then false else (if (P.1 0 0) ≤ p then false else true))
set_option maxRecDepth 20000 in
theorem rX5_has {S : Sg} {b : Nat} {P : Pic} (hP : pcAt_ ppC S b P)  (p : Int32)  : Rn 1 0 0 mX5_has 0 [some (.ref (b)), some (.int (p))] [] S (some (.int (b2i (v_has P p)))) S := by
  refine Rn.iload_n (k := 0) rfl rfl ?_
  refine Rn.if_lt (k := 1) rfl (fun c_1 => ?_) (fun c_1 => ?_)
  · refine Rn.iconst (k := 8) (v := 0) rfl (by decide) ?_
    exact Rn.retz rfl rfl (by unfold v_has; rw [if_pos c_1]; first | done | rfl) (b2i_nar _) rfl
  · refine Rn.iload_n (k := 2) rfl rfl ?_
    refine Rn.aload_n (k := 3) rfl rfl ?_
    refine Rn.getf (k := 4) rfl (hP.four (q := b) 0 rfl) (hP.c 0 (q := b) rfl rfl) rfl ?_
    refine Rn.icmp_ge (k := 5) rfl (fun c_2 => ?_) (fun c_2 => ?_)
    · refine Rn.iconst (k := 8) (v := 0) rfl (by decide) ?_
      exact Rn.retz rfl rfl (by unfold v_has; rw [if_neg c_1, if_pos c_2]; first | done | rfl) (b2i_nar _) rfl
    · refine Rn.iconst (k := 6) (v := 1) rfl (by decide) ?_
      refine Rn.goto (k := 7) rfl ?_
      exact Rn.retz rfl rfl (by unfold v_has; rw [if_neg c_1, if_neg c_2]; first | done | rfl) (b2i_nar _) rfl
theorem kX5_has {S : Sg} {b : Nat} {P : Pic} (hP : pcAt_ ppC S b P)  (p : Int32)  : Cl 1 0 0 mX5_has [.ref b, .int (p)] S (some (.int (b2i (v_has P p)))) S := Cl.of okX5_has (by intro i v h; match i, h with | 0, h => exact h | 1, h => exact h | n + 2, h => (cases h)) (Nat.le_of_ble_eq_true rfl) rfl (rX5_has hP p)
def v_isSold (P : Pic) (p : Int32) : Bool := (if (((P.1 0 1) >>> (p &&& 31)) &&& 1) = 1 then true else false)
set_option maxRecDepth 20000 in
theorem rX5_isSold {S : Sg} {b : Nat} {P : Pic} (hP : pcAt_ ppC S b P)  (p : Int32)  : Rn 1 0 0 mX5_isSold 0 [some (.ref (b)), some (.int (p))] [] S (some (.int (b2i (v_isSold P p)))) S := by
  refine Rn.aload_n (k := 0) rfl rfl ?_
  refine Rn.getf (k := 1) rfl (hP.four (q := b) 0 rfl) (hP.c 0 (q := b) rfl rfl) rfl ?_
  refine Rn.iload_n (k := 2) rfl rfl ?_
  refine Rn.ishr (k := 3) rfl ?_
  refine Rn.iconst (k := 4) (v := 1) rfl (by decide) ?_
  refine Rn.iand (k := 5) rfl ?_
  refine Rn.iconst (k := 6) (v := 1) rfl (by decide) ?_
  refine Rn.icmp_ne (k := 7) rfl (fun c_1 => ?_) (fun c_1 => ?_)
  · refine Rn.iconst (k := 10) (v := 0) rfl (by decide) ?_
    exact Rn.retz rfl rfl (by unfold v_isSold; rw [if_neg c_1]; first | done | rfl) (b2i_nar _) rfl
  · refine Rn.iconst (k := 8) (v := 1) rfl (by decide) ?_
    refine Rn.goto (k := 9) rfl ?_
    exact Rn.retz rfl rfl (by unfold v_isSold; rw [if_pos c_1]; first | done | rfl) (b2i_nar _) rfl
theorem kX5_isSold {S : Sg} {b : Nat} {P : Pic} (hP : pcAt_ ppC S b P)  (p : Int32)  : Cl 1 0 0 mX5_isSold [.ref b, .int (p)] S (some (.int (b2i (v_isSold P p)))) S := Cl.of okX5_isSold (by intro i v h; match i, h with | 0, h => exact h | 1, h => exact h | n + 2, h => (cases h)) (Nat.le_of_ble_eq_true rfl) rfl (rX5_isSold hP p)
def v_isInLine (P : Pic) (f : Int32) (p : Int32) : Bool := (if (((P.1 10 (p).toNatClampNeg) >>> (f &&& 31)) &&& 1) = 1 then true else false)
set_option maxRecDepth 20000 in
theorem rX5_isInLine {S : Sg} {b : Nat} {P : Pic} (hP : pcAt_ ppC S b P)  (f : Int32) (p : Int32) (h_p : vp_in p 16) : Rn 1 0 0 mX5_isInLine 0 [some (.ref (b)), some (.int (f)), some (.int (p))] [] S (some (.int (b2i (v_isInLine P f p)))) S := by
  refine Rn.aload_n (k := 0) rfl rfl ?_
  refine Rn.getf (k := 1) rfl (hP.four (q := b) 0 rfl) (hP.c 0 (q := b) rfl rfl) rfl ?_
  refine Rn.iload_n (k := 2) rfl rfl ?_
  refine Rn.iald (k := 3) rfl (hP.c 10 (q := b + 10) rfl rfl) (by first | with_reducible assumption) ?_
  refine Rn.iload_n (k := 4) rfl rfl ?_
  refine Rn.ishr (k := 5) rfl ?_
  refine Rn.iconst (k := 6) (v := 1) rfl (by decide) ?_
  refine Rn.iand (k := 7) rfl ?_
  refine Rn.iconst (k := 8) (v := 1) rfl (by decide) ?_
  refine Rn.icmp_ne (k := 9) rfl (fun c_1 => ?_) (fun c_1 => ?_)
  · refine Rn.iconst (k := 12) (v := 0) rfl (by decide) ?_
    exact Rn.retz rfl rfl (by unfold v_isInLine; rw [if_neg c_1]; first | done | rfl) (b2i_nar _) rfl
  · refine Rn.iconst (k := 10) (v := 1) rfl (by decide) ?_
    refine Rn.goto (k := 11) rfl ?_
    exact Rn.retz rfl rfl (by unfold v_isInLine; rw [if_pos c_1]; first | done | rfl) (b2i_nar _) rfl
theorem kX5_isInLine {S : Sg} {b : Nat} {P : Pic} (hP : pcAt_ ppC S b P)  (f : Int32) (p : Int32) (h_p : vp_in p 16) : Cl 1 0 0 mX5_isInLine [.ref b, .int (f), .int (p)] S (some (.int (b2i (v_isInLine P f p)))) S := Cl.of okX5_isInLine (by intro i v h; match i, h with | 0, h => exact h | 1, h => exact h | 2, h => exact h | n + 3, h => (cases h)) (Nat.le_of_ble_eq_true rfl) rfl (rX5_isInLine hP f p h_p)
def v_isSelfOrInLine (P : Pic) (f : Int32) (p : Int32) : Bool := (if f = p then true else (if (((P.1 10 (p).toNatClampNeg) >>> (f &&& 31)) &&& 1) = 1 then true else false))
set_option maxRecDepth 20000 in
theorem rX5_isSelfOrInLine {S : Sg} {b : Nat} {P : Pic} (hP : pcAt_ ppC S b P)  (f : Int32) (p : Int32) (h_p : vp_in p 16) : Rn 1 0 0 mX5_isSelfOrInLine 0 [some (.ref (b)), some (.int (f)), some (.int (p))] [] S (some (.int (b2i (v_isSelfOrInLine P f p)))) S := by
  refine Rn.iload_n (k := 0) rfl rfl ?_
  refine Rn.iload_n (k := 1) rfl rfl ?_
  refine Rn.icmp_eq (k := 2) rfl (fun c_1 => ?_) (fun c_1 => ?_)
  · refine Rn.iconst (k := 13) (v := 1) rfl (by decide) ?_
    refine Rn.goto (k := 14) rfl ?_
    exact Rn.retz rfl rfl (by unfold v_isSelfOrInLine; rw [if_pos c_1]; first | done | rfl) (b2i_nar _) rfl
  · refine Rn.aload_n (k := 3) rfl rfl ?_
    refine Rn.getf (k := 4) rfl (hP.four (q := b) 0 rfl) (hP.c 0 (q := b) rfl rfl) rfl ?_
    refine Rn.iload_n (k := 5) rfl rfl ?_
    refine Rn.iald (k := 6) rfl (hP.c 10 (q := b + 10) rfl rfl) (by first | with_reducible assumption) ?_
    refine Rn.iload_n (k := 7) rfl rfl ?_
    refine Rn.ishr (k := 8) rfl ?_
    refine Rn.iconst (k := 9) (v := 1) rfl (by decide) ?_
    refine Rn.iand (k := 10) rfl ?_
    refine Rn.iconst (k := 11) (v := 1) rfl (by decide) ?_
    refine Rn.icmp_ne (k := 12) rfl (fun c_2 => ?_) (fun c_2 => ?_)
    · refine Rn.iconst (k := 15) (v := 0) rfl (by decide) ?_
      exact Rn.retz rfl rfl (by unfold v_isSelfOrInLine; rw [if_neg c_1, if_neg c_2]; first | done | rfl) (b2i_nar _) rfl
    · refine Rn.iconst (k := 13) (v := 1) rfl (by decide) ?_
      refine Rn.goto (k := 14) rfl ?_
      exact Rn.retz rfl rfl (by unfold v_isSelfOrInLine; rw [if_neg c_1, if_pos c_2]; first | done | rfl) (b2i_nar _) rfl
theorem kX5_isSelfOrInLine {S : Sg} {b : Nat} {P : Pic} (hP : pcAt_ ppC S b P)  (f : Int32) (p : Int32) (h_p : vp_in p 16) : Cl 1 0 0 mX5_isSelfOrInLine [.ref b, .int (f), .int (p)] S (some (.int (b2i (v_isSelfOrInLine P f p)))) S := Cl.of okX5_isSelfOrInLine (by intro i v h; match i, h with | 0, h => exact h | 1, h => exact h | 2, h => exact h | n + 3, h => (cases h)) (Nat.le_of_ble_eq_true rfl) rfl (rX5_isSelfOrInLine hP f p h_p)
def v_livesIn (P : Pic) (p : Int32) (y : Int32) : Bool := (if y < (P.1 2 (p).toNatClampNeg) then false else (if ((P.1 2 (p).toNatClampNeg) + (P.1 3 (p).toNatClampNeg)) ≤ y then false else true))
set_option maxRecDepth 20000 in
theorem rX5_livesIn {S : Sg} {b : Nat} {P : Pic} (hP : pcAt_ ppC S b P)  (p : Int32) (y : Int32) (h_p : vp_in p 16) : Rn 1 0 0 mX5_livesIn 0 [some (.ref (b)), some (.int (p)), some (.int (y))] [] S (some (.int (b2i (v_livesIn P p y)))) S := by
  refine Rn.iload_n (k := 0) rfl rfl ?_
  refine Rn.aload_n (k := 1) rfl rfl ?_
  refine Rn.getf (k := 2) rfl (hP.four (q := b) 0 rfl) (hP.c 0 (q := b) rfl rfl) rfl ?_
  refine Rn.iload_n (k := 3) rfl rfl ?_
  refine Rn.iald (k := 4) rfl (hP.c 2 (q := b + 2) rfl rfl) (by first | with_reducible assumption) ?_
  refine Rn.icmp_lt (k := 5) rfl (fun c_1 => ?_) (fun c_1 => ?_)
  · refine Rn.iconst (k := 19) (v := 0) rfl (by decide) ?_
    exact Rn.retz rfl rfl (by unfold v_livesIn; rw [if_pos c_1]; first | done | rfl) (b2i_nar _) rfl
  · refine Rn.iload_n (k := 6) rfl rfl ?_
    refine Rn.aload_n (k := 7) rfl rfl ?_
    refine Rn.getf (k := 8) rfl (hP.four (q := b) 0 rfl) (hP.c 0 (q := b) rfl rfl) rfl ?_
    refine Rn.iload_n (k := 9) rfl rfl ?_
    refine Rn.iald (k := 10) rfl (hP.c 2 (q := b + 2) rfl rfl) (by first | with_reducible assumption) ?_
    refine Rn.aload_n (k := 11) rfl rfl ?_
    refine Rn.getf (k := 12) rfl (hP.four (q := b) 0 rfl) (hP.c 0 (q := b) rfl rfl) rfl ?_
    refine Rn.iload_n (k := 13) rfl rfl ?_
    refine Rn.iald (k := 14) rfl (hP.c 3 (q := b + 3) rfl rfl) (by first | with_reducible assumption) ?_
    refine Rn.iadd (k := 15) rfl ?_
    refine Rn.icmp_ge (k := 16) rfl (fun c_2 => ?_) (fun c_2 => ?_)
    · refine Rn.iconst (k := 19) (v := 0) rfl (by decide) ?_
      exact Rn.retz rfl rfl (by unfold v_livesIn; rw [if_neg c_1, if_pos c_2]; first | done | rfl) (b2i_nar _) rfl
    · refine Rn.iconst (k := 17) (v := 1) rfl (by decide) ?_
      refine Rn.goto (k := 18) rfl ?_
      exact Rn.retz rfl rfl (by unfold v_livesIn; rw [if_neg c_1, if_neg c_2]; first | done | rfl) (b2i_nar _) rfl
theorem kX5_livesIn {S : Sg} {b : Nat} {P : Pic} (hP : pcAt_ ppC S b P)  (p : Int32) (y : Int32) (h_p : vp_in p 16) : Cl 1 0 0 mX5_livesIn [.ref b, .int (p), .int (y)] S (some (.int (b2i (v_livesIn P p y)))) S := Cl.of okX5_livesIn (by intro i v h; match i, h with | 0, h => exact h | 1, h => exact h | 2, h => exact h | n + 3, h => (cases h)) (Nat.le_of_ble_eq_true rfl) rfl (rX5_livesIn hP p y h_p)
def v_datesFit (P : Pic) (p : Int32) (c : Int32) (g : Int32) : Bool := (if (P.1 1 (p).toNatClampNeg) = 0 then (if ((P.1 2 (c).toNatClampNeg) - (P.1 2 (p).toNatClampNeg)) < g then false else (if (P.1 3 (p).toNatClampNeg) < ((P.1 2 (c).toNatClampNeg) - (P.1 2 (p).toNatClampNeg)) then false else true)) else (if ((P.1 2 (c).toNatClampNeg) - (P.1 2 (p).toNatClampNeg)) < g then false else (if ((P.1 3 (p).toNatClampNeg) - 1) < ((P.1 2 (c).toNatClampNeg) - (P.1 2 (p).toNatClampNeg)) then false else true)))
set_option maxRecDepth 20000 in
theorem rX5_datesFit {S : Sg} {b : Nat} {P : Pic} (hP : pcAt_ ppC S b P)  (p : Int32) (c : Int32) (g : Int32) (h_p : vp_in p 16) (h_c : vp_in c 16) : Rn 1 0 0 mX5_datesFit 0 [some (.ref (b)), some (.int (p)), some (.int (c)), some (.int (g)), none, none] [] S (some (.int (b2i (v_datesFit P p c g)))) S := by
  refine Rn.aload_n (k := 0) rfl rfl ?_
  refine Rn.getf (k := 1) rfl (hP.four (q := b) 0 rfl) (hP.c 0 (q := b) rfl rfl) rfl ?_
  refine Rn.iload_n (k := 2) rfl rfl ?_
  refine Rn.iald (k := 3) rfl (hP.c 2 (q := b + 2) rfl rfl) (by first | with_reducible assumption) ?_
  refine Rn.aload_n (k := 4) rfl rfl ?_
  refine Rn.getf (k := 5) rfl (hP.four (q := b) 0 rfl) (hP.c 0 (q := b) rfl rfl) rfl ?_
  refine Rn.iload_n (k := 6) rfl rfl ?_
  refine Rn.iald (k := 7) rfl (hP.c 2 (q := b + 2) rfl rfl) (by first | with_reducible assumption) ?_
  refine Rn.isub (k := 8) rfl ?_
  refine Rn.istore (k := 9) rfl (by decide) rfl ?_
  refine Rn.aload_n (k := 10) rfl rfl ?_
  refine Rn.getf (k := 11) rfl (hP.four (q := b) 0 rfl) (hP.c 0 (q := b) rfl rfl) rfl ?_
  refine Rn.iload_n (k := 12) rfl rfl ?_
  refine Rn.iald (k := 13) rfl (hP.c 1 (q := b + 1) rfl rfl) (by first | with_reducible assumption) ?_
  refine Rn.if_ne (k := 14) rfl (fun c_1 => ?_) (fun c_1 => ?_)
  · refine Rn.aload_n (k := 20) rfl rfl ?_
    refine Rn.getf (k := 21) rfl (hP.four (q := b) 0 rfl) (hP.c 0 (q := b) rfl rfl) rfl ?_
    refine Rn.iload_n (k := 22) rfl rfl ?_
    refine Rn.iald (k := 23) rfl (hP.c 3 (q := b + 3) rfl rfl) (by first | with_reducible assumption) ?_
    refine Rn.iconst (k := 24) (v := 1) rfl (by decide) ?_
    refine Rn.isub (k := 25) rfl ?_
    refine Rn.istore (k := 26) rfl (by decide) rfl ?_
    refine Rn.iload (k := 27) rfl rfl ?_
    refine Rn.iload_n (k := 28) rfl rfl ?_
    refine Rn.icmp_lt (k := 29) rfl (fun c_2 => ?_) (fun c_2 => ?_)
    · refine Rn.iconst (k := 35) (v := 0) rfl (by decide) ?_
      exact Rn.retz rfl rfl (by unfold v_datesFit; rw [if_neg c_1, if_pos c_2]; first | done | rfl) (b2i_nar _) rfl
    · refine Rn.iload (k := 30) rfl rfl ?_
      refine Rn.iload (k := 31) rfl rfl ?_
      refine Rn.icmp_gt (k := 32) rfl (fun c_3 => ?_) (fun c_3 => ?_)
      · refine Rn.iconst (k := 35) (v := 0) rfl (by decide) ?_
        exact Rn.retz rfl rfl (by unfold v_datesFit; rw [if_neg c_1, if_neg c_2, if_pos c_3]; first | done | rfl) (b2i_nar _) rfl
      · refine Rn.iconst (k := 33) (v := 1) rfl (by decide) ?_
        refine Rn.goto (k := 34) rfl ?_
        exact Rn.retz rfl rfl (by unfold v_datesFit; rw [if_neg c_1, if_neg c_2, if_neg c_3]; first | done | rfl) (b2i_nar _) rfl
  · refine Rn.aload_n (k := 15) rfl rfl ?_
    refine Rn.getf (k := 16) rfl (hP.four (q := b) 0 rfl) (hP.c 0 (q := b) rfl rfl) rfl ?_
    refine Rn.iload_n (k := 17) rfl rfl ?_
    refine Rn.iald (k := 18) rfl (hP.c 3 (q := b + 3) rfl rfl) (by first | with_reducible assumption) ?_
    refine Rn.goto (k := 19) rfl ?_
    refine Rn.istore (k := 26) rfl (by decide) rfl ?_
    refine Rn.iload (k := 27) rfl rfl ?_
    refine Rn.iload_n (k := 28) rfl rfl ?_
    refine Rn.icmp_lt (k := 29) rfl (fun c_4 => ?_) (fun c_4 => ?_)
    · refine Rn.iconst (k := 35) (v := 0) rfl (by decide) ?_
      exact Rn.retz rfl rfl (by unfold v_datesFit; rw [if_pos c_1, if_pos c_4]; first | done | rfl) (b2i_nar _) rfl
    · refine Rn.iload (k := 30) rfl rfl ?_
      refine Rn.iload (k := 31) rfl rfl ?_
      refine Rn.icmp_gt (k := 32) rfl (fun c_5 => ?_) (fun c_5 => ?_)
      · refine Rn.iconst (k := 35) (v := 0) rfl (by decide) ?_
        exact Rn.retz rfl rfl (by unfold v_datesFit; rw [if_pos c_1, if_neg c_4, if_pos c_5]; first | done | rfl) (b2i_nar _) rfl
      · refine Rn.iconst (k := 33) (v := 1) rfl (by decide) ?_
        refine Rn.goto (k := 34) rfl ?_
        exact Rn.retz rfl rfl (by unfold v_datesFit; rw [if_pos c_1, if_neg c_4, if_neg c_5]; first | done | rfl) (b2i_nar _) rfl
theorem kX5_datesFit {S : Sg} {b : Nat} {P : Pic} (hP : pcAt_ ppC S b P)  (p : Int32) (c : Int32) (g : Int32) (h_p : vp_in p 16) (h_c : vp_in c 16) : Cl 1 0 0 mX5_datesFit [.ref b, .int (p), .int (c), .int (g)] S (some (.int (b2i (v_datesFit P p c g)))) S := Cl.of okX5_datesFit (by intro i v h; match i, h with | 0, h => exact h | 1, h => exact h | 2, h => exact h | 3, h => exact h | 4, h => (cases h) | 5, h => (cases h) | n + 6, h => (cases h)) (Nat.le_of_ble_eq_true rfl) rfl (rX5_datesFit hP p c g h_p h_c)
def v_parentOf (P : Pic) (c : Int32) (s : Int32) : Int32 := (if s = 0 then ((P.1 8 (c).toNatClampNeg)) else ((P.1 9 (c).toNatClampNeg)))
set_option maxRecDepth 20000 in
theorem rX5_parentOf {S : Sg} {b : Nat} {P : Pic} (hP : pcAt_ ppC S b P)  (c : Int32) (s : Int32) (h_c : vp_in c 16) : Rn 1 0 0 mX5_parentOf 0 [some (.ref (b)), some (.int (c)), some (.int (s))] [] S (some (.int (v_parentOf P c s))) S := by
  refine Rn.iload_n (k := 0) rfl rfl ?_
  refine Rn.if_ne (k := 1) rfl (fun c_1 => ?_) (fun c_1 => ?_)
  · refine Rn.aload_n (k := 7) rfl rfl ?_
    refine Rn.getf (k := 8) rfl (hP.four (q := b) 0 rfl) (hP.c 0 (q := b) rfl rfl) rfl ?_
    refine Rn.iload_n (k := 9) rfl rfl ?_
    refine Rn.iald (k := 10) rfl (hP.c 9 (q := b + 9) rfl rfl) (by first | with_reducible assumption) ?_
    exact Rn.retz rfl rfl (by unfold v_parentOf; rw [if_neg c_1]; first | done | rfl | (rfl)) rfl rfl
  · refine Rn.aload_n (k := 2) rfl rfl ?_
    refine Rn.getf (k := 3) rfl (hP.four (q := b) 0 rfl) (hP.c 0 (q := b) rfl rfl) rfl ?_
    refine Rn.iload_n (k := 4) rfl rfl ?_
    refine Rn.iald (k := 5) rfl (hP.c 8 (q := b + 8) rfl rfl) (by first | with_reducible assumption) ?_
    refine Rn.goto (k := 6) rfl ?_
    exact Rn.retz rfl rfl (by unfold v_parentOf; rw [if_pos c_1]; first | done | rfl | (rfl)) rfl rfl
theorem kX5_parentOf {S : Sg} {b : Nat} {P : Pic} (hP : pcAt_ ppC S b P)  (c : Int32) (s : Int32) (h_c : vp_in c 16) : Cl 1 0 0 mX5_parentOf [.ref b, .int (c), .int (s)] S (some (.int (v_parentOf P c s))) S := Cl.of okX5_parentOf (by intro i v h; match i, h with | 0, h => exact h | 1, h => exact h | 2, h => exact h | n + 3, h => (cases h)) (Nat.le_of_ble_eq_true rfl) rfl (rX5_parentOf hP c s h_c)
def v_rankedParents (P : Pic) (p : Int32) (k : Int32) : Int32 := (if (P.1 8 (p).toNatClampNeg) = (-1) then (if (P.1 9 (p).toNatClampNeg) = (-1) then (0) else ((0 + ((k >>> ((P.1 9 (p).toNatClampNeg) &&& 31)) &&& 1)))) else (if (P.1 9 (p).toNatClampNeg) = (-1) then ((0 + ((k >>> ((P.1 8 (p).toNatClampNeg) &&& 31)) &&& 1))) else (((0 + ((k >>> ((P.1 8 (p).toNatClampNeg) &&& 31)) &&& 1)) + ((k >>> ((P.1 9 (p).toNatClampNeg) &&& 31)) &&& 1)))))
set_option maxRecDepth 20000 in
theorem rX5_rankedParents {S : Sg} {b : Nat} {P : Pic} (hP : pcAt_ ppC S b P)  (p : Int32) (k : Int32) (h_p : vp_in p 16) : Rn 1 0 0 mX5_rankedParents 0 [some (.ref (b)), some (.int (p)), some (.int (k)), none] [] S (some (.int (v_rankedParents P p k))) S := by
  refine Rn.iconst (k := 0) (v := 0) rfl (by decide) ?_
  refine Rn.istore_n (k := 1) rfl (by decide) rfl ?_
  refine Rn.aload_n (k := 2) rfl rfl ?_
  refine Rn.getf (k := 3) rfl (hP.four (q := b) 0 rfl) (hP.c 0 (q := b) rfl rfl) rfl ?_
  refine Rn.iload_n (k := 4) rfl rfl ?_
  refine Rn.iald (k := 5) rfl (hP.c 8 (q := b + 8) rfl rfl) (by first | with_reducible assumption) ?_
  refine Rn.iconst (k := 6) (v := (-1)) rfl (by decide) ?_
  refine Rn.icmp_eq (k := 7) rfl (fun c_1 => ?_) (fun c_1 => ?_)
  · refine Rn.aload_n (k := 19) rfl rfl ?_
    refine Rn.getf (k := 20) rfl (hP.four (q := b) 0 rfl) (hP.c 0 (q := b) rfl rfl) rfl ?_
    refine Rn.iload_n (k := 21) rfl rfl ?_
    refine Rn.iald (k := 22) rfl (hP.c 9 (q := b + 9) rfl rfl) (by first | with_reducible assumption) ?_
    refine Rn.iconst (k := 23) (v := (-1)) rfl (by decide) ?_
    refine Rn.icmp_eq (k := 24) rfl (fun c_2 => ?_) (fun c_2 => ?_)
    · refine Rn.iload_n (k := 36) rfl rfl ?_
      exact Rn.retz rfl rfl (by unfold v_rankedParents; rw [if_pos c_1, if_pos c_2]; first | done | rfl | (rfl)) rfl rfl
    · refine Rn.iload_n (k := 25) rfl rfl ?_
      refine Rn.iload_n (k := 26) rfl rfl ?_
      refine Rn.aload_n (k := 27) rfl rfl ?_
      refine Rn.getf (k := 28) rfl (hP.four (q := b) 0 rfl) (hP.c 0 (q := b) rfl rfl) rfl ?_
      refine Rn.iload_n (k := 29) rfl rfl ?_
      refine Rn.iald (k := 30) rfl (hP.c 9 (q := b + 9) rfl rfl) (by first | with_reducible assumption) ?_
      refine Rn.ishr (k := 31) rfl ?_
      refine Rn.iconst (k := 32) (v := 1) rfl (by decide) ?_
      refine Rn.iand (k := 33) rfl ?_
      refine Rn.iadd (k := 34) rfl ?_
      refine Rn.istore_n (k := 35) rfl (by decide) rfl ?_
      refine Rn.iload_n (k := 36) rfl rfl ?_
      exact Rn.retz rfl rfl (by unfold v_rankedParents; rw [if_pos c_1, if_neg c_2]; first | done | rfl | (rfl)) rfl rfl
  · refine Rn.iload_n (k := 8) rfl rfl ?_
    refine Rn.iload_n (k := 9) rfl rfl ?_
    refine Rn.aload_n (k := 10) rfl rfl ?_
    refine Rn.getf (k := 11) rfl (hP.four (q := b) 0 rfl) (hP.c 0 (q := b) rfl rfl) rfl ?_
    refine Rn.iload_n (k := 12) rfl rfl ?_
    refine Rn.iald (k := 13) rfl (hP.c 8 (q := b + 8) rfl rfl) (by first | with_reducible assumption) ?_
    refine Rn.ishr (k := 14) rfl ?_
    refine Rn.iconst (k := 15) (v := 1) rfl (by decide) ?_
    refine Rn.iand (k := 16) rfl ?_
    refine Rn.iadd (k := 17) rfl ?_
    refine Rn.istore_n (k := 18) rfl (by decide) rfl ?_
    refine Rn.aload_n (k := 19) rfl rfl ?_
    refine Rn.getf (k := 20) rfl (hP.four (q := b) 0 rfl) (hP.c 0 (q := b) rfl rfl) rfl ?_
    refine Rn.iload_n (k := 21) rfl rfl ?_
    refine Rn.iald (k := 22) rfl (hP.c 9 (q := b + 9) rfl rfl) (by first | with_reducible assumption) ?_
    refine Rn.iconst (k := 23) (v := (-1)) rfl (by decide) ?_
    refine Rn.icmp_eq (k := 24) rfl (fun c_3 => ?_) (fun c_3 => ?_)
    · refine Rn.iload_n (k := 36) rfl rfl ?_
      exact Rn.retz rfl rfl (by unfold v_rankedParents; rw [if_neg c_1, if_pos c_3]; first | done | rfl | (rfl)) rfl rfl
    · refine Rn.iload_n (k := 25) rfl rfl ?_
      refine Rn.iload_n (k := 26) rfl rfl ?_
      refine Rn.aload_n (k := 27) rfl rfl ?_
      refine Rn.getf (k := 28) rfl (hP.four (q := b) 0 rfl) (hP.c 0 (q := b) rfl rfl) rfl ?_
      refine Rn.iload_n (k := 29) rfl rfl ?_
      refine Rn.iald (k := 30) rfl (hP.c 9 (q := b + 9) rfl rfl) (by first | with_reducible assumption) ?_
      refine Rn.ishr (k := 31) rfl ?_
      refine Rn.iconst (k := 32) (v := 1) rfl (by decide) ?_
      refine Rn.iand (k := 33) rfl ?_
      refine Rn.iadd (k := 34) rfl ?_
      refine Rn.istore_n (k := 35) rfl (by decide) rfl ?_
      refine Rn.iload_n (k := 36) rfl rfl ?_
      exact Rn.retz rfl rfl (by unfold v_rankedParents; rw [if_neg c_1, if_neg c_3]; first | done | rfl | (rfl)) rfl rfl
theorem kX5_rankedParents {S : Sg} {b : Nat} {P : Pic} (hP : pcAt_ ppC S b P)  (p : Int32) (k : Int32) (h_p : vp_in p 16) : Cl 1 0 0 mX5_rankedParents [.ref b, .int (p), .int (k)] S (some (.int (v_rankedParents P p k))) S := Cl.of okX5_rankedParents (by intro i v h; match i, h with | 0, h => exact h | 1, h => exact h | 2, h => exact h | 3, h => (cases h) | n + 4, h => (cases h)) (Nat.le_of_ble_eq_true rfl) rfl (rX5_rankedParents hP p k h_p)
def v_hasPlaceFor (P : Pic) (p : Int32) (c : Int32) : Bool := (if (v_parentOf P (c) ((P.1 1 (p).toNatClampNeg))) = (-1) then (if (b2i (v_isSelfOrInLine P (c) (p))) = 0 then true else false) else false)
set_option maxRecDepth 20000 in
theorem rX5_hasPlaceFor {S : Sg} {b : Nat} {P : Pic} (hP : pcAt_ ppC S b P)  (p : Int32) (c : Int32) (h_p : vp_in p 16) (h_c : vp_in c 16) : Rn 2 0 0 mX5_hasPlaceFor 0 [some (.ref (b)), some (.int (p)), some (.int (c))] [] S (some (.int (b2i (v_hasPlaceFor P p c)))) S := by
  refine Rn.aload_n (k := 0) rfl rfl ?_
  refine Rn.iload_n (k := 1) rfl rfl ?_
  refine Rn.aload_n (k := 2) rfl rfl ?_
  refine Rn.getf (k := 3) rfl (hP.four (q := b) 0 rfl) (hP.c 0 (q := b) rfl rfl) rfl ?_
  refine Rn.iload_n (k := 4) rfl rfl ?_
  refine Rn.iald (k := 5) rfl (hP.c 1 (q := b + 1) rfl rfl) (by first | with_reducible assumption) ?_
  refine Rn.callV0 (k := 6) (M' := mX5_parentOf) rfl lkX5_62 rfl (hP.four (q := b) 0 rfl) (hP.c 0 (q := b) rfl rfl) rfl (kX5_parentOf hP (c) ((P.1 1 (p).toNatClampNeg)) (by first | with_reducible assumption)) (by decide) rfl rfl (Nat.le_of_ble_eq_true rfl) ?_
  refine Rn.iconst (k := 7) (v := (-1)) rfl (by decide) ?_
  refine Rn.icmp_ne (k := 8) rfl (fun c_1 => ?_) (fun c_1 => ?_)
  · refine Rn.iconst (k := 16) (v := 0) rfl (by decide) ?_
    exact Rn.retz rfl rfl (by unfold v_hasPlaceFor; rw [if_neg c_1]; first | done | rfl) (b2i_nar _) rfl
  · refine Rn.aload_n (k := 9) rfl rfl ?_
    refine Rn.iload_n (k := 10) rfl rfl ?_
    refine Rn.iload_n (k := 11) rfl rfl ?_
    refine Rn.callV0 (k := 12) (M' := mX5_isSelfOrInLine) rfl lkX5_66 rfl (hP.four (q := b) 0 rfl) (hP.c 0 (q := b) rfl rfl) rfl (kX5_isSelfOrInLine hP (c) (p) (by first | with_reducible assumption)) (by decide) rfl rfl (Nat.le_of_ble_eq_true rfl) ?_
    refine Rn.if_ne (k := 13) rfl (fun c_2 => ?_) (fun c_2 => ?_)
    · refine Rn.iconst (k := 16) (v := 0) rfl (by decide) ?_
      exact Rn.retz rfl rfl (by unfold v_hasPlaceFor; rw [if_pos c_1, if_neg c_2]; first | done | rfl) (b2i_nar _) rfl
    · refine Rn.iconst (k := 14) (v := 1) rfl (by decide) ?_
      refine Rn.goto (k := 15) rfl ?_
      exact Rn.retz rfl rfl (by unfold v_hasPlaceFor; rw [if_pos c_1, if_pos c_2]; first | done | rfl) (b2i_nar _) rfl
theorem kX5_hasPlaceFor {S : Sg} {b : Nat} {P : Pic} (hP : pcAt_ ppC S b P)  (p : Int32) (c : Int32) (h_p : vp_in p 16) (h_c : vp_in c 16) : Cl 2 0 0 mX5_hasPlaceFor [.ref b, .int (p), .int (c)] S (some (.int (b2i (v_hasPlaceFor P p c)))) S := Cl.of okX5_hasPlaceFor (by intro i v h; match i, h with | 0, h => exact h | 1, h => exact h | 2, h => exact h | n + 3, h => (cases h)) (Nat.le_of_ble_eq_true rfl) rfl (rX5_hasPlaceFor hP p c h_p h_c)
def v_couldBeBought (P : Pic) (p : Int32) (c : Int32) (g : Int32) : Bool := (if (b2i (v_isSold P (p))) = 0 then (if (b2i (v_hasPlaceFor P (p) (c))) = 0 then false else (if (b2i (v_datesFit P (p) (c) (g))) = 0 then false else true)) else false)
set_option maxRecDepth 20000 in
theorem rX5_couldBeBought {S : Sg} {b : Nat} {P : Pic} (hP : pcAt_ ppC S b P)  (p : Int32) (c : Int32) (g : Int32) (h_p : vp_in p 16) (h_c : vp_in c 16) : Rn 3 0 0 mX5_couldBeBought 0 [some (.ref (b)), some (.int (p)), some (.int (c)), some (.int (g))] [] S (some (.int (b2i (v_couldBeBought P p c g)))) S := by
  refine Rn.aload_n (k := 0) rfl rfl ?_
  refine Rn.iload_n (k := 1) rfl rfl ?_
  refine Rn.callV0 (k := 2) (M' := mX5_isSold) rfl lkX5_70 rfl (hP.four (q := b) 0 rfl) (hP.c 0 (q := b) rfl rfl) rfl (kX5_isSold hP (p) ) (by decide) rfl rfl (Nat.le_of_ble_eq_true rfl) ?_
  refine Rn.if_ne (k := 3) rfl (fun c_1 => ?_) (fun c_1 => ?_)
  · refine Rn.iconst (k := 17) (v := 0) rfl (by decide) ?_
    exact Rn.retz rfl rfl (by unfold v_couldBeBought; rw [if_neg c_1]; first | done | rfl) (b2i_nar _) rfl
  · refine Rn.aload_n (k := 4) rfl rfl ?_
    refine Rn.iload_n (k := 5) rfl rfl ?_
    refine Rn.iload_n (k := 6) rfl rfl ?_
    refine Rn.callV0 (k := 7) (M' := mX5_hasPlaceFor) rfl lkX5_74 rfl (hP.four (q := b) 0 rfl) (hP.c 0 (q := b) rfl rfl) rfl (kX5_hasPlaceFor hP (p) (c) (by first | with_reducible assumption) (by first | with_reducible assumption)) (by decide) rfl rfl (Nat.le_of_ble_eq_true rfl) ?_
    refine Rn.if_eq (k := 8) rfl (fun c_2 => ?_) (fun c_2 => ?_)
    · refine Rn.iconst (k := 17) (v := 0) rfl (by decide) ?_
      exact Rn.retz rfl rfl (by unfold v_couldBeBought; rw [if_pos c_1, if_pos c_2]; first | done | rfl) (b2i_nar _) rfl
    · refine Rn.aload_n (k := 9) rfl rfl ?_
      refine Rn.iload_n (k := 10) rfl rfl ?_
      refine Rn.iload_n (k := 11) rfl rfl ?_
      refine Rn.iload_n (k := 12) rfl rfl ?_
      refine Rn.callV0 (k := 13) (M' := mX5_datesFit) rfl lkX5_77 rfl (hP.four (q := b) 0 rfl) (hP.c 0 (q := b) rfl rfl) rfl (kX5_datesFit hP (p) (c) (g) (by first | with_reducible assumption) (by first | with_reducible assumption)) (by decide) rfl rfl (Nat.le_of_ble_eq_true rfl) ?_
      refine Rn.if_eq (k := 14) rfl (fun c_3 => ?_) (fun c_3 => ?_)
      · refine Rn.iconst (k := 17) (v := 0) rfl (by decide) ?_
        exact Rn.retz rfl rfl (by unfold v_couldBeBought; rw [if_pos c_1, if_neg c_2, if_pos c_3]; first | done | rfl) (b2i_nar _) rfl
      · refine Rn.iconst (k := 15) (v := 1) rfl (by decide) ?_
        refine Rn.goto (k := 16) rfl ?_
        exact Rn.retz rfl rfl (by unfold v_couldBeBought; rw [if_pos c_1, if_neg c_2, if_neg c_3]; first | done | rfl) (b2i_nar _) rfl
theorem kX5_couldBeBought {S : Sg} {b : Nat} {P : Pic} (hP : pcAt_ ppC S b P)  (p : Int32) (c : Int32) (g : Int32) (h_p : vp_in p 16) (h_c : vp_in c 16) : Cl 3 0 0 mX5_couldBeBought [.ref b, .int (p), .int (c), .int (g)] S (some (.int (b2i (v_couldBeBought P p c g)))) S := Cl.of okX5_couldBeBought (by intro i v h; match i, h with | 0, h => exact h | 1, h => exact h | 2, h => exact h | 3, h => exact h | n + 4, h => (cases h)) (Nat.le_of_ble_eq_true rfl) rfl (rX5_couldBeBought hP p c g h_p h_c)
def v_withLine (P : Pic) (p : Int32) : Int32 := (if p = (-1) then (0) else (((P.1 10 (p).toNatClampNeg) ||| (1 <<< (p &&& 31)))))
set_option maxRecDepth 20000 in
theorem rX5_withLine {S : Sg} {b : Nat} {P : Pic} (hP : pcAt_ ppC S b P)  (p : Int32) (h_p : ¬ p = -1 → vp_in p 16) : Rn 1 0 0 mX5_withLine 0 [some (.ref (b)), some (.int (p))] [] S (some (.int (v_withLine P p))) S := by
  refine Rn.iload_n (k := 0) rfl rfl ?_
  refine Rn.iconst (k := 1) (v := (-1)) rfl (by decide) ?_
  refine Rn.icmp_ne (k := 2) rfl (fun c_1 => ?_) (fun c_1 => ?_)
  · refine Rn.aload_n (k := 5) rfl rfl ?_
    refine Rn.getf (k := 6) rfl (hP.four (q := b) 0 rfl) (hP.c 0 (q := b) rfl rfl) rfl ?_
    refine Rn.iload_n (k := 7) rfl rfl ?_
    refine Rn.iald (k := 8) rfl (hP.c 10 (q := b + 10) rfl rfl) (by first | with_reducible assumption | with_reducible exact h_p (by assumption)) ?_
    refine Rn.iconst (k := 9) (v := 1) rfl (by decide) ?_
    refine Rn.iload_n (k := 10) rfl rfl ?_
    refine Rn.ishl (k := 11) rfl ?_
    refine Rn.ior (k := 12) rfl ?_
    exact Rn.retz rfl rfl (by unfold v_withLine; rw [if_neg c_1]; first | done | rfl | (rfl)) rfl rfl
  · refine Rn.iconst (k := 3) (v := 0) rfl (by decide) ?_
    refine Rn.goto (k := 4) rfl ?_
    exact Rn.retz rfl rfl (by unfold v_withLine; rw [if_pos c_1]; first | done | rfl | (rfl)) rfl rfl
theorem kX5_withLine {S : Sg} {b : Nat} {P : Pic} (hP : pcAt_ ppC S b P)  (p : Int32) (h_p : ¬ p = -1 → vp_in p 16) : Cl 1 0 0 mX5_withLine [.ref b, .int (p)] S (some (.int (v_withLine P p))) S := Cl.of okX5_withLine (by intro i v h; match i, h with | 0, h => exact h | 1, h => exact h | n + 2, h => (cases h)) (Nat.le_of_ble_eq_true rfl) rfl (rX5_withLine hP p h_p)
def v_isGrand (P : Pic) (p : Int32) (k : Int32) : Bool := (if ((v_withLine P ((P.1 8 (p).toNatClampNeg))) &&& k) = 0 then false else (if ((v_withLine P ((P.1 9 (p).toNatClampNeg))) &&& k) = 0 then false else true))
set_option maxRecDepth 20000 in
theorem rX5_isGrand {S : Sg} {b : Nat} {P : Pic} (hP : pcAt_ ppC S b P)  (p : Int32) (k : Int32) (h_p : vp_in p 16) (hw8 : ∀ i : Int32, vp_in i 16 → ¬ P.1 8 i.toNatClampNeg = -1 → vp_in (P.1 8 i.toNatClampNeg) 16) (hw9 : ∀ i : Int32, vp_in i 16 → ¬ P.1 9 i.toNatClampNeg = -1 → vp_in (P.1 9 i.toNatClampNeg) 16) : Rn 2 0 0 mX5_isGrand 0 [some (.ref (b)), some (.int (p)), some (.int (k))] [] S (some (.int (b2i (v_isGrand P p k)))) S := by
  refine Rn.aload_n (k := 0) rfl rfl ?_
  refine Rn.aload_n (k := 1) rfl rfl ?_
  refine Rn.getf (k := 2) rfl (hP.four (q := b) 0 rfl) (hP.c 0 (q := b) rfl rfl) rfl ?_
  refine Rn.iload_n (k := 3) rfl rfl ?_
  refine Rn.iald (k := 4) rfl (hP.c 8 (q := b + 8) rfl rfl) (by first | with_reducible assumption) ?_
  refine Rn.callV0 (k := 5) (M' := mX5_withLine) rfl lkX5_85 rfl (hP.four (q := b) 0 rfl) (hP.c 0 (q := b) rfl rfl) rfl (kX5_withLine hP ((P.1 8 (p).toNatClampNeg)) (by first | with_reducible assumption | (intro _; with_reducible assumption) | (exact hw8 _ (by with_reducible assumption)) | (exact hw9 _ (by with_reducible assumption)))) (by decide) rfl rfl (Nat.le_of_ble_eq_true rfl) ?_
  refine Rn.iload_n (k := 6) rfl rfl ?_
  refine Rn.iand (k := 7) rfl ?_
  refine Rn.if_eq (k := 8) rfl (fun c_1 => ?_) (fun c_1 => ?_)
  · refine Rn.iconst (k := 20) (v := 0) rfl (by decide) ?_
    exact Rn.retz rfl rfl (by unfold v_isGrand; rw [if_pos c_1]; first | done | rfl) (b2i_nar _) rfl
  · refine Rn.aload_n (k := 9) rfl rfl ?_
    refine Rn.aload_n (k := 10) rfl rfl ?_
    refine Rn.getf (k := 11) rfl (hP.four (q := b) 0 rfl) (hP.c 0 (q := b) rfl rfl) rfl ?_
    refine Rn.iload_n (k := 12) rfl rfl ?_
    refine Rn.iald (k := 13) rfl (hP.c 9 (q := b + 9) rfl rfl) (by first | with_reducible assumption) ?_
    refine Rn.callV0 (k := 14) (M' := mX5_withLine) rfl lkX5_85 rfl (hP.four (q := b) 0 rfl) (hP.c 0 (q := b) rfl rfl) rfl (kX5_withLine hP ((P.1 9 (p).toNatClampNeg)) (by first | with_reducible assumption | (intro _; with_reducible assumption) | (exact hw8 _ (by with_reducible assumption)) | (exact hw9 _ (by with_reducible assumption)))) (by decide) rfl rfl (Nat.le_of_ble_eq_true rfl) ?_
    refine Rn.iload_n (k := 15) rfl rfl ?_
    refine Rn.iand (k := 16) rfl ?_
    refine Rn.if_eq (k := 17) rfl (fun c_2 => ?_) (fun c_2 => ?_)
    · refine Rn.iconst (k := 20) (v := 0) rfl (by decide) ?_
      exact Rn.retz rfl rfl (by unfold v_isGrand; rw [if_neg c_1, if_pos c_2]; first | done | rfl) (b2i_nar _) rfl
    · refine Rn.iconst (k := 18) (v := 1) rfl (by decide) ?_
      refine Rn.goto (k := 19) rfl ?_
      exact Rn.retz rfl rfl (by unfold v_isGrand; rw [if_neg c_1, if_neg c_2]; first | done | rfl) (b2i_nar _) rfl
theorem kX5_isGrand {S : Sg} {b : Nat} {P : Pic} (hP : pcAt_ ppC S b P)  (p : Int32) (k : Int32) (h_p : vp_in p 16) (hw8 : ∀ i : Int32, vp_in i 16 → ¬ P.1 8 i.toNatClampNeg = -1 → vp_in (P.1 8 i.toNatClampNeg) 16) (hw9 : ∀ i : Int32, vp_in i 16 → ¬ P.1 9 i.toNatClampNeg = -1 → vp_in (P.1 9 i.toNatClampNeg) 16) : Cl 2 0 0 mX5_isGrand [.ref b, .int (p), .int (k)] S (some (.int (b2i (v_isGrand P p k)))) S := Cl.of okX5_isGrand (by intro i v h; match i, h with | 0, h => exact h | 1, h => exact h | 2, h => exact h | n + 3, h => (cases h)) (Nat.le_of_ble_eq_true rfl) rfl (rX5_isGrand hP p k h_p hw8 hw9)
def w_setParent (P : Pic) (c : Int32) (s : Int32) (p : Int32) : Pic := (if s = 0 then (let P_3 : Pic := pcI P 8 (upd (P.1 8) (c : Int32).toNatClampNeg p); P_3) else (let P_2 : Pic := pcI P 9 (upd (P.1 9) (c : Int32).toNatClampNeg p); P_2))
set_option maxRecDepth 20000 in
theorem rX5_setParent {S : Sg} {b : Nat} {P : Pic} (hP : pcAt_ ppC S b P)  (c : Int32) (s : Int32) (p : Int32) (h_c : vp_in c 16) : Rn 1 0 0 mX5_setParent 0 [some (.ref (b)), some (.int (c)), some (.int (s)), some (.int (p))] [] S none (pcW ppC S b (w_setParent P c s p)) := by
  refine Rn.iload_n (k := 0) rfl rfl ?_
  refine Rn.if_ne (k := 1) rfl (fun c_1 => ?_) (fun c_1 => ?_)
  · refine Rn.aload_n (k := 8) rfl rfl ?_
    refine Rn.getf (k := 9) rfl (hP.four (q := b) 0 rfl) (hP.c 0 (q := b) rfl rfl) rfl ?_
    refine Rn.iload_n (k := 10) rfl rfl ?_
    refine Rn.iload_n (k := 11) rfl rfl ?_
    refine Rn.iast (k := 12) rfl (hP.four (q := b + 9) 9 rfl) (hP.c 9 (q := b + 9) rfl rfl) (by first | with_reducible assumption) ?_
    obtain ⟨P_2, eP_2⟩ : ∃ Q0 : Pic, Q0 = pcI P 9 (upd (P.1 9) (c : Int32).toNatClampNeg p) := ⟨_, rfl⟩
    rw [hP.w P_2 9 (q := b + 9) rfl (Nat.le_of_ble_eq_true rfl) (by rw [eP_2]; rfl)]
    have hP_2 := hP.put P_2 rfl
    exact Rn.retw rfl rfl (by unfold w_setParent; rw [if_neg c_1]; first | done | rfl | (subst eP_2; rfl))
  · refine Rn.aload_n (k := 2) rfl rfl ?_
    refine Rn.getf (k := 3) rfl (hP.four (q := b) 0 rfl) (hP.c 0 (q := b) rfl rfl) rfl ?_
    refine Rn.iload_n (k := 4) rfl rfl ?_
    refine Rn.iload_n (k := 5) rfl rfl ?_
    refine Rn.iast (k := 6) rfl (hP.four (q := b + 8) 8 rfl) (hP.c 8 (q := b + 8) rfl rfl) (by first | with_reducible assumption) ?_
    obtain ⟨P_3, eP_3⟩ : ∃ Q0 : Pic, Q0 = pcI P 8 (upd (P.1 8) (c : Int32).toNatClampNeg p) := ⟨_, rfl⟩
    rw [hP.w P_3 8 (q := b + 8) rfl (Nat.le_of_ble_eq_true rfl) (by rw [eP_3]; rfl)]
    have hP_3 := hP.put P_3 rfl
    refine Rn.goto (k := 7) rfl ?_
    exact Rn.retw rfl rfl (by unfold w_setParent; rw [if_pos c_1]; first | done | rfl | (subst eP_3; rfl))
theorem kX5_setParent {S : Sg} {b : Nat} {P : Pic} (hP : pcAt_ ppC S b P)  (c : Int32) (s : Int32) (p : Int32) (h_c : vp_in c 16) : Cl 1 0 0 mX5_setParent [.ref b, .int (c), .int (s), .int (p)] S none (pcW ppC S b (w_setParent P c s p)) := Cl.of okX5_setParent (by intro i v h; match i, h with | 0, h => exact h | 1, h => exact h | 2, h => exact h | 3, h => exact h | n + 4, h => (cases h)) (Nat.le_of_ble_eq_true rfl) rfl (rX5_setParent hP c s p h_c)
def w_settle (P : Pic) (s : Int32) (y : Int32) (v : Int32) (h : Int32) : Pic := (if (P.1 0 0) < 16 then (let P_2 : Pic := pcI P 1 (upd (P.1 1) ((P.1 0 0) : Int32).toNatClampNeg s); let P_3 : Pic := pcI P_2 2 (upd (P_2.1 2) ((P.1 0 0) : Int32).toNatClampNeg y); let P_4 : Pic := pcI P_3 3 (upd (P_3.1 3) ((P.1 0 0) : Int32).toNatClampNeg v); let P_5 : Pic := pcI P_4 6 (upd (P_4.1 6) ((P.1 0 0) : Int32).toNatClampNeg h); let P_6 : Pic := pcI P_5 4 (upd (P_5.1 4) ((P.1 0 0) : Int32).toNatClampNeg 0); let P_7 : Pic := pcI P_6 5 (upd (P_6.1 5) ((P.1 0 0) : Int32).toNatClampNeg 0); let P_8 : Pic := pcI P_7 7 (upd (P_7.1 7) ((P.1 0 0) : Int32).toNatClampNeg 0); let P_9 : Pic := pcI P_8 8 (upd (P_8.1 8) ((P.1 0 0) : Int32).toNatClampNeg (-1)); let P_10 : Pic := pcI P_9 9 (upd (P_9.1 9) ((P.1 0 0) : Int32).toNatClampNeg (-1)); let P_11 : Pic := pcI P_10 10 (upd (P_10.1 10) ((P.1 0 0) : Int32).toNatClampNeg 0); let P_12 : Pic := pcI P_11 0 (upd (P_11.1 0) 0 ((P.1 0 0) + 1)); P_12) else P)
def v_settle (P : Pic) (s : Int32) (y : Int32) (v : Int32) (h : Int32) : Int32 := (if (P.1 0 0) < 16 then (let P_2 : Pic := pcI P 1 (upd (P.1 1) ((P.1 0 0) : Int32).toNatClampNeg s); let P_3 : Pic := pcI P_2 2 (upd (P_2.1 2) ((P.1 0 0) : Int32).toNatClampNeg y); let P_4 : Pic := pcI P_3 3 (upd (P_3.1 3) ((P.1 0 0) : Int32).toNatClampNeg v); let P_5 : Pic := pcI P_4 6 (upd (P_4.1 6) ((P.1 0 0) : Int32).toNatClampNeg h); let P_6 : Pic := pcI P_5 4 (upd (P_5.1 4) ((P.1 0 0) : Int32).toNatClampNeg 0); let P_7 : Pic := pcI P_6 5 (upd (P_6.1 5) ((P.1 0 0) : Int32).toNatClampNeg 0); let P_8 : Pic := pcI P_7 7 (upd (P_7.1 7) ((P.1 0 0) : Int32).toNatClampNeg 0); let P_9 : Pic := pcI P_8 8 (upd (P_8.1 8) ((P.1 0 0) : Int32).toNatClampNeg (-1)); let P_10 : Pic := pcI P_9 9 (upd (P_9.1 9) ((P.1 0 0) : Int32).toNatClampNeg (-1)); let P_11 : Pic := pcI P_10 10 (upd (P_10.1 10) ((P.1 0 0) : Int32).toNatClampNeg 0); let P_12 : Pic := pcI P_11 0 (upd (P_11.1 0) 0 ((P.1 0 0) + 1)); (P.1 0 0)) else ((-1)))
set_option maxRecDepth 20000 in
theorem rX5_settle {S : Sg} {b : Nat} {P : Pic} (hP : pcAt_ ppC S b P)  (s : Int32) (y : Int32) (v : Int32) (h : Int32) (h16 : (P.1 0 0) < 16 → vp_in (P.1 0 0) 16) : Rn 1 0 0 mX5_settle 0 [some (.ref (b)), some (.int (s)), some (.int (y)), some (.int (v)), some (.int (h)), none] [] S (some (.int (v_settle P s y v h))) (pcW ppC S b (w_settle P s y v h)) := by
  refine Rn.aload_n (k := 0) rfl rfl ?_
  refine Rn.getf (k := 1) rfl (hP.four (q := b) 0 rfl) (hP.c 0 (q := b) rfl rfl) rfl ?_
  refine Rn.bipush (k := 2) (v := 16) rfl (by decide) ?_
  refine Rn.icmp_lt (k := 3) rfl (fun c_1 => ?_) (fun c_1 => ?_)
  · refine Rn.aload_n (k := 6) rfl rfl ?_
    refine Rn.getf (k := 7) rfl (hP.four (q := b) 0 rfl) (hP.c 0 (q := b) rfl rfl) rfl ?_
    refine Rn.istore (k := 8) rfl (by decide) rfl ?_
    refine Rn.aload_n (k := 9) rfl rfl ?_
    refine Rn.getf (k := 10) rfl (hP.four (q := b) 0 rfl) (hP.c 0 (q := b) rfl rfl) rfl ?_
    refine Rn.iload (k := 11) rfl rfl ?_
    refine Rn.iload_n (k := 12) rfl rfl ?_
    refine Rn.iast (k := 13) rfl (hP.four (q := b + 1) 1 rfl) (hP.c 1 (q := b + 1) rfl rfl) (by first | with_reducible assumption | with_reducible exact h16 (by assumption)) ?_
    obtain ⟨P_2, eP_2⟩ : ∃ Q0 : Pic, Q0 = pcI P 1 (upd (P.1 1) ((P.1 0 0) : Int32).toNatClampNeg s) := ⟨_, rfl⟩
    rw [hP.w P_2 1 (q := b + 1) rfl (Nat.le_of_ble_eq_true rfl) (by rw [eP_2]; rfl)]
    have hP_2 := hP.put P_2 rfl
    refine Rn.aload_n (k := 14) rfl rfl ?_
    refine Rn.getf (k := 15) rfl (hP_2.four (q := b) 0 rfl) (hP_2.c 0 (q := b) rfl rfl) rfl ?_
    refine Rn.iload (k := 16) rfl rfl ?_
    refine Rn.iload_n (k := 17) rfl rfl ?_
    refine Rn.iast (k := 18) rfl (hP_2.four (q := b + 2) 2 rfl) (hP_2.c 2 (q := b + 2) rfl rfl) (by first | with_reducible assumption | with_reducible exact h16 (by assumption)) ?_
    obtain ⟨P_3, eP_3⟩ : ∃ Q0 : Pic, Q0 = pcI P_2 2 (upd (P_2.1 2) ((P.1 0 0) : Int32).toNatClampNeg y) := ⟨_, rfl⟩
    rw [hP_2.w P_3 2 (q := b + 2) rfl (Nat.le_of_ble_eq_true rfl) (by rw [eP_3]; rfl), ppC_WW]
    have hP_3 := hP.put P_3 rfl
    refine Rn.aload_n (k := 19) rfl rfl ?_
    refine Rn.getf (k := 20) rfl (hP_3.four (q := b) 0 rfl) (hP_3.c 0 (q := b) rfl rfl) rfl ?_
    refine Rn.iload (k := 21) rfl rfl ?_
    refine Rn.iload_n (k := 22) rfl rfl ?_
    refine Rn.iast (k := 23) rfl (hP_3.four (q := b + 3) 3 rfl) (hP_3.c 3 (q := b + 3) rfl rfl) (by first | with_reducible assumption | with_reducible exact h16 (by assumption)) ?_
    obtain ⟨P_4, eP_4⟩ : ∃ Q0 : Pic, Q0 = pcI P_3 3 (upd (P_3.1 3) ((P.1 0 0) : Int32).toNatClampNeg v) := ⟨_, rfl⟩
    rw [hP_3.w P_4 3 (q := b + 3) rfl (Nat.le_of_ble_eq_true rfl) (by rw [eP_4]; rfl), ppC_WW]
    have hP_4 := hP.put P_4 rfl
    refine Rn.aload_n (k := 24) rfl rfl ?_
    refine Rn.getf (k := 25) rfl (hP_4.four (q := b) 0 rfl) (hP_4.c 0 (q := b) rfl rfl) rfl ?_
    refine Rn.iload (k := 26) rfl rfl ?_
    refine Rn.iload (k := 27) rfl rfl ?_
    refine Rn.iast (k := 28) rfl (hP_4.four (q := b + 6) 6 rfl) (hP_4.c 6 (q := b + 6) rfl rfl) (by first | with_reducible assumption | with_reducible exact h16 (by assumption)) ?_
    obtain ⟨P_5, eP_5⟩ : ∃ Q0 : Pic, Q0 = pcI P_4 6 (upd (P_4.1 6) ((P.1 0 0) : Int32).toNatClampNeg h) := ⟨_, rfl⟩
    rw [hP_4.w P_5 6 (q := b + 6) rfl (Nat.le_of_ble_eq_true rfl) (by rw [eP_5]; rfl), ppC_WW]
    have hP_5 := hP.put P_5 rfl
    refine Rn.aload_n (k := 29) rfl rfl ?_
    refine Rn.getf (k := 30) rfl (hP_5.four (q := b) 0 rfl) (hP_5.c 0 (q := b) rfl rfl) rfl ?_
    refine Rn.iload (k := 31) rfl rfl ?_
    refine Rn.iconst (k := 32) (v := 0) rfl (by decide) ?_
    refine Rn.iast (k := 33) rfl (hP_5.four (q := b + 4) 4 rfl) (hP_5.c 4 (q := b + 4) rfl rfl) (by first | with_reducible assumption | with_reducible exact h16 (by assumption)) ?_
    obtain ⟨P_6, eP_6⟩ : ∃ Q0 : Pic, Q0 = pcI P_5 4 (upd (P_5.1 4) ((P.1 0 0) : Int32).toNatClampNeg 0) := ⟨_, rfl⟩
    rw [hP_5.w P_6 4 (q := b + 4) rfl (Nat.le_of_ble_eq_true rfl) (by rw [eP_6]; rfl), ppC_WW]
    have hP_6 := hP.put P_6 rfl
    refine Rn.aload_n (k := 34) rfl rfl ?_
    refine Rn.getf (k := 35) rfl (hP_6.four (q := b) 0 rfl) (hP_6.c 0 (q := b) rfl rfl) rfl ?_
    refine Rn.iload (k := 36) rfl rfl ?_
    refine Rn.iconst (k := 37) (v := 0) rfl (by decide) ?_
    refine Rn.iast (k := 38) rfl (hP_6.four (q := b + 5) 5 rfl) (hP_6.c 5 (q := b + 5) rfl rfl) (by first | with_reducible assumption | with_reducible exact h16 (by assumption)) ?_
    obtain ⟨P_7, eP_7⟩ : ∃ Q0 : Pic, Q0 = pcI P_6 5 (upd (P_6.1 5) ((P.1 0 0) : Int32).toNatClampNeg 0) := ⟨_, rfl⟩
    rw [hP_6.w P_7 5 (q := b + 5) rfl (Nat.le_of_ble_eq_true rfl) (by rw [eP_7]; rfl), ppC_WW]
    have hP_7 := hP.put P_7 rfl
    refine Rn.aload_n (k := 39) rfl rfl ?_
    refine Rn.getf (k := 40) rfl (hP_7.four (q := b) 0 rfl) (hP_7.c 0 (q := b) rfl rfl) rfl ?_
    refine Rn.iload (k := 41) rfl rfl ?_
    refine Rn.iconst (k := 42) (v := 0) rfl (by decide) ?_
    refine Rn.iast (k := 43) rfl (hP_7.four (q := b + 7) 7 rfl) (hP_7.c 7 (q := b + 7) rfl rfl) (by first | with_reducible assumption | with_reducible exact h16 (by assumption)) ?_
    obtain ⟨P_8, eP_8⟩ : ∃ Q0 : Pic, Q0 = pcI P_7 7 (upd (P_7.1 7) ((P.1 0 0) : Int32).toNatClampNeg 0) := ⟨_, rfl⟩
    rw [hP_7.w P_8 7 (q := b + 7) rfl (Nat.le_of_ble_eq_true rfl) (by rw [eP_8]; rfl), ppC_WW]
    have hP_8 := hP.put P_8 rfl
    refine Rn.aload_n (k := 44) rfl rfl ?_
    refine Rn.getf (k := 45) rfl (hP_8.four (q := b) 0 rfl) (hP_8.c 0 (q := b) rfl rfl) rfl ?_
    refine Rn.iload (k := 46) rfl rfl ?_
    refine Rn.iconst (k := 47) (v := (-1)) rfl (by decide) ?_
    refine Rn.iast (k := 48) rfl (hP_8.four (q := b + 8) 8 rfl) (hP_8.c 8 (q := b + 8) rfl rfl) (by first | with_reducible assumption | with_reducible exact h16 (by assumption)) ?_
    obtain ⟨P_9, eP_9⟩ : ∃ Q0 : Pic, Q0 = pcI P_8 8 (upd (P_8.1 8) ((P.1 0 0) : Int32).toNatClampNeg (-1)) := ⟨_, rfl⟩
    rw [hP_8.w P_9 8 (q := b + 8) rfl (Nat.le_of_ble_eq_true rfl) (by rw [eP_9]; rfl), ppC_WW]
    have hP_9 := hP.put P_9 rfl
    refine Rn.aload_n (k := 49) rfl rfl ?_
    refine Rn.getf (k := 50) rfl (hP_9.four (q := b) 0 rfl) (hP_9.c 0 (q := b) rfl rfl) rfl ?_
    refine Rn.iload (k := 51) rfl rfl ?_
    refine Rn.iconst (k := 52) (v := (-1)) rfl (by decide) ?_
    refine Rn.iast (k := 53) rfl (hP_9.four (q := b + 9) 9 rfl) (hP_9.c 9 (q := b + 9) rfl rfl) (by first | with_reducible assumption | with_reducible exact h16 (by assumption)) ?_
    obtain ⟨P_10, eP_10⟩ : ∃ Q0 : Pic, Q0 = pcI P_9 9 (upd (P_9.1 9) ((P.1 0 0) : Int32).toNatClampNeg (-1)) := ⟨_, rfl⟩
    rw [hP_9.w P_10 9 (q := b + 9) rfl (Nat.le_of_ble_eq_true rfl) (by rw [eP_10]; rfl), ppC_WW]
    have hP_10 := hP.put P_10 rfl
    refine Rn.aload_n (k := 54) rfl rfl ?_
    refine Rn.getf (k := 55) rfl (hP_10.four (q := b) 0 rfl) (hP_10.c 0 (q := b) rfl rfl) rfl ?_
    refine Rn.iload (k := 56) rfl rfl ?_
    refine Rn.iconst (k := 57) (v := 0) rfl (by decide) ?_
    refine Rn.iast (k := 58) rfl (hP_10.four (q := b + 10) 10 rfl) (hP_10.c 10 (q := b + 10) rfl rfl) (by first | with_reducible assumption | with_reducible exact h16 (by assumption)) ?_
    obtain ⟨P_11, eP_11⟩ : ∃ Q0 : Pic, Q0 = pcI P_10 10 (upd (P_10.1 10) ((P.1 0 0) : Int32).toNatClampNeg 0) := ⟨_, rfl⟩
    rw [hP_10.w P_11 10 (q := b + 10) rfl (Nat.le_of_ble_eq_true rfl) (by rw [eP_11]; rfl), ppC_WW]
    have hP_11 := hP.put P_11 rfl
    refine Rn.aload_n (k := 59) rfl rfl ?_
    refine Rn.iload (k := 60) rfl rfl ?_
    refine Rn.iconst (k := 61) (v := 1) rfl (by decide) ?_
    refine Rn.iadd (k := 62) rfl ?_
    refine Rn.putf (k := 63) rfl (hP_11.four (q := b) 0 rfl) (hP_11.c 0 (q := b) rfl rfl) (fun q hq => by cases hq; rfl) (Nat.le_of_ble_eq_true rfl) (by first | rfl | exact b2i_nar _) (by first | rfl | exact b2i_fit _) ?_
    obtain ⟨P_12, eP_12⟩ : ∃ Q0 : Pic, Q0 = pcI P_11 0 (upd (P_11.1 0) 0 ((P.1 0 0) + 1)) := ⟨_, rfl⟩
    rw [hP_11.w P_12 0 (q := b) rfl (Nat.le_of_ble_eq_true rfl) (by rw [eP_12]; rfl), ppC_WW]
    have hP_12 := hP.put P_12 rfl
    refine Rn.iload (k := 64) rfl rfl ?_
    exact Rn.retz rfl rfl (by unfold v_settle; rw [if_pos c_1]; first | done | rfl | (subst eP_2; subst eP_3; subst eP_4; subst eP_5; subst eP_6; subst eP_7; subst eP_8; subst eP_9; subst eP_10; subst eP_11; subst eP_12; rfl)) rfl (by unfold w_settle; rw [if_pos c_1]; first | done | rfl | (subst eP_2; subst eP_3; subst eP_4; subst eP_5; subst eP_6; subst eP_7; subst eP_8; subst eP_9; subst eP_10; subst eP_11; subst eP_12; rfl))
  · refine Rn.iconst (k := 4) (v := (-1)) rfl (by decide) ?_
    exact Rn.retz rfl rfl (by unfold v_settle; rw [if_neg c_1]; first | done | rfl | (rfl)) rfl (by unfold w_settle; rw [if_neg c_1]; exact hP.self.symm)
theorem kX5_settle {S : Sg} {b : Nat} {P : Pic} (hP : pcAt_ ppC S b P)  (s : Int32) (y : Int32) (v : Int32) (h : Int32) (h16 : (P.1 0 0) < 16 → vp_in (P.1 0 0) 16) : Cl 1 0 0 mX5_settle [.ref b, .int (s), .int (y), .int (v), .int (h)] S (some (.int (v_settle P s y v h))) (pcW ppC S b (w_settle P s y v h)) := Cl.of okX5_settle (by intro i v h; match i, h with | 0, h => exact h | 1, h => exact h | 2, h => exact h | 3, h => exact h | 4, h => exact h | 5, h => (cases h) | n + 6, h => (cases h)) (Nat.le_of_ble_eq_true rfl) rfl (rX5_settle hP s y v h h16)
def w_unsell (P : Pic) (p : Int32) (c : Int32) : Pic := (let P_1 : Pic := w_setParent P (c) ((P.1 1 (p).toNatClampNeg)) ((-1)); let P_2 : Pic := pcI P_1 0 (upd (P_1.1 0) 1 ((P_1.1 0 1) &&& ((1 <<< (p &&& 31)) ^^^ (-1)))); P_2)
set_option maxRecDepth 20000 in
theorem rX5_unsell {S : Sg} {b : Nat} {P : Pic} (hP : pcAt_ ppC S b P)  (p : Int32) (c : Int32) (h_p : vp_in p 16) (h_c : vp_in c 16) : Rn 2 0 0 mX5_unsell 0 [some (.ref (b)), some (.int (p)), some (.int (c))] [] S none (pcW ppC S b (w_unsell P p c)) := by
  refine Rn.aload_n (k := 0) rfl rfl ?_
  refine Rn.iload_n (k := 1) rfl rfl ?_
  refine Rn.aload_n (k := 2) rfl rfl ?_
  refine Rn.getf (k := 3) rfl (hP.four (q := b) 0 rfl) (hP.c 0 (q := b) rfl rfl) rfl ?_
  refine Rn.iload_n (k := 4) rfl rfl ?_
  refine Rn.iald (k := 5) rfl (hP.c 1 (q := b + 1) rfl rfl) (by first | with_reducible assumption) ?_
  refine Rn.iconst (k := 6) (v := (-1)) rfl (by decide) ?_
  refine Rn.callV0 (k := 7) (M' := mX5_setParent) rfl lkX5_81 rfl (hP.four (q := b) 0 rfl) (hP.c 0 (q := b) rfl rfl) rfl (kX5_setParent hP (c) ((P.1 1 (p).toNatClampNeg)) ((-1)) (by first | with_reducible assumption)) (by decide) rfl rfl (Nat.le_of_ble_eq_true rfl) ?_
  obtain ⟨P_1, eP_1⟩ : ∃ Q0 : Pic, Q0 = w_setParent P (c) ((P.1 1 (p).toNatClampNeg)) ((-1)) := ⟨_, rfl⟩
  rw [← eP_1]
  have hP_1 := hP.put P_1 rfl
  refine Rn.aload_n (k := 8) rfl rfl ?_
  refine Rn.dup (k := 9) rfl rfl ?_
  refine Rn.getf (k := 10) rfl (hP_1.four (q := b) 0 rfl) (hP_1.c 0 (q := b) rfl rfl) rfl ?_
  refine Rn.iconst (k := 11) (v := 1) rfl (by decide) ?_
  refine Rn.iload_n (k := 12) rfl rfl ?_
  refine Rn.ishl (k := 13) rfl ?_
  refine Rn.iconst (k := 14) (v := (-1)) rfl (by decide) ?_
  refine Rn.ixor (k := 15) rfl ?_
  refine Rn.iand (k := 16) rfl ?_
  refine Rn.putf (k := 17) rfl (hP_1.four (q := b) 0 rfl) (hP_1.c 0 (q := b) rfl rfl) (fun q hq => by cases hq; rfl) (Nat.le_of_ble_eq_true rfl) (by first | rfl | exact b2i_nar _) (by first | rfl | exact b2i_fit _) ?_
  obtain ⟨P_2, eP_2⟩ : ∃ Q0 : Pic, Q0 = pcI P_1 0 (upd (P_1.1 0) 1 ((P_1.1 0 1) &&& ((1 <<< (p &&& 31)) ^^^ (-1)))) := ⟨_, rfl⟩
  rw [hP_1.w P_2 0 (q := b) rfl (Nat.le_of_ble_eq_true rfl) (by rw [eP_2]; rfl), ppC_WW]
  have hP_2 := hP.put P_2 rfl
  exact Rn.retw rfl rfl (by unfold w_unsell; first | done | rfl | (subst eP_1; subst eP_2; rfl))
theorem kX5_unsell {S : Sg} {b : Nat} {P : Pic} (hP : pcAt_ ppC S b P)  (p : Int32) (c : Int32) (h_p : vp_in p 16) (h_c : vp_in c 16) : Cl 2 0 0 mX5_unsell [.ref b, .int (p), .int (c)] S none (pcW ppC S b (w_unsell P p c)) := Cl.of okX5_unsell (by intro i v h; match i, h with | 0, h => exact h | 1, h => exact h | 2, h => exact h | n + 3, h => (cases h)) (Nat.le_of_ble_eq_true rfl) rfl (rX5_unsell hP p c h_p h_c)
def l_desc (P : Pic) (p : Int32) : Nat → Nat → Int32 → Int32
  | 0, k, v => (v)
  | n + 1, k, v => (if (P.1 0 0) ≤ nI k then (v) else (if (b2i (v_isInLine P (p) (nI k))) = 0 then l_desc P p n (k + 1) (v) else l_desc P p n (k + 1) ((v ||| (1 <<< (nI k &&& 31))))))
set_option maxHeartbeats 4000000 in
set_option maxRecDepth 20000 in
theorem c_desc {d kc ks : Nat} {rv : Option Value} {S' : Sg} {S : Sg} {b : Nat} {P : Pic} (hP : pcAt_ ppC S b P) {N : Nat} (p : Int32) (hN : P.1 0 0 = nI N) (h16 : N ≤ 16) (hd : 2 ≤ d) : ∀ (n k : Nat) (v : Int32) , N - k < n → k ≤ N → (Rn d kc ks mX5_descendants 21 [some (.ref (b)), some (.int (p)), some (.int ((l_desc P p n k (v)))), none] [] S rv S') → Rn d kc ks mX5_descendants 4 [some (.ref (b)), some (.int (p)), some (.int (v)), some (.int (nI k))] [] S rv S' := by
  intro n
  induction n with
  | zero => intro k v h; exact absurd h (Nat.not_lt_zero _)
  | succ n ih =>
    intro k v hm hkN  hc
    refine Rn.iload_n (k := 4) rfl rfl ?_
    refine Rn.aload_n (k := 5) rfl rfl ?_
    refine Rn.getf (k := 6) rfl (hP.four (q := b) 0 rfl) (hP.c 0 (q := b) rfl rfl) rfl ?_
    refine Rn.icmp_ge (k := 7) rfl (fun cl_1 => ?_) (fun cl_1 => ?_)
    · refine Rn.forget (ls' := [some (.ref (b)), some (.int (p)), some (.int (v)), none]) (by intro i v h; match i, h with | 0, h => exact h | 1, h => exact h | 2, h => exact h | 3, h => (cases h) | n + 4, h => (cases h)) ?_
      exact (by have e : l_desc P p (n + 1) k (v) = (v) := (by simp only [l_desc, if_pos cl_1]); rw [e] at hc; exact hc)
    · have hltl_2 : k < N := Nat.lt_of_not_le (fun q => cl_1 (by rw [hN]; exact nI_le q (by omega)))
      have hinl_3 : vp_in (nI k) 16 := vp_in_nI (by omega) (by decide)
      refine Rn.aload_n (k := 8) rfl rfl ?_
      refine Rn.iload_n (k := 9) rfl rfl ?_
      refine Rn.iload_n (k := 10) rfl rfl ?_
      refine Rn.callV0 (k := 11) (M' := mX5_isInLine) rfl lkX5_102 rfl (hP.four (q := b) 0 rfl) (hP.c 0 (q := b) rfl rfl) rfl (kX5_isInLine hP (p) (nI k) (by first | with_reducible assumption)) (by omega) rfl rfl (Nat.le_of_ble_eq_true rfl) ?_
      refine Rn.if_eq (k := 12) rfl (fun cl_4 => ?_) (fun cl_4 => ?_)
      · refine Rn.iinc (k := 19) (v := nI (k + 1)) rfl rfl (nI_1 k) (by decide) rfl ?_
        refine Rn.goto (k := 20) rfl ?_
        refine Rn.forget (ls' := [some (.ref (b)), some (.int (p)), some (.int (v)), some (.int (nI (k + 1)))]) (by intro i v h; match i, h with | 0, h => exact h | 1, h => exact h | 2, h => exact h | 3, h => exact h | n + 4, h => (cases h)) ?_
        exact ih (k + 1) (v) (by omega) (by omega)  (by have e : l_desc P p (n + 1) k (v) = l_desc P p n (k + 1) (v) := (by simp only [l_desc, if_neg cl_1, if_pos cl_4]); rw [e] at hc; exact hc)
      · refine Rn.iload_n (k := 13) rfl rfl ?_
        refine Rn.iconst (k := 14) (v := 1) rfl (by decide) ?_
        refine Rn.iload_n (k := 15) rfl rfl ?_
        refine Rn.ishl (k := 16) rfl ?_
        refine Rn.ior (k := 17) rfl ?_
        refine Rn.istore_n (k := 18) rfl (by decide) rfl ?_
        refine Rn.iinc (k := 19) (v := nI (k + 1)) rfl rfl (nI_1 k) (by decide) rfl ?_
        refine Rn.goto (k := 20) rfl ?_
        refine Rn.forget (ls' := [some (.ref (b)), some (.int (p)), some (.int ((v ||| (1 <<< (nI k &&& 31))))), some (.int (nI (k + 1)))]) (by intro i v h; match i, h with | 0, h => exact h | 1, h => exact h | 2, h => exact h | 3, h => exact h | n + 4, h => (cases h)) ?_
        exact ih (k + 1) ((v ||| (1 <<< (nI k &&& 31)))) (by omega) (by omega)  (by have e : l_desc P p (n + 1) k (v) = l_desc P p n (k + 1) ((v ||| (1 <<< (nI k &&& 31)))) := (by simp only [l_desc, if_neg cl_1, if_neg cl_4]); rw [e] at hc; exact hc)
def v_descendants (P : Pic) (p : Int32) : Int32 := ((l_desc P (p) 17 0 (0)))
set_option maxRecDepth 20000 in
theorem rX5_descendants {S : Sg} {b : Nat} {P : Pic} (hP : pcAt_ ppC S b P) {N : Nat} (p : Int32) (hN : P.1 0 0 = nI N) (h16 : N ≤ 16) : Rn 2 0 0 mX5_descendants 0 [some (.ref (b)), some (.int (p)), none, none] [] S (some (.int (v_descendants P p))) S := by
  refine Rn.iconst (k := 0) (v := 0) rfl (by decide) ?_
  refine Rn.istore_n (k := 1) rfl (by decide) rfl ?_
  refine Rn.iconst (k := 2) (v := 0) rfl (by decide) ?_
  refine Rn.istore_n (k := 3) rfl (by decide) rfl ?_
  refine Rn.forget (ls' := [some (.ref (b)), some (.int (p)), some (.int (0)), some (.int (nI 0))]) (by intro i v h; match i, h with | 0, h => exact h | 1, h => exact h | 2, h => exact h | 3, h => exact h | n + 4, h => (cases h)) ?_
  refine c_desc hP (p) hN h16 (by first | decide | omega) 17 0 (0) (by omega) (Nat.zero_le _)  (?_)
  refine Rn.iload_n (k := 21) rfl rfl ?_
  exact Rn.retz rfl rfl (by unfold v_descendants; first | done | rfl | (rfl)) rfl rfl
theorem kX5_descendants {S : Sg} {b : Nat} {P : Pic} (hP : pcAt_ ppC S b P) {N : Nat} (p : Int32) (hN : P.1 0 0 = nI N) (h16 : N ≤ 16) : Cl 2 0 0 mX5_descendants [.ref b, .int (p)] S (some (.int (v_descendants P p))) S := Cl.of okX5_descendants (by intro i v h; match i, h with | 0, h => exact h | 1, h => exact h | 2, h => (cases h) | 3, h => (cases h) | n + 4, h => (cases h)) (Nat.le_of_ble_eq_true rfl) rfl (rX5_descendants hP p hN h16)
def l_debts (P : Pic) (p : Int32) : Nat → Nat → Int32 → Int32
  | 0, k, v => (v)
  | n + 1, k, v => (if (P.1 0 0) ≤ nI k then (v) else (if (b2i (v_isSelfOrInLine P (nI k) (p))) = 0 then l_debts P p n (k + 1) (v) else l_debts P p n (k + 1) ((v + (P.1 5 (nI k).toNatClampNeg)))))
set_option maxHeartbeats 4000000 in
set_option maxRecDepth 20000 in
theorem c_debts {d kc ks : Nat} {rv : Option Value} {S' : Sg} {S : Sg} {b : Nat} {P : Pic} (hP : pcAt_ ppC S b P) {N : Nat} (p : Int32) (h_p : vp_in p 16) (hN : P.1 0 0 = nI N) (h16 : N ≤ 16) (hd : 2 ≤ d) : ∀ (n k : Nat) (v : Int32) , N - k < n → k ≤ N → (Rn d kc ks mX5_debtsOf 22 [some (.ref (b)), some (.int (p)), some (.int ((l_debts P p n k (v)))), none] [] S rv S') → Rn d kc ks mX5_debtsOf 4 [some (.ref (b)), some (.int (p)), some (.int (v)), some (.int (nI k))] [] S rv S' := by
  intro n
  induction n with
  | zero => intro k v h; exact absurd h (Nat.not_lt_zero _)
  | succ n ih =>
    intro k v hm hkN  hc
    refine Rn.iload_n (k := 4) rfl rfl ?_
    refine Rn.aload_n (k := 5) rfl rfl ?_
    refine Rn.getf (k := 6) rfl (hP.four (q := b) 0 rfl) (hP.c 0 (q := b) rfl rfl) rfl ?_
    refine Rn.icmp_ge (k := 7) rfl (fun cl_1 => ?_) (fun cl_1 => ?_)
    · refine Rn.forget (ls' := [some (.ref (b)), some (.int (p)), some (.int (v)), none]) (by intro i v h; match i, h with | 0, h => exact h | 1, h => exact h | 2, h => exact h | 3, h => (cases h) | n + 4, h => (cases h)) ?_
      exact (by have e : l_debts P p (n + 1) k (v) = (v) := (by simp only [l_debts, if_pos cl_1]); rw [e] at hc; exact hc)
    · have hltl_2 : k < N := Nat.lt_of_not_le (fun q => cl_1 (by rw [hN]; exact nI_le q (by omega)))
      have hinl_3 : vp_in (nI k) 16 := vp_in_nI (by omega) (by decide)
      refine Rn.aload_n (k := 8) rfl rfl ?_
      refine Rn.iload_n (k := 9) rfl rfl ?_
      refine Rn.iload_n (k := 10) rfl rfl ?_
      refine Rn.callV0 (k := 11) (M' := mX5_isSelfOrInLine) rfl lkX5_66 rfl (hP.four (q := b) 0 rfl) (hP.c 0 (q := b) rfl rfl) rfl (kX5_isSelfOrInLine hP (nI k) (p) (by first | with_reducible assumption)) (by omega) rfl rfl (Nat.le_of_ble_eq_true rfl) ?_
      refine Rn.if_eq (k := 12) rfl (fun cl_4 => ?_) (fun cl_4 => ?_)
      · refine Rn.iinc (k := 20) (v := nI (k + 1)) rfl rfl (nI_1 k) (by decide) rfl ?_
        refine Rn.goto (k := 21) rfl ?_
        refine Rn.forget (ls' := [some (.ref (b)), some (.int (p)), some (.int (v)), some (.int (nI (k + 1)))]) (by intro i v h; match i, h with | 0, h => exact h | 1, h => exact h | 2, h => exact h | 3, h => exact h | n + 4, h => (cases h)) ?_
        exact ih (k + 1) (v) (by omega) (by omega)  (by have e : l_debts P p (n + 1) k (v) = l_debts P p n (k + 1) (v) := (by simp only [l_debts, if_neg cl_1, if_pos cl_4]); rw [e] at hc; exact hc)
      · refine Rn.iload_n (k := 13) rfl rfl ?_
        refine Rn.aload_n (k := 14) rfl rfl ?_
        refine Rn.getf (k := 15) rfl (hP.four (q := b) 0 rfl) (hP.c 0 (q := b) rfl rfl) rfl ?_
        refine Rn.iload_n (k := 16) rfl rfl ?_
        refine Rn.iald (k := 17) rfl (hP.c 5 (q := b + 5) rfl rfl) (by first | with_reducible assumption) ?_
        refine Rn.iadd (k := 18) rfl ?_
        refine Rn.istore_n (k := 19) rfl (by decide) rfl ?_
        refine Rn.iinc (k := 20) (v := nI (k + 1)) rfl rfl (nI_1 k) (by decide) rfl ?_
        refine Rn.goto (k := 21) rfl ?_
        refine Rn.forget (ls' := [some (.ref (b)), some (.int (p)), some (.int ((v + (P.1 5 (nI k).toNatClampNeg)))), some (.int (nI (k + 1)))]) (by intro i v h; match i, h with | 0, h => exact h | 1, h => exact h | 2, h => exact h | 3, h => exact h | n + 4, h => (cases h)) ?_
        exact ih (k + 1) ((v + (P.1 5 (nI k).toNatClampNeg))) (by omega) (by omega)  (by have e : l_debts P p (n + 1) k (v) = l_debts P p n (k + 1) ((v + (P.1 5 (nI k).toNatClampNeg))) := (by simp only [l_debts, if_neg cl_1, if_neg cl_4]); rw [e] at hc; exact hc)
def v_debtsOf (P : Pic) (p : Int32) : Int32 := ((l_debts P (p) 17 0 (0)))
set_option maxRecDepth 20000 in
theorem rX5_debtsOf {S : Sg} {b : Nat} {P : Pic} (hP : pcAt_ ppC S b P) {N : Nat} (p : Int32) (h_p : vp_in p 16) (hN : P.1 0 0 = nI N) (h16 : N ≤ 16) : Rn 2 0 0 mX5_debtsOf 0 [some (.ref (b)), some (.int (p)), none, none] [] S (some (.int (v_debtsOf P p))) S := by
  refine Rn.iconst (k := 0) (v := 0) rfl (by decide) ?_
  refine Rn.istore_n (k := 1) rfl (by decide) rfl ?_
  refine Rn.iconst (k := 2) (v := 0) rfl (by decide) ?_
  refine Rn.istore_n (k := 3) rfl (by decide) rfl ?_
  refine Rn.forget (ls' := [some (.ref (b)), some (.int (p)), some (.int (0)), some (.int (nI 0))]) (by intro i v h; match i, h with | 0, h => exact h | 1, h => exact h | 2, h => exact h | 3, h => exact h | n + 4, h => (cases h)) ?_
  refine c_debts hP (p) h_p hN h16 (by first | decide | omega) 17 0 (0) (by omega) (Nat.zero_le _)  (?_)
  refine Rn.iload_n (k := 22) rfl rfl ?_
  exact Rn.retz rfl rfl (by unfold v_debtsOf; first | done | rfl | (rfl)) rfl rfl
theorem kX5_debtsOf {S : Sg} {b : Nat} {P : Pic} (hP : pcAt_ ppC S b P) {N : Nat} (p : Int32) (h_p : vp_in p 16) (hN : P.1 0 0 = nI N) (h16 : N ≤ 16) : Cl 2 0 0 mX5_debtsOf [.ref b, .int (p)] S (some (.int (v_debtsOf P p))) S := Cl.of okX5_debtsOf (by intro i v h; match i, h with | 0, h => exact h | 1, h => exact h | 2, h => (cases h) | 3, h => (cases h) | n + 4, h => (cases h)) (Nat.le_of_ble_eq_true rfl) rfl (rX5_debtsOf hP p h_p hN h16)
def l_forged (P : Pic) (g : Int32) : Nat → Nat → Int32 → Int32
  | 0, k, v => (v)
  | n + 1, k, v => (if (P.1 0 0) ≤ nI k then (v) else (if (P.1 8 (nI k).toNatClampNeg) = (-1) then (if (P.1 9 (nI k).toNatClampNeg) = (-1) then l_forged P g n (k + 1) (v) else (if (b2i (v_datesFit P ((P.1 9 (nI k).toNatClampNeg)) (nI k) (g))) = 0 then l_forged P g n (k + 1) ((v ||| (1 <<< (nI k &&& 31)))) else l_forged P g n (k + 1) (v))) else (if (b2i (v_datesFit P ((P.1 8 (nI k).toNatClampNeg)) (nI k) (g))) = 0 then (if (P.1 9 (nI k).toNatClampNeg) = (-1) then l_forged P g n (k + 1) ((v ||| (1 <<< (nI k &&& 31)))) else (if (b2i (v_datesFit P ((P.1 9 (nI k).toNatClampNeg)) (nI k) (g))) = 0 then l_forged P g n (k + 1) ((v ||| (1 <<< (nI k &&& 31)))) else l_forged P g n (k + 1) ((v ||| (1 <<< (nI k &&& 31)))))) else (if (P.1 9 (nI k).toNatClampNeg) = (-1) then l_forged P g n (k + 1) (v) else (if (b2i (v_datesFit P ((P.1 9 (nI k).toNatClampNeg)) (nI k) (g))) = 0 then l_forged P g n (k + 1) ((v ||| (1 <<< (nI k &&& 31)))) else l_forged P g n (k + 1) (v))))))
set_option maxHeartbeats 4000000 in
set_option maxRecDepth 20000 in
theorem c_forged {d kc ks : Nat} {rv : Option Value} {S' : Sg} {S : Sg} {b : Nat} {P : Pic} (hP : pcAt_ ppC S b P) {N : Nat} (g : Int32) (hw8 : ∀ i : Int32, vp_in i 16 → ¬ P.1 8 i.toNatClampNeg = -1 → vp_in (P.1 8 i.toNatClampNeg) 16) (hw9 : ∀ i : Int32, vp_in i 16 → ¬ P.1 9 i.toNatClampNeg = -1 → vp_in (P.1 9 i.toNatClampNeg) 16) (hN : P.1 0 0 = nI N) (h16 : N ≤ 16) (hd : 2 ≤ d) : ∀ (n k : Nat) (v : Int32) , N - k < n → k ≤ N → (Rn d kc ks mX5_forgedChildren 58 [some (.ref (b)), some (.int (g)), some (.int ((l_forged P g n k (v)))), none, none, none] [] S rv S') → Rn d kc ks mX5_forgedChildren 4 [some (.ref (b)), some (.int (g)), some (.int (v)), some (.int (nI k)), none, none] [] S rv S' := by
  intro n
  induction n with
  | zero => intro k v h; exact absurd h (Nat.not_lt_zero _)
  | succ n ih =>
    intro k v hm hkN  hc
    refine Rn.iload_n (k := 4) rfl rfl ?_
    refine Rn.aload_n (k := 5) rfl rfl ?_
    refine Rn.getf (k := 6) rfl (hP.four (q := b) 0 rfl) (hP.c 0 (q := b) rfl rfl) rfl ?_
    refine Rn.icmp_ge (k := 7) rfl (fun cl_1 => ?_) (fun cl_1 => ?_)
    · refine Rn.forget (ls' := [some (.ref (b)), some (.int (g)), some (.int (v)), none, none, none]) (by intro i v h; match i, h with | 0, h => exact h | 1, h => exact h | 2, h => exact h | 3, h => (cases h) | 4, h => (cases h) | 5, h => (cases h) | n + 6, h => (cases h)) ?_
      exact (by have e : l_forged P g (n + 1) k (v) = (v) := (by simp only [l_forged, if_pos cl_1]); rw [e] at hc; exact hc)
    · have hltl_2 : k < N := Nat.lt_of_not_le (fun q => cl_1 (by rw [hN]; exact nI_le q (by omega)))
      have hinl_3 : vp_in (nI k) 16 := vp_in_nI (by omega) (by decide)
      refine Rn.aload_n (k := 8) rfl rfl ?_
      refine Rn.getf (k := 9) rfl (hP.four (q := b) 0 rfl) (hP.c 0 (q := b) rfl rfl) rfl ?_
      refine Rn.iload_n (k := 10) rfl rfl ?_
      refine Rn.iald (k := 11) rfl (hP.c 8 (q := b + 8) rfl rfl) (by first | with_reducible assumption | with_reducible exact hw8 _ (by with_reducible assumption) (by with_reducible assumption) | with_reducible exact hw9 _ (by with_reducible assumption) (by with_reducible assumption)) ?_
      refine Rn.iconst (k := 12) (v := (-1)) rfl (by decide) ?_
      refine Rn.icmp_eq (k := 13) rfl (fun cl_4 => ?_) (fun cl_4 => ?_)
      · refine Rn.iconst (k := 23) (v := 1) rfl (by decide) ?_
        refine Rn.goto (k := 24) rfl ?_
        refine Rn.istore (k := 26) rfl (by decide) rfl ?_
        refine Rn.aload_n (k := 27) rfl rfl ?_
        refine Rn.getf (k := 28) rfl (hP.four (q := b) 0 rfl) (hP.c 0 (q := b) rfl rfl) rfl ?_
        refine Rn.iload_n (k := 29) rfl rfl ?_
        refine Rn.iald (k := 30) rfl (hP.c 9 (q := b + 9) rfl rfl) (by first | with_reducible assumption | with_reducible exact hw8 _ (by with_reducible assumption) (by with_reducible assumption) | with_reducible exact hw9 _ (by with_reducible assumption) (by with_reducible assumption)) ?_
        refine Rn.iconst (k := 31) (v := (-1)) rfl (by decide) ?_
        refine Rn.icmp_eq (k := 32) rfl (fun cl_5 => ?_) (fun cl_5 => ?_)
        · refine Rn.iconst (k := 42) (v := 1) rfl (by decide) ?_
          refine Rn.goto (k := 43) rfl ?_
          refine Rn.istore (k := 45) rfl (by decide) rfl ?_
          refine Rn.iload (k := 46) rfl rfl ?_
          refine Rn.if_eq (k := 47) rfl (fun cl_6 => absurd cl_6 (by decide)) (fun _ => ?_)
          refine Rn.iload (k := 48) rfl rfl ?_
          refine Rn.if_ne (k := 49) rfl (fun _ => ?_) (fun cl_7 => absurd cl_7 (by decide))
          refine Rn.iinc (k := 56) (v := nI (k + 1)) rfl rfl (nI_1 k) (by decide) rfl ?_
          refine Rn.goto (k := 57) rfl ?_
          refine Rn.forget (ls' := [some (.ref (b)), some (.int (g)), some (.int (v)), some (.int (nI (k + 1))), none, none]) (by intro i v h; match i, h with | 0, h => exact h | 1, h => exact h | 2, h => exact h | 3, h => exact h | 4, h => (cases h) | 5, h => (cases h) | n + 6, h => (cases h)) ?_
          exact ih (k + 1) (v) (by omega) (by omega)  (by have e : l_forged P g (n + 1) k (v) = l_forged P g n (k + 1) (v) := (by simp only [l_forged, if_neg cl_1, if_pos cl_4, if_pos cl_5]); rw [e] at hc; exact hc)
        · refine Rn.aload_n (k := 33) rfl rfl ?_
          refine Rn.aload_n (k := 34) rfl rfl ?_
          refine Rn.getf (k := 35) rfl (hP.four (q := b) 0 rfl) (hP.c 0 (q := b) rfl rfl) rfl ?_
          refine Rn.iload_n (k := 36) rfl rfl ?_
          refine Rn.iald (k := 37) rfl (hP.c 9 (q := b + 9) rfl rfl) (by first | with_reducible assumption | with_reducible exact hw8 _ (by with_reducible assumption) (by with_reducible assumption) | with_reducible exact hw9 _ (by with_reducible assumption) (by with_reducible assumption)) ?_
          refine Rn.iload_n (k := 38) rfl rfl ?_
          refine Rn.iload_n (k := 39) rfl rfl ?_
          refine Rn.callV0 (k := 40) (M' := mX5_datesFit) rfl lkX5_77 rfl (hP.four (q := b) 0 rfl) (hP.c 0 (q := b) rfl rfl) rfl (kX5_datesFit hP ((P.1 9 (nI k).toNatClampNeg)) (nI k) (g) (by first | with_reducible assumption | with_reducible exact hw8 _ (by with_reducible assumption) (by with_reducible assumption) | with_reducible exact hw9 _ (by with_reducible assumption) (by with_reducible assumption)) (by first | with_reducible assumption | with_reducible exact hw8 _ (by with_reducible assumption) (by with_reducible assumption) | with_reducible exact hw9 _ (by with_reducible assumption) (by with_reducible assumption))) (by omega) rfl rfl (Nat.le_of_ble_eq_true rfl) ?_
          refine Rn.if_eq (k := 41) rfl (fun cl_8 => ?_) (fun cl_8 => ?_)
          · refine Rn.iconst (k := 44) (v := 0) rfl (by decide) ?_
            refine Rn.istore (k := 45) rfl (by decide) rfl ?_
            refine Rn.iload (k := 46) rfl rfl ?_
            refine Rn.if_eq (k := 47) rfl (fun cl_9 => absurd cl_9 (by decide)) (fun _ => ?_)
            refine Rn.iload (k := 48) rfl rfl ?_
            refine Rn.if_ne (k := 49) rfl (fun cl_10 => absurd cl_10 (by decide)) (fun _ => ?_)
            refine Rn.iload_n (k := 50) rfl rfl ?_
            refine Rn.iconst (k := 51) (v := 1) rfl (by decide) ?_
            refine Rn.iload_n (k := 52) rfl rfl ?_
            refine Rn.ishl (k := 53) rfl ?_
            refine Rn.ior (k := 54) rfl ?_
            refine Rn.istore_n (k := 55) rfl (by decide) rfl ?_
            refine Rn.iinc (k := 56) (v := nI (k + 1)) rfl rfl (nI_1 k) (by decide) rfl ?_
            refine Rn.goto (k := 57) rfl ?_
            refine Rn.forget (ls' := [some (.ref (b)), some (.int (g)), some (.int ((v ||| (1 <<< (nI k &&& 31))))), some (.int (nI (k + 1))), none, none]) (by intro i v h; match i, h with | 0, h => exact h | 1, h => exact h | 2, h => exact h | 3, h => exact h | 4, h => (cases h) | 5, h => (cases h) | n + 6, h => (cases h)) ?_
            exact ih (k + 1) ((v ||| (1 <<< (nI k &&& 31)))) (by omega) (by omega)  (by have e : l_forged P g (n + 1) k (v) = l_forged P g n (k + 1) ((v ||| (1 <<< (nI k &&& 31)))) := (by simp only [l_forged, if_neg cl_1, if_pos cl_4, if_neg cl_5, if_pos cl_8]); rw [e] at hc; exact hc)
          · refine Rn.iconst (k := 42) (v := 1) rfl (by decide) ?_
            refine Rn.goto (k := 43) rfl ?_
            refine Rn.istore (k := 45) rfl (by decide) rfl ?_
            refine Rn.iload (k := 46) rfl rfl ?_
            refine Rn.if_eq (k := 47) rfl (fun cl_11 => absurd cl_11 (by decide)) (fun _ => ?_)
            refine Rn.iload (k := 48) rfl rfl ?_
            refine Rn.if_ne (k := 49) rfl (fun _ => ?_) (fun cl_12 => absurd cl_12 (by decide))
            refine Rn.iinc (k := 56) (v := nI (k + 1)) rfl rfl (nI_1 k) (by decide) rfl ?_
            refine Rn.goto (k := 57) rfl ?_
            refine Rn.forget (ls' := [some (.ref (b)), some (.int (g)), some (.int (v)), some (.int (nI (k + 1))), none, none]) (by intro i v h; match i, h with | 0, h => exact h | 1, h => exact h | 2, h => exact h | 3, h => exact h | 4, h => (cases h) | 5, h => (cases h) | n + 6, h => (cases h)) ?_
            exact ih (k + 1) (v) (by omega) (by omega)  (by have e : l_forged P g (n + 1) k (v) = l_forged P g n (k + 1) (v) := (by simp only [l_forged, if_neg cl_1, if_pos cl_4, if_neg cl_5, if_neg cl_8]); rw [e] at hc; exact hc)
      · refine Rn.aload_n (k := 14) rfl rfl ?_
        refine Rn.aload_n (k := 15) rfl rfl ?_
        refine Rn.getf (k := 16) rfl (hP.four (q := b) 0 rfl) (hP.c 0 (q := b) rfl rfl) rfl ?_
        refine Rn.iload_n (k := 17) rfl rfl ?_
        refine Rn.iald (k := 18) rfl (hP.c 8 (q := b + 8) rfl rfl) (by first | with_reducible assumption | with_reducible exact hw8 _ (by with_reducible assumption) (by with_reducible assumption) | with_reducible exact hw9 _ (by with_reducible assumption) (by with_reducible assumption)) ?_
        refine Rn.iload_n (k := 19) rfl rfl ?_
        refine Rn.iload_n (k := 20) rfl rfl ?_
        refine Rn.callV0 (k := 21) (M' := mX5_datesFit) rfl lkX5_77 rfl (hP.four (q := b) 0 rfl) (hP.c 0 (q := b) rfl rfl) rfl (kX5_datesFit hP ((P.1 8 (nI k).toNatClampNeg)) (nI k) (g) (by first | with_reducible assumption | with_reducible exact hw8 _ (by with_reducible assumption) (by with_reducible assumption) | with_reducible exact hw9 _ (by with_reducible assumption) (by with_reducible assumption)) (by first | with_reducible assumption | with_reducible exact hw8 _ (by with_reducible assumption) (by with_reducible assumption) | with_reducible exact hw9 _ (by with_reducible assumption) (by with_reducible assumption))) (by omega) rfl rfl (Nat.le_of_ble_eq_true rfl) ?_
        refine Rn.if_eq (k := 22) rfl (fun cl_13 => ?_) (fun cl_13 => ?_)
        · refine Rn.iconst (k := 25) (v := 0) rfl (by decide) ?_
          refine Rn.istore (k := 26) rfl (by decide) rfl ?_
          refine Rn.aload_n (k := 27) rfl rfl ?_
          refine Rn.getf (k := 28) rfl (hP.four (q := b) 0 rfl) (hP.c 0 (q := b) rfl rfl) rfl ?_
          refine Rn.iload_n (k := 29) rfl rfl ?_
          refine Rn.iald (k := 30) rfl (hP.c 9 (q := b + 9) rfl rfl) (by first | with_reducible assumption | with_reducible exact hw8 _ (by with_reducible assumption) (by with_reducible assumption) | with_reducible exact hw9 _ (by with_reducible assumption) (by with_reducible assumption)) ?_
          refine Rn.iconst (k := 31) (v := (-1)) rfl (by decide) ?_
          refine Rn.icmp_eq (k := 32) rfl (fun cl_14 => ?_) (fun cl_14 => ?_)
          · refine Rn.iconst (k := 42) (v := 1) rfl (by decide) ?_
            refine Rn.goto (k := 43) rfl ?_
            refine Rn.istore (k := 45) rfl (by decide) rfl ?_
            refine Rn.iload (k := 46) rfl rfl ?_
            refine Rn.if_eq (k := 47) rfl (fun _ => ?_) (fun cl_15 => absurd cl_15 (by decide))
            refine Rn.iload_n (k := 50) rfl rfl ?_
            refine Rn.iconst (k := 51) (v := 1) rfl (by decide) ?_
            refine Rn.iload_n (k := 52) rfl rfl ?_
            refine Rn.ishl (k := 53) rfl ?_
            refine Rn.ior (k := 54) rfl ?_
            refine Rn.istore_n (k := 55) rfl (by decide) rfl ?_
            refine Rn.iinc (k := 56) (v := nI (k + 1)) rfl rfl (nI_1 k) (by decide) rfl ?_
            refine Rn.goto (k := 57) rfl ?_
            refine Rn.forget (ls' := [some (.ref (b)), some (.int (g)), some (.int ((v ||| (1 <<< (nI k &&& 31))))), some (.int (nI (k + 1))), none, none]) (by intro i v h; match i, h with | 0, h => exact h | 1, h => exact h | 2, h => exact h | 3, h => exact h | 4, h => (cases h) | 5, h => (cases h) | n + 6, h => (cases h)) ?_
            exact ih (k + 1) ((v ||| (1 <<< (nI k &&& 31)))) (by omega) (by omega)  (by have e : l_forged P g (n + 1) k (v) = l_forged P g n (k + 1) ((v ||| (1 <<< (nI k &&& 31)))) := (by simp only [l_forged, if_neg cl_1, if_neg cl_4, if_pos cl_13, if_pos cl_14]); rw [e] at hc; exact hc)
          · refine Rn.aload_n (k := 33) rfl rfl ?_
            refine Rn.aload_n (k := 34) rfl rfl ?_
            refine Rn.getf (k := 35) rfl (hP.four (q := b) 0 rfl) (hP.c 0 (q := b) rfl rfl) rfl ?_
            refine Rn.iload_n (k := 36) rfl rfl ?_
            refine Rn.iald (k := 37) rfl (hP.c 9 (q := b + 9) rfl rfl) (by first | with_reducible assumption | with_reducible exact hw8 _ (by with_reducible assumption) (by with_reducible assumption) | with_reducible exact hw9 _ (by with_reducible assumption) (by with_reducible assumption)) ?_
            refine Rn.iload_n (k := 38) rfl rfl ?_
            refine Rn.iload_n (k := 39) rfl rfl ?_
            refine Rn.callV0 (k := 40) (M' := mX5_datesFit) rfl lkX5_77 rfl (hP.four (q := b) 0 rfl) (hP.c 0 (q := b) rfl rfl) rfl (kX5_datesFit hP ((P.1 9 (nI k).toNatClampNeg)) (nI k) (g) (by first | with_reducible assumption | with_reducible exact hw8 _ (by with_reducible assumption) (by with_reducible assumption) | with_reducible exact hw9 _ (by with_reducible assumption) (by with_reducible assumption)) (by first | with_reducible assumption | with_reducible exact hw8 _ (by with_reducible assumption) (by with_reducible assumption) | with_reducible exact hw9 _ (by with_reducible assumption) (by with_reducible assumption))) (by omega) rfl rfl (Nat.le_of_ble_eq_true rfl) ?_
            refine Rn.if_eq (k := 41) rfl (fun cl_16 => ?_) (fun cl_16 => ?_)
            · refine Rn.iconst (k := 44) (v := 0) rfl (by decide) ?_
              refine Rn.istore (k := 45) rfl (by decide) rfl ?_
              refine Rn.iload (k := 46) rfl rfl ?_
              refine Rn.if_eq (k := 47) rfl (fun _ => ?_) (fun cl_17 => absurd cl_17 (by decide))
              refine Rn.iload_n (k := 50) rfl rfl ?_
              refine Rn.iconst (k := 51) (v := 1) rfl (by decide) ?_
              refine Rn.iload_n (k := 52) rfl rfl ?_
              refine Rn.ishl (k := 53) rfl ?_
              refine Rn.ior (k := 54) rfl ?_
              refine Rn.istore_n (k := 55) rfl (by decide) rfl ?_
              refine Rn.iinc (k := 56) (v := nI (k + 1)) rfl rfl (nI_1 k) (by decide) rfl ?_
              refine Rn.goto (k := 57) rfl ?_
              refine Rn.forget (ls' := [some (.ref (b)), some (.int (g)), some (.int ((v ||| (1 <<< (nI k &&& 31))))), some (.int (nI (k + 1))), none, none]) (by intro i v h; match i, h with | 0, h => exact h | 1, h => exact h | 2, h => exact h | 3, h => exact h | 4, h => (cases h) | 5, h => (cases h) | n + 6, h => (cases h)) ?_
              exact ih (k + 1) ((v ||| (1 <<< (nI k &&& 31)))) (by omega) (by omega)  (by have e : l_forged P g (n + 1) k (v) = l_forged P g n (k + 1) ((v ||| (1 <<< (nI k &&& 31)))) := (by simp only [l_forged, if_neg cl_1, if_neg cl_4, if_pos cl_13, if_neg cl_14, if_pos cl_16]); rw [e] at hc; exact hc)
            · refine Rn.iconst (k := 42) (v := 1) rfl (by decide) ?_
              refine Rn.goto (k := 43) rfl ?_
              refine Rn.istore (k := 45) rfl (by decide) rfl ?_
              refine Rn.iload (k := 46) rfl rfl ?_
              refine Rn.if_eq (k := 47) rfl (fun _ => ?_) (fun cl_18 => absurd cl_18 (by decide))
              refine Rn.iload_n (k := 50) rfl rfl ?_
              refine Rn.iconst (k := 51) (v := 1) rfl (by decide) ?_
              refine Rn.iload_n (k := 52) rfl rfl ?_
              refine Rn.ishl (k := 53) rfl ?_
              refine Rn.ior (k := 54) rfl ?_
              refine Rn.istore_n (k := 55) rfl (by decide) rfl ?_
              refine Rn.iinc (k := 56) (v := nI (k + 1)) rfl rfl (nI_1 k) (by decide) rfl ?_
              refine Rn.goto (k := 57) rfl ?_
              refine Rn.forget (ls' := [some (.ref (b)), some (.int (g)), some (.int ((v ||| (1 <<< (nI k &&& 31))))), some (.int (nI (k + 1))), none, none]) (by intro i v h; match i, h with | 0, h => exact h | 1, h => exact h | 2, h => exact h | 3, h => exact h | 4, h => (cases h) | 5, h => (cases h) | n + 6, h => (cases h)) ?_
              exact ih (k + 1) ((v ||| (1 <<< (nI k &&& 31)))) (by omega) (by omega)  (by have e : l_forged P g (n + 1) k (v) = l_forged P g n (k + 1) ((v ||| (1 <<< (nI k &&& 31)))) := (by simp only [l_forged, if_neg cl_1, if_neg cl_4, if_pos cl_13, if_neg cl_14, if_neg cl_16]); rw [e] at hc; exact hc)
        · refine Rn.iconst (k := 23) (v := 1) rfl (by decide) ?_
          refine Rn.goto (k := 24) rfl ?_
          refine Rn.istore (k := 26) rfl (by decide) rfl ?_
          refine Rn.aload_n (k := 27) rfl rfl ?_
          refine Rn.getf (k := 28) rfl (hP.four (q := b) 0 rfl) (hP.c 0 (q := b) rfl rfl) rfl ?_
          refine Rn.iload_n (k := 29) rfl rfl ?_
          refine Rn.iald (k := 30) rfl (hP.c 9 (q := b + 9) rfl rfl) (by first | with_reducible assumption | with_reducible exact hw8 _ (by with_reducible assumption) (by with_reducible assumption) | with_reducible exact hw9 _ (by with_reducible assumption) (by with_reducible assumption)) ?_
          refine Rn.iconst (k := 31) (v := (-1)) rfl (by decide) ?_
          refine Rn.icmp_eq (k := 32) rfl (fun cl_19 => ?_) (fun cl_19 => ?_)
          · refine Rn.iconst (k := 42) (v := 1) rfl (by decide) ?_
            refine Rn.goto (k := 43) rfl ?_
            refine Rn.istore (k := 45) rfl (by decide) rfl ?_
            refine Rn.iload (k := 46) rfl rfl ?_
            refine Rn.if_eq (k := 47) rfl (fun cl_20 => absurd cl_20 (by decide)) (fun _ => ?_)
            refine Rn.iload (k := 48) rfl rfl ?_
            refine Rn.if_ne (k := 49) rfl (fun _ => ?_) (fun cl_21 => absurd cl_21 (by decide))
            refine Rn.iinc (k := 56) (v := nI (k + 1)) rfl rfl (nI_1 k) (by decide) rfl ?_
            refine Rn.goto (k := 57) rfl ?_
            refine Rn.forget (ls' := [some (.ref (b)), some (.int (g)), some (.int (v)), some (.int (nI (k + 1))), none, none]) (by intro i v h; match i, h with | 0, h => exact h | 1, h => exact h | 2, h => exact h | 3, h => exact h | 4, h => (cases h) | 5, h => (cases h) | n + 6, h => (cases h)) ?_
            exact ih (k + 1) (v) (by omega) (by omega)  (by have e : l_forged P g (n + 1) k (v) = l_forged P g n (k + 1) (v) := (by simp only [l_forged, if_neg cl_1, if_neg cl_4, if_neg cl_13, if_pos cl_19]); rw [e] at hc; exact hc)
          · refine Rn.aload_n (k := 33) rfl rfl ?_
            refine Rn.aload_n (k := 34) rfl rfl ?_
            refine Rn.getf (k := 35) rfl (hP.four (q := b) 0 rfl) (hP.c 0 (q := b) rfl rfl) rfl ?_
            refine Rn.iload_n (k := 36) rfl rfl ?_
            refine Rn.iald (k := 37) rfl (hP.c 9 (q := b + 9) rfl rfl) (by first | with_reducible assumption | with_reducible exact hw8 _ (by with_reducible assumption) (by with_reducible assumption) | with_reducible exact hw9 _ (by with_reducible assumption) (by with_reducible assumption)) ?_
            refine Rn.iload_n (k := 38) rfl rfl ?_
            refine Rn.iload_n (k := 39) rfl rfl ?_
            refine Rn.callV0 (k := 40) (M' := mX5_datesFit) rfl lkX5_77 rfl (hP.four (q := b) 0 rfl) (hP.c 0 (q := b) rfl rfl) rfl (kX5_datesFit hP ((P.1 9 (nI k).toNatClampNeg)) (nI k) (g) (by first | with_reducible assumption | with_reducible exact hw8 _ (by with_reducible assumption) (by with_reducible assumption) | with_reducible exact hw9 _ (by with_reducible assumption) (by with_reducible assumption)) (by first | with_reducible assumption | with_reducible exact hw8 _ (by with_reducible assumption) (by with_reducible assumption) | with_reducible exact hw9 _ (by with_reducible assumption) (by with_reducible assumption))) (by omega) rfl rfl (Nat.le_of_ble_eq_true rfl) ?_
            refine Rn.if_eq (k := 41) rfl (fun cl_22 => ?_) (fun cl_22 => ?_)
            · refine Rn.iconst (k := 44) (v := 0) rfl (by decide) ?_
              refine Rn.istore (k := 45) rfl (by decide) rfl ?_
              refine Rn.iload (k := 46) rfl rfl ?_
              refine Rn.if_eq (k := 47) rfl (fun cl_23 => absurd cl_23 (by decide)) (fun _ => ?_)
              refine Rn.iload (k := 48) rfl rfl ?_
              refine Rn.if_ne (k := 49) rfl (fun cl_24 => absurd cl_24 (by decide)) (fun _ => ?_)
              refine Rn.iload_n (k := 50) rfl rfl ?_
              refine Rn.iconst (k := 51) (v := 1) rfl (by decide) ?_
              refine Rn.iload_n (k := 52) rfl rfl ?_
              refine Rn.ishl (k := 53) rfl ?_
              refine Rn.ior (k := 54) rfl ?_
              refine Rn.istore_n (k := 55) rfl (by decide) rfl ?_
              refine Rn.iinc (k := 56) (v := nI (k + 1)) rfl rfl (nI_1 k) (by decide) rfl ?_
              refine Rn.goto (k := 57) rfl ?_
              refine Rn.forget (ls' := [some (.ref (b)), some (.int (g)), some (.int ((v ||| (1 <<< (nI k &&& 31))))), some (.int (nI (k + 1))), none, none]) (by intro i v h; match i, h with | 0, h => exact h | 1, h => exact h | 2, h => exact h | 3, h => exact h | 4, h => (cases h) | 5, h => (cases h) | n + 6, h => (cases h)) ?_
              exact ih (k + 1) ((v ||| (1 <<< (nI k &&& 31)))) (by omega) (by omega)  (by have e : l_forged P g (n + 1) k (v) = l_forged P g n (k + 1) ((v ||| (1 <<< (nI k &&& 31)))) := (by simp only [l_forged, if_neg cl_1, if_neg cl_4, if_neg cl_13, if_neg cl_19, if_pos cl_22]); rw [e] at hc; exact hc)
            · refine Rn.iconst (k := 42) (v := 1) rfl (by decide) ?_
              refine Rn.goto (k := 43) rfl ?_
              refine Rn.istore (k := 45) rfl (by decide) rfl ?_
              refine Rn.iload (k := 46) rfl rfl ?_
              refine Rn.if_eq (k := 47) rfl (fun cl_25 => absurd cl_25 (by decide)) (fun _ => ?_)
              refine Rn.iload (k := 48) rfl rfl ?_
              refine Rn.if_ne (k := 49) rfl (fun _ => ?_) (fun cl_26 => absurd cl_26 (by decide))
              refine Rn.iinc (k := 56) (v := nI (k + 1)) rfl rfl (nI_1 k) (by decide) rfl ?_
              refine Rn.goto (k := 57) rfl ?_
              refine Rn.forget (ls' := [some (.ref (b)), some (.int (g)), some (.int (v)), some (.int (nI (k + 1))), none, none]) (by intro i v h; match i, h with | 0, h => exact h | 1, h => exact h | 2, h => exact h | 3, h => exact h | 4, h => (cases h) | 5, h => (cases h) | n + 6, h => (cases h)) ?_
              exact ih (k + 1) (v) (by omega) (by omega)  (by have e : l_forged P g (n + 1) k (v) = l_forged P g n (k + 1) (v) := (by simp only [l_forged, if_neg cl_1, if_neg cl_4, if_neg cl_13, if_neg cl_19, if_neg cl_22]); rw [e] at hc; exact hc)
def v_forgedChildren (P : Pic) (g : Int32) : Int32 := ((l_forged P (g) 17 0 (0)))
set_option maxRecDepth 20000 in
theorem rX5_forgedChildren {S : Sg} {b : Nat} {P : Pic} (hP : pcAt_ ppC S b P) {N : Nat} (g : Int32) (hw8 : ∀ i : Int32, vp_in i 16 → ¬ P.1 8 i.toNatClampNeg = -1 → vp_in (P.1 8 i.toNatClampNeg) 16) (hw9 : ∀ i : Int32, vp_in i 16 → ¬ P.1 9 i.toNatClampNeg = -1 → vp_in (P.1 9 i.toNatClampNeg) 16) (hN : P.1 0 0 = nI N) (h16 : N ≤ 16) : Rn 2 0 0 mX5_forgedChildren 0 [some (.ref (b)), some (.int (g)), none, none, none, none] [] S (some (.int (v_forgedChildren P g))) S := by
  refine Rn.iconst (k := 0) (v := 0) rfl (by decide) ?_
  refine Rn.istore_n (k := 1) rfl (by decide) rfl ?_
  refine Rn.iconst (k := 2) (v := 0) rfl (by decide) ?_
  refine Rn.istore_n (k := 3) rfl (by decide) rfl ?_
  refine Rn.forget (ls' := [some (.ref (b)), some (.int (g)), some (.int (0)), some (.int (nI 0)), none, none]) (by intro i v h; match i, h with | 0, h => exact h | 1, h => exact h | 2, h => exact h | 3, h => exact h | 4, h => (cases h) | 5, h => (cases h) | n + 6, h => (cases h)) ?_
  refine c_forged hP (g) hw8 hw9 hN h16 (by first | decide | omega) 17 0 (0) (by omega) (Nat.zero_le _)  (?_)
  refine Rn.iload_n (k := 58) rfl rfl ?_
  exact Rn.retz rfl rfl (by unfold v_forgedChildren; first | done | rfl | (rfl)) rfl rfl
theorem kX5_forgedChildren {S : Sg} {b : Nat} {P : Pic} (hP : pcAt_ ppC S b P) {N : Nat} (g : Int32) (hw8 : ∀ i : Int32, vp_in i 16 → ¬ P.1 8 i.toNatClampNeg = -1 → vp_in (P.1 8 i.toNatClampNeg) 16) (hw9 : ∀ i : Int32, vp_in i 16 → ¬ P.1 9 i.toNatClampNeg = -1 → vp_in (P.1 9 i.toNatClampNeg) 16) (hN : P.1 0 0 = nI N) (h16 : N ≤ 16) : Cl 2 0 0 mX5_forgedChildren [.ref b, .int (g)] S (some (.int (v_forgedChildren P g))) S := Cl.of okX5_forgedChildren (by intro i v h; match i, h with | 0, h => exact h | 1, h => exact h | 2, h => (cases h) | 3, h => (cases h) | 4, h => (cases h) | 5, h => (cases h) | n + 6, h => (cases h)) (Nat.le_of_ble_eq_true rfl) rfl (rX5_forgedChildren hP g hw8 hw9 hN h16)
def l_quart (P : Pic) (q : Int32) (r : Int32) : Nat → Nat → Int32 → Int32
  | 0, k, v => (v)
  | n + 1, k, v => (if 2 ≤ nI k then (v) else (if (v_parentOf P (q) (nI k)) = (-1) then l_quart P q r n (k + 1) (v) else l_quart P q r n (k + 1) ((v + (((r >>> ((v_parentOf P (q) (nI k)) &&& 31)) &&& 1) + (v_rankedParents P ((v_parentOf P (q) (nI k))) (r)))))))
set_option maxHeartbeats 4000000 in
set_option maxRecDepth 20000 in
theorem c_quart {d kc ks : Nat} {rv : Option Value} {S' : Sg} {S : Sg} {b : Nat} {P : Pic} (hP : pcAt_ ppC S b P)  (q : Int32) (r : Int32) (h_q : vp_in q 16) (hpo : ∀ i : Int32, ¬ v_parentOf P q i = -1 → vp_in (v_parentOf P q i) 16) (hd : 2 ≤ d) : ∀ (n k : Nat) (v : Int32) , 2 - k < n → k ≤ 2 → (Rn d kc ks mX5_quarters 30 [some (.ref (b)), some (.int (q)), some (.int (r)), some (.int ((l_quart P q r n k (v)))), none, none] [] S rv S') → Rn d kc ks mX5_quarters 4 [some (.ref (b)), some (.int (q)), some (.int (r)), some (.int (v)), some (.int (nI k)), none] [] S rv S' := by
  intro n
  induction n with
  | zero => intro k v h; exact absurd h (Nat.not_lt_zero _)
  | succ n ih =>
    intro k v hm hkN  hc
    refine Rn.iload (k := 4) rfl rfl ?_
    refine Rn.iconst (k := 5) (v := 2) rfl (by decide) ?_
    refine Rn.icmp_ge (k := 6) rfl (fun cl_1 => ?_) (fun cl_1 => ?_)
    · refine Rn.forget (ls' := [some (.ref (b)), some (.int (q)), some (.int (r)), some (.int (v)), none, none]) (by intro i v h; match i, h with | 0, h => exact h | 1, h => exact h | 2, h => exact h | 3, h => exact h | 4, h => (cases h) | 5, h => (cases h) | n + 6, h => (cases h)) ?_
      exact (by have e : l_quart P q r (n + 1) k (v) = (v) := (by simp only [l_quart, if_pos cl_1]); rw [e] at hc; exact hc)
    · have hltl_2 : k < 2 := Nat.lt_of_not_le (fun q => cl_1 (by exact nI_le q (by omega)))
      have hinl_3 : vp_in (nI k) 16 := vp_in_nI (by omega) (by decide)
      refine Rn.aload_n (k := 7) rfl rfl ?_
      refine Rn.iload_n (k := 8) rfl rfl ?_
      refine Rn.iload (k := 9) rfl rfl ?_
      refine Rn.callV0 (k := 10) (M' := mX5_parentOf) rfl lkX5_62 rfl (hP.four (q := b) 0 rfl) (hP.c 0 (q := b) rfl rfl) rfl (kX5_parentOf hP (q) (nI k) (by first | with_reducible assumption | with_reducible exact hpo _ (by assumption))) (by omega) rfl rfl (Nat.le_of_ble_eq_true rfl) ?_
      refine Rn.istore (k := 11) rfl (by decide) rfl ?_
      refine Rn.iload (k := 12) rfl rfl ?_
      refine Rn.iconst (k := 13) (v := (-1)) rfl (by decide) ?_
      refine Rn.icmp_eq (k := 14) rfl (fun cl_4 => ?_) (fun cl_4 => ?_)
      · refine Rn.iinc (k := 28) (v := nI (k + 1)) rfl rfl (nI_1 k) (by decide) rfl ?_
        refine Rn.goto (k := 29) rfl ?_
        refine Rn.forget (ls' := [some (.ref (b)), some (.int (q)), some (.int (r)), some (.int (v)), some (.int (nI (k + 1))), none]) (by intro i v h; match i, h with | 0, h => exact h | 1, h => exact h | 2, h => exact h | 3, h => exact h | 4, h => exact h | 5, h => (cases h) | n + 6, h => (cases h)) ?_
        exact ih (k + 1) (v) (by omega) (by omega)  (by have e : l_quart P q r (n + 1) k (v) = l_quart P q r n (k + 1) (v) := (by simp only [l_quart, if_neg cl_1, if_pos cl_4]); rw [e] at hc; exact hc)
      · refine Rn.iload_n (k := 15) rfl rfl ?_
        refine Rn.iload_n (k := 16) rfl rfl ?_
        refine Rn.iload (k := 17) rfl rfl ?_
        refine Rn.ishr (k := 18) rfl ?_
        refine Rn.iconst (k := 19) (v := 1) rfl (by decide) ?_
        refine Rn.iand (k := 20) rfl ?_
        refine Rn.aload_n (k := 21) rfl rfl ?_
        refine Rn.iload (k := 22) rfl rfl ?_
        refine Rn.iload_n (k := 23) rfl rfl ?_
        refine Rn.callV0 (k := 24) (M' := mX5_rankedParents) rfl lkX5_105 rfl (hP.four (q := b) 0 rfl) (hP.c 0 (q := b) rfl rfl) rfl (kX5_rankedParents hP ((v_parentOf P (q) (nI k))) (r) (by first | with_reducible assumption | with_reducible exact hpo _ (by assumption))) (by omega) rfl rfl (Nat.le_of_ble_eq_true rfl) ?_
        refine Rn.iadd (k := 25) rfl ?_
        refine Rn.iadd (k := 26) rfl ?_
        refine Rn.istore_n (k := 27) rfl (by decide) rfl ?_
        refine Rn.iinc (k := 28) (v := nI (k + 1)) rfl rfl (nI_1 k) (by decide) rfl ?_
        refine Rn.goto (k := 29) rfl ?_
        refine Rn.forget (ls' := [some (.ref (b)), some (.int (q)), some (.int (r)), some (.int ((v + (((r >>> ((v_parentOf P (q) (nI k)) &&& 31)) &&& 1) + (v_rankedParents P ((v_parentOf P (q) (nI k))) (r)))))), some (.int (nI (k + 1))), none]) (by intro i v h; match i, h with | 0, h => exact h | 1, h => exact h | 2, h => exact h | 3, h => exact h | 4, h => exact h | 5, h => (cases h) | n + 6, h => (cases h)) ?_
        exact ih (k + 1) ((v + (((r >>> ((v_parentOf P (q) (nI k)) &&& 31)) &&& 1) + (v_rankedParents P ((v_parentOf P (q) (nI k))) (r))))) (by omega) (by omega)  (by have e : l_quart P q r (n + 1) k (v) = l_quart P q r n (k + 1) ((v + (((r >>> ((v_parentOf P (q) (nI k)) &&& 31)) &&& 1) + (v_rankedParents P ((v_parentOf P (q) (nI k))) (r))))) := (by simp only [l_quart, if_neg cl_1, if_neg cl_4]); rw [e] at hc; exact hc)
def v_quarters (P : Pic) (q : Int32) (r : Int32) : Int32 := ((l_quart P (q) (r) 17 0 (0)))
set_option maxRecDepth 20000 in
theorem rX5_quarters {S : Sg} {b : Nat} {P : Pic} (hP : pcAt_ ppC S b P)  (q : Int32) (r : Int32) (h_q : vp_in q 16) (hpo : ∀ i : Int32, ¬ v_parentOf P q i = -1 → vp_in (v_parentOf P q i) 16) : Rn 2 0 0 mX5_quarters 0 [some (.ref (b)), some (.int (q)), some (.int (r)), none, none, none] [] S (some (.int (v_quarters P q r))) S := by
  refine Rn.iconst (k := 0) (v := 0) rfl (by decide) ?_
  refine Rn.istore_n (k := 1) rfl (by decide) rfl ?_
  refine Rn.iconst (k := 2) (v := 0) rfl (by decide) ?_
  refine Rn.istore (k := 3) rfl (by decide) rfl ?_
  refine Rn.forget (ls' := [some (.ref (b)), some (.int (q)), some (.int (r)), some (.int (0)), some (.int (nI 0)), none]) (by intro i v h; match i, h with | 0, h => exact h | 1, h => exact h | 2, h => exact h | 3, h => exact h | 4, h => exact h | 5, h => (cases h) | n + 6, h => (cases h)) ?_
  refine c_quart hP (q) (r) h_q hpo (by first | decide | omega) 17 0 (0) (by omega) (Nat.zero_le _)  (?_)
  refine Rn.iload_n (k := 30) rfl rfl ?_
  exact Rn.retz rfl rfl (by unfold v_quarters; first | done | rfl | (rfl)) rfl rfl
theorem kX5_quarters {S : Sg} {b : Nat} {P : Pic} (hP : pcAt_ ppC S b P)  (q : Int32) (r : Int32) (h_q : vp_in q 16) (hpo : ∀ i : Int32, ¬ v_parentOf P q i = -1 → vp_in (v_parentOf P q i) 16) : Cl 2 0 0 mX5_quarters [.ref b, .int (q), .int (r)] S (some (.int (v_quarters P q r))) S := Cl.of okX5_quarters (by intro i v h; match i, h with | 0, h => exact h | 1, h => exact h | 2, h => exact h | 3, h => (cases h) | 4, h => (cases h) | 5, h => (cases h) | n + 6, h => (cases h)) (Nat.le_of_ble_eq_true rfl) rfl (rX5_quarters hP q r h_q hpo)
def l_tie (P : Pic) (p : Int32) (c : Int32) (a : Int32) : Nat → Nat → Pic → Pic
  | 0, k, Q => (Q)
  | n + 1, k, Q => (if (Q.1 0 0) ≤ nI k then (Q) else (if (b2i (v_isSelfOrInLine Q (c) (nI k))) = 0 then l_tie P p c a n (k + 1)  (Q) else l_tie P p c a n (k + 1)  ((pcI Q 10 (upd (Q.1 10) (nI k : Int32).toNatClampNeg ((Q.1 10 (nI k).toNatClampNeg) ||| a))))))
set_option maxHeartbeats 4000000 in
set_option maxRecDepth 20000 in
theorem c_tie {d kc ks : Nat} {rv : Option Value} {S' : Sg} {S : Sg} {b : Nat} {P : Pic} (hP : pcAt_ ppC S b P) {N : Nat} (p : Int32) (c : Int32) (a : Int32) (h_p : vp_in p 16) (h_c : vp_in c 16) (h16 : N ≤ 16) (hd : 2 ≤ d) : ∀ (n k : Nat)  (Q : Pic), N - k < n → k ≤ N → (Q.1 0 0 = nI N) → (((l_tie P p c a n k  (Q)).1 0 0 = nI N) → Rn d kc ks mX5_tie 33 [some (.ref (b)), some (.int (p)), some (.int (c)), some (.int (a)), none] [] (pcW ppC S b (l_tie P p c a n k  (Q))) rv S') → Rn d kc ks mX5_tie 14 [some (.ref (b)), some (.int (p)), some (.int (c)), some (.int (a)), some (.int (nI k))] [] (pcW ppC S b Q) rv S' := by
  intro n
  induction n with
  | zero => intro k Q h; exact absurd h (Nat.not_lt_zero _)
  | succ n ih =>
    intro k Q hm hkN hQ1 hc
    refine Rn.iload (k := 14) rfl rfl ?_
    refine Rn.aload_n (k := 15) rfl rfl ?_
    refine Rn.getf (k := 16) rfl ((hP.put Q rfl).four (q := b) 0 rfl) ((hP.put Q rfl).c 0 (q := b) rfl rfl) rfl ?_
    refine Rn.icmp_ge (k := 17) rfl (fun cl_1 => ?_) (fun cl_1 => ?_)
    · refine Rn.forget (ls' := [some (.ref (b)), some (.int (p)), some (.int (c)), some (.int (a)), none]) (by intro i v h; match i, h with | 0, h => exact h | 1, h => exact h | 2, h => exact h | 3, h => exact h | 4, h => (cases h) | n + 5, h => (cases h)) ?_
      exact (by have e : l_tie P p c a (n + 1) k  (Q) = (Q) := (by simp only [l_tie, if_pos cl_1]); rw [e] at hc; exact hc (by exact hQ1))
    · have hltl_2 : k < N := Nat.lt_of_not_le (fun q => cl_1 (by rw [hQ1]; exact nI_le q (by omega)))
      have hinl_3 : vp_in (nI k) 16 := vp_in_nI (by omega) (by decide)
      refine Rn.aload_n (k := 18) rfl rfl ?_
      refine Rn.iload_n (k := 19) rfl rfl ?_
      refine Rn.iload (k := 20) rfl rfl ?_
      refine Rn.callV0 (k := 21) (M' := mX5_isSelfOrInLine) rfl lkX5_66 rfl ((hP.put Q rfl).four (q := b) 0 rfl) ((hP.put Q rfl).c 0 (q := b) rfl rfl) rfl (kX5_isSelfOrInLine (hP.put Q rfl) (c) (nI k) (by first | with_reducible assumption)) (by omega) rfl rfl (Nat.le_of_ble_eq_true rfl) ?_
      refine Rn.if_eq (k := 22) rfl (fun cl_4 => ?_) (fun cl_4 => ?_)
      · refine Rn.iinc (k := 31) (v := nI (k + 1)) rfl rfl (nI_1 k) (by decide) rfl ?_
        refine Rn.goto (k := 32) rfl ?_
        refine Rn.forget (ls' := [some (.ref (b)), some (.int (p)), some (.int (c)), some (.int (a)), some (.int (nI (k + 1)))]) (by intro i v h; match i, h with | 0, h => exact h | 1, h => exact h | 2, h => exact h | 3, h => exact h | 4, h => exact h | n + 5, h => (cases h)) ?_
        exact ih (k + 1)  Q (by omega) (by omega) (by exact hQ1) (by have e : l_tie P p c a (n + 1) k  (Q) = l_tie P p c a n (k + 1)  (Q) := (by simp only [l_tie, if_neg cl_1, if_pos cl_4]); rw [e] at hc; exact hc)
      · refine Rn.aload_n (k := 23) rfl rfl ?_
        refine Rn.getf (k := 24) rfl ((hP.put Q rfl).four (q := b) 0 rfl) ((hP.put Q rfl).c 0 (q := b) rfl rfl) rfl ?_
        refine Rn.iload (k := 25) rfl rfl ?_
        refine Rn.dup2 (k := 26) rfl rfl rfl ?_
        refine Rn.iald (k := 27) rfl ((hP.put Q rfl).c 10 (q := b + 10) rfl rfl) (by first | with_reducible assumption) ?_
        refine Rn.iload_n (k := 28) rfl rfl ?_
        refine Rn.ior (k := 29) rfl ?_
        refine Rn.iast (k := 30) rfl ((hP.put Q rfl).four (q := b + 10) 10 rfl) ((hP.put Q rfl).c 10 (q := b + 10) rfl rfl) (by first | with_reducible assumption) ?_
        obtain ⟨Pl_5, ePl_5⟩ : ∃ Q0 : Pic, Q0 = pcI Q 10 (upd (Q.1 10) (nI k : Int32).toNatClampNeg ((Q.1 10 (nI k).toNatClampNeg) ||| a)) := ⟨_, rfl⟩
        rw [(hP.put Q rfl).w Pl_5 10 (q := b + 10) rfl (Nat.le_of_ble_eq_true rfl) (by rw [ePl_5]; rfl), ppC_WW]
        have hPl_5 := hP.put Pl_5 rfl
        refine Rn.iinc (k := 31) (v := nI (k + 1)) rfl rfl (nI_1 k) (by decide) rfl ?_
        refine Rn.goto (k := 32) rfl ?_
        refine Rn.forget (ls' := [some (.ref (b)), some (.int (p)), some (.int (c)), some (.int (a)), some (.int (nI (k + 1)))]) (by intro i v h; match i, h with | 0, h => exact h | 1, h => exact h | 2, h => exact h | 3, h => exact h | 4, h => exact h | n + 5, h => (cases h)) ?_
        exact ih (k + 1)  Pl_5 (by omega) (by omega) (by rw [ePl_5]; exact hQ1) (by have e : l_tie P p c a (n + 1) k  (Q) = l_tie P p c a n (k + 1)  (Pl_5) := (by rw [ePl_5]; simp only [l_tie, if_neg cl_1, if_neg cl_4]); rw [e] at hc; exact hc)
def w_tie (P : Pic) (p : Int32) (c : Int32) : Pic := (let P_1 : Pic := w_setParent P (c) ((P.1 1 (p).toNatClampNeg)) (p); let P_3 : Pic := (l_tie P (p) (c) ((v_withLine P_1 (p))) 17 0  P_1); P_3)
set_option maxRecDepth 20000 in
theorem rX5_tie {S : Sg} {b : Nat} {P : Pic} (hP : pcAt_ ppC S b P) {N : Nat} (p : Int32) (c : Int32) (h_p : vp_in p 16) (h_c : vp_in c 16) (hN : P.1 0 0 = nI N) (h16 : N ≤ 16) : Rn 2 0 0 mX5_tie 0 [some (.ref (b)), some (.int (p)), some (.int (c)), none, none] [] S none (pcW ppC S b (w_tie P p c)) := by
  refine Rn.aload_n (k := 0) rfl rfl ?_
  refine Rn.iload_n (k := 1) rfl rfl ?_
  refine Rn.aload_n (k := 2) rfl rfl ?_
  refine Rn.getf (k := 3) rfl (hP.four (q := b) 0 rfl) (hP.c 0 (q := b) rfl rfl) rfl ?_
  refine Rn.iload_n (k := 4) rfl rfl ?_
  refine Rn.iald (k := 5) rfl (hP.c 1 (q := b + 1) rfl rfl) (by first | with_reducible assumption) ?_
  refine Rn.iload_n (k := 6) rfl rfl ?_
  refine Rn.callV0 (k := 7) (M' := mX5_setParent) rfl lkX5_81 rfl (hP.four (q := b) 0 rfl) (hP.c 0 (q := b) rfl rfl) rfl (kX5_setParent hP (c) ((P.1 1 (p).toNatClampNeg)) (p) (by first | with_reducible assumption)) (by decide) rfl rfl (Nat.le_of_ble_eq_true rfl) ?_
  obtain ⟨P_1, eP_1⟩ : ∃ Q0 : Pic, Q0 = w_setParent P (c) ((P.1 1 (p).toNatClampNeg)) (p) := ⟨_, rfl⟩
  rw [← eP_1]
  have hP_1 := hP.put P_1 rfl
  refine Rn.aload_n (k := 8) rfl rfl ?_
  refine Rn.iload_n (k := 9) rfl rfl ?_
  refine Rn.callV0 (k := 10) (M' := mX5_withLine) rfl lkX5_85 rfl (hP_1.four (q := b) 0 rfl) (hP_1.c 0 (q := b) rfl rfl) rfl (kX5_withLine hP_1 (p) (by first | with_reducible assumption | (intro _; with_reducible assumption) | (exact hw8 _ (by with_reducible assumption)) | (exact hw9 _ (by with_reducible assumption)))) (by decide) rfl rfl (Nat.le_of_ble_eq_true rfl) ?_
  refine Rn.istore_n (k := 11) rfl (by decide) rfl ?_
  refine Rn.iconst (k := 12) (v := 0) rfl (by decide) ?_
  refine Rn.istore (k := 13) rfl (by decide) rfl ?_
  refine Rn.forget (ls' := [some (.ref (b)), some (.int (p)), some (.int (c)), some (.int ((v_withLine P_1 (p)))), some (.int (nI 0))]) (by intro i v h; match i, h with | 0, h => exact h | 1, h => exact h | 2, h => exact h | 3, h => exact h | 4, h => exact h | n + 5, h => (cases h)) ?_
  refine c_tie hP (p) (c) ((v_withLine P_1 (p))) h_p h_c h16 (by first | decide | omega) 17 0  P_1 (by omega) (Nat.zero_le _) (by rw [eP_1]; first | exact hN | (unfold w_setParent; split <;> exact hN)) (fun hI_2 => ?_)
  obtain ⟨P_3, eP_3⟩ : ∃ Q0 : Pic, Q0 = (l_tie P (p) (c) ((v_withLine P_1 (p))) 17 0  P_1) := ⟨_, rfl⟩
  rw [← eP_3]
  have hP_3 := hP.put P_3 rfl
  (try rw [← eP_3] at hI_2)
  exact Rn.retw rfl rfl (by unfold w_tie; first | done | rfl | (subst eP_1; subst eP_3; rfl))
theorem kX5_tie {S : Sg} {b : Nat} {P : Pic} (hP : pcAt_ ppC S b P) {N : Nat} (p : Int32) (c : Int32) (h_p : vp_in p 16) (h_c : vp_in c 16) (hN : P.1 0 0 = nI N) (h16 : N ≤ 16) : Cl 2 0 0 mX5_tie [.ref b, .int (p), .int (c)] S none (pcW ppC S b (w_tie P p c)) := Cl.of okX5_tie (by intro i v h; match i, h with | 0, h => exact h | 1, h => exact h | 2, h => exact h | 3, h => (cases h) | 4, h => (cases h) | n + 5, h => (cases h)) (Nat.le_of_ble_eq_true rfl) rfl (rX5_tie hP p c h_p h_c hN h16)
def w_sell (P : Pic) (p : Int32) (c : Int32) : Pic := (let P_1 : Pic := w_tie P (p) (c); let P_2 : Pic := pcI P_1 0 (upd (P_1.1 0) 1 ((P_1.1 0 1) ||| (1 <<< (p &&& 31)))); P_2)
set_option maxRecDepth 20000 in
theorem rX5_sell {S : Sg} {b : Nat} {P : Pic} (hP : pcAt_ ppC S b P) {N : Nat} (p : Int32) (c : Int32) (h_p : vp_in p 16) (h_c : vp_in c 16) (hN : P.1 0 0 = nI N) (h16 : N ≤ 16) : Rn 3 0 0 mX5_sell 0 [some (.ref (b)), some (.int (p)), some (.int (c))] [] S none (pcW ppC S b (w_sell P p c)) := by
  refine Rn.aload_n (k := 0) rfl rfl ?_
  refine Rn.iload_n (k := 1) rfl rfl ?_
  refine Rn.iload_n (k := 2) rfl rfl ?_
  refine Rn.callV0 (k := 3) (M' := mX5_tie) rfl lkX5_89 rfl (hP.four (q := b) 0 rfl) (hP.c 0 (q := b) rfl rfl) rfl (kX5_tie hP (p) (c) (by first | with_reducible assumption) (by first | with_reducible assumption) (by first | with_reducible assumption) (by first | with_reducible assumption)) (by decide) rfl rfl (Nat.le_of_ble_eq_true rfl) ?_
  obtain ⟨P_1, eP_1⟩ : ∃ Q0 : Pic, Q0 = w_tie P (p) (c) := ⟨_, rfl⟩
  rw [← eP_1]
  have hP_1 := hP.put P_1 rfl
  refine Rn.aload_n (k := 4) rfl rfl ?_
  refine Rn.dup (k := 5) rfl rfl ?_
  refine Rn.getf (k := 6) rfl (hP_1.four (q := b) 0 rfl) (hP_1.c 0 (q := b) rfl rfl) rfl ?_
  refine Rn.iconst (k := 7) (v := 1) rfl (by decide) ?_
  refine Rn.iload_n (k := 8) rfl rfl ?_
  refine Rn.ishl (k := 9) rfl ?_
  refine Rn.ior (k := 10) rfl ?_
  refine Rn.putf (k := 11) rfl (hP_1.four (q := b) 0 rfl) (hP_1.c 0 (q := b) rfl rfl) (fun q hq => by cases hq; rfl) (Nat.le_of_ble_eq_true rfl) (by first | rfl | exact b2i_nar _) (by first | rfl | exact b2i_fit _) ?_
  obtain ⟨P_2, eP_2⟩ : ∃ Q0 : Pic, Q0 = pcI P_1 0 (upd (P_1.1 0) 1 ((P_1.1 0 1) ||| (1 <<< (p &&& 31)))) := ⟨_, rfl⟩
  rw [hP_1.w P_2 0 (q := b) rfl (Nat.le_of_ble_eq_true rfl) (by rw [eP_2]; rfl), ppC_WW]
  have hP_2 := hP.put P_2 rfl
  exact Rn.retw rfl rfl (by unfold w_sell; first | done | rfl | (subst eP_1; subst eP_2; rfl))
theorem kX5_sell {S : Sg} {b : Nat} {P : Pic} (hP : pcAt_ ppC S b P) {N : Nat} (p : Int32) (c : Int32) (h_p : vp_in p 16) (h_c : vp_in c 16) (hN : P.1 0 0 = nI N) (h16 : N ≤ 16) : Cl 3 0 0 mX5_sell [.ref b, .int (p), .int (c)] S none (pcW ppC S b (w_sell P p c)) := Cl.of okX5_sell (by intro i v h; match i, h with | 0, h => exact h | 1, h => exact h | 2, h => exact h | n + 3, h => (cases h)) (Nat.le_of_ble_eq_true rfl) rfl (rX5_sell hP p c h_p h_c hN h16)
def w_copyTiesFrom (P : Pic) (Q : Pic)  : Pic := (let P_1 : Pic := pcI P 0 (upd (P.1 0) 1 (Q.1 0 1)); let P_3 : Pic := pcI P_1 8 (va_cpy (Q.1 8) (P_1.1 8) (0 : Int32).toNatClampNeg (0 : Int32).toNatClampNeg (16 : Int32).toNatClampNeg); let P_5 : Pic := pcI P_3 9 (va_cpy (Q.1 9) (P_3.1 9) (0 : Int32).toNatClampNeg (0 : Int32).toNatClampNeg (16 : Int32).toNatClampNeg); let P_7 : Pic := pcI P_5 10 (va_cpy (Q.1 10) (P_5.1 10) (0 : Int32).toNatClampNeg (0 : Int32).toNatClampNeg (16 : Int32).toNatClampNeg); P_7)
set_option maxRecDepth 20000 in
theorem rX5_copyTiesFrom {S : Sg} {b : Nat} {b2 : Nat} {P : Pic} {Q : Pic} (hP : pcAt_ ppC S b P) (hQ : pcAt_ ppC S b2 Q)   (hdis : b + 12 ≤ b2 ∨ b2 + 12 ≤ b) : Rn 1 0 0 mX5_copyTiesFrom 0 [some (.ref (b)), some (.ref (b2))] [] S none (pcW ppC S b (w_copyTiesFrom P Q)) := by
  refine Rn.aload_n (k := 0) rfl rfl ?_
  refine Rn.aload_n (k := 1) rfl rfl ?_
  refine Rn.getf (k := 2) rfl (hQ.four (q := b2) 0 rfl) (hQ.c 0 (q := b2) rfl rfl) rfl ?_
  refine Rn.putf (k := 3) rfl (hP.four (q := b) 0 rfl) (hP.c 0 (q := b) rfl rfl) (fun q hq => by cases hq; rfl) (Nat.le_of_ble_eq_true rfl) (by first | rfl | exact b2i_nar _) (by first | rfl | exact b2i_fit _) ?_
  obtain ⟨P_1, eP_1⟩ : ∃ Q0 : Pic, Q0 = pcI P 0 (upd (P.1 0) 1 (Q.1 0 1)) := ⟨_, rfl⟩
  rw [hP.w P_1 0 (q := b) rfl (Nat.le_of_ble_eq_true rfl) (by rw [eP_1]; rfl)]
  have hP_1 := hP.put P_1 rfl
  have hO_2 := hQ.off (C := ppC) (b := b) (X := P_1) (by first | exact hdis | exact Or.symm hdis | omega)
  refine Rn.aload_n (k := 4) rfl rfl ?_
  refine Rn.getf (k := 5) rfl (hO_2.four (q := b2) 0 rfl) (hO_2.c 0 (q := b2) rfl rfl) rfl ?_
  refine Rn.iconst (k := 6) (v := 0) rfl (by decide) ?_
  refine Rn.aload_n (k := 7) rfl rfl ?_
  refine Rn.getf (k := 8) rfl (hP_1.four (q := b) 0 rfl) (hP_1.c 0 (q := b) rfl rfl) rfl ?_
  refine Rn.iconst (k := 9) (v := 0) rfl (by decide) ?_
  refine Rn.bipush (k := 10) (v := 16) rfl (by decide) ?_
  refine Rn.acopy (k := 11) rfl ⟨lkX5_49, w_an, w_as, w_ai⟩ (by decide) (by decide) (hO_2.four (q := b2 + 8) 8 rfl) (hP_1.four (q := b + 8) 8 rfl) (hO_2.c 8 (q := b2 + 8) rfl rfl) (hP_1.c 8 (q := b + 8) rfl rfl) (by decide) (by decide) (by decide) (by decide) (by decide) ?_
  obtain ⟨P_3, eP_3⟩ : ∃ Q0 : Pic, Q0 = pcI P_1 8 (va_cpy (Q.1 8) (P_1.1 8) (0 : Int32).toNatClampNeg (0 : Int32).toNatClampNeg (16 : Int32).toNatClampNeg) := ⟨_, rfl⟩
  rw [hP_1.w P_3 8 (q := b + 8) rfl (Nat.le_of_ble_eq_true rfl) (by rw [eP_3]; rfl), ppC_WW]
  have hP_3 := hP.put P_3 rfl
  have hO_4 := hQ.off (C := ppC) (b := b) (X := P_3) (by first | exact hdis | exact Or.symm hdis | omega)
  refine Rn.aload_n (k := 12) rfl rfl ?_
  refine Rn.getf (k := 13) rfl (hO_4.four (q := b2) 0 rfl) (hO_4.c 0 (q := b2) rfl rfl) rfl ?_
  refine Rn.iconst (k := 14) (v := 0) rfl (by decide) ?_
  refine Rn.aload_n (k := 15) rfl rfl ?_
  refine Rn.getf (k := 16) rfl (hP_3.four (q := b) 0 rfl) (hP_3.c 0 (q := b) rfl rfl) rfl ?_
  refine Rn.iconst (k := 17) (v := 0) rfl (by decide) ?_
  refine Rn.bipush (k := 18) (v := 16) rfl (by decide) ?_
  refine Rn.acopy (k := 19) rfl ⟨lkX5_49, w_an, w_as, w_ai⟩ (by decide) (by decide) (hO_4.four (q := b2 + 9) 9 rfl) (hP_3.four (q := b + 9) 9 rfl) (hO_4.c 9 (q := b2 + 9) rfl rfl) (hP_3.c 9 (q := b + 9) rfl rfl) (by decide) (by decide) (by decide) (by decide) (by decide) ?_
  obtain ⟨P_5, eP_5⟩ : ∃ Q0 : Pic, Q0 = pcI P_3 9 (va_cpy (Q.1 9) (P_3.1 9) (0 : Int32).toNatClampNeg (0 : Int32).toNatClampNeg (16 : Int32).toNatClampNeg) := ⟨_, rfl⟩
  rw [hP_3.w P_5 9 (q := b + 9) rfl (Nat.le_of_ble_eq_true rfl) (by rw [eP_5]; rfl), ppC_WW]
  have hP_5 := hP.put P_5 rfl
  have hO_6 := hQ.off (C := ppC) (b := b) (X := P_5) (by first | exact hdis | exact Or.symm hdis | omega)
  refine Rn.aload_n (k := 20) rfl rfl ?_
  refine Rn.getf (k := 21) rfl (hO_6.four (q := b2) 0 rfl) (hO_6.c 0 (q := b2) rfl rfl) rfl ?_
  refine Rn.iconst (k := 22) (v := 0) rfl (by decide) ?_
  refine Rn.aload_n (k := 23) rfl rfl ?_
  refine Rn.getf (k := 24) rfl (hP_5.four (q := b) 0 rfl) (hP_5.c 0 (q := b) rfl rfl) rfl ?_
  refine Rn.iconst (k := 25) (v := 0) rfl (by decide) ?_
  refine Rn.bipush (k := 26) (v := 16) rfl (by decide) ?_
  refine Rn.acopy (k := 27) rfl ⟨lkX5_49, w_an, w_as, w_ai⟩ (by decide) (by decide) (hO_6.four (q := b2 + 10) 10 rfl) (hP_5.four (q := b + 10) 10 rfl) (hO_6.c 10 (q := b2 + 10) rfl rfl) (hP_5.c 10 (q := b + 10) rfl rfl) (by decide) (by decide) (by decide) (by decide) (by decide) ?_
  obtain ⟨P_7, eP_7⟩ : ∃ Q0 : Pic, Q0 = pcI P_5 10 (va_cpy (Q.1 10) (P_5.1 10) (0 : Int32).toNatClampNeg (0 : Int32).toNatClampNeg (16 : Int32).toNatClampNeg) := ⟨_, rfl⟩
  rw [hP_5.w P_7 10 (q := b + 10) rfl (Nat.le_of_ble_eq_true rfl) (by rw [eP_7]; rfl), ppC_WW]
  have hP_7 := hP.put P_7 rfl
  have hO_8 := hQ.off (C := ppC) (b := b) (X := P_7) (by first | exact hdis | exact Or.symm hdis | omega)
  exact Rn.retw rfl rfl (by unfold w_copyTiesFrom; first | done | rfl | (subst eP_1; subst eP_3; subst eP_5; subst eP_7; rfl))
theorem kX5_copyTiesFrom {S : Sg} {b : Nat} {b2 : Nat} {P : Pic} {Q : Pic} (hP : pcAt_ ppC S b P) (hQ : pcAt_ ppC S b2 Q)   (hdis : b + 12 ≤ b2 ∨ b2 + 12 ≤ b) : Cl 1 0 0 mX5_copyTiesFrom [.ref b, .ref (b2)] S none (pcW ppC S b (w_copyTiesFrom P Q)) := Cl.of okX5_copyTiesFrom (by intro i v h; match i, h with | 0, h => exact h | 1, h => exact h | n + 2, h => (cases h)) (Nat.le_of_ble_eq_true rfl) rfl (rX5_copyTiesFrom hP hQ hdis)
def w_copyFrom (P : Pic) (Q : Pic)  : Pic := (let P_1 : Pic := pcI P 0 (upd (P.1 0) 0 (Q.1 0 0)); let P_3 : Pic := pcI P_1 1 (va_cpy (Q.1 1) (P_1.1 1) (0 : Int32).toNatClampNeg (0 : Int32).toNatClampNeg (16 : Int32).toNatClampNeg); let P_5 : Pic := pcI P_3 2 (va_cpy (Q.1 2) (P_3.1 2) (0 : Int32).toNatClampNeg (0 : Int32).toNatClampNeg (16 : Int32).toNatClampNeg); let P_7 : Pic := pcI P_5 3 (va_cpy (Q.1 3) (P_5.1 3) (0 : Int32).toNatClampNeg (0 : Int32).toNatClampNeg (16 : Int32).toNatClampNeg); let P_9 : Pic := pcI P_7 4 (va_cpy (Q.1 4) (P_7.1 4) (0 : Int32).toNatClampNeg (0 : Int32).toNatClampNeg (16 : Int32).toNatClampNeg); let P_11 : Pic := pcI P_9 5 (va_cpy (Q.1 5) (P_9.1 5) (0 : Int32).toNatClampNeg (0 : Int32).toNatClampNeg (16 : Int32).toNatClampNeg); let P_13 : Pic := pcI P_11 6 (va_cpy (Q.1 6) (P_11.1 6) (0 : Int32).toNatClampNeg (0 : Int32).toNatClampNeg (16 : Int32).toNatClampNeg); let P_15 : Pic := pcI P_13 7 (va_cpy (Q.1 7) (P_13.1 7) (0 : Int32).toNatClampNeg (0 : Int32).toNatClampNeg (16 : Int32).toNatClampNeg); let P_17 : Pic := pcI P_15 11 (va_cpy (Q.1 11) (P_15.1 11) (0 : Int32).toNatClampNeg (0 : Int32).toNatClampNeg (6 : Int32).toNatClampNeg); let P_19 : Pic := w_copyTiesFrom P_17 Q; P_19)
set_option maxRecDepth 20000 in
theorem rX5_copyFrom {S : Sg} {b : Nat} {b2 : Nat} {P : Pic} {Q : Pic} (hP : pcAt_ ppC S b P) (hQ : pcAt_ ppC S b2 Q)   (hdis : b + 12 ≤ b2 ∨ b2 + 12 ≤ b) : Rn 2 0 0 mX5_copyFrom 0 [some (.ref (b)), some (.ref (b2))] [] S none (pcW ppC S b (w_copyFrom P Q)) := by
  refine Rn.aload_n (k := 0) rfl rfl ?_
  refine Rn.aload_n (k := 1) rfl rfl ?_
  refine Rn.getf (k := 2) rfl (hQ.four (q := b2) 0 rfl) (hQ.c 0 (q := b2) rfl rfl) rfl ?_
  refine Rn.putf (k := 3) rfl (hP.four (q := b) 0 rfl) (hP.c 0 (q := b) rfl rfl) (fun q hq => by cases hq; rfl) (Nat.le_of_ble_eq_true rfl) (by first | rfl | exact b2i_nar _) (by first | rfl | exact b2i_fit _) ?_
  obtain ⟨P_1, eP_1⟩ : ∃ Q0 : Pic, Q0 = pcI P 0 (upd (P.1 0) 0 (Q.1 0 0)) := ⟨_, rfl⟩
  rw [hP.w P_1 0 (q := b) rfl (Nat.le_of_ble_eq_true rfl) (by rw [eP_1]; rfl)]
  have hP_1 := hP.put P_1 rfl
  have hO_2 := hQ.off (C := ppC) (b := b) (X := P_1) (by first | exact hdis | exact Or.symm hdis | omega)
  refine Rn.aload_n (k := 4) rfl rfl ?_
  refine Rn.getf (k := 5) rfl (hO_2.four (q := b2) 0 rfl) (hO_2.c 0 (q := b2) rfl rfl) rfl ?_
  refine Rn.iconst (k := 6) (v := 0) rfl (by decide) ?_
  refine Rn.aload_n (k := 7) rfl rfl ?_
  refine Rn.getf (k := 8) rfl (hP_1.four (q := b) 0 rfl) (hP_1.c 0 (q := b) rfl rfl) rfl ?_
  refine Rn.iconst (k := 9) (v := 0) rfl (by decide) ?_
  refine Rn.bipush (k := 10) (v := 16) rfl (by decide) ?_
  refine Rn.acopy (k := 11) rfl ⟨lkX5_49, w_an, w_as, w_ai⟩ (by decide) (by decide) (hO_2.four (q := b2 + 1) 1 rfl) (hP_1.four (q := b + 1) 1 rfl) (hO_2.c 1 (q := b2 + 1) rfl rfl) (hP_1.c 1 (q := b + 1) rfl rfl) (by decide) (by decide) (by decide) (by decide) (by decide) ?_
  obtain ⟨P_3, eP_3⟩ : ∃ Q0 : Pic, Q0 = pcI P_1 1 (va_cpy (Q.1 1) (P_1.1 1) (0 : Int32).toNatClampNeg (0 : Int32).toNatClampNeg (16 : Int32).toNatClampNeg) := ⟨_, rfl⟩
  rw [hP_1.w P_3 1 (q := b + 1) rfl (Nat.le_of_ble_eq_true rfl) (by rw [eP_3]; rfl), ppC_WW]
  have hP_3 := hP.put P_3 rfl
  have hO_4 := hQ.off (C := ppC) (b := b) (X := P_3) (by first | exact hdis | exact Or.symm hdis | omega)
  refine Rn.aload_n (k := 12) rfl rfl ?_
  refine Rn.getf (k := 13) rfl (hO_4.four (q := b2) 0 rfl) (hO_4.c 0 (q := b2) rfl rfl) rfl ?_
  refine Rn.iconst (k := 14) (v := 0) rfl (by decide) ?_
  refine Rn.aload_n (k := 15) rfl rfl ?_
  refine Rn.getf (k := 16) rfl (hP_3.four (q := b) 0 rfl) (hP_3.c 0 (q := b) rfl rfl) rfl ?_
  refine Rn.iconst (k := 17) (v := 0) rfl (by decide) ?_
  refine Rn.bipush (k := 18) (v := 16) rfl (by decide) ?_
  refine Rn.acopy (k := 19) rfl ⟨lkX5_49, w_an, w_as, w_ai⟩ (by decide) (by decide) (hO_4.four (q := b2 + 2) 2 rfl) (hP_3.four (q := b + 2) 2 rfl) (hO_4.c 2 (q := b2 + 2) rfl rfl) (hP_3.c 2 (q := b + 2) rfl rfl) (by decide) (by decide) (by decide) (by decide) (by decide) ?_
  obtain ⟨P_5, eP_5⟩ : ∃ Q0 : Pic, Q0 = pcI P_3 2 (va_cpy (Q.1 2) (P_3.1 2) (0 : Int32).toNatClampNeg (0 : Int32).toNatClampNeg (16 : Int32).toNatClampNeg) := ⟨_, rfl⟩
  rw [hP_3.w P_5 2 (q := b + 2) rfl (Nat.le_of_ble_eq_true rfl) (by rw [eP_5]; rfl), ppC_WW]
  have hP_5 := hP.put P_5 rfl
  have hO_6 := hQ.off (C := ppC) (b := b) (X := P_5) (by first | exact hdis | exact Or.symm hdis | omega)
  refine Rn.aload_n (k := 20) rfl rfl ?_
  refine Rn.getf (k := 21) rfl (hO_6.four (q := b2) 0 rfl) (hO_6.c 0 (q := b2) rfl rfl) rfl ?_
  refine Rn.iconst (k := 22) (v := 0) rfl (by decide) ?_
  refine Rn.aload_n (k := 23) rfl rfl ?_
  refine Rn.getf (k := 24) rfl (hP_5.four (q := b) 0 rfl) (hP_5.c 0 (q := b) rfl rfl) rfl ?_
  refine Rn.iconst (k := 25) (v := 0) rfl (by decide) ?_
  refine Rn.bipush (k := 26) (v := 16) rfl (by decide) ?_
  refine Rn.acopy (k := 27) rfl ⟨lkX5_49, w_an, w_as, w_ai⟩ (by decide) (by decide) (hO_6.four (q := b2 + 3) 3 rfl) (hP_5.four (q := b + 3) 3 rfl) (hO_6.c 3 (q := b2 + 3) rfl rfl) (hP_5.c 3 (q := b + 3) rfl rfl) (by decide) (by decide) (by decide) (by decide) (by decide) ?_
  obtain ⟨P_7, eP_7⟩ : ∃ Q0 : Pic, Q0 = pcI P_5 3 (va_cpy (Q.1 3) (P_5.1 3) (0 : Int32).toNatClampNeg (0 : Int32).toNatClampNeg (16 : Int32).toNatClampNeg) := ⟨_, rfl⟩
  rw [hP_5.w P_7 3 (q := b + 3) rfl (Nat.le_of_ble_eq_true rfl) (by rw [eP_7]; rfl), ppC_WW]
  have hP_7 := hP.put P_7 rfl
  have hO_8 := hQ.off (C := ppC) (b := b) (X := P_7) (by first | exact hdis | exact Or.symm hdis | omega)
  refine Rn.aload_n (k := 28) rfl rfl ?_
  refine Rn.getf (k := 29) rfl (hO_8.four (q := b2) 0 rfl) (hO_8.c 0 (q := b2) rfl rfl) rfl ?_
  refine Rn.iconst (k := 30) (v := 0) rfl (by decide) ?_
  refine Rn.aload_n (k := 31) rfl rfl ?_
  refine Rn.getf (k := 32) rfl (hP_7.four (q := b) 0 rfl) (hP_7.c 0 (q := b) rfl rfl) rfl ?_
  refine Rn.iconst (k := 33) (v := 0) rfl (by decide) ?_
  refine Rn.bipush (k := 34) (v := 16) rfl (by decide) ?_
  refine Rn.acopy (k := 35) rfl ⟨lkX5_49, w_an, w_as, w_ai⟩ (by decide) (by decide) (hO_8.four (q := b2 + 4) 4 rfl) (hP_7.four (q := b + 4) 4 rfl) (hO_8.c 4 (q := b2 + 4) rfl rfl) (hP_7.c 4 (q := b + 4) rfl rfl) (by decide) (by decide) (by decide) (by decide) (by decide) ?_
  obtain ⟨P_9, eP_9⟩ : ∃ Q0 : Pic, Q0 = pcI P_7 4 (va_cpy (Q.1 4) (P_7.1 4) (0 : Int32).toNatClampNeg (0 : Int32).toNatClampNeg (16 : Int32).toNatClampNeg) := ⟨_, rfl⟩
  rw [hP_7.w P_9 4 (q := b + 4) rfl (Nat.le_of_ble_eq_true rfl) (by rw [eP_9]; rfl), ppC_WW]
  have hP_9 := hP.put P_9 rfl
  have hO_10 := hQ.off (C := ppC) (b := b) (X := P_9) (by first | exact hdis | exact Or.symm hdis | omega)
  refine Rn.aload_n (k := 36) rfl rfl ?_
  refine Rn.getf (k := 37) rfl (hO_10.four (q := b2) 0 rfl) (hO_10.c 0 (q := b2) rfl rfl) rfl ?_
  refine Rn.iconst (k := 38) (v := 0) rfl (by decide) ?_
  refine Rn.aload_n (k := 39) rfl rfl ?_
  refine Rn.getf (k := 40) rfl (hP_9.four (q := b) 0 rfl) (hP_9.c 0 (q := b) rfl rfl) rfl ?_
  refine Rn.iconst (k := 41) (v := 0) rfl (by decide) ?_
  refine Rn.bipush (k := 42) (v := 16) rfl (by decide) ?_
  refine Rn.acopy (k := 43) rfl ⟨lkX5_49, w_an, w_as, w_ai⟩ (by decide) (by decide) (hO_10.four (q := b2 + 5) 5 rfl) (hP_9.four (q := b + 5) 5 rfl) (hO_10.c 5 (q := b2 + 5) rfl rfl) (hP_9.c 5 (q := b + 5) rfl rfl) (by decide) (by decide) (by decide) (by decide) (by decide) ?_
  obtain ⟨P_11, eP_11⟩ : ∃ Q0 : Pic, Q0 = pcI P_9 5 (va_cpy (Q.1 5) (P_9.1 5) (0 : Int32).toNatClampNeg (0 : Int32).toNatClampNeg (16 : Int32).toNatClampNeg) := ⟨_, rfl⟩
  rw [hP_9.w P_11 5 (q := b + 5) rfl (Nat.le_of_ble_eq_true rfl) (by rw [eP_11]; rfl), ppC_WW]
  have hP_11 := hP.put P_11 rfl
  have hO_12 := hQ.off (C := ppC) (b := b) (X := P_11) (by first | exact hdis | exact Or.symm hdis | omega)
  refine Rn.aload_n (k := 44) rfl rfl ?_
  refine Rn.getf (k := 45) rfl (hO_12.four (q := b2) 0 rfl) (hO_12.c 0 (q := b2) rfl rfl) rfl ?_
  refine Rn.iconst (k := 46) (v := 0) rfl (by decide) ?_
  refine Rn.aload_n (k := 47) rfl rfl ?_
  refine Rn.getf (k := 48) rfl (hP_11.four (q := b) 0 rfl) (hP_11.c 0 (q := b) rfl rfl) rfl ?_
  refine Rn.iconst (k := 49) (v := 0) rfl (by decide) ?_
  refine Rn.bipush (k := 50) (v := 16) rfl (by decide) ?_
  refine Rn.acopy (k := 51) rfl ⟨lkX5_49, w_an, w_as, w_ai⟩ (by decide) (by decide) (hO_12.four (q := b2 + 6) 6 rfl) (hP_11.four (q := b + 6) 6 rfl) (hO_12.c 6 (q := b2 + 6) rfl rfl) (hP_11.c 6 (q := b + 6) rfl rfl) (by decide) (by decide) (by decide) (by decide) (by decide) ?_
  obtain ⟨P_13, eP_13⟩ : ∃ Q0 : Pic, Q0 = pcI P_11 6 (va_cpy (Q.1 6) (P_11.1 6) (0 : Int32).toNatClampNeg (0 : Int32).toNatClampNeg (16 : Int32).toNatClampNeg) := ⟨_, rfl⟩
  rw [hP_11.w P_13 6 (q := b + 6) rfl (Nat.le_of_ble_eq_true rfl) (by rw [eP_13]; rfl), ppC_WW]
  have hP_13 := hP.put P_13 rfl
  have hO_14 := hQ.off (C := ppC) (b := b) (X := P_13) (by first | exact hdis | exact Or.symm hdis | omega)
  refine Rn.aload_n (k := 52) rfl rfl ?_
  refine Rn.getf (k := 53) rfl (hO_14.four (q := b2) 0 rfl) (hO_14.c 0 (q := b2) rfl rfl) rfl ?_
  refine Rn.iconst (k := 54) (v := 0) rfl (by decide) ?_
  refine Rn.aload_n (k := 55) rfl rfl ?_
  refine Rn.getf (k := 56) rfl (hP_13.four (q := b) 0 rfl) (hP_13.c 0 (q := b) rfl rfl) rfl ?_
  refine Rn.iconst (k := 57) (v := 0) rfl (by decide) ?_
  refine Rn.bipush (k := 58) (v := 16) rfl (by decide) ?_
  refine Rn.acopy (k := 59) rfl ⟨lkX5_49, w_an, w_as, w_ai⟩ (by decide) (by decide) (hO_14.four (q := b2 + 7) 7 rfl) (hP_13.four (q := b + 7) 7 rfl) (hO_14.c 7 (q := b2 + 7) rfl rfl) (hP_13.c 7 (q := b + 7) rfl rfl) (by decide) (by decide) (by decide) (by decide) (by decide) ?_
  obtain ⟨P_15, eP_15⟩ : ∃ Q0 : Pic, Q0 = pcI P_13 7 (va_cpy (Q.1 7) (P_13.1 7) (0 : Int32).toNatClampNeg (0 : Int32).toNatClampNeg (16 : Int32).toNatClampNeg) := ⟨_, rfl⟩
  rw [hP_13.w P_15 7 (q := b + 7) rfl (Nat.le_of_ble_eq_true rfl) (by rw [eP_15]; rfl), ppC_WW]
  have hP_15 := hP.put P_15 rfl
  have hO_16 := hQ.off (C := ppC) (b := b) (X := P_15) (by first | exact hdis | exact Or.symm hdis | omega)
  refine Rn.aload_n (k := 60) rfl rfl ?_
  refine Rn.getf (k := 61) rfl (hO_16.four (q := b2) 0 rfl) (hO_16.c 0 (q := b2) rfl rfl) rfl ?_
  refine Rn.iconst (k := 62) (v := 0) rfl (by decide) ?_
  refine Rn.aload_n (k := 63) rfl rfl ?_
  refine Rn.getf (k := 64) rfl (hP_15.four (q := b) 0 rfl) (hP_15.c 0 (q := b) rfl rfl) rfl ?_
  refine Rn.iconst (k := 65) (v := 0) rfl (by decide) ?_
  refine Rn.bipush (k := 66) (v := 6) rfl (by decide) ?_
  refine Rn.acopy (k := 67) rfl ⟨lkX5_49, w_an, w_as, w_ai⟩ (by decide) (by decide) (hO_16.four (q := b2 + 11) 11 rfl) (hP_15.four (q := b + 11) 11 rfl) (hO_16.c 11 (q := b2 + 11) rfl rfl) (hP_15.c 11 (q := b + 11) rfl rfl) (by decide) (by decide) (by decide) (by decide) (by decide) ?_
  obtain ⟨P_17, eP_17⟩ : ∃ Q0 : Pic, Q0 = pcI P_15 11 (va_cpy (Q.1 11) (P_15.1 11) (0 : Int32).toNatClampNeg (0 : Int32).toNatClampNeg (6 : Int32).toNatClampNeg) := ⟨_, rfl⟩
  rw [hP_15.w P_17 11 (q := b + 11) rfl (Nat.le_of_ble_eq_true rfl) (by rw [eP_17]; rfl), ppC_WW]
  have hP_17 := hP.put P_17 rfl
  have hO_18 := hQ.off (C := ppC) (b := b) (X := P_17) (by first | exact hdis | exact Or.symm hdis | omega)
  refine Rn.aload_n (k := 68) rfl rfl ?_
  refine Rn.aload_n (k := 69) rfl rfl ?_
  refine Rn.callV0 (k := 70) (M' := mX5_copyTiesFrom) rfl lkX5_55 rfl (hP_17.four (q := b) 0 rfl) (hP_17.c 0 (q := b) rfl rfl) rfl (kX5_copyTiesFrom hP_17 hO_18  (by first | with_reducible assumption)) (by decide) rfl rfl (Nat.le_of_ble_eq_true rfl) ?_
  obtain ⟨P_19, eP_19⟩ : ∃ Q0 : Pic, Q0 = w_copyTiesFrom P_17 Q := ⟨_, rfl⟩
  rw [← eP_19, ppC_WW]
  have hP_19 := hP.put P_19 rfl
  have hO_20 := hQ.off (C := ppC) (b := b) (X := P_19) (by first | exact hdis | exact Or.symm hdis | omega)
  exact Rn.retw rfl rfl (by unfold w_copyFrom; first | done | rfl | (subst eP_1; subst eP_3; subst eP_5; subst eP_7; subst eP_9; subst eP_11; subst eP_13; subst eP_15; subst eP_17; subst eP_19; rfl))
theorem kX5_copyFrom {S : Sg} {b : Nat} {b2 : Nat} {P : Pic} {Q : Pic} (hP : pcAt_ ppC S b P) (hQ : pcAt_ ppC S b2 Q)   (hdis : b + 12 ≤ b2 ∨ b2 + 12 ≤ b) : Cl 2 0 0 mX5_copyFrom [.ref b, .ref (b2)] S none (pcW ppC S b (w_copyFrom P Q)) := Cl.of okX5_copyFrom (by intro i v h; match i, h with | 0, h => exact h | 1, h => exact h | n + 2, h => (cases h)) (Nat.le_of_ble_eq_true rfl) rfl (rX5_copyFrom hP hQ hdis)
def l_reckon1 (P : Pic) (o : Int32) : Nat → Nat → Int32 → Pic → Int32 × Pic
  | 0, k, g, Q => (g, Q)
  | n + 1, k, g, Q => (if (Q.1 0 0) ≤ nI k then (g, Q) else (if ((v_withLine Q ((Q.1 8 (nI k).toNatClampNeg))) ||| (v_withLine Q ((Q.1 9 (nI k).toNatClampNeg)))) = (Q.1 10 (nI k).toNatClampNeg) then l_reckon1 P o n (k + 1) ((g ||| 0)) ((pcI Q 10 (upd (Q.1 10) (nI k : Int32).toNatClampNeg ((v_withLine Q ((Q.1 8 (nI k).toNatClampNeg))) ||| (v_withLine Q ((Q.1 9 (nI k).toNatClampNeg))))))) else l_reckon1 P o n (k + 1) ((g ||| 1)) ((pcI Q 10 (upd (Q.1 10) (nI k : Int32).toNatClampNeg ((v_withLine Q ((Q.1 8 (nI k).toNatClampNeg))) ||| (v_withLine Q ((Q.1 9 (nI k).toNatClampNeg)))))))))
set_option maxHeartbeats 4000000 in
set_option maxRecDepth 20000 in
theorem c_reckon1 {d kc ks : Nat} {rv : Option Value} {S' : Sg} {S : Sg} {b : Nat} {P : Pic} (hP : pcAt_ ppC S b P) {N : Nat} (o : Int32) (hw8 : ∀ i : Nat, i < 16 → ¬ P.1 8 i = -1 → vp_in (P.1 8 i) 16) (hw9 : ∀ i : Nat, i < 16 → ¬ P.1 9 i = -1 → vp_in (P.1 9 i) 16) (h16 : N ≤ 16) (hd : 2 ≤ d) : ∀ (n k : Nat) (g : Int32) (Q : Pic), N - k < n → k ≤ N → (Q.1 0 0 = nI N) → (Q.1 8 = P.1 8) → (Q.1 9 = P.1 9) → (((l_reckon1 P o n k (g) (Q)).2.1 0 0 = nI N) → ((l_reckon1 P o n k (g) (Q)).2.1 8 = P.1 8) → ((l_reckon1 P o n k (g) (Q)).2.1 9 = P.1 9) → Rn d kc ks mX5_reckonLines 55 [some (.ref (b)), some (.int ((l_reckon1 P o n k (g) (Q)).1)), some (.int (o)), none, none] [] (pcW ppC S b (l_reckon1 P o n k (g) (Q)).2) rv S') → Rn d kc ks mX5_reckonLines 18 [some (.ref (b)), some (.int (g)), some (.int (o)), some (.int (nI k)), none] [] (pcW ppC S b Q) rv S' := by
  intro n
  induction n with
  | zero => intro k g Q h; exact absurd h (Nat.not_lt_zero _)
  | succ n ih =>
    intro k g Q hm hkN hQ1 hQ8 hQ9 hc
    refine Rn.iload_n (k := 18) rfl rfl ?_
    refine Rn.aload_n (k := 19) rfl rfl ?_
    refine Rn.getf (k := 20) rfl ((hP.put Q rfl).four (q := b) 0 rfl) ((hP.put Q rfl).c 0 (q := b) rfl rfl) rfl ?_
    refine Rn.icmp_ge (k := 21) rfl (fun cl_1 => ?_) (fun cl_1 => ?_)
    · refine Rn.forget (ls' := [some (.ref (b)), some (.int (g)), some (.int (o)), none, none]) (by intro i v h; match i, h with | 0, h => exact h | 1, h => exact h | 2, h => exact h | 3, h => (cases h) | 4, h => (cases h) | n + 5, h => (cases h)) ?_
      exact (by have e : l_reckon1 P o (n + 1) k (g) (Q) = (g, Q) := (by simp only [l_reckon1, if_pos cl_1]); rw [e] at hc; exact hc (by exact hQ1) (by exact hQ8) (by exact hQ9))
    · have hltl_2 : k < N := Nat.lt_of_not_le (fun q => cl_1 (by rw [hQ1]; exact nI_le q (by omega)))
      have hinl_3 : vp_in (nI k) 16 := vp_in_nI (by omega) (by decide)
      refine Rn.aload_n (k := 22) rfl rfl ?_
      refine Rn.aload_n (k := 23) rfl rfl ?_
      refine Rn.getf (k := 24) rfl ((hP.put Q rfl).four (q := b) 0 rfl) ((hP.put Q rfl).c 0 (q := b) rfl rfl) rfl ?_
      refine Rn.iload_n (k := 25) rfl rfl ?_
      refine Rn.iald (k := 26) rfl ((hP.put Q rfl).c 8 (q := b + 8) rfl rfl) (by first | with_reducible assumption) ?_
      refine Rn.callV0 (k := 27) (M' := mX5_withLine) rfl lkX5_85 rfl ((hP.put Q rfl).four (q := b) 0 rfl) ((hP.put Q rfl).c 0 (q := b) rfl rfl) rfl (kX5_withLine (hP.put Q rfl) ((Q.1 8 (nI k).toNatClampNeg)) (by first | (rw [hQ8]; exact hw8 _ (in_lt (by with_reducible assumption))) | (rw [hQ9]; exact hw9 _ (in_lt (by with_reducible assumption))) | with_reducible assumption)) (by omega) rfl rfl (Nat.le_of_ble_eq_true rfl) ?_
      refine Rn.aload_n (k := 28) rfl rfl ?_
      refine Rn.aload_n (k := 29) rfl rfl ?_
      refine Rn.getf (k := 30) rfl ((hP.put Q rfl).four (q := b) 0 rfl) ((hP.put Q rfl).c 0 (q := b) rfl rfl) rfl ?_
      refine Rn.iload_n (k := 31) rfl rfl ?_
      refine Rn.iald (k := 32) rfl ((hP.put Q rfl).c 9 (q := b + 9) rfl rfl) (by first | with_reducible assumption) ?_
      refine Rn.callV0 (k := 33) (M' := mX5_withLine) rfl lkX5_85 rfl ((hP.put Q rfl).four (q := b) 0 rfl) ((hP.put Q rfl).c 0 (q := b) rfl rfl) rfl (kX5_withLine (hP.put Q rfl) ((Q.1 9 (nI k).toNatClampNeg)) (by first | (rw [hQ8]; exact hw8 _ (in_lt (by with_reducible assumption))) | (rw [hQ9]; exact hw9 _ (in_lt (by with_reducible assumption))) | with_reducible assumption)) (by omega) rfl rfl (Nat.le_of_ble_eq_true rfl) ?_
      refine Rn.ior (k := 34) rfl ?_
      refine Rn.istore (k := 35) rfl (by decide) rfl ?_
      refine Rn.iload_n (k := 36) rfl rfl ?_
      refine Rn.iload (k := 37) rfl rfl ?_
      refine Rn.aload_n (k := 38) rfl rfl ?_
      refine Rn.getf (k := 39) rfl ((hP.put Q rfl).four (q := b) 0 rfl) ((hP.put Q rfl).c 0 (q := b) rfl rfl) rfl ?_
      refine Rn.iload_n (k := 40) rfl rfl ?_
      refine Rn.iald (k := 41) rfl ((hP.put Q rfl).c 10 (q := b + 10) rfl rfl) (by first | with_reducible assumption) ?_
      refine Rn.icmp_eq (k := 42) rfl (fun cl_4 => ?_) (fun cl_4 => ?_)
      · refine Rn.iconst (k := 45) (v := 0) rfl (by decide) ?_
        refine Rn.ior (k := 46) rfl ?_
        refine Rn.istore_n (k := 47) rfl (by decide) rfl ?_
        refine Rn.aload_n (k := 48) rfl rfl ?_
        refine Rn.getf (k := 49) rfl ((hP.put Q rfl).four (q := b) 0 rfl) ((hP.put Q rfl).c 0 (q := b) rfl rfl) rfl ?_
        refine Rn.iload_n (k := 50) rfl rfl ?_
        refine Rn.iload (k := 51) rfl rfl ?_
        refine Rn.iast (k := 52) rfl ((hP.put Q rfl).four (q := b + 10) 10 rfl) ((hP.put Q rfl).c 10 (q := b + 10) rfl rfl) (by first | with_reducible assumption) ?_
        obtain ⟨Pl_5, ePl_5⟩ : ∃ Q0 : Pic, Q0 = pcI Q 10 (upd (Q.1 10) (nI k : Int32).toNatClampNeg ((v_withLine Q ((Q.1 8 (nI k).toNatClampNeg))) ||| (v_withLine Q ((Q.1 9 (nI k).toNatClampNeg))))) := ⟨_, rfl⟩
        rw [(hP.put Q rfl).w Pl_5 10 (q := b + 10) rfl (Nat.le_of_ble_eq_true rfl) (by rw [ePl_5]; rfl), ppC_WW]
        have hPl_5 := hP.put Pl_5 rfl
        refine Rn.iinc (k := 53) (v := nI (k + 1)) rfl rfl (nI_1 k) (by decide) rfl ?_
        refine Rn.goto (k := 54) rfl ?_
        refine Rn.forget (ls' := [some (.ref (b)), some (.int ((g ||| 0))), some (.int (o)), some (.int (nI (k + 1))), none]) (by intro i v h; match i, h with | 0, h => exact h | 1, h => exact h | 2, h => exact h | 3, h => exact h | 4, h => (cases h) | n + 5, h => (cases h)) ?_
        exact ih (k + 1) ((g ||| 0)) Pl_5 (by omega) (by omega) (by rw [ePl_5]; exact hQ1) (by rw [ePl_5]; exact hQ8) (by rw [ePl_5]; exact hQ9) (by have e : l_reckon1 P o (n + 1) k (g) (Q) = l_reckon1 P o n (k + 1) ((g ||| 0)) (Pl_5) := (by rw [ePl_5]; simp only [l_reckon1, if_neg cl_1, if_pos cl_4]); rw [e] at hc; exact hc)
      · refine Rn.iconst (k := 43) (v := 1) rfl (by decide) ?_
        refine Rn.goto (k := 44) rfl ?_
        refine Rn.ior (k := 46) rfl ?_
        refine Rn.istore_n (k := 47) rfl (by decide) rfl ?_
        refine Rn.aload_n (k := 48) rfl rfl ?_
        refine Rn.getf (k := 49) rfl ((hP.put Q rfl).four (q := b) 0 rfl) ((hP.put Q rfl).c 0 (q := b) rfl rfl) rfl ?_
        refine Rn.iload_n (k := 50) rfl rfl ?_
        refine Rn.iload (k := 51) rfl rfl ?_
        refine Rn.iast (k := 52) rfl ((hP.put Q rfl).four (q := b + 10) 10 rfl) ((hP.put Q rfl).c 10 (q := b + 10) rfl rfl) (by first | with_reducible assumption) ?_
        obtain ⟨Pl_6, ePl_6⟩ : ∃ Q0 : Pic, Q0 = pcI Q 10 (upd (Q.1 10) (nI k : Int32).toNatClampNeg ((v_withLine Q ((Q.1 8 (nI k).toNatClampNeg))) ||| (v_withLine Q ((Q.1 9 (nI k).toNatClampNeg))))) := ⟨_, rfl⟩
        rw [(hP.put Q rfl).w Pl_6 10 (q := b + 10) rfl (Nat.le_of_ble_eq_true rfl) (by rw [ePl_6]; rfl), ppC_WW]
        have hPl_6 := hP.put Pl_6 rfl
        refine Rn.iinc (k := 53) (v := nI (k + 1)) rfl rfl (nI_1 k) (by decide) rfl ?_
        refine Rn.goto (k := 54) rfl ?_
        refine Rn.forget (ls' := [some (.ref (b)), some (.int ((g ||| 1))), some (.int (o)), some (.int (nI (k + 1))), none]) (by intro i v h; match i, h with | 0, h => exact h | 1, h => exact h | 2, h => exact h | 3, h => exact h | 4, h => (cases h) | n + 5, h => (cases h)) ?_
        exact ih (k + 1) ((g ||| 1)) Pl_6 (by omega) (by omega) (by rw [ePl_6]; exact hQ1) (by rw [ePl_6]; exact hQ8) (by rw [ePl_6]; exact hQ9) (by have e : l_reckon1 P o (n + 1) k (g) (Q) = l_reckon1 P o n (k + 1) ((g ||| 1)) (Pl_6) := (by rw [ePl_6]; simp only [l_reckon1, if_neg cl_1, if_neg cl_4]); rw [e] at hc; exact hc)
def l_reckon0 (P : Pic)  : Nat → Nat → Int32 → Pic → Int32 × Pic
  | 0, k, g, Q => (g, Q)
  | n + 1, k, g, Q => (if (Q.1 0 0) ≤ nI k then (g, Q) else (if g = 0 then (g, Q) else l_reckon0 P n (k + 1) ((l_reckon1 P (nI k) 17 0 (0) Q).1) (((l_reckon1 P (nI k) 17 0 (0) Q).2))))
set_option maxHeartbeats 4000000 in
set_option maxRecDepth 20000 in
theorem c_reckon0 {d kc ks : Nat} {rv : Option Value} {S' : Sg} {S : Sg} {b : Nat} {P : Pic} (hP : pcAt_ ppC S b P) {N : Nat}  (hw8 : ∀ i : Nat, i < 16 → ¬ P.1 8 i = -1 → vp_in (P.1 8 i) 16) (hw9 : ∀ i : Nat, i < 16 → ¬ P.1 9 i = -1 → vp_in (P.1 9 i) 16) (h16 : N ≤ 16) (hd : 2 ≤ d) : ∀ (n k : Nat) (g : Int32) (Q : Pic), N - k < n → k ≤ N → (Q.1 0 0 = nI N) → (Q.1 8 = P.1 8) → (Q.1 9 = P.1 9) → (((l_reckon0 P n k (g) (Q)).2.1 0 0 = nI N) → ((l_reckon0 P n k (g) (Q)).2.1 8 = P.1 8) → ((l_reckon0 P n k (g) (Q)).2.1 9 = P.1 9) → Rn d kc ks mX5_reckonLines 57 [some (.ref (b)), some (.int ((l_reckon0 P n k (g) (Q)).1)), none, none, none] [] (pcW ppC S b (l_reckon0 P n k (g) (Q)).2) rv S') → Rn d kc ks mX5_reckonLines 8 [some (.ref (b)), some (.int (g)), some (.int (nI k)), none, none] [] (pcW ppC S b Q) rv S' := by
  intro n
  induction n with
  | zero => intro k g Q h; exact absurd h (Nat.not_lt_zero _)
  | succ n ih =>
    intro k g Q hm hkN hQ1 hQ8 hQ9 hc
    refine Rn.iload_n (k := 8) rfl rfl ?_
    refine Rn.aload_n (k := 9) rfl rfl ?_
    refine Rn.getf (k := 10) rfl ((hP.put Q rfl).four (q := b) 0 rfl) ((hP.put Q rfl).c 0 (q := b) rfl rfl) rfl ?_
    refine Rn.icmp_ge (k := 11) rfl (fun cl_1 => ?_) (fun cl_1 => ?_)
    · refine Rn.forget (ls' := [some (.ref (b)), some (.int (g)), none, none, none]) (by intro i v h; match i, h with | 0, h => exact h | 1, h => exact h | 2, h => (cases h) | 3, h => (cases h) | 4, h => (cases h) | n + 5, h => (cases h)) ?_
      exact (by have e : l_reckon0 P (n + 1) k (g) (Q) = (g, Q) := (by simp only [l_reckon0, if_pos cl_1]); rw [e] at hc; exact hc (by first | with_reducible assumption | (exact hQ1)) (by first | with_reducible assumption | (exact hQ8)) (by first | with_reducible assumption | (exact hQ9)))
    · have hltl_2 : k < N := Nat.lt_of_not_le (fun q => cl_1 (by rw [hQ1]; exact nI_le q (by omega)))
      have hinl_3 : vp_in (nI k) 16 := vp_in_nI (by omega) (by decide)
      refine Rn.iload_n (k := 12) rfl rfl ?_
      refine Rn.if_eq (k := 13) rfl (fun cl_4 => ?_) (fun cl_4 => ?_)
      · refine Rn.forget (ls' := [some (.ref (b)), some (.int (g)), none, none, none]) (by intro i v h; match i, h with | 0, h => exact h | 1, h => exact h | 2, h => (cases h) | 3, h => (cases h) | 4, h => (cases h) | n + 5, h => (cases h)) ?_
        exact (by have e : l_reckon0 P (n + 1) k (g) (Q) = (g, Q) := (by simp only [l_reckon0, if_neg cl_1, if_pos cl_4]); rw [e] at hc; exact hc (by first | with_reducible assumption | (exact hQ1)) (by first | with_reducible assumption | (exact hQ8)) (by first | with_reducible assumption | (exact hQ9)))
      · refine Rn.iconst (k := 14) (v := 0) rfl (by decide) ?_
        refine Rn.istore_n (k := 15) rfl (by decide) rfl ?_
        refine Rn.iconst (k := 16) (v := 0) rfl (by decide) ?_
        refine Rn.istore_n (k := 17) rfl (by decide) rfl ?_
        refine Rn.forget (ls' := [some (.ref (b)), some (.int (0)), some (.int (nI k)), some (.int (nI 0)), none]) (by intro i v h; match i, h with | 0, h => exact h | 1, h => exact h | 2, h => exact h | 3, h => exact h | 4, h => (cases h) | n + 5, h => (cases h)) ?_
        refine c_reckon1 hP (nI k) hw8 hw9 h16 (by first | decide | omega) 17 0 (0) Q (by omega) (Nat.zero_le _) (by exact hQ1) (by exact hQ8) (by exact hQ9) (fun hIl_5 hIl_6 hIl_7 => ?_)
        obtain ⟨Pl_8, ePl_8⟩ : ∃ Q0 : Pic, Q0 = (l_reckon1 P (nI k) 17 0 (0) Q).2 := ⟨_, rfl⟩
        rw [← ePl_8]
        have hPl_8 := hP.put Pl_8 rfl
        (try rw [← ePl_8] at hIl_5)
        (try rw [← ePl_8] at hIl_6)
        (try rw [← ePl_8] at hIl_7)
        refine Rn.iinc (k := 55) (v := nI (k + 1)) rfl rfl (nI_1 k) (by decide) rfl ?_
        refine Rn.goto (k := 56) rfl ?_
        refine Rn.forget (ls' := [some (.ref (b)), some (.int ((l_reckon1 P (nI k) 17 0 (0) Q).1)), some (.int (nI (k + 1))), none, none]) (by intro i v h; match i, h with | 0, h => exact h | 1, h => exact h | 2, h => exact h | 3, h => (cases h) | 4, h => (cases h) | n + 5, h => (cases h)) ?_
        exact ih (k + 1) ((l_reckon1 P (nI k) 17 0 (0) Q).1) Pl_8 (by omega) (by omega) (by first | with_reducible assumption | (rw [ePl_8]; exact hQ1)) (by first | with_reducible assumption | (rw [ePl_8]; exact hQ8)) (by first | with_reducible assumption | (rw [ePl_8]; exact hQ9)) (by have e : l_reckon0 P (n + 1) k (g) (Q) = l_reckon0 P n (k + 1) ((l_reckon1 P (nI k) 17 0 (0) Q).1) (Pl_8) := (by rw [ePl_8]; simp only [l_reckon0, if_neg cl_1, if_neg cl_4]); rw [e] at hc; exact hc)
def w_reckonLines (P : Pic)  : Pic := (let P_1 : Pic := pcI P 10 ((w_fill (fun _ => P.1 10, fun _ _ => 0, fun _ _ => none) 0).1 0); let P_5 : Pic := (l_reckon0 P  17 0 (1) P_1).2; P_5)
set_option maxRecDepth 20000 in
theorem rX5_reckonLines {S : Sg} {b : Nat} {P : Pic} (hP : pcAt_ ppC S b P) {N : Nat}  (hw8 : ∀ i : Nat, i < 16 → ¬ P.1 8 i = -1 → vp_in (P.1 8 i) 16) (hw9 : ∀ i : Nat, i < 16 → ¬ P.1 9 i = -1 → vp_in (P.1 9 i) 16) (hN : P.1 0 0 = nI N) (h16 : N ≤ 16) : Rn 2 0 0 mX5_reckonLines 0 [some (.ref (b)), none, none, none, none] [] S none (pcW ppC S b (w_reckonLines P)) := by
  refine Rn.aload_n (k := 0) rfl rfl ?_
  refine Rn.getf (k := 1) rfl (hP.four (q := b) 0 rfl) (hP.c 0 (q := b) rfl rfl) rfl ?_
  refine Rn.iconst (k := 2) (v := 0) rfl (by decide) ?_
  refine Rn.callS0 (k := 3) (M' := mJ7_fill_53178) rfl lkX5_96 rfl (kfill (hP.four (q := b + 10) 10 rfl) (hP.c 10 (q := b + 10) rfl rfl) (0)) (by first | decide | omega) rfl rfl (Nat.le_of_ble_eq_true rfl) ?_
  obtain ⟨P_1, eP_1⟩ : ∃ Q0 : Pic, Q0 = pcI P 10 ((w_fill (fun _ => P.1 10, fun _ _ => 0, fun _ _ => none) 0).1 0) := ⟨_, rfl⟩
  rw [hP.w P_1 10 (q := b + 10) rfl (Nat.le_of_ble_eq_true rfl) (by rw [eP_1]; rfl)]
  have hP_1 := hP.put P_1 rfl
  refine Rn.iconst (k := 4) (v := 1) rfl (by decide) ?_
  refine Rn.istore_n (k := 5) rfl (by decide) rfl ?_
  refine Rn.iconst (k := 6) (v := 0) rfl (by decide) ?_
  refine Rn.istore_n (k := 7) rfl (by decide) rfl ?_
  refine Rn.forget (ls' := [some (.ref (b)), some (.int (1)), some (.int (nI 0)), none, none]) (by intro i v h; match i, h with | 0, h => exact h | 1, h => exact h | 2, h => exact h | 3, h => (cases h) | 4, h => (cases h) | n + 5, h => (cases h)) ?_
  refine c_reckon0 hP  hw8 hw9 h16 (by first | decide | omega) 17 0 (1) P_1 (by omega) (Nat.zero_le _) (by rw [eP_1]; exact hN) (by rw [eP_1]; rfl) (by rw [eP_1]; rfl) (fun hI_2 hI_3 hI_4 => ?_)
  obtain ⟨P_5, eP_5⟩ : ∃ Q0 : Pic, Q0 = (l_reckon0 P  17 0 (1) P_1).2 := ⟨_, rfl⟩
  rw [← eP_5]
  have hP_5 := hP.put P_5 rfl
  (try rw [← eP_5] at hI_2)
  (try rw [← eP_5] at hI_3)
  (try rw [← eP_5] at hI_4)
  exact Rn.retw rfl rfl (by unfold w_reckonLines; first | done | rfl | (subst eP_1; subst eP_5; rfl))
theorem kX5_reckonLines {S : Sg} {b : Nat} {P : Pic} (hP : pcAt_ ppC S b P) {N : Nat}  (hw8 : ∀ i : Nat, i < 16 → ¬ P.1 8 i = -1 → vp_in (P.1 8 i) 16) (hw9 : ∀ i : Nat, i < 16 → ¬ P.1 9 i = -1 → vp_in (P.1 9 i) 16) (hN : P.1 0 0 = nI N) (h16 : N ≤ 16) : Cl 2 0 0 mX5_reckonLines [.ref b] S none (pcW ppC S b (w_reckonLines P)) := Cl.of okX5_reckonLines (by intro i v h; match i, h with | 0, h => exact h | 1, h => (cases h) | 2, h => (cases h) | 3, h => (cases h) | 4, h => (cases h) | n + 5, h => (cases h)) (Nat.le_of_ble_eq_true rfl) rfl (rX5_reckonLines hP hw8 hw9 hN h16)
end
section
/-! trade; KINSHIP; LEDGER (laid by program, but for the rows on what stays) -/
def knC : Cls := fun b X => [.inr (3, [.ref (b + 1), .ref (b + 2), .ref (b + 3), .int (X.1 0 3)]), .inl (.int, 16, .inl (X.1 1)), .inl (.int, 16, .inl (X.1 2)), .inl (.int, 16, .inl (X.1 3))]
theorem knC_WW {S : Sg} {b : Nat} {X X' : Pic} : pcW knC (pcW knC S b X) b X' = pcW knC S b X' := pcW_W rfl
def lgC : Cls := fun b X => [.inr (4, [.ref (b + 1), .ref (b + 2), .ref (b + 3), .ref (b + 4), .int (X.1 0 4)]), .inl (.int, 16, .inl (X.1 1)), .inl (.int, 16, .inl (X.1 2)), .inl (.int, 16, .inl (X.1 3)), .inl (.int, 16, .inl (X.1 4))]
theorem lgC_WW {S : Sg} {b : Nat} {X X' : Pic} : pcW lgC (pcW lgC S b X) b X' = pcW lgC S b X' := pcW_W rfl
theorem in_of {x : Int32} (h0 : ¬ x < 0) (h : ¬ 16 ≤ x) : vp_in x 16 := by
  obtain ⟨j, hj, rfl⟩ := nI_of h0
  refine vp_in_nI (Nat.lt_of_not_le fun q => h ?_) (by decide)
  exact nI_le (a := 16) q (by omega)
theorem inc_nn {x : Int32} (h0 : ¬ x < 0) (h : ¬ 16 ≤ x) : ¬ x + 1 < 0 := by
  obtain ⟨j, hj, rfl⟩ := nI_of h0
  have : j < 16 := Nat.lt_of_not_le fun q => h (nI_le (a := 16) q (by omega))
  rw [nI_1]
  exact nI_pos (by omega)
theorem upd_in {f : Nat → Int32} {i : Nat} {x : Int32} {n : Nat} (hx : vp_in x n) (h : ∀ j, j < 16 → vp_in (f j) n) : ∀ j, j < 16 → vp_in (upd f i x j) n := by
  intro j hj
  unfold upd
  split
  · exact hx
  · exact h j hj
theorem l_tie_keep (P : Pic) (p c a : Int32) : ∀ (n k : Nat) (Q : Pic) (j : Nat), ¬ j = 10 → (l_tie P p c a n k Q).1 j = Q.1 j := by
  intro n
  induction n with
  | zero => intro k Q j _; rfl
  | succ n ih =>
    intro k Q j hj
    simp only [l_tie]
    repeat' split
    all_goals first
      | rfl
      | exact ih _ _ _ hj
      | exact (ih _ _ _ hj).trans (by simp [pcI, va_up, hj])
theorem w_setParent_keep (P : Pic) (c s p : Int32) (j : Nat) (h8 : ¬ j = 8) (h9 : ¬ j = 9) : (w_setParent P c s p).1 j = P.1 j := by
  unfold w_setParent
  split <;> simp [pcI, va_up, h8, h9]
theorem w_tie_keep (P : Pic) (p c : Int32) (j : Nat) (h8 : ¬ j = 8) (h9 : ¬ j = 9) (h10 : ¬ j = 10) : (w_tie P p c).1 j = P.1 j := by
  unfold w_tie
  exact (l_tie_keep _ _ _ _ _ _ _ _ h10).trans (w_setParent_keep _ _ _ _ _ h8 h9)
theorem w_sell_keep (P : Pic) (p c : Int32) (j : Nat) (h0 : ¬ j = 0) (h8 : ¬ j = 8) (h9 : ¬ j = 9) (h10 : ¬ j = 10) : (w_sell P p c).1 j = P.1 j := by
  unfold w_sell
  refine Eq.trans ?_ (w_tie_keep P p c j h8 h9 h10)
  simp [pcI, va_up, h0]
def w_trade (P : Pic) (p : Int32) (c : Int32) (w : Int32) (x : Int32) : Pic := (let P_1 : Pic := w_sell P (p) (c); let P_2 : Pic := pcI P_1 7 (upd (P_1.1 7) (w : Int32).toNatClampNeg ((P_1.1 7 (w).toNatClampNeg) - x)); let P_3 : Pic := pcI P_2 11 (upd (P_2.1 11) ((P_2.1 6 (p).toNatClampNeg) : Int32).toNatClampNeg ((P_2.1 11 ((P_2.1 6 (p).toNatClampNeg)).toNatClampNeg) + x)); P_3)
set_option maxRecDepth 20000 in
theorem rX5_trade {S : Sg} {b : Nat} {P : Pic} (hP : pcAt_ ppC S b P) {N : Nat} (p : Int32) (c : Int32) (w : Int32) (x : Int32) (h_p : vp_in p 16) (h_c : vp_in c 16) (h_w : vp_in w 16) (hh : vp_in (P.1 6 p.toNatClampNeg) 6) (hN : P.1 0 0 = nI N) (h16 : N ≤ 16) : Rn 4 0 0 mX5_trade 0 [some (.ref (b)), some (.int (p)), some (.int (c)), some (.int (w)), some (.int (x))] [] S none (pcW ppC S b (w_trade P p c w x)) := by
  refine Rn.aload_n (k := 0) rfl rfl ?_
  refine Rn.iload_n (k := 1) rfl rfl ?_
  refine Rn.iload_n (k := 2) rfl rfl ?_
  refine Rn.callV0 (k := 3) (M' := mX5_sell) rfl lkX5_93 rfl (hP.four (q := b) 0 rfl) (hP.c 0 (q := b) rfl rfl) rfl (kX5_sell hP (p) (c) (by first | with_reducible assumption | (rw [eP_2, eP_1]; show vp_in ((w_sell P p c).1 6 p.toNatClampNeg) 6; rw [w_sell_keep P p c 6 (by decide) (by decide) (by decide) (by decide)]; exact hh)) (by first | with_reducible assumption | (rw [eP_2, eP_1]; show vp_in ((w_sell P p c).1 6 p.toNatClampNeg) 6; rw [w_sell_keep P p c 6 (by decide) (by decide) (by decide) (by decide)]; exact hh)) (by first | with_reducible assumption | (rw [eP_2, eP_1]; show vp_in ((w_sell P p c).1 6 p.toNatClampNeg) 6; rw [w_sell_keep P p c 6 (by decide) (by decide) (by decide) (by decide)]; exact hh)) (by first | with_reducible assumption | (rw [eP_2, eP_1]; show vp_in ((w_sell P p c).1 6 p.toNatClampNeg) 6; rw [w_sell_keep P p c 6 (by decide) (by decide) (by decide) (by decide)]; exact hh))) (by decide) rfl rfl (Nat.le_of_ble_eq_true rfl) ?_
  obtain ⟨P_1, eP_1⟩ : ∃ Q0 : Pic, Q0 = w_sell P (p) (c) := ⟨_, rfl⟩
  rw [← eP_1]
  have hP_1 := hP.put P_1 rfl
  refine Rn.aload_n (k := 4) rfl rfl ?_
  refine Rn.getf (k := 5) rfl (hP_1.four (q := b) 0 rfl) (hP_1.c 0 (q := b) rfl rfl) rfl ?_
  refine Rn.iload_n (k := 6) rfl rfl ?_
  refine Rn.dup2 (k := 7) rfl rfl rfl ?_
  refine Rn.iald (k := 8) rfl (hP_1.c 7 (q := b + 7) rfl rfl) (by first | with_reducible assumption | (rw [eP_2, eP_1]; show vp_in ((w_sell P p c).1 6 p.toNatClampNeg) 6; rw [w_sell_keep P p c 6 (by decide) (by decide) (by decide) (by decide)]; exact hh)) ?_
  refine Rn.iload (k := 9) rfl rfl ?_
  refine Rn.isub (k := 10) rfl ?_
  refine Rn.iast (k := 11) rfl (hP_1.four (q := b + 7) 7 rfl) (hP_1.c 7 (q := b + 7) rfl rfl) (by first | with_reducible assumption | (rw [eP_2, eP_1]; show vp_in ((w_sell P p c).1 6 p.toNatClampNeg) 6; rw [w_sell_keep P p c 6 (by decide) (by decide) (by decide) (by decide)]; exact hh)) ?_
  obtain ⟨P_2, eP_2⟩ : ∃ Q0 : Pic, Q0 = pcI P_1 7 (upd (P_1.1 7) (w : Int32).toNatClampNeg ((P_1.1 7 (w).toNatClampNeg) - x)) := ⟨_, rfl⟩
  rw [hP_1.w P_2 7 (q := b + 7) rfl (Nat.le_of_ble_eq_true rfl) (by rw [eP_2]; rfl), ppC_WW]
  have hP_2 := hP.put P_2 rfl
  refine Rn.aload_n (k := 12) rfl rfl ?_
  refine Rn.getf (k := 13) rfl (hP_2.four (q := b) 0 rfl) (hP_2.c 0 (q := b) rfl rfl) rfl ?_
  refine Rn.aload_n (k := 14) rfl rfl ?_
  refine Rn.getf (k := 15) rfl (hP_2.four (q := b) 0 rfl) (hP_2.c 0 (q := b) rfl rfl) rfl ?_
  refine Rn.iload_n (k := 16) rfl rfl ?_
  refine Rn.iald (k := 17) rfl (hP_2.c 6 (q := b + 6) rfl rfl) (by first | with_reducible assumption | (rw [eP_2, eP_1]; show vp_in ((w_sell P p c).1 6 p.toNatClampNeg) 6; rw [w_sell_keep P p c 6 (by decide) (by decide) (by decide) (by decide)]; exact hh)) ?_
  refine Rn.dup2 (k := 18) rfl rfl rfl ?_
  refine Rn.iald (k := 19) rfl (hP_2.c 11 (q := b + 11) rfl rfl) (by first | with_reducible assumption | (rw [eP_2, eP_1]; show vp_in ((w_sell P p c).1 6 p.toNatClampNeg) 6; rw [w_sell_keep P p c 6 (by decide) (by decide) (by decide) (by decide)]; exact hh)) ?_
  refine Rn.iload (k := 20) rfl rfl ?_
  refine Rn.iadd (k := 21) rfl ?_
  refine Rn.iast (k := 22) rfl (hP_2.four (q := b + 11) 11 rfl) (hP_2.c 11 (q := b + 11) rfl rfl) (by first | with_reducible assumption | (rw [eP_2, eP_1]; show vp_in ((w_sell P p c).1 6 p.toNatClampNeg) 6; rw [w_sell_keep P p c 6 (by decide) (by decide) (by decide) (by decide)]; exact hh)) ?_
  obtain ⟨P_3, eP_3⟩ : ∃ Q0 : Pic, Q0 = pcI P_2 11 (upd (P_2.1 11) ((P_2.1 6 (p).toNatClampNeg) : Int32).toNatClampNeg ((P_2.1 11 ((P_2.1 6 (p).toNatClampNeg)).toNatClampNeg) + x)) := ⟨_, rfl⟩
  rw [hP_2.w P_3 11 (q := b + 11) rfl (Nat.le_of_ble_eq_true rfl) (by rw [eP_3]; rfl), ppC_WW]
  have hP_3 := hP.put P_3 rfl
  exact Rn.retw rfl rfl (by unfold w_trade; first | done | rfl | (subst eP_1; subst eP_2; subst eP_3; rfl))
theorem kX5_trade {S : Sg} {b : Nat} {P : Pic} (hP : pcAt_ ppC S b P) {N : Nat} (p : Int32) (c : Int32) (w : Int32) (x : Int32) (h_p : vp_in p 16) (h_c : vp_in c 16) (h_w : vp_in w 16) (hh : vp_in (P.1 6 p.toNatClampNeg) 6) (hN : P.1 0 0 = nI N) (h16 : N ≤ 16) : Cl 4 0 0 mX5_trade [.ref b, .int (p), .int (c), .int (w), .int (x)] S none (pcW ppC S b (w_trade P p c w x)) := Cl.of okX5_trade (by intro i v h; match i, h with | 0, h => exact h | 1, h => exact h | 2, h => exact h | 3, h => exact h | 4, h => exact h | n + 5, h => (cases h)) (Nat.le_of_ble_eq_true rfl) rfl (rX5_trade hP p c w x h_p h_c h_w hh hN h16)
def l_climbi1 (K : Pic) (P : Pic) (o : Int32) (u : Int32) : Nat → Nat → Int32 → Pic → Int32 × Pic
  | 0, k, f, Q => (f, Q)
  | n + 1, k, f, Q => (if 2 ≤ nI k then (f, Q) else (if nI k = 0 then (if (P.1 8 (u).toNatClampNeg) = (-1) then l_climbi1 K P o u n (k + 1) (f) (Q) else (if (Q.1 1 ((P.1 8 (u).toNatClampNeg)).toNatClampNeg) = (-1) then (if 16 ≤ f then l_climbi1 K P o u n (k + 1) (f) (Q) else l_climbi1 K P o u n (k + 1) ((f + 1)) ((pcI (pcI Q 1 (upd (Q.1 1) ((P.1 8 (u).toNatClampNeg) : Int32).toNatClampNeg ((Q.1 1 (u).toNatClampNeg) + 1))) 3 (upd ((pcI Q 1 (upd (Q.1 1) ((P.1 8 (u).toNatClampNeg) : Int32).toNatClampNeg ((Q.1 1 (u).toNatClampNeg) + 1))).1 3) (f : Int32).toNatClampNeg (P.1 8 (u).toNatClampNeg))))) else l_climbi1 K P o u n (k + 1) (f) (Q))) else (if (P.1 9 (u).toNatClampNeg) = (-1) then l_climbi1 K P o u n (k + 1) (f) (Q) else (if (Q.1 1 ((P.1 9 (u).toNatClampNeg)).toNatClampNeg) = (-1) then (if 16 ≤ f then l_climbi1 K P o u n (k + 1) (f) (Q) else l_climbi1 K P o u n (k + 1) ((f + 1)) ((pcI (pcI Q 1 (upd (Q.1 1) ((P.1 9 (u).toNatClampNeg) : Int32).toNatClampNeg ((Q.1 1 (u).toNatClampNeg) + 1))) 3 (upd ((pcI Q 1 (upd (Q.1 1) ((P.1 9 (u).toNatClampNeg) : Int32).toNatClampNeg ((Q.1 1 (u).toNatClampNeg) + 1))).1 3) (f : Int32).toNatClampNeg (P.1 9 (u).toNatClampNeg))))) else l_climbi1 K P o u n (k + 1) (f) (Q)))))
set_option maxHeartbeats 4000000 in
set_option maxRecDepth 20000 in
theorem c_climbi1 {d kc ks : Nat} {rv : Option Value} {S' : Sg} {S : Sg} {kb : Nat} {b : Nat} {K : Pic} {P : Pic} (hK : pcAt_ knC S kb K) (hP : pcAt_ ppC S b P)  (o : Int32) (u : Int32) (hdis : kb + 4 ≤ b ∨ b + 12 ≤ kb) (hw8 : ∀ i : Nat, i < 16 → ¬ P.1 8 i = -1 → vp_in (P.1 8 i) 16) (hw9 : ∀ i : Nat, i < 16 → ¬ P.1 9 i = -1 → vp_in (P.1 9 i) 16) (h_u : vp_in u 16) (hd : 1 ≤ d) : ∀ (n k : Nat) (f : Int32) (Q : Pic), 2 - k < n → k ≤ 2 → (¬ f < 0) → (∀ j, j < 16 → vp_in (Q.1 3 j) 16) → ((¬ (l_climbi1 K P o u n k (f) (Q)).1 < 0) → (∀ j, j < 16 → vp_in ((l_climbi1 K P o u n k (f) (Q)).2.1 3 j) 16) → Rn d kc ks mX3_climb 71 [some (.ref (kb)), some (.ref (b)), none, some (.ref (kb + 1)), some (.int ((l_climbi1 K P o u n k (f) (Q)).1)), some (.int (o)), some (.int (u)), none, none] [] (pcW knC S kb (l_climbi1 K P o u n k (f) (Q)).2) rv S') → Rn d kc ks mX3_climb 29 [some (.ref (kb)), some (.ref (b)), none, some (.ref (kb + 1)), some (.int (f)), some (.int (o)), some (.int (u)), some (.int (nI k)), none] [] (pcW knC S kb Q) rv S' := by
  intro n
  induction n with
  | zero => intro k f Q h; exact absurd h (Nat.not_lt_zero _)
  | succ n ih =>
    intro k f Q hm hkN hf hq hc
    have hZP := hP.off (C := knC) (b := kb) (X := Q) (by first | exact hdis | exact Or.symm hdis | omega)
    refine Rn.iload (k := 29) rfl rfl ?_
    refine Rn.iconst (k := 30) (v := 2) rfl (by decide) ?_
    refine Rn.icmp_ge (k := 31) rfl (fun cl_1 => ?_) (fun cl_1 => ?_)
    · refine Rn.forget (ls' := [some (.ref (kb)), some (.ref (b)), none, some (.ref (kb + 1)), some (.int (f)), some (.int (o)), some (.int (u)), none, none]) (by intro i v h; match i, h with | 0, h => exact h | 1, h => exact h | 2, h => (cases h) | 3, h => exact h | 4, h => exact h | 5, h => exact h | 6, h => exact h | 7, h => (cases h) | 8, h => (cases h) | n + 9, h => (cases h)) ?_
      exact (by have e : l_climbi1 K P o u (n + 1) k (f) (Q) = (f, Q) := (by simp only [l_climbi1, if_pos cl_1]); rw [e] at hc; exact hc (by first | with_reducible assumption | exact inc_nn hf (by with_reducible assumption)) (by first | with_reducible assumption | (exact hq) | (exact upd_in (hw8 _ (in_lt (by with_reducible assumption)) (by with_reducible assumption)) hq) | (exact upd_in (hw9 _ (in_lt (by with_reducible assumption)) (by with_reducible assumption)) hq)))
    · have hltl_2 : k < 2 := Nat.lt_of_not_le (fun q => cl_1 (by exact nI_le q (by omega)))
      have hinl_3 : vp_in (nI k) 16 := vp_in_nI (by omega) (by decide)
      refine Rn.iload (k := 32) rfl rfl ?_
      refine Rn.if_ne (k := 33) rfl (fun cl_4 => ?_) (fun cl_4 => ?_)
      · refine Rn.aload_n (k := 39) rfl rfl ?_
        refine Rn.getf (k := 40) rfl (hZP.four (q := b) 0 rfl) (hZP.c 0 (q := b) rfl rfl) rfl ?_
        refine Rn.iload (k := 41) rfl rfl ?_
        refine Rn.iald (k := 42) rfl (hZP.c 9 (q := b + 9) rfl rfl) (by first | with_reducible assumption | with_reducible exact hw8 _ (in_lt (by with_reducible assumption)) (by with_reducible assumption) | with_reducible exact hw9 _ (in_lt (by with_reducible assumption)) (by with_reducible assumption) | with_reducible exact in_of hf (by with_reducible assumption)) ?_
        refine Rn.istore (k := 43) rfl (by decide) rfl ?_
        refine Rn.iload (k := 44) rfl rfl ?_
        refine Rn.iconst (k := 45) (v := (-1)) rfl (by decide) ?_
        refine Rn.icmp_eq (k := 46) rfl (fun cl_5 => ?_) (fun cl_5 => ?_)
        · refine Rn.iinc (k := 69) (v := nI (k + 1)) rfl rfl (nI_1 k) (by decide) rfl ?_
          refine Rn.goto (k := 70) rfl ?_
          refine Rn.forget (ls' := [some (.ref (kb)), some (.ref (b)), none, some (.ref (kb + 1)), some (.int (f)), some (.int (o)), some (.int (u)), some (.int (nI (k + 1))), none]) (by intro i v h; match i, h with | 0, h => exact h | 1, h => exact h | 2, h => (cases h) | 3, h => exact h | 4, h => exact h | 5, h => exact h | 6, h => exact h | 7, h => exact h | 8, h => (cases h) | n + 9, h => (cases h)) ?_
          exact ih (k + 1) (f) Q (by omega) (by omega) (by first | with_reducible assumption | exact inc_nn hf (by with_reducible assumption)) (by first | with_reducible assumption | (exact hq) | (exact upd_in (hw8 _ (in_lt (by with_reducible assumption)) (by with_reducible assumption)) hq) | (exact upd_in (hw9 _ (in_lt (by with_reducible assumption)) (by with_reducible assumption)) hq)) (by have e : l_climbi1 K P o u (n + 1) k (f) (Q) = l_climbi1 K P o u n (k + 1) (f) (Q) := (by simp only [l_climbi1, if_neg cl_1, if_neg cl_4, if_pos cl_5]); rw [e] at hc; exact hc)
        · refine Rn.aload_n (k := 47) rfl rfl ?_
          refine Rn.iload (k := 48) rfl rfl ?_
          refine Rn.iald (k := 49) rfl ((hK.put Q rfl).c 1 (q := kb + 1) rfl rfl) (by first | with_reducible assumption | with_reducible exact hw8 _ (in_lt (by with_reducible assumption)) (by with_reducible assumption) | with_reducible exact hw9 _ (in_lt (by with_reducible assumption)) (by with_reducible assumption) | with_reducible exact in_of hf (by with_reducible assumption)) ?_
          refine Rn.iconst (k := 50) (v := (-1)) rfl (by decide) ?_
          refine Rn.icmp_ne (k := 51) rfl (fun cl_6 => ?_) (fun cl_6 => ?_)
          · refine Rn.iinc (k := 69) (v := nI (k + 1)) rfl rfl (nI_1 k) (by decide) rfl ?_
            refine Rn.goto (k := 70) rfl ?_
            refine Rn.forget (ls' := [some (.ref (kb)), some (.ref (b)), none, some (.ref (kb + 1)), some (.int (f)), some (.int (o)), some (.int (u)), some (.int (nI (k + 1))), none]) (by intro i v h; match i, h with | 0, h => exact h | 1, h => exact h | 2, h => (cases h) | 3, h => exact h | 4, h => exact h | 5, h => exact h | 6, h => exact h | 7, h => exact h | 8, h => (cases h) | n + 9, h => (cases h)) ?_
            exact ih (k + 1) (f) Q (by omega) (by omega) (by first | with_reducible assumption | exact inc_nn hf (by with_reducible assumption)) (by first | with_reducible assumption | (exact hq) | (exact upd_in (hw8 _ (in_lt (by with_reducible assumption)) (by with_reducible assumption)) hq) | (exact upd_in (hw9 _ (in_lt (by with_reducible assumption)) (by with_reducible assumption)) hq)) (by have e : l_climbi1 K P o u (n + 1) k (f) (Q) = l_climbi1 K P o u n (k + 1) (f) (Q) := (by simp only [l_climbi1, if_neg cl_1, if_neg cl_4, if_neg cl_5, if_neg cl_6]); rw [e] at hc; exact hc)
          · refine Rn.iload (k := 52) rfl rfl ?_
            refine Rn.bipush (k := 53) (v := 16) rfl (by decide) ?_
            refine Rn.icmp_ge (k := 54) rfl (fun cl_7 => ?_) (fun cl_7 => ?_)
            · refine Rn.iinc (k := 69) (v := nI (k + 1)) rfl rfl (nI_1 k) (by decide) rfl ?_
              refine Rn.goto (k := 70) rfl ?_
              refine Rn.forget (ls' := [some (.ref (kb)), some (.ref (b)), none, some (.ref (kb + 1)), some (.int (f)), some (.int (o)), some (.int (u)), some (.int (nI (k + 1))), none]) (by intro i v h; match i, h with | 0, h => exact h | 1, h => exact h | 2, h => (cases h) | 3, h => exact h | 4, h => exact h | 5, h => exact h | 6, h => exact h | 7, h => exact h | 8, h => (cases h) | n + 9, h => (cases h)) ?_
              exact ih (k + 1) (f) Q (by omega) (by omega) (by first | with_reducible assumption | exact inc_nn hf (by with_reducible assumption)) (by first | with_reducible assumption | (exact hq) | (exact upd_in (hw8 _ (in_lt (by with_reducible assumption)) (by with_reducible assumption)) hq) | (exact upd_in (hw9 _ (in_lt (by with_reducible assumption)) (by with_reducible assumption)) hq)) (by have e : l_climbi1 K P o u (n + 1) k (f) (Q) = l_climbi1 K P o u n (k + 1) (f) (Q) := (by simp only [l_climbi1, if_neg cl_1, if_neg cl_4, if_neg cl_5, if_pos cl_6, if_pos cl_7]); rw [e] at hc; exact hc)
            · refine Rn.aload_n (k := 55) rfl rfl ?_
              refine Rn.iload (k := 56) rfl rfl ?_
              refine Rn.aload_n (k := 57) rfl rfl ?_
              refine Rn.iload (k := 58) rfl rfl ?_
              refine Rn.iald (k := 59) rfl ((hK.put Q rfl).c 1 (q := kb + 1) rfl rfl) (by first | with_reducible assumption | with_reducible exact hw8 _ (in_lt (by with_reducible assumption)) (by with_reducible assumption) | with_reducible exact hw9 _ (in_lt (by with_reducible assumption)) (by with_reducible assumption) | with_reducible exact in_of hf (by with_reducible assumption)) ?_
              refine Rn.iconst (k := 60) (v := 1) rfl (by decide) ?_
              refine Rn.iadd (k := 61) rfl ?_
              refine Rn.iast (k := 62) rfl ((hK.put Q rfl).four (q := kb + 1) 1 rfl) ((hK.put Q rfl).c 1 (q := kb + 1) rfl rfl) (by first | with_reducible assumption | with_reducible exact hw8 _ (in_lt (by with_reducible assumption)) (by with_reducible assumption) | with_reducible exact hw9 _ (in_lt (by with_reducible assumption)) (by with_reducible assumption) | with_reducible exact in_of hf (by with_reducible assumption)) ?_
              obtain ⟨Pl_8, ePl_8⟩ : ∃ Q0 : Pic, Q0 = pcI Q 1 (upd (Q.1 1) ((P.1 9 (u).toNatClampNeg) : Int32).toNatClampNeg ((Q.1 1 (u).toNatClampNeg) + 1)) := ⟨_, rfl⟩
              rw [(hK.put Q rfl).w Pl_8 1 (q := kb + 1) rfl (Nat.le_of_ble_eq_true rfl) (by rw [ePl_8]; rfl), knC_WW]
              have hPl_8 := hK.put Pl_8 rfl
              have hOl_9 := hP.off (C := knC) (b := kb) (X := Pl_8) (by first | exact hdis | exact Or.symm hdis | omega)
              refine Rn.aload_n (k := 63) rfl rfl ?_
              refine Rn.getf (k := 64) rfl (hPl_8.four (q := kb) 0 rfl) (hPl_8.c 0 (q := kb) rfl rfl) rfl ?_
              refine Rn.iload (k := 65) rfl rfl ?_
              refine Rn.iload (k := 66) rfl rfl ?_
              refine Rn.iast (k := 67) rfl (hPl_8.four (q := kb + 3) 3 rfl) (hPl_8.c 3 (q := kb + 3) rfl rfl) (by first | with_reducible assumption | with_reducible exact hw8 _ (in_lt (by with_reducible assumption)) (by with_reducible assumption) | with_reducible exact hw9 _ (in_lt (by with_reducible assumption)) (by with_reducible assumption) | with_reducible exact in_of hf (by with_reducible assumption)) ?_
              obtain ⟨Pl_10, ePl_10⟩ : ∃ Q0 : Pic, Q0 = pcI Pl_8 3 (upd (Pl_8.1 3) (f : Int32).toNatClampNeg (P.1 9 (u).toNatClampNeg)) := ⟨_, rfl⟩
              rw [hPl_8.w Pl_10 3 (q := kb + 3) rfl (Nat.le_of_ble_eq_true rfl) (by rw [ePl_10]; rfl), knC_WW]
              have hPl_10 := hK.put Pl_10 rfl
              have hOl_11 := hP.off (C := knC) (b := kb) (X := Pl_10) (by first | exact hdis | exact Or.symm hdis | omega)
              refine Rn.iinc (k := 68) (v := (f + 1)) rfl rfl rfl (by decide) rfl ?_
              refine Rn.iinc (k := 69) (v := nI (k + 1)) rfl rfl (nI_1 k) (by decide) rfl ?_
              refine Rn.goto (k := 70) rfl ?_
              refine Rn.forget (ls' := [some (.ref (kb)), some (.ref (b)), none, some (.ref (kb + 1)), some (.int ((f + 1))), some (.int (o)), some (.int (u)), some (.int (nI (k + 1))), none]) (by intro i v h; match i, h with | 0, h => exact h | 1, h => exact h | 2, h => (cases h) | 3, h => exact h | 4, h => exact h | 5, h => exact h | 6, h => exact h | 7, h => exact h | 8, h => (cases h) | n + 9, h => (cases h)) ?_
              exact ih (k + 1) ((f + 1)) Pl_10 (by omega) (by omega) (by first | with_reducible assumption | exact inc_nn hf (by with_reducible assumption)) (by first | with_reducible assumption | (rw [ePl_10]; rw [ePl_8]; exact hq) | (rw [ePl_10]; rw [ePl_8]; exact upd_in (hw8 _ (in_lt (by with_reducible assumption)) (by with_reducible assumption)) hq) | (rw [ePl_10]; rw [ePl_8]; exact upd_in (hw9 _ (in_lt (by with_reducible assumption)) (by with_reducible assumption)) hq)) (by have e : l_climbi1 K P o u (n + 1) k (f) (Q) = l_climbi1 K P o u n (k + 1) ((f + 1)) (Pl_10) := (by rw [ePl_10]; rw [ePl_8]; simp only [l_climbi1, if_neg cl_1, if_neg cl_4, if_neg cl_5, if_pos cl_6, if_neg cl_7]); rw [e] at hc; exact hc)
      · refine Rn.aload_n (k := 34) rfl rfl ?_
        refine Rn.getf (k := 35) rfl (hZP.four (q := b) 0 rfl) (hZP.c 0 (q := b) rfl rfl) rfl ?_
        refine Rn.iload (k := 36) rfl rfl ?_
        refine Rn.iald (k := 37) rfl (hZP.c 8 (q := b + 8) rfl rfl) (by first | with_reducible assumption | with_reducible exact hw8 _ (in_lt (by with_reducible assumption)) (by with_reducible assumption) | with_reducible exact hw9 _ (in_lt (by with_reducible assumption)) (by with_reducible assumption) | with_reducible exact in_of hf (by with_reducible assumption)) ?_
        refine Rn.goto (k := 38) rfl ?_
        refine Rn.istore (k := 43) rfl (by decide) rfl ?_
        refine Rn.iload (k := 44) rfl rfl ?_
        refine Rn.iconst (k := 45) (v := (-1)) rfl (by decide) ?_
        refine Rn.icmp_eq (k := 46) rfl (fun cl_12 => ?_) (fun cl_12 => ?_)
        · refine Rn.iinc (k := 69) (v := nI (k + 1)) rfl rfl (nI_1 k) (by decide) rfl ?_
          refine Rn.goto (k := 70) rfl ?_
          refine Rn.forget (ls' := [some (.ref (kb)), some (.ref (b)), none, some (.ref (kb + 1)), some (.int (f)), some (.int (o)), some (.int (u)), some (.int (nI (k + 1))), none]) (by intro i v h; match i, h with | 0, h => exact h | 1, h => exact h | 2, h => (cases h) | 3, h => exact h | 4, h => exact h | 5, h => exact h | 6, h => exact h | 7, h => exact h | 8, h => (cases h) | n + 9, h => (cases h)) ?_
          exact ih (k + 1) (f) Q (by omega) (by omega) (by first | with_reducible assumption | exact inc_nn hf (by with_reducible assumption)) (by first | with_reducible assumption | (exact hq) | (exact upd_in (hw8 _ (in_lt (by with_reducible assumption)) (by with_reducible assumption)) hq) | (exact upd_in (hw9 _ (in_lt (by with_reducible assumption)) (by with_reducible assumption)) hq)) (by have e : l_climbi1 K P o u (n + 1) k (f) (Q) = l_climbi1 K P o u n (k + 1) (f) (Q) := (by simp only [l_climbi1, if_neg cl_1, if_pos cl_4, if_pos cl_12]); rw [e] at hc; exact hc)
        · refine Rn.aload_n (k := 47) rfl rfl ?_
          refine Rn.iload (k := 48) rfl rfl ?_
          refine Rn.iald (k := 49) rfl ((hK.put Q rfl).c 1 (q := kb + 1) rfl rfl) (by first | with_reducible assumption | with_reducible exact hw8 _ (in_lt (by with_reducible assumption)) (by with_reducible assumption) | with_reducible exact hw9 _ (in_lt (by with_reducible assumption)) (by with_reducible assumption) | with_reducible exact in_of hf (by with_reducible assumption)) ?_
          refine Rn.iconst (k := 50) (v := (-1)) rfl (by decide) ?_
          refine Rn.icmp_ne (k := 51) rfl (fun cl_13 => ?_) (fun cl_13 => ?_)
          · refine Rn.iinc (k := 69) (v := nI (k + 1)) rfl rfl (nI_1 k) (by decide) rfl ?_
            refine Rn.goto (k := 70) rfl ?_
            refine Rn.forget (ls' := [some (.ref (kb)), some (.ref (b)), none, some (.ref (kb + 1)), some (.int (f)), some (.int (o)), some (.int (u)), some (.int (nI (k + 1))), none]) (by intro i v h; match i, h with | 0, h => exact h | 1, h => exact h | 2, h => (cases h) | 3, h => exact h | 4, h => exact h | 5, h => exact h | 6, h => exact h | 7, h => exact h | 8, h => (cases h) | n + 9, h => (cases h)) ?_
            exact ih (k + 1) (f) Q (by omega) (by omega) (by first | with_reducible assumption | exact inc_nn hf (by with_reducible assumption)) (by first | with_reducible assumption | (exact hq) | (exact upd_in (hw8 _ (in_lt (by with_reducible assumption)) (by with_reducible assumption)) hq) | (exact upd_in (hw9 _ (in_lt (by with_reducible assumption)) (by with_reducible assumption)) hq)) (by have e : l_climbi1 K P o u (n + 1) k (f) (Q) = l_climbi1 K P o u n (k + 1) (f) (Q) := (by simp only [l_climbi1, if_neg cl_1, if_pos cl_4, if_neg cl_12, if_neg cl_13]); rw [e] at hc; exact hc)
          · refine Rn.iload (k := 52) rfl rfl ?_
            refine Rn.bipush (k := 53) (v := 16) rfl (by decide) ?_
            refine Rn.icmp_ge (k := 54) rfl (fun cl_14 => ?_) (fun cl_14 => ?_)
            · refine Rn.iinc (k := 69) (v := nI (k + 1)) rfl rfl (nI_1 k) (by decide) rfl ?_
              refine Rn.goto (k := 70) rfl ?_
              refine Rn.forget (ls' := [some (.ref (kb)), some (.ref (b)), none, some (.ref (kb + 1)), some (.int (f)), some (.int (o)), some (.int (u)), some (.int (nI (k + 1))), none]) (by intro i v h; match i, h with | 0, h => exact h | 1, h => exact h | 2, h => (cases h) | 3, h => exact h | 4, h => exact h | 5, h => exact h | 6, h => exact h | 7, h => exact h | 8, h => (cases h) | n + 9, h => (cases h)) ?_
              exact ih (k + 1) (f) Q (by omega) (by omega) (by first | with_reducible assumption | exact inc_nn hf (by with_reducible assumption)) (by first | with_reducible assumption | (exact hq) | (exact upd_in (hw8 _ (in_lt (by with_reducible assumption)) (by with_reducible assumption)) hq) | (exact upd_in (hw9 _ (in_lt (by with_reducible assumption)) (by with_reducible assumption)) hq)) (by have e : l_climbi1 K P o u (n + 1) k (f) (Q) = l_climbi1 K P o u n (k + 1) (f) (Q) := (by simp only [l_climbi1, if_neg cl_1, if_pos cl_4, if_neg cl_12, if_pos cl_13, if_pos cl_14]); rw [e] at hc; exact hc)
            · refine Rn.aload_n (k := 55) rfl rfl ?_
              refine Rn.iload (k := 56) rfl rfl ?_
              refine Rn.aload_n (k := 57) rfl rfl ?_
              refine Rn.iload (k := 58) rfl rfl ?_
              refine Rn.iald (k := 59) rfl ((hK.put Q rfl).c 1 (q := kb + 1) rfl rfl) (by first | with_reducible assumption | with_reducible exact hw8 _ (in_lt (by with_reducible assumption)) (by with_reducible assumption) | with_reducible exact hw9 _ (in_lt (by with_reducible assumption)) (by with_reducible assumption) | with_reducible exact in_of hf (by with_reducible assumption)) ?_
              refine Rn.iconst (k := 60) (v := 1) rfl (by decide) ?_
              refine Rn.iadd (k := 61) rfl ?_
              refine Rn.iast (k := 62) rfl ((hK.put Q rfl).four (q := kb + 1) 1 rfl) ((hK.put Q rfl).c 1 (q := kb + 1) rfl rfl) (by first | with_reducible assumption | with_reducible exact hw8 _ (in_lt (by with_reducible assumption)) (by with_reducible assumption) | with_reducible exact hw9 _ (in_lt (by with_reducible assumption)) (by with_reducible assumption) | with_reducible exact in_of hf (by with_reducible assumption)) ?_
              obtain ⟨Pl_15, ePl_15⟩ : ∃ Q0 : Pic, Q0 = pcI Q 1 (upd (Q.1 1) ((P.1 8 (u).toNatClampNeg) : Int32).toNatClampNeg ((Q.1 1 (u).toNatClampNeg) + 1)) := ⟨_, rfl⟩
              rw [(hK.put Q rfl).w Pl_15 1 (q := kb + 1) rfl (Nat.le_of_ble_eq_true rfl) (by rw [ePl_15]; rfl), knC_WW]
              have hPl_15 := hK.put Pl_15 rfl
              have hOl_16 := hP.off (C := knC) (b := kb) (X := Pl_15) (by first | exact hdis | exact Or.symm hdis | omega)
              refine Rn.aload_n (k := 63) rfl rfl ?_
              refine Rn.getf (k := 64) rfl (hPl_15.four (q := kb) 0 rfl) (hPl_15.c 0 (q := kb) rfl rfl) rfl ?_
              refine Rn.iload (k := 65) rfl rfl ?_
              refine Rn.iload (k := 66) rfl rfl ?_
              refine Rn.iast (k := 67) rfl (hPl_15.four (q := kb + 3) 3 rfl) (hPl_15.c 3 (q := kb + 3) rfl rfl) (by first | with_reducible assumption | with_reducible exact hw8 _ (in_lt (by with_reducible assumption)) (by with_reducible assumption) | with_reducible exact hw9 _ (in_lt (by with_reducible assumption)) (by with_reducible assumption) | with_reducible exact in_of hf (by with_reducible assumption)) ?_
              obtain ⟨Pl_17, ePl_17⟩ : ∃ Q0 : Pic, Q0 = pcI Pl_15 3 (upd (Pl_15.1 3) (f : Int32).toNatClampNeg (P.1 8 (u).toNatClampNeg)) := ⟨_, rfl⟩
              rw [hPl_15.w Pl_17 3 (q := kb + 3) rfl (Nat.le_of_ble_eq_true rfl) (by rw [ePl_17]; rfl), knC_WW]
              have hPl_17 := hK.put Pl_17 rfl
              have hOl_18 := hP.off (C := knC) (b := kb) (X := Pl_17) (by first | exact hdis | exact Or.symm hdis | omega)
              refine Rn.iinc (k := 68) (v := (f + 1)) rfl rfl rfl (by decide) rfl ?_
              refine Rn.iinc (k := 69) (v := nI (k + 1)) rfl rfl (nI_1 k) (by decide) rfl ?_
              refine Rn.goto (k := 70) rfl ?_
              refine Rn.forget (ls' := [some (.ref (kb)), some (.ref (b)), none, some (.ref (kb + 1)), some (.int ((f + 1))), some (.int (o)), some (.int (u)), some (.int (nI (k + 1))), none]) (by intro i v h; match i, h with | 0, h => exact h | 1, h => exact h | 2, h => (cases h) | 3, h => exact h | 4, h => exact h | 5, h => exact h | 6, h => exact h | 7, h => exact h | 8, h => (cases h) | n + 9, h => (cases h)) ?_
              exact ih (k + 1) ((f + 1)) Pl_17 (by omega) (by omega) (by first | with_reducible assumption | exact inc_nn hf (by with_reducible assumption)) (by first | with_reducible assumption | (rw [ePl_17]; rw [ePl_15]; exact hq) | (rw [ePl_17]; rw [ePl_15]; exact upd_in (hw8 _ (in_lt (by with_reducible assumption)) (by with_reducible assumption)) hq) | (rw [ePl_17]; rw [ePl_15]; exact upd_in (hw9 _ (in_lt (by with_reducible assumption)) (by with_reducible assumption)) hq)) (by have e : l_climbi1 K P o u (n + 1) k (f) (Q) = l_climbi1 K P o u n (k + 1) ((f + 1)) (Pl_17) := (by rw [ePl_17]; rw [ePl_15]; simp only [l_climbi1, if_neg cl_1, if_pos cl_4, if_neg cl_12, if_pos cl_13, if_neg cl_14]); rw [e] at hc; exact hc)
def l_climbo1 (K : Pic) (P : Pic)  : Nat → Nat → Int32 → Pic → Int32 × Pic
  | 0, k, f, Q => (f, Q)
  | n + 1, k, f, Q => (if f ≤ nI k then (f, Q) else (if 16 ≤ nI k then (f, Q) else l_climbo1 K P n (k + 1) ((l_climbi1 K P (nI k) ((Q.1 3 (nI k).toNatClampNeg)) 17 0 (f) Q).1) (((l_climbi1 K P (nI k) ((Q.1 3 (nI k).toNatClampNeg)) 17 0 (f) Q).2))))
set_option maxHeartbeats 4000000 in
set_option maxRecDepth 20000 in
theorem c_climbo1 {d kc ks : Nat} {rv : Option Value} {S' : Sg} {S : Sg} {kb : Nat} {b : Nat} {K : Pic} {P : Pic} (hK : pcAt_ knC S kb K) (hP : pcAt_ ppC S b P)   (hdis : kb + 4 ≤ b ∨ b + 12 ≤ kb) (hw8 : ∀ i : Nat, i < 16 → ¬ P.1 8 i = -1 → vp_in (P.1 8 i) 16) (hw9 : ∀ i : Nat, i < 16 → ¬ P.1 9 i = -1 → vp_in (P.1 9 i) 16) (hd : 1 ≤ d) : ∀ (n k : Nat) (f : Int32) (Q : Pic), 16 - k < n → k ≤ 16 → (¬ f < 0) → (∀ j, j < 16 → vp_in (Q.1 3 j) 16) → ((¬ (l_climbo1 K P n k (f) (Q)).1 < 0) → (∀ j, j < 16 → vp_in ((l_climbo1 K P n k (f) (Q)).2.1 3 j) 16) → Rn d kc ks mX3_climb 73 [some (.ref (kb)), some (.ref (b)), none, some (.ref (kb + 1)), some (.int ((l_climbo1 K P n k (f) (Q)).1)), none, none, none, none] [] (pcW knC S kb (l_climbo1 K P n k (f) (Q)).2) rv S') → Rn d kc ks mX3_climb 16 [some (.ref (kb)), some (.ref (b)), none, some (.ref (kb + 1)), some (.int (f)), some (.int (nI k)), none, none, none] [] (pcW knC S kb Q) rv S' := by
  intro n
  induction n with
  | zero => intro k f Q h; exact absurd h (Nat.not_lt_zero _)
  | succ n ih =>
    intro k f Q hm hkN hf hq hc
    have hZP := hP.off (C := knC) (b := kb) (X := Q) (by first | exact hdis | exact Or.symm hdis | omega)
    refine Rn.iload (k := 16) rfl rfl ?_
    refine Rn.iload (k := 17) rfl rfl ?_
    refine Rn.icmp_ge (k := 18) rfl (fun cl_1 => ?_) (fun cl_1 => ?_)
    · refine Rn.forget (ls' := [some (.ref (kb)), some (.ref (b)), none, some (.ref (kb + 1)), some (.int (f)), none, none, none, none]) (by intro i v h; match i, h with | 0, h => exact h | 1, h => exact h | 2, h => (cases h) | 3, h => exact h | 4, h => exact h | 5, h => (cases h) | 6, h => (cases h) | 7, h => (cases h) | 8, h => (cases h) | n + 9, h => (cases h)) ?_
      exact (by have e : l_climbo1 K P (n + 1) k (f) (Q) = (f, Q) := (by simp only [l_climbo1, if_pos cl_1]); rw [e] at hc; exact hc (by first | with_reducible assumption | exact inc_nn hf (by with_reducible assumption)) (by first | with_reducible assumption | (exact hq) | (exact upd_in (hw8 _ (in_lt (by with_reducible assumption)) (by with_reducible assumption)) hq) | (exact upd_in (hw9 _ (in_lt (by with_reducible assumption)) (by with_reducible assumption)) hq)))
    · refine Rn.iload (k := 19) rfl rfl ?_
      refine Rn.bipush (k := 20) (v := 16) rfl (by decide) ?_
      refine Rn.icmp_ge (k := 21) rfl (fun cl_2 => ?_) (fun cl_2 => ?_)
      · refine Rn.forget (ls' := [some (.ref (kb)), some (.ref (b)), none, some (.ref (kb + 1)), some (.int (f)), none, none, none, none]) (by intro i v h; match i, h with | 0, h => exact h | 1, h => exact h | 2, h => (cases h) | 3, h => exact h | 4, h => exact h | 5, h => (cases h) | 6, h => (cases h) | 7, h => (cases h) | 8, h => (cases h) | n + 9, h => (cases h)) ?_
        exact (by have e : l_climbo1 K P (n + 1) k (f) (Q) = (f, Q) := (by simp only [l_climbo1, if_neg cl_1, if_pos cl_2]); rw [e] at hc; exact hc (by first | with_reducible assumption | exact inc_nn hf (by with_reducible assumption)) (by first | with_reducible assumption | (exact hq) | (exact upd_in (hw8 _ (in_lt (by with_reducible assumption)) (by with_reducible assumption)) hq) | (exact upd_in (hw9 _ (in_lt (by with_reducible assumption)) (by with_reducible assumption)) hq)))
      · have hltl_3 : k < 16 := Nat.lt_of_not_le (fun q => cl_2 (by exact nI_le q (by omega)))
        have hinl_4 : vp_in (nI k) 16 := vp_in_nI (by omega) (by decide)
        refine Rn.aload_n (k := 22) rfl rfl ?_
        refine Rn.getf (k := 23) rfl ((hK.put Q rfl).four (q := kb) 0 rfl) ((hK.put Q rfl).c 0 (q := kb) rfl rfl) rfl ?_
        refine Rn.iload (k := 24) rfl rfl ?_
        refine Rn.iald (k := 25) rfl ((hK.put Q rfl).c 3 (q := kb + 3) rfl rfl) (by first | with_reducible assumption) ?_
        refine Rn.istore (k := 26) rfl (by decide) rfl ?_
        refine Rn.iconst (k := 27) (v := 0) rfl (by decide) ?_
        refine Rn.istore (k := 28) rfl (by decide) rfl ?_
        refine Rn.forget (ls' := [some (.ref (kb)), some (.ref (b)), none, some (.ref (kb + 1)), some (.int (f)), some (.int (nI k)), some (.int ((Q.1 3 (nI k).toNatClampNeg))), some (.int (nI 0)), none]) (by intro i v h; match i, h with | 0, h => exact h | 1, h => exact h | 2, h => (cases h) | 3, h => exact h | 4, h => exact h | 5, h => exact h | 6, h => exact h | 7, h => exact h | 8, h => (cases h) | n + 9, h => (cases h)) ?_
        refine c_climbi1 hK hP (nI k) ((Q.1 3 (nI k).toNatClampNeg)) hdis hw8 hw9 (hq _ (in_lt (by with_reducible assumption))) (by first | decide | omega) 17 0 (f) Q (by omega) (Nat.zero_le _) hf hq (fun hIl_5 hIl_6 => ?_)
        obtain ⟨Pl_7, ePl_7⟩ : ∃ Q0 : Pic, Q0 = (l_climbi1 K P (nI k) ((Q.1 3 (nI k).toNatClampNeg)) 17 0 (f) Q).2 := ⟨_, rfl⟩
        rw [← ePl_7]
        have hPl_7 := hK.put Pl_7 rfl
        (try rw [← ePl_7] at hIl_5)
        (try rw [← ePl_7] at hIl_6)
        have hOl_8 := hP.off (C := knC) (b := kb) (X := Pl_7) (by first | exact hdis | exact Or.symm hdis | omega)
        refine Rn.iinc (k := 71) (v := nI (k + 1)) rfl rfl (nI_1 k) (by decide) rfl ?_
        refine Rn.goto (k := 72) rfl ?_
        refine Rn.forget (ls' := [some (.ref (kb)), some (.ref (b)), none, some (.ref (kb + 1)), some (.int ((l_climbi1 K P (nI k) ((Q.1 3 (nI k).toNatClampNeg)) 17 0 (f) Q).1)), some (.int (nI (k + 1))), none, none, none]) (by intro i v h; match i, h with | 0, h => exact h | 1, h => exact h | 2, h => (cases h) | 3, h => exact h | 4, h => exact h | 5, h => exact h | 6, h => (cases h) | 7, h => (cases h) | 8, h => (cases h) | n + 9, h => (cases h)) ?_
        exact ih (k + 1) ((l_climbi1 K P (nI k) ((Q.1 3 (nI k).toNatClampNeg)) 17 0 (f) Q).1) Pl_7 (by omega) (by omega) (by first | with_reducible assumption | exact inc_nn hf (by with_reducible assumption)) (by first | with_reducible assumption | (rw [ePl_7]; exact hq) | (rw [ePl_7]; exact upd_in (hw8 _ (in_lt (by with_reducible assumption)) (by with_reducible assumption)) hq) | (rw [ePl_7]; exact upd_in (hw9 _ (in_lt (by with_reducible assumption)) (by with_reducible assumption)) hq)) (by have e : l_climbo1 K P (n + 1) k (f) (Q) = l_climbo1 K P n (k + 1) ((l_climbi1 K P (nI k) ((Q.1 3 (nI k).toNatClampNeg)) 17 0 (f) Q).1) (Pl_7) := (by rw [ePl_7]; simp only [l_climbo1, if_neg cl_1, if_neg cl_2]); rw [e] at hc; exact hc)
def w_climb1 (K : Pic) (P : Pic) (s : Int32) : Pic := (let P_1 : Pic := pcI K 1 ((w_fill (fun _ => K.1 1, fun _ _ => 0, fun _ _ => none) (-1)).1 0); let P_3 : Pic := pcI P_1 1 (upd (P_1.1 1) (s : Int32).toNatClampNeg 0); let P_5 : Pic := pcI P_3 3 (upd (P_3.1 3) (0 : Int32).toNatClampNeg s); let P_9 : Pic := (l_climbo1 K P  17 0 (1) P_5).2; P_9)
set_option maxRecDepth 20000 in
theorem rX3_climb_1 {S : Sg} {kb : Nat} {b : Nat} {K : Pic} {P : Pic} (hK : pcAt_ knC S kb K) (hP : pcAt_ ppC S b P)  (s : Int32) (hdis : kb + 4 ≤ b ∨ b + 12 ≤ kb) (hw8 : ∀ i : Nat, i < 16 → ¬ P.1 8 i = -1 → vp_in (P.1 8 i) 16) (hw9 : ∀ i : Nat, i < 16 → ¬ P.1 9 i = -1 → vp_in (P.1 9 i) 16) (h_s : vp_in s 16) (hq : ∀ j, j < 16 → vp_in (K.1 3 j) 16) : Rn 2 0 0 mX3_climb 0 [some (.ref (kb)), some (.ref (b)), some (.int (s)), some (.ref (kb + 1)), none, none, none, none, none] [] S none (pcW knC S kb (w_climb1 K P s)) := by
  refine Rn.aload_n (k := 0) rfl rfl ?_
  refine Rn.iconst (k := 1) (v := (-1)) rfl (by decide) ?_
  refine Rn.callS0 (k := 2) (M' := mJ7_fill_53178) rfl lkX3_21 rfl (kfill (hK.four (q := kb + 1) 1 rfl) (hK.c 1 (q := kb + 1) rfl rfl) ((-1))) (by first | decide | omega) rfl rfl (Nat.le_of_ble_eq_true rfl) ?_
  obtain ⟨P_1, eP_1⟩ : ∃ Q0 : Pic, Q0 = pcI K 1 ((w_fill (fun _ => K.1 1, fun _ _ => 0, fun _ _ => none) (-1)).1 0) := ⟨_, rfl⟩
  rw [hK.w P_1 1 (q := kb + 1) rfl (Nat.le_of_ble_eq_true rfl) (by rw [eP_1]; rfl)]
  have hP_1 := hK.put P_1 rfl
  have hO_2 := hP.off (C := knC) (b := kb) (X := P_1) (by first | exact hdis | exact Or.symm hdis | omega)
  refine Rn.aload_n (k := 3) rfl rfl ?_
  refine Rn.iload_n (k := 4) rfl rfl ?_
  refine Rn.iconst (k := 5) (v := 0) rfl (by decide) ?_
  refine Rn.iast (k := 6) rfl (hP_1.four (q := kb + 1) 1 rfl) (hP_1.c 1 (q := kb + 1) rfl rfl) (by first | with_reducible assumption) ?_
  obtain ⟨P_3, eP_3⟩ : ∃ Q0 : Pic, Q0 = pcI P_1 1 (upd (P_1.1 1) (s : Int32).toNatClampNeg 0) := ⟨_, rfl⟩
  rw [hP_1.w P_3 1 (q := kb + 1) rfl (Nat.le_of_ble_eq_true rfl) (by rw [eP_3]; rfl), knC_WW]
  have hP_3 := hK.put P_3 rfl
  have hO_4 := hP.off (C := knC) (b := kb) (X := P_3) (by first | exact hdis | exact Or.symm hdis | omega)
  refine Rn.aload_n (k := 7) rfl rfl ?_
  refine Rn.getf (k := 8) rfl (hP_3.four (q := kb) 0 rfl) (hP_3.c 0 (q := kb) rfl rfl) rfl ?_
  refine Rn.iconst (k := 9) (v := 0) rfl (by decide) ?_
  refine Rn.iload_n (k := 10) rfl rfl ?_
  refine Rn.iast (k := 11) rfl (hP_3.four (q := kb + 3) 3 rfl) (hP_3.c 3 (q := kb + 3) rfl rfl) (by first | (unfold vp_in; decide) | with_reducible assumption) ?_
  obtain ⟨P_5, eP_5⟩ : ∃ Q0 : Pic, Q0 = pcI P_3 3 (upd (P_3.1 3) (0 : Int32).toNatClampNeg s) := ⟨_, rfl⟩
  rw [hP_3.w P_5 3 (q := kb + 3) rfl (Nat.le_of_ble_eq_true rfl) (by rw [eP_5]; rfl), knC_WW]
  have hP_5 := hK.put P_5 rfl
  have hO_6 := hP.off (C := knC) (b := kb) (X := P_5) (by first | exact hdis | exact Or.symm hdis | omega)
  refine Rn.iconst (k := 12) (v := 1) rfl (by decide) ?_
  refine Rn.istore (k := 13) rfl (by decide) rfl ?_
  refine Rn.iconst (k := 14) (v := 0) rfl (by decide) ?_
  refine Rn.istore (k := 15) rfl (by decide) rfl ?_
  refine Rn.forget (ls' := [some (.ref (kb)), some (.ref (b)), none, some (.ref (kb + 1)), some (.int (1)), some (.int (nI 0)), none, none, none]) (by intro i v h; match i, h with | 0, h => exact h | 1, h => exact h | 2, h => (cases h) | 3, h => exact h | 4, h => exact h | 5, h => exact h | 6, h => (cases h) | 7, h => (cases h) | 8, h => (cases h) | n + 9, h => (cases h)) ?_
  refine c_climbo1 hK hP  hdis hw8 hw9 (by first | decide | omega) 17 0 (1) P_5 (by omega) (Nat.zero_le _) (by decide) (by rw [eP_5]; rw [eP_3]; rw [eP_1]; exact upd_in h_s hq) (fun hI_7 hI_8 => ?_)
  obtain ⟨P_9, eP_9⟩ : ∃ Q0 : Pic, Q0 = (l_climbo1 K P  17 0 (1) P_5).2 := ⟨_, rfl⟩
  rw [← eP_9]
  have hP_9 := hK.put P_9 rfl
  (try rw [← eP_9] at hI_7)
  (try rw [← eP_9] at hI_8)
  have hO_10 := hP.off (C := knC) (b := kb) (X := P_9) (by first | exact hdis | exact Or.symm hdis | omega)
  exact Rn.retw rfl rfl (by unfold w_climb1; first | done | rfl | (subst eP_1; subst eP_3; subst eP_5; subst eP_9; rfl))
theorem kX3_climb_1 {S : Sg} {kb : Nat} {b : Nat} {K : Pic} {P : Pic} (hK : pcAt_ knC S kb K) (hP : pcAt_ ppC S b P)  (s : Int32) (hdis : kb + 4 ≤ b ∨ b + 12 ≤ kb) (hw8 : ∀ i : Nat, i < 16 → ¬ P.1 8 i = -1 → vp_in (P.1 8 i) 16) (hw9 : ∀ i : Nat, i < 16 → ¬ P.1 9 i = -1 → vp_in (P.1 9 i) 16) (h_s : vp_in s 16) (hq : ∀ j, j < 16 → vp_in (K.1 3 j) 16) : Cl 2 0 0 mX3_climb [.ref kb, .ref (b), .int (s), .ref (kb + 1)] S none (pcW knC S kb (w_climb1 K P s)) := Cl.of okX3_climb (by intro i v h; match i, h with | 0, h => exact h | 1, h => exact h | 2, h => exact h | 3, h => exact h | 4, h => (cases h) | 5, h => (cases h) | 6, h => (cases h) | 7, h => (cases h) | 8, h => (cases h) | n + 9, h => (cases h)) (Nat.le_of_ble_eq_true rfl) rfl (rX3_climb_1 hK hP s hdis hw8 hw9 h_s hq)
def l_climbi2 (K : Pic) (P : Pic) (o : Int32) (u : Int32) : Nat → Nat → Int32 → Pic → Int32 × Pic
  | 0, k, f, Q => (f, Q)
  | n + 1, k, f, Q => (if 2 ≤ nI k then (f, Q) else (if nI k = 0 then (if (P.1 8 (u).toNatClampNeg) = (-1) then l_climbi2 K P o u n (k + 1) (f) (Q) else (if (Q.1 2 ((P.1 8 (u).toNatClampNeg)).toNatClampNeg) = (-1) then (if 16 ≤ f then l_climbi2 K P o u n (k + 1) (f) (Q) else l_climbi2 K P o u n (k + 1) ((f + 1)) ((pcI (pcI Q 2 (upd (Q.1 2) ((P.1 8 (u).toNatClampNeg) : Int32).toNatClampNeg ((Q.1 2 (u).toNatClampNeg) + 1))) 3 (upd ((pcI Q 2 (upd (Q.1 2) ((P.1 8 (u).toNatClampNeg) : Int32).toNatClampNeg ((Q.1 2 (u).toNatClampNeg) + 1))).1 3) (f : Int32).toNatClampNeg (P.1 8 (u).toNatClampNeg))))) else l_climbi2 K P o u n (k + 1) (f) (Q))) else (if (P.1 9 (u).toNatClampNeg) = (-1) then l_climbi2 K P o u n (k + 1) (f) (Q) else (if (Q.1 2 ((P.1 9 (u).toNatClampNeg)).toNatClampNeg) = (-1) then (if 16 ≤ f then l_climbi2 K P o u n (k + 1) (f) (Q) else l_climbi2 K P o u n (k + 1) ((f + 1)) ((pcI (pcI Q 2 (upd (Q.1 2) ((P.1 9 (u).toNatClampNeg) : Int32).toNatClampNeg ((Q.1 2 (u).toNatClampNeg) + 1))) 3 (upd ((pcI Q 2 (upd (Q.1 2) ((P.1 9 (u).toNatClampNeg) : Int32).toNatClampNeg ((Q.1 2 (u).toNatClampNeg) + 1))).1 3) (f : Int32).toNatClampNeg (P.1 9 (u).toNatClampNeg))))) else l_climbi2 K P o u n (k + 1) (f) (Q)))))
set_option maxHeartbeats 4000000 in
set_option maxRecDepth 20000 in
theorem c_climbi2 {d kc ks : Nat} {rv : Option Value} {S' : Sg} {S : Sg} {kb : Nat} {b : Nat} {K : Pic} {P : Pic} (hK : pcAt_ knC S kb K) (hP : pcAt_ ppC S b P)  (o : Int32) (u : Int32) (hdis : kb + 4 ≤ b ∨ b + 12 ≤ kb) (hw8 : ∀ i : Nat, i < 16 → ¬ P.1 8 i = -1 → vp_in (P.1 8 i) 16) (hw9 : ∀ i : Nat, i < 16 → ¬ P.1 9 i = -1 → vp_in (P.1 9 i) 16) (h_u : vp_in u 16) (hd : 1 ≤ d) : ∀ (n k : Nat) (f : Int32) (Q : Pic), 2 - k < n → k ≤ 2 → (¬ f < 0) → (∀ j, j < 16 → vp_in (Q.1 3 j) 16) → ((¬ (l_climbi2 K P o u n k (f) (Q)).1 < 0) → (∀ j, j < 16 → vp_in ((l_climbi2 K P o u n k (f) (Q)).2.1 3 j) 16) → Rn d kc ks mX3_climb 71 [some (.ref (kb)), some (.ref (b)), none, some (.ref (kb + 2)), some (.int ((l_climbi2 K P o u n k (f) (Q)).1)), some (.int (o)), some (.int (u)), none, none] [] (pcW knC S kb (l_climbi2 K P o u n k (f) (Q)).2) rv S') → Rn d kc ks mX3_climb 29 [some (.ref (kb)), some (.ref (b)), none, some (.ref (kb + 2)), some (.int (f)), some (.int (o)), some (.int (u)), some (.int (nI k)), none] [] (pcW knC S kb Q) rv S' := by
  intro n
  induction n with
  | zero => intro k f Q h; exact absurd h (Nat.not_lt_zero _)
  | succ n ih =>
    intro k f Q hm hkN hf hq hc
    have hZP := hP.off (C := knC) (b := kb) (X := Q) (by first | exact hdis | exact Or.symm hdis | omega)
    refine Rn.iload (k := 29) rfl rfl ?_
    refine Rn.iconst (k := 30) (v := 2) rfl (by decide) ?_
    refine Rn.icmp_ge (k := 31) rfl (fun cl_1 => ?_) (fun cl_1 => ?_)
    · refine Rn.forget (ls' := [some (.ref (kb)), some (.ref (b)), none, some (.ref (kb + 2)), some (.int (f)), some (.int (o)), some (.int (u)), none, none]) (by intro i v h; match i, h with | 0, h => exact h | 1, h => exact h | 2, h => (cases h) | 3, h => exact h | 4, h => exact h | 5, h => exact h | 6, h => exact h | 7, h => (cases h) | 8, h => (cases h) | n + 9, h => (cases h)) ?_
      exact (by have e : l_climbi2 K P o u (n + 1) k (f) (Q) = (f, Q) := (by simp only [l_climbi2, if_pos cl_1]); rw [e] at hc; exact hc (by first | with_reducible assumption | exact inc_nn hf (by with_reducible assumption)) (by first | with_reducible assumption | (exact hq) | (exact upd_in (hw8 _ (in_lt (by with_reducible assumption)) (by with_reducible assumption)) hq) | (exact upd_in (hw9 _ (in_lt (by with_reducible assumption)) (by with_reducible assumption)) hq)))
    · have hltl_2 : k < 2 := Nat.lt_of_not_le (fun q => cl_1 (by exact nI_le q (by omega)))
      have hinl_3 : vp_in (nI k) 16 := vp_in_nI (by omega) (by decide)
      refine Rn.iload (k := 32) rfl rfl ?_
      refine Rn.if_ne (k := 33) rfl (fun cl_4 => ?_) (fun cl_4 => ?_)
      · refine Rn.aload_n (k := 39) rfl rfl ?_
        refine Rn.getf (k := 40) rfl (hZP.four (q := b) 0 rfl) (hZP.c 0 (q := b) rfl rfl) rfl ?_
        refine Rn.iload (k := 41) rfl rfl ?_
        refine Rn.iald (k := 42) rfl (hZP.c 9 (q := b + 9) rfl rfl) (by first | with_reducible assumption | with_reducible exact hw8 _ (in_lt (by with_reducible assumption)) (by with_reducible assumption) | with_reducible exact hw9 _ (in_lt (by with_reducible assumption)) (by with_reducible assumption) | with_reducible exact in_of hf (by with_reducible assumption)) ?_
        refine Rn.istore (k := 43) rfl (by decide) rfl ?_
        refine Rn.iload (k := 44) rfl rfl ?_
        refine Rn.iconst (k := 45) (v := (-1)) rfl (by decide) ?_
        refine Rn.icmp_eq (k := 46) rfl (fun cl_5 => ?_) (fun cl_5 => ?_)
        · refine Rn.iinc (k := 69) (v := nI (k + 1)) rfl rfl (nI_1 k) (by decide) rfl ?_
          refine Rn.goto (k := 70) rfl ?_
          refine Rn.forget (ls' := [some (.ref (kb)), some (.ref (b)), none, some (.ref (kb + 2)), some (.int (f)), some (.int (o)), some (.int (u)), some (.int (nI (k + 1))), none]) (by intro i v h; match i, h with | 0, h => exact h | 1, h => exact h | 2, h => (cases h) | 3, h => exact h | 4, h => exact h | 5, h => exact h | 6, h => exact h | 7, h => exact h | 8, h => (cases h) | n + 9, h => (cases h)) ?_
          exact ih (k + 1) (f) Q (by omega) (by omega) (by first | with_reducible assumption | exact inc_nn hf (by with_reducible assumption)) (by first | with_reducible assumption | (exact hq) | (exact upd_in (hw8 _ (in_lt (by with_reducible assumption)) (by with_reducible assumption)) hq) | (exact upd_in (hw9 _ (in_lt (by with_reducible assumption)) (by with_reducible assumption)) hq)) (by have e : l_climbi2 K P o u (n + 1) k (f) (Q) = l_climbi2 K P o u n (k + 1) (f) (Q) := (by simp only [l_climbi2, if_neg cl_1, if_neg cl_4, if_pos cl_5]); rw [e] at hc; exact hc)
        · refine Rn.aload_n (k := 47) rfl rfl ?_
          refine Rn.iload (k := 48) rfl rfl ?_
          refine Rn.iald (k := 49) rfl ((hK.put Q rfl).c 2 (q := kb + 2) rfl rfl) (by first | with_reducible assumption | with_reducible exact hw8 _ (in_lt (by with_reducible assumption)) (by with_reducible assumption) | with_reducible exact hw9 _ (in_lt (by with_reducible assumption)) (by with_reducible assumption) | with_reducible exact in_of hf (by with_reducible assumption)) ?_
          refine Rn.iconst (k := 50) (v := (-1)) rfl (by decide) ?_
          refine Rn.icmp_ne (k := 51) rfl (fun cl_6 => ?_) (fun cl_6 => ?_)
          · refine Rn.iinc (k := 69) (v := nI (k + 1)) rfl rfl (nI_1 k) (by decide) rfl ?_
            refine Rn.goto (k := 70) rfl ?_
            refine Rn.forget (ls' := [some (.ref (kb)), some (.ref (b)), none, some (.ref (kb + 2)), some (.int (f)), some (.int (o)), some (.int (u)), some (.int (nI (k + 1))), none]) (by intro i v h; match i, h with | 0, h => exact h | 1, h => exact h | 2, h => (cases h) | 3, h => exact h | 4, h => exact h | 5, h => exact h | 6, h => exact h | 7, h => exact h | 8, h => (cases h) | n + 9, h => (cases h)) ?_
            exact ih (k + 1) (f) Q (by omega) (by omega) (by first | with_reducible assumption | exact inc_nn hf (by with_reducible assumption)) (by first | with_reducible assumption | (exact hq) | (exact upd_in (hw8 _ (in_lt (by with_reducible assumption)) (by with_reducible assumption)) hq) | (exact upd_in (hw9 _ (in_lt (by with_reducible assumption)) (by with_reducible assumption)) hq)) (by have e : l_climbi2 K P o u (n + 1) k (f) (Q) = l_climbi2 K P o u n (k + 1) (f) (Q) := (by simp only [l_climbi2, if_neg cl_1, if_neg cl_4, if_neg cl_5, if_neg cl_6]); rw [e] at hc; exact hc)
          · refine Rn.iload (k := 52) rfl rfl ?_
            refine Rn.bipush (k := 53) (v := 16) rfl (by decide) ?_
            refine Rn.icmp_ge (k := 54) rfl (fun cl_7 => ?_) (fun cl_7 => ?_)
            · refine Rn.iinc (k := 69) (v := nI (k + 1)) rfl rfl (nI_1 k) (by decide) rfl ?_
              refine Rn.goto (k := 70) rfl ?_
              refine Rn.forget (ls' := [some (.ref (kb)), some (.ref (b)), none, some (.ref (kb + 2)), some (.int (f)), some (.int (o)), some (.int (u)), some (.int (nI (k + 1))), none]) (by intro i v h; match i, h with | 0, h => exact h | 1, h => exact h | 2, h => (cases h) | 3, h => exact h | 4, h => exact h | 5, h => exact h | 6, h => exact h | 7, h => exact h | 8, h => (cases h) | n + 9, h => (cases h)) ?_
              exact ih (k + 1) (f) Q (by omega) (by omega) (by first | with_reducible assumption | exact inc_nn hf (by with_reducible assumption)) (by first | with_reducible assumption | (exact hq) | (exact upd_in (hw8 _ (in_lt (by with_reducible assumption)) (by with_reducible assumption)) hq) | (exact upd_in (hw9 _ (in_lt (by with_reducible assumption)) (by with_reducible assumption)) hq)) (by have e : l_climbi2 K P o u (n + 1) k (f) (Q) = l_climbi2 K P o u n (k + 1) (f) (Q) := (by simp only [l_climbi2, if_neg cl_1, if_neg cl_4, if_neg cl_5, if_pos cl_6, if_pos cl_7]); rw [e] at hc; exact hc)
            · refine Rn.aload_n (k := 55) rfl rfl ?_
              refine Rn.iload (k := 56) rfl rfl ?_
              refine Rn.aload_n (k := 57) rfl rfl ?_
              refine Rn.iload (k := 58) rfl rfl ?_
              refine Rn.iald (k := 59) rfl ((hK.put Q rfl).c 2 (q := kb + 2) rfl rfl) (by first | with_reducible assumption | with_reducible exact hw8 _ (in_lt (by with_reducible assumption)) (by with_reducible assumption) | with_reducible exact hw9 _ (in_lt (by with_reducible assumption)) (by with_reducible assumption) | with_reducible exact in_of hf (by with_reducible assumption)) ?_
              refine Rn.iconst (k := 60) (v := 1) rfl (by decide) ?_
              refine Rn.iadd (k := 61) rfl ?_
              refine Rn.iast (k := 62) rfl ((hK.put Q rfl).four (q := kb + 2) 2 rfl) ((hK.put Q rfl).c 2 (q := kb + 2) rfl rfl) (by first | with_reducible assumption | with_reducible exact hw8 _ (in_lt (by with_reducible assumption)) (by with_reducible assumption) | with_reducible exact hw9 _ (in_lt (by with_reducible assumption)) (by with_reducible assumption) | with_reducible exact in_of hf (by with_reducible assumption)) ?_
              obtain ⟨Pl_8, ePl_8⟩ : ∃ Q0 : Pic, Q0 = pcI Q 2 (upd (Q.1 2) ((P.1 9 (u).toNatClampNeg) : Int32).toNatClampNeg ((Q.1 2 (u).toNatClampNeg) + 1)) := ⟨_, rfl⟩
              rw [(hK.put Q rfl).w Pl_8 2 (q := kb + 2) rfl (Nat.le_of_ble_eq_true rfl) (by rw [ePl_8]; rfl), knC_WW]
              have hPl_8 := hK.put Pl_8 rfl
              have hOl_9 := hP.off (C := knC) (b := kb) (X := Pl_8) (by first | exact hdis | exact Or.symm hdis | omega)
              refine Rn.aload_n (k := 63) rfl rfl ?_
              refine Rn.getf (k := 64) rfl (hPl_8.four (q := kb) 0 rfl) (hPl_8.c 0 (q := kb) rfl rfl) rfl ?_
              refine Rn.iload (k := 65) rfl rfl ?_
              refine Rn.iload (k := 66) rfl rfl ?_
              refine Rn.iast (k := 67) rfl (hPl_8.four (q := kb + 3) 3 rfl) (hPl_8.c 3 (q := kb + 3) rfl rfl) (by first | with_reducible assumption | with_reducible exact hw8 _ (in_lt (by with_reducible assumption)) (by with_reducible assumption) | with_reducible exact hw9 _ (in_lt (by with_reducible assumption)) (by with_reducible assumption) | with_reducible exact in_of hf (by with_reducible assumption)) ?_
              obtain ⟨Pl_10, ePl_10⟩ : ∃ Q0 : Pic, Q0 = pcI Pl_8 3 (upd (Pl_8.1 3) (f : Int32).toNatClampNeg (P.1 9 (u).toNatClampNeg)) := ⟨_, rfl⟩
              rw [hPl_8.w Pl_10 3 (q := kb + 3) rfl (Nat.le_of_ble_eq_true rfl) (by rw [ePl_10]; rfl), knC_WW]
              have hPl_10 := hK.put Pl_10 rfl
              have hOl_11 := hP.off (C := knC) (b := kb) (X := Pl_10) (by first | exact hdis | exact Or.symm hdis | omega)
              refine Rn.iinc (k := 68) (v := (f + 1)) rfl rfl rfl (by decide) rfl ?_
              refine Rn.iinc (k := 69) (v := nI (k + 1)) rfl rfl (nI_1 k) (by decide) rfl ?_
              refine Rn.goto (k := 70) rfl ?_
              refine Rn.forget (ls' := [some (.ref (kb)), some (.ref (b)), none, some (.ref (kb + 2)), some (.int ((f + 1))), some (.int (o)), some (.int (u)), some (.int (nI (k + 1))), none]) (by intro i v h; match i, h with | 0, h => exact h | 1, h => exact h | 2, h => (cases h) | 3, h => exact h | 4, h => exact h | 5, h => exact h | 6, h => exact h | 7, h => exact h | 8, h => (cases h) | n + 9, h => (cases h)) ?_
              exact ih (k + 1) ((f + 1)) Pl_10 (by omega) (by omega) (by first | with_reducible assumption | exact inc_nn hf (by with_reducible assumption)) (by first | with_reducible assumption | (rw [ePl_10]; rw [ePl_8]; exact hq) | (rw [ePl_10]; rw [ePl_8]; exact upd_in (hw8 _ (in_lt (by with_reducible assumption)) (by with_reducible assumption)) hq) | (rw [ePl_10]; rw [ePl_8]; exact upd_in (hw9 _ (in_lt (by with_reducible assumption)) (by with_reducible assumption)) hq)) (by have e : l_climbi2 K P o u (n + 1) k (f) (Q) = l_climbi2 K P o u n (k + 1) ((f + 1)) (Pl_10) := (by rw [ePl_10]; rw [ePl_8]; simp only [l_climbi2, if_neg cl_1, if_neg cl_4, if_neg cl_5, if_pos cl_6, if_neg cl_7]); rw [e] at hc; exact hc)
      · refine Rn.aload_n (k := 34) rfl rfl ?_
        refine Rn.getf (k := 35) rfl (hZP.four (q := b) 0 rfl) (hZP.c 0 (q := b) rfl rfl) rfl ?_
        refine Rn.iload (k := 36) rfl rfl ?_
        refine Rn.iald (k := 37) rfl (hZP.c 8 (q := b + 8) rfl rfl) (by first | with_reducible assumption | with_reducible exact hw8 _ (in_lt (by with_reducible assumption)) (by with_reducible assumption) | with_reducible exact hw9 _ (in_lt (by with_reducible assumption)) (by with_reducible assumption) | with_reducible exact in_of hf (by with_reducible assumption)) ?_
        refine Rn.goto (k := 38) rfl ?_
        refine Rn.istore (k := 43) rfl (by decide) rfl ?_
        refine Rn.iload (k := 44) rfl rfl ?_
        refine Rn.iconst (k := 45) (v := (-1)) rfl (by decide) ?_
        refine Rn.icmp_eq (k := 46) rfl (fun cl_12 => ?_) (fun cl_12 => ?_)
        · refine Rn.iinc (k := 69) (v := nI (k + 1)) rfl rfl (nI_1 k) (by decide) rfl ?_
          refine Rn.goto (k := 70) rfl ?_
          refine Rn.forget (ls' := [some (.ref (kb)), some (.ref (b)), none, some (.ref (kb + 2)), some (.int (f)), some (.int (o)), some (.int (u)), some (.int (nI (k + 1))), none]) (by intro i v h; match i, h with | 0, h => exact h | 1, h => exact h | 2, h => (cases h) | 3, h => exact h | 4, h => exact h | 5, h => exact h | 6, h => exact h | 7, h => exact h | 8, h => (cases h) | n + 9, h => (cases h)) ?_
          exact ih (k + 1) (f) Q (by omega) (by omega) (by first | with_reducible assumption | exact inc_nn hf (by with_reducible assumption)) (by first | with_reducible assumption | (exact hq) | (exact upd_in (hw8 _ (in_lt (by with_reducible assumption)) (by with_reducible assumption)) hq) | (exact upd_in (hw9 _ (in_lt (by with_reducible assumption)) (by with_reducible assumption)) hq)) (by have e : l_climbi2 K P o u (n + 1) k (f) (Q) = l_climbi2 K P o u n (k + 1) (f) (Q) := (by simp only [l_climbi2, if_neg cl_1, if_pos cl_4, if_pos cl_12]); rw [e] at hc; exact hc)
        · refine Rn.aload_n (k := 47) rfl rfl ?_
          refine Rn.iload (k := 48) rfl rfl ?_
          refine Rn.iald (k := 49) rfl ((hK.put Q rfl).c 2 (q := kb + 2) rfl rfl) (by first | with_reducible assumption | with_reducible exact hw8 _ (in_lt (by with_reducible assumption)) (by with_reducible assumption) | with_reducible exact hw9 _ (in_lt (by with_reducible assumption)) (by with_reducible assumption) | with_reducible exact in_of hf (by with_reducible assumption)) ?_
          refine Rn.iconst (k := 50) (v := (-1)) rfl (by decide) ?_
          refine Rn.icmp_ne (k := 51) rfl (fun cl_13 => ?_) (fun cl_13 => ?_)
          · refine Rn.iinc (k := 69) (v := nI (k + 1)) rfl rfl (nI_1 k) (by decide) rfl ?_
            refine Rn.goto (k := 70) rfl ?_
            refine Rn.forget (ls' := [some (.ref (kb)), some (.ref (b)), none, some (.ref (kb + 2)), some (.int (f)), some (.int (o)), some (.int (u)), some (.int (nI (k + 1))), none]) (by intro i v h; match i, h with | 0, h => exact h | 1, h => exact h | 2, h => (cases h) | 3, h => exact h | 4, h => exact h | 5, h => exact h | 6, h => exact h | 7, h => exact h | 8, h => (cases h) | n + 9, h => (cases h)) ?_
            exact ih (k + 1) (f) Q (by omega) (by omega) (by first | with_reducible assumption | exact inc_nn hf (by with_reducible assumption)) (by first | with_reducible assumption | (exact hq) | (exact upd_in (hw8 _ (in_lt (by with_reducible assumption)) (by with_reducible assumption)) hq) | (exact upd_in (hw9 _ (in_lt (by with_reducible assumption)) (by with_reducible assumption)) hq)) (by have e : l_climbi2 K P o u (n + 1) k (f) (Q) = l_climbi2 K P o u n (k + 1) (f) (Q) := (by simp only [l_climbi2, if_neg cl_1, if_pos cl_4, if_neg cl_12, if_neg cl_13]); rw [e] at hc; exact hc)
          · refine Rn.iload (k := 52) rfl rfl ?_
            refine Rn.bipush (k := 53) (v := 16) rfl (by decide) ?_
            refine Rn.icmp_ge (k := 54) rfl (fun cl_14 => ?_) (fun cl_14 => ?_)
            · refine Rn.iinc (k := 69) (v := nI (k + 1)) rfl rfl (nI_1 k) (by decide) rfl ?_
              refine Rn.goto (k := 70) rfl ?_
              refine Rn.forget (ls' := [some (.ref (kb)), some (.ref (b)), none, some (.ref (kb + 2)), some (.int (f)), some (.int (o)), some (.int (u)), some (.int (nI (k + 1))), none]) (by intro i v h; match i, h with | 0, h => exact h | 1, h => exact h | 2, h => (cases h) | 3, h => exact h | 4, h => exact h | 5, h => exact h | 6, h => exact h | 7, h => exact h | 8, h => (cases h) | n + 9, h => (cases h)) ?_
              exact ih (k + 1) (f) Q (by omega) (by omega) (by first | with_reducible assumption | exact inc_nn hf (by with_reducible assumption)) (by first | with_reducible assumption | (exact hq) | (exact upd_in (hw8 _ (in_lt (by with_reducible assumption)) (by with_reducible assumption)) hq) | (exact upd_in (hw9 _ (in_lt (by with_reducible assumption)) (by with_reducible assumption)) hq)) (by have e : l_climbi2 K P o u (n + 1) k (f) (Q) = l_climbi2 K P o u n (k + 1) (f) (Q) := (by simp only [l_climbi2, if_neg cl_1, if_pos cl_4, if_neg cl_12, if_pos cl_13, if_pos cl_14]); rw [e] at hc; exact hc)
            · refine Rn.aload_n (k := 55) rfl rfl ?_
              refine Rn.iload (k := 56) rfl rfl ?_
              refine Rn.aload_n (k := 57) rfl rfl ?_
              refine Rn.iload (k := 58) rfl rfl ?_
              refine Rn.iald (k := 59) rfl ((hK.put Q rfl).c 2 (q := kb + 2) rfl rfl) (by first | with_reducible assumption | with_reducible exact hw8 _ (in_lt (by with_reducible assumption)) (by with_reducible assumption) | with_reducible exact hw9 _ (in_lt (by with_reducible assumption)) (by with_reducible assumption) | with_reducible exact in_of hf (by with_reducible assumption)) ?_
              refine Rn.iconst (k := 60) (v := 1) rfl (by decide) ?_
              refine Rn.iadd (k := 61) rfl ?_
              refine Rn.iast (k := 62) rfl ((hK.put Q rfl).four (q := kb + 2) 2 rfl) ((hK.put Q rfl).c 2 (q := kb + 2) rfl rfl) (by first | with_reducible assumption | with_reducible exact hw8 _ (in_lt (by with_reducible assumption)) (by with_reducible assumption) | with_reducible exact hw9 _ (in_lt (by with_reducible assumption)) (by with_reducible assumption) | with_reducible exact in_of hf (by with_reducible assumption)) ?_
              obtain ⟨Pl_15, ePl_15⟩ : ∃ Q0 : Pic, Q0 = pcI Q 2 (upd (Q.1 2) ((P.1 8 (u).toNatClampNeg) : Int32).toNatClampNeg ((Q.1 2 (u).toNatClampNeg) + 1)) := ⟨_, rfl⟩
              rw [(hK.put Q rfl).w Pl_15 2 (q := kb + 2) rfl (Nat.le_of_ble_eq_true rfl) (by rw [ePl_15]; rfl), knC_WW]
              have hPl_15 := hK.put Pl_15 rfl
              have hOl_16 := hP.off (C := knC) (b := kb) (X := Pl_15) (by first | exact hdis | exact Or.symm hdis | omega)
              refine Rn.aload_n (k := 63) rfl rfl ?_
              refine Rn.getf (k := 64) rfl (hPl_15.four (q := kb) 0 rfl) (hPl_15.c 0 (q := kb) rfl rfl) rfl ?_
              refine Rn.iload (k := 65) rfl rfl ?_
              refine Rn.iload (k := 66) rfl rfl ?_
              refine Rn.iast (k := 67) rfl (hPl_15.four (q := kb + 3) 3 rfl) (hPl_15.c 3 (q := kb + 3) rfl rfl) (by first | with_reducible assumption | with_reducible exact hw8 _ (in_lt (by with_reducible assumption)) (by with_reducible assumption) | with_reducible exact hw9 _ (in_lt (by with_reducible assumption)) (by with_reducible assumption) | with_reducible exact in_of hf (by with_reducible assumption)) ?_
              obtain ⟨Pl_17, ePl_17⟩ : ∃ Q0 : Pic, Q0 = pcI Pl_15 3 (upd (Pl_15.1 3) (f : Int32).toNatClampNeg (P.1 8 (u).toNatClampNeg)) := ⟨_, rfl⟩
              rw [hPl_15.w Pl_17 3 (q := kb + 3) rfl (Nat.le_of_ble_eq_true rfl) (by rw [ePl_17]; rfl), knC_WW]
              have hPl_17 := hK.put Pl_17 rfl
              have hOl_18 := hP.off (C := knC) (b := kb) (X := Pl_17) (by first | exact hdis | exact Or.symm hdis | omega)
              refine Rn.iinc (k := 68) (v := (f + 1)) rfl rfl rfl (by decide) rfl ?_
              refine Rn.iinc (k := 69) (v := nI (k + 1)) rfl rfl (nI_1 k) (by decide) rfl ?_
              refine Rn.goto (k := 70) rfl ?_
              refine Rn.forget (ls' := [some (.ref (kb)), some (.ref (b)), none, some (.ref (kb + 2)), some (.int ((f + 1))), some (.int (o)), some (.int (u)), some (.int (nI (k + 1))), none]) (by intro i v h; match i, h with | 0, h => exact h | 1, h => exact h | 2, h => (cases h) | 3, h => exact h | 4, h => exact h | 5, h => exact h | 6, h => exact h | 7, h => exact h | 8, h => (cases h) | n + 9, h => (cases h)) ?_
              exact ih (k + 1) ((f + 1)) Pl_17 (by omega) (by omega) (by first | with_reducible assumption | exact inc_nn hf (by with_reducible assumption)) (by first | with_reducible assumption | (rw [ePl_17]; rw [ePl_15]; exact hq) | (rw [ePl_17]; rw [ePl_15]; exact upd_in (hw8 _ (in_lt (by with_reducible assumption)) (by with_reducible assumption)) hq) | (rw [ePl_17]; rw [ePl_15]; exact upd_in (hw9 _ (in_lt (by with_reducible assumption)) (by with_reducible assumption)) hq)) (by have e : l_climbi2 K P o u (n + 1) k (f) (Q) = l_climbi2 K P o u n (k + 1) ((f + 1)) (Pl_17) := (by rw [ePl_17]; rw [ePl_15]; simp only [l_climbi2, if_neg cl_1, if_pos cl_4, if_neg cl_12, if_pos cl_13, if_neg cl_14]); rw [e] at hc; exact hc)
def l_climbo2 (K : Pic) (P : Pic)  : Nat → Nat → Int32 → Pic → Int32 × Pic
  | 0, k, f, Q => (f, Q)
  | n + 1, k, f, Q => (if f ≤ nI k then (f, Q) else (if 16 ≤ nI k then (f, Q) else l_climbo2 K P n (k + 1) ((l_climbi2 K P (nI k) ((Q.1 3 (nI k).toNatClampNeg)) 17 0 (f) Q).1) (((l_climbi2 K P (nI k) ((Q.1 3 (nI k).toNatClampNeg)) 17 0 (f) Q).2))))
set_option maxHeartbeats 4000000 in
set_option maxRecDepth 20000 in
theorem c_climbo2 {d kc ks : Nat} {rv : Option Value} {S' : Sg} {S : Sg} {kb : Nat} {b : Nat} {K : Pic} {P : Pic} (hK : pcAt_ knC S kb K) (hP : pcAt_ ppC S b P)   (hdis : kb + 4 ≤ b ∨ b + 12 ≤ kb) (hw8 : ∀ i : Nat, i < 16 → ¬ P.1 8 i = -1 → vp_in (P.1 8 i) 16) (hw9 : ∀ i : Nat, i < 16 → ¬ P.1 9 i = -1 → vp_in (P.1 9 i) 16) (hd : 1 ≤ d) : ∀ (n k : Nat) (f : Int32) (Q : Pic), 16 - k < n → k ≤ 16 → (¬ f < 0) → (∀ j, j < 16 → vp_in (Q.1 3 j) 16) → ((¬ (l_climbo2 K P n k (f) (Q)).1 < 0) → (∀ j, j < 16 → vp_in ((l_climbo2 K P n k (f) (Q)).2.1 3 j) 16) → Rn d kc ks mX3_climb 73 [some (.ref (kb)), some (.ref (b)), none, some (.ref (kb + 2)), some (.int ((l_climbo2 K P n k (f) (Q)).1)), none, none, none, none] [] (pcW knC S kb (l_climbo2 K P n k (f) (Q)).2) rv S') → Rn d kc ks mX3_climb 16 [some (.ref (kb)), some (.ref (b)), none, some (.ref (kb + 2)), some (.int (f)), some (.int (nI k)), none, none, none] [] (pcW knC S kb Q) rv S' := by
  intro n
  induction n with
  | zero => intro k f Q h; exact absurd h (Nat.not_lt_zero _)
  | succ n ih =>
    intro k f Q hm hkN hf hq hc
    have hZP := hP.off (C := knC) (b := kb) (X := Q) (by first | exact hdis | exact Or.symm hdis | omega)
    refine Rn.iload (k := 16) rfl rfl ?_
    refine Rn.iload (k := 17) rfl rfl ?_
    refine Rn.icmp_ge (k := 18) rfl (fun cl_1 => ?_) (fun cl_1 => ?_)
    · refine Rn.forget (ls' := [some (.ref (kb)), some (.ref (b)), none, some (.ref (kb + 2)), some (.int (f)), none, none, none, none]) (by intro i v h; match i, h with | 0, h => exact h | 1, h => exact h | 2, h => (cases h) | 3, h => exact h | 4, h => exact h | 5, h => (cases h) | 6, h => (cases h) | 7, h => (cases h) | 8, h => (cases h) | n + 9, h => (cases h)) ?_
      exact (by have e : l_climbo2 K P (n + 1) k (f) (Q) = (f, Q) := (by simp only [l_climbo2, if_pos cl_1]); rw [e] at hc; exact hc (by first | with_reducible assumption | exact inc_nn hf (by with_reducible assumption)) (by first | with_reducible assumption | (exact hq) | (exact upd_in (hw8 _ (in_lt (by with_reducible assumption)) (by with_reducible assumption)) hq) | (exact upd_in (hw9 _ (in_lt (by with_reducible assumption)) (by with_reducible assumption)) hq)))
    · refine Rn.iload (k := 19) rfl rfl ?_
      refine Rn.bipush (k := 20) (v := 16) rfl (by decide) ?_
      refine Rn.icmp_ge (k := 21) rfl (fun cl_2 => ?_) (fun cl_2 => ?_)
      · refine Rn.forget (ls' := [some (.ref (kb)), some (.ref (b)), none, some (.ref (kb + 2)), some (.int (f)), none, none, none, none]) (by intro i v h; match i, h with | 0, h => exact h | 1, h => exact h | 2, h => (cases h) | 3, h => exact h | 4, h => exact h | 5, h => (cases h) | 6, h => (cases h) | 7, h => (cases h) | 8, h => (cases h) | n + 9, h => (cases h)) ?_
        exact (by have e : l_climbo2 K P (n + 1) k (f) (Q) = (f, Q) := (by simp only [l_climbo2, if_neg cl_1, if_pos cl_2]); rw [e] at hc; exact hc (by first | with_reducible assumption | exact inc_nn hf (by with_reducible assumption)) (by first | with_reducible assumption | (exact hq) | (exact upd_in (hw8 _ (in_lt (by with_reducible assumption)) (by with_reducible assumption)) hq) | (exact upd_in (hw9 _ (in_lt (by with_reducible assumption)) (by with_reducible assumption)) hq)))
      · have hltl_3 : k < 16 := Nat.lt_of_not_le (fun q => cl_2 (by exact nI_le q (by omega)))
        have hinl_4 : vp_in (nI k) 16 := vp_in_nI (by omega) (by decide)
        refine Rn.aload_n (k := 22) rfl rfl ?_
        refine Rn.getf (k := 23) rfl ((hK.put Q rfl).four (q := kb) 0 rfl) ((hK.put Q rfl).c 0 (q := kb) rfl rfl) rfl ?_
        refine Rn.iload (k := 24) rfl rfl ?_
        refine Rn.iald (k := 25) rfl ((hK.put Q rfl).c 3 (q := kb + 3) rfl rfl) (by first | with_reducible assumption) ?_
        refine Rn.istore (k := 26) rfl (by decide) rfl ?_
        refine Rn.iconst (k := 27) (v := 0) rfl (by decide) ?_
        refine Rn.istore (k := 28) rfl (by decide) rfl ?_
        refine Rn.forget (ls' := [some (.ref (kb)), some (.ref (b)), none, some (.ref (kb + 2)), some (.int (f)), some (.int (nI k)), some (.int ((Q.1 3 (nI k).toNatClampNeg))), some (.int (nI 0)), none]) (by intro i v h; match i, h with | 0, h => exact h | 1, h => exact h | 2, h => (cases h) | 3, h => exact h | 4, h => exact h | 5, h => exact h | 6, h => exact h | 7, h => exact h | 8, h => (cases h) | n + 9, h => (cases h)) ?_
        refine c_climbi2 hK hP (nI k) ((Q.1 3 (nI k).toNatClampNeg)) hdis hw8 hw9 (hq _ (in_lt (by with_reducible assumption))) (by first | decide | omega) 17 0 (f) Q (by omega) (Nat.zero_le _) hf hq (fun hIl_5 hIl_6 => ?_)
        obtain ⟨Pl_7, ePl_7⟩ : ∃ Q0 : Pic, Q0 = (l_climbi2 K P (nI k) ((Q.1 3 (nI k).toNatClampNeg)) 17 0 (f) Q).2 := ⟨_, rfl⟩
        rw [← ePl_7]
        have hPl_7 := hK.put Pl_7 rfl
        (try rw [← ePl_7] at hIl_5)
        (try rw [← ePl_7] at hIl_6)
        have hOl_8 := hP.off (C := knC) (b := kb) (X := Pl_7) (by first | exact hdis | exact Or.symm hdis | omega)
        refine Rn.iinc (k := 71) (v := nI (k + 1)) rfl rfl (nI_1 k) (by decide) rfl ?_
        refine Rn.goto (k := 72) rfl ?_
        refine Rn.forget (ls' := [some (.ref (kb)), some (.ref (b)), none, some (.ref (kb + 2)), some (.int ((l_climbi2 K P (nI k) ((Q.1 3 (nI k).toNatClampNeg)) 17 0 (f) Q).1)), some (.int (nI (k + 1))), none, none, none]) (by intro i v h; match i, h with | 0, h => exact h | 1, h => exact h | 2, h => (cases h) | 3, h => exact h | 4, h => exact h | 5, h => exact h | 6, h => (cases h) | 7, h => (cases h) | 8, h => (cases h) | n + 9, h => (cases h)) ?_
        exact ih (k + 1) ((l_climbi2 K P (nI k) ((Q.1 3 (nI k).toNatClampNeg)) 17 0 (f) Q).1) Pl_7 (by omega) (by omega) (by first | with_reducible assumption | exact inc_nn hf (by with_reducible assumption)) (by first | with_reducible assumption | (rw [ePl_7]; exact hq) | (rw [ePl_7]; exact upd_in (hw8 _ (in_lt (by with_reducible assumption)) (by with_reducible assumption)) hq) | (rw [ePl_7]; exact upd_in (hw9 _ (in_lt (by with_reducible assumption)) (by with_reducible assumption)) hq)) (by have e : l_climbo2 K P (n + 1) k (f) (Q) = l_climbo2 K P n (k + 1) ((l_climbi2 K P (nI k) ((Q.1 3 (nI k).toNatClampNeg)) 17 0 (f) Q).1) (Pl_7) := (by rw [ePl_7]; simp only [l_climbo2, if_neg cl_1, if_neg cl_2]); rw [e] at hc; exact hc)
def w_climb2 (K : Pic) (P : Pic) (s : Int32) : Pic := (let P_1 : Pic := pcI K 2 ((w_fill (fun _ => K.1 2, fun _ _ => 0, fun _ _ => none) (-1)).1 0); let P_3 : Pic := pcI P_1 2 (upd (P_1.1 2) (s : Int32).toNatClampNeg 0); let P_5 : Pic := pcI P_3 3 (upd (P_3.1 3) (0 : Int32).toNatClampNeg s); let P_9 : Pic := (l_climbo2 K P  17 0 (1) P_5).2; P_9)
set_option maxRecDepth 20000 in
theorem rX3_climb_2 {S : Sg} {kb : Nat} {b : Nat} {K : Pic} {P : Pic} (hK : pcAt_ knC S kb K) (hP : pcAt_ ppC S b P)  (s : Int32) (hdis : kb + 4 ≤ b ∨ b + 12 ≤ kb) (hw8 : ∀ i : Nat, i < 16 → ¬ P.1 8 i = -1 → vp_in (P.1 8 i) 16) (hw9 : ∀ i : Nat, i < 16 → ¬ P.1 9 i = -1 → vp_in (P.1 9 i) 16) (h_s : vp_in s 16) (hq : ∀ j, j < 16 → vp_in (K.1 3 j) 16) : Rn 2 0 0 mX3_climb 0 [some (.ref (kb)), some (.ref (b)), some (.int (s)), some (.ref (kb + 2)), none, none, none, none, none] [] S none (pcW knC S kb (w_climb2 K P s)) := by
  refine Rn.aload_n (k := 0) rfl rfl ?_
  refine Rn.iconst (k := 1) (v := (-1)) rfl (by decide) ?_
  refine Rn.callS0 (k := 2) (M' := mJ7_fill_53178) rfl lkX3_21 rfl (kfill (hK.four (q := kb + 2) 2 rfl) (hK.c 2 (q := kb + 2) rfl rfl) ((-1))) (by first | decide | omega) rfl rfl (Nat.le_of_ble_eq_true rfl) ?_
  obtain ⟨P_1, eP_1⟩ : ∃ Q0 : Pic, Q0 = pcI K 2 ((w_fill (fun _ => K.1 2, fun _ _ => 0, fun _ _ => none) (-1)).1 0) := ⟨_, rfl⟩
  rw [hK.w P_1 2 (q := kb + 2) rfl (Nat.le_of_ble_eq_true rfl) (by rw [eP_1]; rfl)]
  have hP_1 := hK.put P_1 rfl
  have hO_2 := hP.off (C := knC) (b := kb) (X := P_1) (by first | exact hdis | exact Or.symm hdis | omega)
  refine Rn.aload_n (k := 3) rfl rfl ?_
  refine Rn.iload_n (k := 4) rfl rfl ?_
  refine Rn.iconst (k := 5) (v := 0) rfl (by decide) ?_
  refine Rn.iast (k := 6) rfl (hP_1.four (q := kb + 2) 2 rfl) (hP_1.c 2 (q := kb + 2) rfl rfl) (by first | with_reducible assumption) ?_
  obtain ⟨P_3, eP_3⟩ : ∃ Q0 : Pic, Q0 = pcI P_1 2 (upd (P_1.1 2) (s : Int32).toNatClampNeg 0) := ⟨_, rfl⟩
  rw [hP_1.w P_3 2 (q := kb + 2) rfl (Nat.le_of_ble_eq_true rfl) (by rw [eP_3]; rfl), knC_WW]
  have hP_3 := hK.put P_3 rfl
  have hO_4 := hP.off (C := knC) (b := kb) (X := P_3) (by first | exact hdis | exact Or.symm hdis | omega)
  refine Rn.aload_n (k := 7) rfl rfl ?_
  refine Rn.getf (k := 8) rfl (hP_3.four (q := kb) 0 rfl) (hP_3.c 0 (q := kb) rfl rfl) rfl ?_
  refine Rn.iconst (k := 9) (v := 0) rfl (by decide) ?_
  refine Rn.iload_n (k := 10) rfl rfl ?_
  refine Rn.iast (k := 11) rfl (hP_3.four (q := kb + 3) 3 rfl) (hP_3.c 3 (q := kb + 3) rfl rfl) (by first | (unfold vp_in; decide) | with_reducible assumption) ?_
  obtain ⟨P_5, eP_5⟩ : ∃ Q0 : Pic, Q0 = pcI P_3 3 (upd (P_3.1 3) (0 : Int32).toNatClampNeg s) := ⟨_, rfl⟩
  rw [hP_3.w P_5 3 (q := kb + 3) rfl (Nat.le_of_ble_eq_true rfl) (by rw [eP_5]; rfl), knC_WW]
  have hP_5 := hK.put P_5 rfl
  have hO_6 := hP.off (C := knC) (b := kb) (X := P_5) (by first | exact hdis | exact Or.symm hdis | omega)
  refine Rn.iconst (k := 12) (v := 1) rfl (by decide) ?_
  refine Rn.istore (k := 13) rfl (by decide) rfl ?_
  refine Rn.iconst (k := 14) (v := 0) rfl (by decide) ?_
  refine Rn.istore (k := 15) rfl (by decide) rfl ?_
  refine Rn.forget (ls' := [some (.ref (kb)), some (.ref (b)), none, some (.ref (kb + 2)), some (.int (1)), some (.int (nI 0)), none, none, none]) (by intro i v h; match i, h with | 0, h => exact h | 1, h => exact h | 2, h => (cases h) | 3, h => exact h | 4, h => exact h | 5, h => exact h | 6, h => (cases h) | 7, h => (cases h) | 8, h => (cases h) | n + 9, h => (cases h)) ?_
  refine c_climbo2 hK hP  hdis hw8 hw9 (by first | decide | omega) 17 0 (1) P_5 (by omega) (Nat.zero_le _) (by decide) (by rw [eP_5]; rw [eP_3]; rw [eP_1]; exact upd_in h_s hq) (fun hI_7 hI_8 => ?_)
  obtain ⟨P_9, eP_9⟩ : ∃ Q0 : Pic, Q0 = (l_climbo2 K P  17 0 (1) P_5).2 := ⟨_, rfl⟩
  rw [← eP_9]
  have hP_9 := hK.put P_9 rfl
  (try rw [← eP_9] at hI_7)
  (try rw [← eP_9] at hI_8)
  have hO_10 := hP.off (C := knC) (b := kb) (X := P_9) (by first | exact hdis | exact Or.symm hdis | omega)
  exact Rn.retw rfl rfl (by unfold w_climb2; first | done | rfl | (subst eP_1; subst eP_3; subst eP_5; subst eP_9; rfl))
theorem kX3_climb_2 {S : Sg} {kb : Nat} {b : Nat} {K : Pic} {P : Pic} (hK : pcAt_ knC S kb K) (hP : pcAt_ ppC S b P)  (s : Int32) (hdis : kb + 4 ≤ b ∨ b + 12 ≤ kb) (hw8 : ∀ i : Nat, i < 16 → ¬ P.1 8 i = -1 → vp_in (P.1 8 i) 16) (hw9 : ∀ i : Nat, i < 16 → ¬ P.1 9 i = -1 → vp_in (P.1 9 i) 16) (h_s : vp_in s 16) (hq : ∀ j, j < 16 → vp_in (K.1 3 j) 16) : Cl 2 0 0 mX3_climb [.ref kb, .ref (b), .int (s), .ref (kb + 2)] S none (pcW knC S kb (w_climb2 K P s)) := Cl.of okX3_climb (by intro i v h; match i, h with | 0, h => exact h | 1, h => exact h | 2, h => exact h | 3, h => exact h | 4, h => (cases h) | 5, h => (cases h) | 6, h => (cases h) | 7, h => (cases h) | 8, h => (cases h) | n + 9, h => (cases h)) (Nat.le_of_ble_eq_true rfl) rfl (rX3_climb_2 hK hP s hdis hw8 hw9 h_s hq)
end
