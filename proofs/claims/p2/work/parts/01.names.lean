-- ===== PART A: goes FIRST, ahead of the names: the tables' words, and 'selects' of the private methods out of them =====
/-- a private method of a class that the tables say can be made, by its rows of tables_1 -/
def lw_okq (q : MethodName × Nat) : Prop := (q.1.cls ≠ "java/lang/invoke/MethodHandle" ∧ q.1.cls ≠ "java/lang/invoke/VarHandle") ∧ Cond.instantiable q.1.cls q.2 ∈ tables_1 ∧ Cond.privateMethod q.1 ∈ tables_1 ∧ Cond.instanceMethod q.1 ∈ tables_1
theorem lw_p0 : lw_okq (⟨"ThroughPack", "shipOf", "(I)LThroughPack$Ship;"⟩, 9) := ⟨⟨by decide +kernel, by decide +kernel⟩, List.mem_of_getElem? (i := 21) (by decide +kernel), List.mem_of_getElem? (i := 570) (by decide +kernel), List.mem_of_getElem? (i := 571) (by decide +kernel)⟩
theorem lw_p1 : lw_okq (⟨"ThroughPack$Reader", "splitTape", "()V"⟩, 12) := ⟨⟨by decide +kernel, by decide +kernel⟩, List.mem_of_getElem? (i := 281) (by decide +kernel), List.mem_of_getElem? (i := 610) (by decide +kernel), List.mem_of_getElem? (i := 611) (by decide +kernel)⟩
theorem lw_p2 : lw_okq (⟨"ThroughPack$Reader", "splitWord", "()I"⟩, 12) := ⟨⟨by decide +kernel, by decide +kernel⟩, List.mem_of_getElem? (i := 281) (by decide +kernel), List.mem_of_getElem? (i := 617) (by decide +kernel), List.mem_of_getElem? (i := 618) (by decide +kernel)⟩
theorem lw_p3 : lw_okq (⟨"ThroughPack$Reader", "isWord", "(III)Z"⟩, 12) := ⟨⟨by decide +kernel, by decide +kernel⟩, List.mem_of_getElem? (i := 281) (by decide +kernel), List.mem_of_getElem? (i := 670) (by decide +kernel), List.mem_of_getElem? (i := 671) (by decide +kernel)⟩
theorem lw_p4 : lw_okq (⟨"ThroughPack$Reader", "splitNumber", "()I"⟩, 12) := ⟨⟨by decide +kernel, by decide +kernel⟩, List.mem_of_getElem? (i := 281) (by decide +kernel), List.mem_of_getElem? (i := 677) (by decide +kernel), List.mem_of_getElem? (i := 678) (by decide +kernel)⟩
theorem lw_p5 : lw_okq (⟨"ThroughPack$Reader", "splitSign", "()I"⟩, 12) := ⟨⟨by decide +kernel, by decide +kernel⟩, List.mem_of_getElem? (i := 281) (by decide +kernel), List.mem_of_getElem? (i := 684) (by decide +kernel), List.mem_of_getElem? (i := 685) (by decide +kernel)⟩
theorem lw_p6 : lw_okq (⟨"ThroughPack$Reader", "next", "()V"⟩, 12) := ⟨⟨by decide +kernel, by decide +kernel⟩, List.mem_of_getElem? (i := 281) (by decide +kernel), List.mem_of_getElem? (i := 691) (by decide +kernel), List.mem_of_getElem? (i := 692) (by decide +kernel)⟩
theorem lw_p7 : lw_okq (⟨"ThroughPack$Reader", "readsClause", "()Z"⟩, 12) := ⟨⟨by decide +kernel, by decide +kernel⟩, List.mem_of_getElem? (i := 281) (by decide +kernel), List.mem_of_getElem? (i := 695) (by decide +kernel), List.mem_of_getElem? (i := 696) (by decide +kernel)⟩
theorem lw_p8 : lw_okq (⟨"ThroughPack$Reader", "faulty", "(I)Z"⟩, 12) := ⟨⟨by decide +kernel, by decide +kernel⟩, List.mem_of_getElem? (i := 281) (by decide +kernel), List.mem_of_getElem? (i := 699) (by decide +kernel), List.mem_of_getElem? (i := 700) (by decide +kernel)⟩
theorem lw_p9 : lw_okq (⟨"ThroughPack$Reader", "readsOrder", "()I"⟩, 12) := ⟨⟨by decide +kernel, by decide +kernel⟩, List.mem_of_getElem? (i := 281) (by decide +kernel), List.mem_of_getElem? (i := 707) (by decide +kernel), List.mem_of_getElem? (i := 708) (by decide +kernel)⟩
theorem lw_p10 : lw_okq (⟨"ThroughPack$Reader", "readsSum", "(I)Z"⟩, 12) := ⟨⟨by decide +kernel, by decide +kernel⟩, List.mem_of_getElem? (i := 281) (by decide +kernel), List.mem_of_getElem? (i := 711) (by decide +kernel), List.mem_of_getElem? (i := 712) (by decide +kernel)⟩
theorem lw_p11 : lw_okq (⟨"ThroughPack$Reader", "readsOne", "(I)Z"⟩, 12) := ⟨⟨by decide +kernel, by decide +kernel⟩, List.mem_of_getElem? (i := 281) (by decide +kernel), List.mem_of_getElem? (i := 715) (by decide +kernel), List.mem_of_getElem? (i := 716) (by decide +kernel)⟩
theorem lw_p12 : lw_okq (⟨"ThroughPack$Reader", "readsEither", "()Z"⟩, 12) := ⟨⟨by decide +kernel, by decide +kernel⟩, List.mem_of_getElem? (i := 281) (by decide +kernel), List.mem_of_getElem? (i := 723) (by decide +kernel), List.mem_of_getElem? (i := 724) (by decide +kernel)⟩
theorem lw_p13 : lw_okq (⟨"ThroughPack$Reader", "readsAsk", "(I)Z"⟩, 12) := ⟨⟨by decide +kernel, by decide +kernel⟩, List.mem_of_getElem? (i := 281) (by decide +kernel), List.mem_of_getElem? (i := 727) (by decide +kernel), List.mem_of_getElem? (i := 728) (by decide +kernel)⟩
theorem lw_p14 : lw_okq (⟨"ThroughPack", "isText", "(I)Z"⟩, 9) := ⟨⟨by decide +kernel, by decide +kernel⟩, List.mem_of_getElem? (i := 21) (by decide +kernel), List.mem_of_getElem? (i := 744) (by decide +kernel), List.mem_of_getElem? (i := 745) (by decide +kernel)⟩
theorem lw_p15 : lw_okq (⟨"ThroughPack", "heedLaw", "()V"⟩, 9) := ⟨⟨by decide +kernel, by decide +kernel⟩, List.mem_of_getElem? (i := 21) (by decide +kernel), List.mem_of_getElem? (i := 748) (by decide +kernel), List.mem_of_getElem? (i := 749) (by decide +kernel)⟩
def lw_privs_1 : List (MethodName × Nat) := [(⟨"ThroughPack", "shipOf", "(I)LThroughPack$Ship;"⟩, 9), (⟨"ThroughPack$Reader", "splitTape", "()V"⟩, 12), (⟨"ThroughPack$Reader", "splitWord", "()I"⟩, 12), (⟨"ThroughPack$Reader", "isWord", "(III)Z"⟩, 12), (⟨"ThroughPack$Reader", "splitNumber", "()I"⟩, 12), (⟨"ThroughPack$Reader", "splitSign", "()I"⟩, 12), (⟨"ThroughPack$Reader", "next", "()V"⟩, 12), (⟨"ThroughPack$Reader", "readsClause", "()Z"⟩, 12), (⟨"ThroughPack$Reader", "faulty", "(I)Z"⟩, 12), (⟨"ThroughPack$Reader", "readsOrder", "()I"⟩, 12), (⟨"ThroughPack$Reader", "readsSum", "(I)Z"⟩, 12), (⟨"ThroughPack$Reader", "readsOne", "(I)Z"⟩, 12), (⟨"ThroughPack$Reader", "readsEither", "()Z"⟩, 12), (⟨"ThroughPack$Reader", "readsAsk", "(I)Z"⟩, 12), (⟨"ThroughPack", "isText", "(I)Z"⟩, 9), (⟨"ThroughPack", "heedLaw", "()V"⟩, 9)]
theorem lw_r1 : ∀ q ∈ lw_privs_1, lw_okq q := List.forall_mem_cons.mpr ⟨lw_p0, List.forall_mem_cons.mpr ⟨lw_p1, List.forall_mem_cons.mpr ⟨lw_p2, List.forall_mem_cons.mpr ⟨lw_p3, List.forall_mem_cons.mpr ⟨lw_p4, List.forall_mem_cons.mpr ⟨lw_p5, List.forall_mem_cons.mpr ⟨lw_p6, List.forall_mem_cons.mpr ⟨lw_p7, List.forall_mem_cons.mpr ⟨lw_p8, List.forall_mem_cons.mpr ⟨lw_p9, List.forall_mem_cons.mpr ⟨lw_p10, List.forall_mem_cons.mpr ⟨lw_p11, List.forall_mem_cons.mpr ⟨lw_p12, List.forall_mem_cons.mpr ⟨lw_p13, List.forall_mem_cons.mpr ⟨lw_p14, List.forall_mem_cons.mpr ⟨lw_p15, fun _ h => absurd h List.not_mem_nil⟩⟩⟩⟩⟩⟩⟩⟩⟩⟩⟩⟩⟩⟩⟩⟩
theorem lw_p16 : lw_okq (⟨"ThroughPack$Judge", "anySo", "(IIZ)Z"⟩, 9) := ⟨⟨by decide +kernel, by decide +kernel⟩, List.mem_of_getElem? (i := 327) (by decide +kernel), List.mem_of_getElem? (i := 783) (by decide +kernel), List.mem_of_getElem? (i := 784) (by decide +kernel)⟩
theorem lw_p17 : lw_okq (⟨"ThroughPack$Judge", "value", "(LThroughPack$Text;II)I"⟩, 9) := ⟨⟨by decide +kernel, by decide +kernel⟩, List.mem_of_getElem? (i := 327) (by decide +kernel), List.mem_of_getElem? (i := 788) (by decide +kernel), List.mem_of_getElem? (i := 789) (by decide +kernel)⟩
theorem lw_p18 : lw_okq (⟨"ThroughPack$Judge", "named", "(II)I"⟩, 9) := ⟨⟨by decide +kernel, by decide +kernel⟩, List.mem_of_getElem? (i := 327) (by decide +kernel), List.mem_of_getElem? (i := 792) (by decide +kernel), List.mem_of_getElem? (i := 793) (by decide +kernel)⟩
theorem lw_p19 : lw_okq (⟨"ThroughPack$Outlook", "begin", "()V"⟩, 8) := ⟨⟨by decide +kernel, by decide +kernel⟩, List.mem_of_getElem? (i := 391) (by decide +kernel), List.mem_of_getElem? (i := 869) (by decide +kernel), List.mem_of_getElem? (i := 870) (by decide +kernel)⟩
theorem lw_p20 : lw_okq (⟨"ThroughPack$Outlook", "askTolls", "(I)V"⟩, 8) := ⟨⟨by decide +kernel, by decide +kernel⟩, List.mem_of_getElem? (i := 391) (by decide +kernel), List.mem_of_getElem? (i := 876) (by decide +kernel), List.mem_of_getElem? (i := 877) (by decide +kernel)⟩
theorem lw_p21 : lw_okq (⟨"ThroughPack$Outlook", "follow", "(III)V"⟩, 8) := ⟨⟨by decide +kernel, by decide +kernel⟩, List.mem_of_getElem? (i := 391) (by decide +kernel), List.mem_of_getElem? (i := 882) (by decide +kernel), List.mem_of_getElem? (i := 883) (by decide +kernel)⟩
theorem lw_p22 : lw_okq (⟨"ThroughPack$Ways", "seekOut", "(IZ)I"⟩, 12) := ⟨⟨by decide +kernel, by decide +kernel⟩, List.mem_of_getElem? (i := 430) (by decide +kernel), List.mem_of_getElem? (i := 892) (by decide +kernel), List.mem_of_getElem? (i := 893) (by decide +kernel)⟩
theorem lw_p23 : lw_okq (⟨"ThroughPack$Ways", "clearSpent", "(I)V"⟩, 12) := ⟨⟨by decide +kernel, by decide +kernel⟩, List.mem_of_getElem? (i := 430) (by decide +kernel), List.mem_of_getElem? (i := 897) (by decide +kernel), List.mem_of_getElem? (i := 898) (by decide +kernel)⟩
theorem lw_p24 : lw_okq (⟨"ThroughPack$Ways", "seekFrom", "(IIZI)V"⟩, 12) := ⟨⟨by decide +kernel, by decide +kernel⟩, List.mem_of_getElem? (i := 430) (by decide +kernel), List.mem_of_getElem? (i := 904) (by decide +kernel), List.mem_of_getElem? (i := 905) (by decide +kernel)⟩
theorem lw_p25 : lw_okq (⟨"ThroughPack$Ways", "askNeeds", "(II)V"⟩, 12) := ⟨⟨by decide +kernel, by decide +kernel⟩, List.mem_of_getElem? (i := 430) (by decide +kernel), List.mem_of_getElem? (i := 929) (by decide +kernel), List.mem_of_getElem? (i := 930) (by decide +kernel)⟩
theorem lw_p26 : lw_okq (⟨"ThroughPack$Ways", "leastNeed", "(IIZII)I"⟩, 12) := ⟨⟨by decide +kernel, by decide +kernel⟩, List.mem_of_getElem? (i := 430) (by decide +kernel), List.mem_of_getElem? (i := 933) (by decide +kernel), List.mem_of_getElem? (i := 934) (by decide +kernel)⟩
theorem lw_p27 : lw_okq (⟨"ThroughPack$Ways", "needBy", "(IIIZI)I"⟩, 12) := ⟨⟨by decide +kernel, by decide +kernel⟩, List.mem_of_getElem? (i := 430) (by decide +kernel), List.mem_of_getElem? (i := 937) (by decide +kernel), List.mem_of_getElem? (i := 938) (by decide +kernel)⟩
theorem lw_p28 : lw_okq (⟨"ThroughPack$Ways", "lowestBest", "(IIZ)I"⟩, 12) := ⟨⟨by decide +kernel, by decide +kernel⟩, List.mem_of_getElem? (i := 430) (by decide +kernel), List.mem_of_getElem? (i := 941) (by decide +kernel), List.mem_of_getElem? (i := 942) (by decide +kernel)⟩
theorem lw_p29 : lw_okq (⟨"ThroughPack$Ways", "goesOn", "(I)Z"⟩, 12) := ⟨⟨by decide +kernel, by decide +kernel⟩, List.mem_of_getElem? (i := 430) (by decide +kernel), List.mem_of_getElem? (i := 969) (by decide +kernel), List.mem_of_getElem? (i := 970) (by decide +kernel)⟩
theorem lw_p30 : lw_okq (⟨"ThroughPack$Ways", "askAfoot", "()V"⟩, 12) := ⟨⟨by decide +kernel, by decide +kernel⟩, List.mem_of_getElem? (i := 430) (by decide +kernel), List.mem_of_getElem? (i := 999) (by decide +kernel), List.mem_of_getElem? (i := 1000) (by decide +kernel)⟩
theorem lw_p31 : lw_okq (⟨"ThroughPack$Ways", "afootBehind", "(II)I"⟩, 12) := ⟨⟨by decide +kernel, by decide +kernel⟩, List.mem_of_getElem? (i := 430) (by decide +kernel), List.mem_of_getElem? (i := 1004) (by decide +kernel), List.mem_of_getElem? (i := 1005) (by decide +kernel)⟩
def lw_privs_2 : List (MethodName × Nat) := [(⟨"ThroughPack$Judge", "anySo", "(IIZ)Z"⟩, 9), (⟨"ThroughPack$Judge", "value", "(LThroughPack$Text;II)I"⟩, 9), (⟨"ThroughPack$Judge", "named", "(II)I"⟩, 9), (⟨"ThroughPack$Outlook", "begin", "()V"⟩, 8), (⟨"ThroughPack$Outlook", "askTolls", "(I)V"⟩, 8), (⟨"ThroughPack$Outlook", "follow", "(III)V"⟩, 8), (⟨"ThroughPack$Ways", "seekOut", "(IZ)I"⟩, 12), (⟨"ThroughPack$Ways", "clearSpent", "(I)V"⟩, 12), (⟨"ThroughPack$Ways", "seekFrom", "(IIZI)V"⟩, 12), (⟨"ThroughPack$Ways", "askNeeds", "(II)V"⟩, 12), (⟨"ThroughPack$Ways", "leastNeed", "(IIZII)I"⟩, 12), (⟨"ThroughPack$Ways", "needBy", "(IIIZI)I"⟩, 12), (⟨"ThroughPack$Ways", "lowestBest", "(IIZ)I"⟩, 12), (⟨"ThroughPack$Ways", "goesOn", "(I)Z"⟩, 12), (⟨"ThroughPack$Ways", "askAfoot", "()V"⟩, 12), (⟨"ThroughPack$Ways", "afootBehind", "(II)I"⟩, 12)]
theorem lw_r2 : ∀ q ∈ lw_privs_2, lw_okq q := List.forall_mem_cons.mpr ⟨lw_p16, List.forall_mem_cons.mpr ⟨lw_p17, List.forall_mem_cons.mpr ⟨lw_p18, List.forall_mem_cons.mpr ⟨lw_p19, List.forall_mem_cons.mpr ⟨lw_p20, List.forall_mem_cons.mpr ⟨lw_p21, List.forall_mem_cons.mpr ⟨lw_p22, List.forall_mem_cons.mpr ⟨lw_p23, List.forall_mem_cons.mpr ⟨lw_p24, List.forall_mem_cons.mpr ⟨lw_p25, List.forall_mem_cons.mpr ⟨lw_p26, List.forall_mem_cons.mpr ⟨lw_p27, List.forall_mem_cons.mpr ⟨lw_p28, List.forall_mem_cons.mpr ⟨lw_p29, List.forall_mem_cons.mpr ⟨lw_p30, List.forall_mem_cons.mpr ⟨lw_p31, fun _ h => absurd h List.not_mem_nil⟩⟩⟩⟩⟩⟩⟩⟩⟩⟩⟩⟩⟩⟩⟩⟩
theorem lw_p32 : lw_okq (⟨"ThroughPack$Ways", "reachAfoot", "(II)V"⟩, 12) := ⟨⟨by decide +kernel, by decide +kernel⟩, List.mem_of_getElem? (i := 430) (by decide +kernel), List.mem_of_getElem? (i := 1009) (by decide +kernel), List.mem_of_getElem? (i := 1010) (by decide +kernel)⟩
theorem lw_p33 : lw_okq (⟨"ThroughPack$Odds", "chanceBy", "(IIIIZI)I"⟩, 6) := ⟨⟨by decide +kernel, by decide +kernel⟩, List.mem_of_getElem? (i := 477) (by decide +kernel), List.mem_of_getElem? (i := 1057) (by decide +kernel), List.mem_of_getElem? (i := 1058) (by decide +kernel)⟩
theorem lw_p34 : lw_okq (⟨"ThroughPack$Odds", "leaves", "(II)Z"⟩, 6) := ⟨⟨by decide +kernel, by decide +kernel⟩, List.mem_of_getElem? (i := 477) (by decide +kernel), List.mem_of_getElem? (i := 1063) (by decide +kernel), List.mem_of_getElem? (i := 1064) (by decide +kernel)⟩
theorem lw_p35 : lw_okq (⟨"ThroughPack$Odds", "bestFrom", "(IIIZI)I"⟩, 6) := ⟨⟨by decide +kernel, by decide +kernel⟩, List.mem_of_getElem? (i := 477) (by decide +kernel), List.mem_of_getElem? (i := 1072) (by decide +kernel), List.mem_of_getElem? (i := 1073) (by decide +kernel)⟩
theorem lw_p36 : lw_okq (⟨"ThroughPack$Odds", "tenthsOf", "(II)I"⟩, 6) := ⟨⟨by decide +kernel, by decide +kernel⟩, List.mem_of_getElem? (i := 477) (by decide +kernel), List.mem_of_getElem? (i := 1081) (by decide +kernel), List.mem_of_getElem? (i := 1082) (by decide +kernel)⟩
theorem lw_p37 : lw_okq (⟨"ThroughPack$Odds", "getsOut", "(IIIIZI)Z"⟩, 6) := ⟨⟨by decide +kernel, by decide +kernel⟩, List.mem_of_getElem? (i := 477) (by decide +kernel), List.mem_of_getElem? (i := 1085) (by decide +kernel), List.mem_of_getElem? (i := 1086) (by decide +kernel)⟩
theorem lw_p38 : lw_okq (⟨"ThroughPack$Ways", "spread", "(II)I"⟩, 12) := ⟨⟨by decide +kernel, by decide +kernel⟩, List.mem_of_getElem? (i := 430) (by decide +kernel), List.mem_of_getElem? (i := 1097) (by decide +kernel), List.mem_of_getElem? (i := 1098) (by decide +kernel)⟩
theorem lw_p39 : lw_okq (⟨"ThroughPack$Looks", "weight", "(II)J"⟩, 4) := ⟨⟨by decide +kernel, by decide +kernel⟩, List.mem_of_getElem? (i := 162) (by decide +kernel), List.mem_of_getElem? (i := 1133) (by decide +kernel), List.mem_of_getElem? (i := 1134) (by decide +kernel)⟩
theorem lw_p40 : lw_okq (⟨"ThroughPack$Helm", "chosen", "(LThroughPack$Text;)I"⟩, 6) := ⟨⟨by decide +kernel, by decide +kernel⟩, List.mem_of_getElem? (i := 362) (by decide +kernel), List.mem_of_getElem? (i := 1153) (by decide +kernel), List.mem_of_getElem? (i := 1154) (by decide +kernel)⟩
theorem lw_p41 : lw_okq (⟨"ThroughPackModel", "isCell", "(I)Z"⟩, 47) := ⟨⟨by decide +kernel, by decide +kernel⟩, List.mem_of_getElem? (i := 1203) (by decide +kernel), List.mem_of_getElem? (i := 1358) (by decide +kernel), List.mem_of_getElem? (i := 1359) (by decide +kernel)⟩
theorem lw_p42 : lw_okq (⟨"ThroughPackModel", "four", "(I)V"⟩, 47) := ⟨⟨by decide +kernel, by decide +kernel⟩, List.mem_of_getElem? (i := 1203) (by decide +kernel), List.mem_of_getElem? (i := 1410) (by decide +kernel), List.mem_of_getElem? (i := 1411) (by decide +kernel)⟩
theorem lw_p43 : lw_okq (⟨"ThroughPackModel", "readText", "()I"⟩, 47) := ⟨⟨by decide +kernel, by decide +kernel⟩, List.mem_of_getElem? (i := 1203) (by decide +kernel), List.mem_of_getElem? (i := 1422) (by decide +kernel), List.mem_of_getElem? (i := 1423) (by decide +kernel)⟩
theorem lw_p44 : lw_okq (⟨"ThroughPackModel", "nextToken", "()V"⟩, 47) := ⟨⟨by decide +kernel, by decide +kernel⟩, List.mem_of_getElem? (i := 1203) (by decide +kernel), List.mem_of_getElem? (i := 1426) (by decide +kernel), List.mem_of_getElem? (i := 1427) (by decide +kernel)⟩
theorem lw_p45 : lw_okq (⟨"ThroughPackModel", "byteAt", "(I)I"⟩, 47) := ⟨⟨by decide +kernel, by decide +kernel⟩, List.mem_of_getElem? (i := 1203) (by decide +kernel), List.mem_of_getElem? (i := 1430) (by decide +kernel), List.mem_of_getElem? (i := 1431) (by decide +kernel)⟩
theorem lw_p46 : lw_okq (⟨"ThroughPackModel", "clause", "()I"⟩, 47) := ⟨⟨by decide +kernel, by decide +kernel⟩, List.mem_of_getElem? (i := 1203) (by decide +kernel), List.mem_of_getElem? (i := 1441) (by decide +kernel), List.mem_of_getElem? (i := 1442) (by decide +kernel)⟩
theorem lw_p47 : lw_okq (⟨"ThroughPackModel", "sortOf", "()I"⟩, 47) := ⟨⟨by decide +kernel, by decide +kernel⟩, List.mem_of_getElem? (i := 1203) (by decide +kernel), List.mem_of_getElem? (i := 1445) (by decide +kernel), List.mem_of_getElem? (i := 1446) (by decide +kernel)⟩
def lw_privs_3 : List (MethodName × Nat) := [(⟨"ThroughPack$Ways", "reachAfoot", "(II)V"⟩, 12), (⟨"ThroughPack$Odds", "chanceBy", "(IIIIZI)I"⟩, 6), (⟨"ThroughPack$Odds", "leaves", "(II)Z"⟩, 6), (⟨"ThroughPack$Odds", "bestFrom", "(IIIZI)I"⟩, 6), (⟨"ThroughPack$Odds", "tenthsOf", "(II)I"⟩, 6), (⟨"ThroughPack$Odds", "getsOut", "(IIIIZI)Z"⟩, 6), (⟨"ThroughPack$Ways", "spread", "(II)I"⟩, 12), (⟨"ThroughPack$Looks", "weight", "(II)J"⟩, 4), (⟨"ThroughPack$Helm", "chosen", "(LThroughPack$Text;)I"⟩, 6), (⟨"ThroughPackModel", "isCell", "(I)Z"⟩, 47), (⟨"ThroughPackModel", "four", "(I)V"⟩, 47), (⟨"ThroughPackModel", "readText", "()I"⟩, 47), (⟨"ThroughPackModel", "nextToken", "()V"⟩, 47), (⟨"ThroughPackModel", "byteAt", "(I)I"⟩, 47), (⟨"ThroughPackModel", "clause", "()I"⟩, 47), (⟨"ThroughPackModel", "sortOf", "()I"⟩, 47)]
theorem lw_r3 : ∀ q ∈ lw_privs_3, lw_okq q := List.forall_mem_cons.mpr ⟨lw_p32, List.forall_mem_cons.mpr ⟨lw_p33, List.forall_mem_cons.mpr ⟨lw_p34, List.forall_mem_cons.mpr ⟨lw_p35, List.forall_mem_cons.mpr ⟨lw_p36, List.forall_mem_cons.mpr ⟨lw_p37, List.forall_mem_cons.mpr ⟨lw_p38, List.forall_mem_cons.mpr ⟨lw_p39, List.forall_mem_cons.mpr ⟨lw_p40, List.forall_mem_cons.mpr ⟨lw_p41, List.forall_mem_cons.mpr ⟨lw_p42, List.forall_mem_cons.mpr ⟨lw_p43, List.forall_mem_cons.mpr ⟨lw_p44, List.forall_mem_cons.mpr ⟨lw_p45, List.forall_mem_cons.mpr ⟨lw_p46, List.forall_mem_cons.mpr ⟨lw_p47, fun _ h => absurd h List.not_mem_nil⟩⟩⟩⟩⟩⟩⟩⟩⟩⟩⟩⟩⟩⟩⟩⟩
theorem lw_p48 : lw_okq (⟨"ThroughPackModel", "isWord", "(J)Z"⟩, 47) := ⟨⟨by decide +kernel, by decide +kernel⟩, List.mem_of_getElem? (i := 1203) (by decide +kernel), List.mem_of_getElem? (i := 1452) (by decide +kernel), List.mem_of_getElem? (i := 1453) (by decide +kernel)⟩
theorem lw_p49 : lw_okq (⟨"ThroughPackModel", "goesBy", "(I)I"⟩, 47) := ⟨⟨by decide +kernel, by decide +kernel⟩, List.mem_of_getElem? (i := 1203) (by decide +kernel), List.mem_of_getElem? (i := 1460) (by decide +kernel), List.mem_of_getElem? (i := 1461) (by decide +kernel)⟩
theorem lw_p50 : lw_okq (⟨"ThroughPackModel", "summed", "()I"⟩, 47) := ⟨⟨by decide +kernel, by decide +kernel⟩, List.mem_of_getElem? (i := 1203) (by decide +kernel), List.mem_of_getElem? (i := 1464) (by decide +kernel), List.mem_of_getElem? (i := 1465) (by decide +kernel)⟩
theorem lw_p51 : lw_okq (⟨"ThroughPackModel", "goesOn", "()Z"⟩, 47) := ⟨⟨by decide +kernel, by decide +kernel⟩, List.mem_of_getElem? (i := 1203) (by decide +kernel), List.mem_of_getElem? (i := 1468) (by decide +kernel), List.mem_of_getElem? (i := 1469) (by decide +kernel)⟩
theorem lw_p52 : lw_okq (⟨"ThroughPackModel", "hasParen", "()Z"⟩, 47) := ⟨⟨by decide +kernel, by decide +kernel⟩, List.mem_of_getElem? (i := 1203) (by decide +kernel), List.mem_of_getElem? (i := 1472) (by decide +kernel), List.mem_of_getElem? (i := 1473) (by decide +kernel)⟩
theorem lw_p53 : lw_okq (⟨"ThroughPackModel", "behindOne", "()I"⟩, 47) := ⟨⟨by decide +kernel, by decide +kernel⟩, List.mem_of_getElem? (i := 1203) (by decide +kernel), List.mem_of_getElem? (i := 1476) (by decide +kernel), List.mem_of_getElem? (i := 1477) (by decide +kernel)⟩
theorem lw_p54 : lw_okq (⟨"ThroughPackModel", "settle", "(I)V"⟩, 47) := ⟨⟨by decide +kernel, by decide +kernel⟩, List.mem_of_getElem? (i := 1203) (by decide +kernel), List.mem_of_getElem? (i := 1480) (by decide +kernel), List.mem_of_getElem? (i := 1481) (by decide +kernel)⟩
theorem lw_p55 : lw_okq (⟨"ThroughPackModel", "emit", "(II)V"⟩, 47) := ⟨⟨by decide +kernel, by decide +kernel⟩, List.mem_of_getElem? (i := 1203) (by decide +kernel), List.mem_of_getElem? (i := 1484) (by decide +kernel), List.mem_of_getElem? (i := 1485) (by decide +kernel)⟩
theorem lw_p56 : lw_okq (⟨"ThroughPackModel", "push", "(I)V"⟩, 47) := ⟨⟨by decide +kernel, by decide +kernel⟩, List.mem_of_getElem? (i := 1203) (by decide +kernel), List.mem_of_getElem? (i := 1488) (by decide +kernel), List.mem_of_getElem? (i := 1489) (by decide +kernel)⟩
theorem lw_p57 : lw_okq (⟨"ThroughPackModel", "whole", "()V"⟩, 47) := ⟨⟨by decide +kernel, by decide +kernel⟩, List.mem_of_getElem? (i := 1203) (by decide +kernel), List.mem_of_getElem? (i := 1492) (by decide +kernel), List.mem_of_getElem? (i := 1493) (by decide +kernel)⟩
theorem lw_p58 : lw_okq (⟨"ThroughPackModel", "beginOne", "()I"⟩, 47) := ⟨⟨by decide +kernel, by decide +kernel⟩, List.mem_of_getElem? (i := 1203) (by decide +kernel), List.mem_of_getElem? (i := 1496) (by decide +kernel), List.mem_of_getElem? (i := 1497) (by decide +kernel)⟩
theorem lw_p59 : lw_okq (⟨"ThroughPackModel", "nameOf", "()I"⟩, 47) := ⟨⟨by decide +kernel, by decide +kernel⟩, List.mem_of_getElem? (i := 1203) (by decide +kernel), List.mem_of_getElem? (i := 1500) (by decide +kernel), List.mem_of_getElem? (i := 1501) (by decide +kernel)⟩
theorem lw_p60 : lw_okq (⟨"ThroughPackModel", "isBarred", "(I)Z"⟩, 47) := ⟨⟨by decide +kernel, by decide +kernel⟩, List.mem_of_getElem? (i := 1203) (by decide +kernel), List.mem_of_getElem? (i := 1512) (by decide +kernel), List.mem_of_getElem? (i := 1513) (by decide +kernel)⟩
theorem lw_p61 : lw_okq (⟨"ThroughPackModel", "either", "()I"⟩, 47) := ⟨⟨by decide +kernel, by decide +kernel⟩, List.mem_of_getElem? (i := 1203) (by decide +kernel), List.mem_of_getElem? (i := 1516) (by decide +kernel), List.mem_of_getElem? (i := 1517) (by decide +kernel)⟩
theorem lw_p62 : lw_okq (⟨"ThroughPackModel", "asks", "()I"⟩, 47) := ⟨⟨by decide +kernel, by decide +kernel⟩, List.mem_of_getElem? (i := 1203) (by decide +kernel), List.mem_of_getElem? (i := 1520) (by decide +kernel), List.mem_of_getElem? (i := 1521) (by decide +kernel)⟩
theorem lw_p63 : lw_okq (⟨"ThroughPackModel", "compareOf", "()I"⟩, 47) := ⟨⟨by decide +kernel, by decide +kernel⟩, List.mem_of_getElem? (i := 1203) (by decide +kernel), List.mem_of_getElem? (i := 1524) (by decide +kernel), List.mem_of_getElem? (i := 1525) (by decide +kernel)⟩
def lw_privs_4 : List (MethodName × Nat) := [(⟨"ThroughPackModel", "isWord", "(J)Z"⟩, 47), (⟨"ThroughPackModel", "goesBy", "(I)I"⟩, 47), (⟨"ThroughPackModel", "summed", "()I"⟩, 47), (⟨"ThroughPackModel", "goesOn", "()Z"⟩, 47), (⟨"ThroughPackModel", "hasParen", "()Z"⟩, 47), (⟨"ThroughPackModel", "behindOne", "()I"⟩, 47), (⟨"ThroughPackModel", "settle", "(I)V"⟩, 47), (⟨"ThroughPackModel", "emit", "(II)V"⟩, 47), (⟨"ThroughPackModel", "push", "(I)V"⟩, 47), (⟨"ThroughPackModel", "whole", "()V"⟩, 47), (⟨"ThroughPackModel", "beginOne", "()I"⟩, 47), (⟨"ThroughPackModel", "nameOf", "()I"⟩, 47), (⟨"ThroughPackModel", "isBarred", "(I)Z"⟩, 47), (⟨"ThroughPackModel", "either", "()I"⟩, 47), (⟨"ThroughPackModel", "asks", "()I"⟩, 47), (⟨"ThroughPackModel", "compareOf", "()I"⟩, 47)]
theorem lw_r4 : ∀ q ∈ lw_privs_4, lw_okq q := List.forall_mem_cons.mpr ⟨lw_p48, List.forall_mem_cons.mpr ⟨lw_p49, List.forall_mem_cons.mpr ⟨lw_p50, List.forall_mem_cons.mpr ⟨lw_p51, List.forall_mem_cons.mpr ⟨lw_p52, List.forall_mem_cons.mpr ⟨lw_p53, List.forall_mem_cons.mpr ⟨lw_p54, List.forall_mem_cons.mpr ⟨lw_p55, List.forall_mem_cons.mpr ⟨lw_p56, List.forall_mem_cons.mpr ⟨lw_p57, List.forall_mem_cons.mpr ⟨lw_p58, List.forall_mem_cons.mpr ⟨lw_p59, List.forall_mem_cons.mpr ⟨lw_p60, List.forall_mem_cons.mpr ⟨lw_p61, List.forall_mem_cons.mpr ⟨lw_p62, List.forall_mem_cons.mpr ⟨lw_p63, fun _ h => absurd h List.not_mem_nil⟩⟩⟩⟩⟩⟩⟩⟩⟩⟩⟩⟩⟩⟩⟩⟩
theorem lw_p64 : lw_okq (⟨"ThroughPackModel", "isFree", "(I)Z"⟩, 47) := ⟨⟨by decide +kernel, by decide +kernel⟩, List.mem_of_getElem? (i := 1203) (by decide +kernel), List.mem_of_getElem? (i := 1544) (by decide +kernel), List.mem_of_getElem? (i := 1545) (by decide +kernel)⟩
theorem lw_p65 : lw_okq (⟨"ThroughPackModel", "layNow", "(I)V"⟩, 47) := ⟨⟨by decide +kernel, by decide +kernel⟩, List.mem_of_getElem? (i := 1203) (by decide +kernel), List.mem_of_getElem? (i := 1548) (by decide +kernel), List.mem_of_getElem? (i := 1549) (by decide +kernel)⟩
theorem lw_p66 : lw_okq (⟨"ThroughPackModel", "costOf", "(III)I"⟩, 47) := ⟨⟨by decide +kernel, by decide +kernel⟩, List.mem_of_getElem? (i := 1203) (by decide +kernel), List.mem_of_getElem? (i := 1552) (by decide +kernel), List.mem_of_getElem? (i := 1553) (by decide +kernel)⟩
theorem lw_p67 : lw_okq (⟨"ThroughPackModel", "orderCost", "(IIIIIII)I"⟩, 47) := ⟨⟨by decide +kernel, by decide +kernel⟩, List.mem_of_getElem? (i := 1203) (by decide +kernel), List.mem_of_getElem? (i := 1556) (by decide +kernel), List.mem_of_getElem? (i := 1557) (by decide +kernel)⟩
theorem lw_p68 : lw_okq (⟨"ThroughPackModel", "pushed", "(II)I"⟩, 47) := ⟨⟨by decide +kernel, by decide +kernel⟩, List.mem_of_getElem? (i := 1203) (by decide +kernel), List.mem_of_getElem? (i := 1560) (by decide +kernel), List.mem_of_getElem? (i := 1561) (by decide +kernel)⟩
theorem lw_p69 : lw_okq (⟨"ThroughPackModel", "besideBy", "(III)I"⟩, 47) := ⟨⟨by decide +kernel, by decide +kernel⟩, List.mem_of_getElem? (i := 1203) (by decide +kernel), List.mem_of_getElem? (i := 1564) (by decide +kernel), List.mem_of_getElem? (i := 1565) (by decide +kernel)⟩
theorem lw_p70 : lw_okq (⟨"ThroughPackModel", "pushCost", "(IIII)I"⟩, 47) := ⟨⟨by decide +kernel, by decide +kernel⟩, List.mem_of_getElem? (i := 1203) (by decide +kernel), List.mem_of_getElem? (i := 1568) (by decide +kernel), List.mem_of_getElem? (i := 1569) (by decide +kernel)⟩
theorem lw_p71 : lw_okq (⟨"ThroughPackModel", "nameCell", "(IIII)V"⟩, 47) := ⟨⟨by decide +kernel, by decide +kernel⟩, List.mem_of_getElem? (i := 1203) (by decide +kernel), List.mem_of_getElem? (i := 1572) (by decide +kernel), List.mem_of_getElem? (i := 1573) (by decide +kernel)⟩
theorem lw_p72 : lw_okq (⟨"ThroughPackModel", "iceOf", "(II)I"⟩, 47) := ⟨⟨by decide +kernel, by decide +kernel⟩, List.mem_of_getElem? (i := 1203) (by decide +kernel), List.mem_of_getElem? (i := 1576) (by decide +kernel), List.mem_of_getElem? (i := 1577) (by decide +kernel)⟩
theorem lw_p73 : lw_okq (⟨"ThroughPackModel", "isAny", "(IZ)Z"⟩, 47) := ⟨⟨by decide +kernel, by decide +kernel⟩, List.mem_of_getElem? (i := 1203) (by decide +kernel), List.mem_of_getElem? (i := 1580) (by decide +kernel), List.mem_of_getElem? (i := 1581) (by decide +kernel)⟩
theorem lw_p74 : lw_okq (⟨"ThroughPackModel", "clauses", "(I)I"⟩, 47) := ⟨⟨by decide +kernel, by decide +kernel⟩, List.mem_of_getElem? (i := 1203) (by decide +kernel), List.mem_of_getElem? (i := 1584) (by decide +kernel), List.mem_of_getElem? (i := 1585) (by decide +kernel)⟩
theorem lw_p75 : lw_okq (⟨"ThroughPackModel", "sortAt", "(II)I"⟩, 47) := ⟨⟨by decide +kernel, by decide +kernel⟩, List.mem_of_getElem? (i := 1203) (by decide +kernel), List.mem_of_getElem? (i := 1588) (by decide +kernel), List.mem_of_getElem? (i := 1589) (by decide +kernel)⟩
theorem lw_p76 : lw_okq (⟨"ThroughPackModel", "work", "(II)V"⟩, 47) := ⟨⟨by decide +kernel, by decide +kernel⟩, List.mem_of_getElem? (i := 1203) (by decide +kernel), List.mem_of_getElem? (i := 1592) (by decide +kernel), List.mem_of_getElem? (i := 1593) (by decide +kernel)⟩
theorem lw_p77 : lw_okq (⟨"ThroughPackModel", "sumOf", "(II)I"⟩, 47) := ⟨⟨by decide +kernel, by decide +kernel⟩, List.mem_of_getElem? (i := 1203) (by decide +kernel), List.mem_of_getElem? (i := 1607) (by decide +kernel), List.mem_of_getElem? (i := 1608) (by decide +kernel)⟩
theorem lw_p78 : lw_okq (⟨"ThroughPackModel", "does", "(III)Z"⟩, 47) := ⟨⟨by decide +kernel, by decide +kernel⟩, List.mem_of_getElem? (i := 1203) (by decide +kernel), List.mem_of_getElem? (i := 1616) (by decide +kernel), List.mem_of_getElem? (i := 1617) (by decide +kernel)⟩
theorem lw_p79 : lw_okq (⟨"ThroughPackModel", "go", "(IIII)V"⟩, 47) := ⟨⟨by decide +kernel, by decide +kernel⟩, List.mem_of_getElem? (i := 1203) (by decide +kernel), List.mem_of_getElem? (i := 1623) (by decide +kernel), List.mem_of_getElem? (i := 1624) (by decide +kernel)⟩
def lw_privs_5 : List (MethodName × Nat) := [(⟨"ThroughPackModel", "isFree", "(I)Z"⟩, 47), (⟨"ThroughPackModel", "layNow", "(I)V"⟩, 47), (⟨"ThroughPackModel", "costOf", "(III)I"⟩, 47), (⟨"ThroughPackModel", "orderCost", "(IIIIIII)I"⟩, 47), (⟨"ThroughPackModel", "pushed", "(II)I"⟩, 47), (⟨"ThroughPackModel", "besideBy", "(III)I"⟩, 47), (⟨"ThroughPackModel", "pushCost", "(IIII)I"⟩, 47), (⟨"ThroughPackModel", "nameCell", "(IIII)V"⟩, 47), (⟨"ThroughPackModel", "iceOf", "(II)I"⟩, 47), (⟨"ThroughPackModel", "isAny", "(IZ)Z"⟩, 47), (⟨"ThroughPackModel", "clauses", "(I)I"⟩, 47), (⟨"ThroughPackModel", "sortAt", "(II)I"⟩, 47), (⟨"ThroughPackModel", "work", "(II)V"⟩, 47), (⟨"ThroughPackModel", "sumOf", "(II)I"⟩, 47), (⟨"ThroughPackModel", "does", "(III)Z"⟩, 47), (⟨"ThroughPackModel", "go", "(IIII)V"⟩, 47)]
theorem lw_r5 : ∀ q ∈ lw_privs_5, lw_okq q := List.forall_mem_cons.mpr ⟨lw_p64, List.forall_mem_cons.mpr ⟨lw_p65, List.forall_mem_cons.mpr ⟨lw_p66, List.forall_mem_cons.mpr ⟨lw_p67, List.forall_mem_cons.mpr ⟨lw_p68, List.forall_mem_cons.mpr ⟨lw_p69, List.forall_mem_cons.mpr ⟨lw_p70, List.forall_mem_cons.mpr ⟨lw_p71, List.forall_mem_cons.mpr ⟨lw_p72, List.forall_mem_cons.mpr ⟨lw_p73, List.forall_mem_cons.mpr ⟨lw_p74, List.forall_mem_cons.mpr ⟨lw_p75, List.forall_mem_cons.mpr ⟨lw_p76, List.forall_mem_cons.mpr ⟨lw_p77, List.forall_mem_cons.mpr ⟨lw_p78, List.forall_mem_cons.mpr ⟨lw_p79, fun _ h => absurd h List.not_mem_nil⟩⟩⟩⟩⟩⟩⟩⟩⟩⟩⟩⟩⟩⟩⟩⟩
theorem lw_p80 : lw_okq (⟨"ThroughPackModel", "driven", "(III)I"⟩, 47) := ⟨⟨by decide +kernel, by decide +kernel⟩, List.mem_of_getElem? (i := 1203) (by decide +kernel), List.mem_of_getElem? (i := 1627) (by decide +kernel), List.mem_of_getElem? (i := 1628) (by decide +kernel)⟩
theorem lw_p81 : lw_okq (⟨"ThroughPackModel", "floatShip", "(IZII)V"⟩, 47) := ⟨⟨by decide +kernel, by decide +kernel⟩, List.mem_of_getElem? (i := 1203) (by decide +kernel), List.mem_of_getElem? (i := 1631) (by decide +kernel), List.mem_of_getElem? (i := 1632) (by decide +kernel)⟩
theorem lw_p82 : lw_okq (⟨"ThroughPackModel", "drifted", "(II)I"⟩, 47) := ⟨⟨by decide +kernel, by decide +kernel⟩, List.mem_of_getElem? (i := 1203) (by decide +kernel), List.mem_of_getElem? (i := 1635) (by decide +kernel), List.mem_of_getElem? (i := 1636) (by decide +kernel)⟩
theorem lw_p83 : lw_okq (⟨"ThroughPackModel", "nips", "(IIII)Z"⟩, 47) := ⟨⟨by decide +kernel, by decide +kernel⟩, List.mem_of_getElem? (i := 1203) (by decide +kernel), List.mem_of_getElem? (i := 1639) (by decide +kernel), List.mem_of_getElem? (i := 1640) (by decide +kernel)⟩
theorem lw_p84 : lw_okq (⟨"ThroughPackModel", "findOut", "()V"⟩, 47) := ⟨⟨by decide +kernel, by decide +kernel⟩, List.mem_of_getElem? (i := 1203) (by decide +kernel), List.mem_of_getElem? (i := 1659) (by decide +kernel), List.mem_of_getElem? (i := 1660) (by decide +kernel)⟩
theorem lw_p85 : lw_okq (⟨"ThroughPackModel", "look", "()V"⟩, 47) := ⟨⟨by decide +kernel, by decide +kernel⟩, List.mem_of_getElem? (i := 1203) (by decide +kernel), List.mem_of_getElem? (i := 1663) (by decide +kernel), List.mem_of_getElem? (i := 1664) (by decide +kernel)⟩
theorem lw_p86 : lw_okq (⟨"ThroughPackModel", "windBefore", "(I)I"⟩, 47) := ⟨⟨by decide +kernel, by decide +kernel⟩, List.mem_of_getElem? (i := 1203) (by decide +kernel), List.mem_of_getElem? (i := 1667) (by decide +kernel), List.mem_of_getElem? (i := 1668) (by decide +kernel)⟩
theorem lw_p87 : lw_okq (⟨"ThroughPackModel", "bestOut", "(IIII)I"⟩, 47) := ⟨⟨by decide +kernel, by decide +kernel⟩, List.mem_of_getElem? (i := 1203) (by decide +kernel), List.mem_of_getElem? (i := 1674) (by decide +kernel), List.mem_of_getElem? (i := 1675) (by decide +kernel)⟩
theorem lw_p88 : lw_okq (⟨"ThroughPackModel", "outBy", "(IIIII)I"⟩, 47) := ⟨⟨by decide +kernel, by decide +kernel⟩, List.mem_of_getElem? (i := 1203) (by decide +kernel), List.mem_of_getElem? (i := 1678) (by decide +kernel), List.mem_of_getElem? (i := 1679) (by decide +kernel)⟩
theorem lw_p89 : lw_okq (⟨"ThroughPackModel", "costAhead", "(IIIII)I"⟩, 47) := ⟨⟨by decide +kernel, by decide +kernel⟩, List.mem_of_getElem? (i := 1203) (by decide +kernel), List.mem_of_getElem? (i := 1682) (by decide +kernel), List.mem_of_getElem? (i := 1683) (by decide +kernel)⟩
theorem lw_p90 : lw_okq (⟨"ThroughPackModel", "cellAhead", "(III)I"⟩, 47) := ⟨⟨by decide +kernel, by decide +kernel⟩, List.mem_of_getElem? (i := 1203) (by decide +kernel), List.mem_of_getElem? (i := 1686) (by decide +kernel), List.mem_of_getElem? (i := 1687) (by decide +kernel)⟩
theorem lw_p91 : lw_okq (⟨"ThroughPackModel", "shipCell", "()I"⟩, 47) := ⟨⟨by decide +kernel, by decide +kernel⟩, List.mem_of_getElem? (i := 1203) (by decide +kernel), List.mem_of_getElem? (i := 1690) (by decide +kernel), List.mem_of_getElem? (i := 1691) (by decide +kernel)⟩
theorem lw_p92 : lw_okq (⟨"ThroughPackModel", "shipCoal", "()I"⟩, 47) := ⟨⟨by decide +kernel, by decide +kernel⟩, List.mem_of_getElem? (i := 1203) (by decide +kernel), List.mem_of_getElem? (i := 1694) (by decide +kernel), List.mem_of_getElem? (i := 1695) (by decide +kernel)⟩
theorem lw_p93 : lw_okq (⟨"ThroughPackModel", "shipBanked", "()I"⟩, 47) := ⟨⟨by decide +kernel, by decide +kernel⟩, List.mem_of_getElem? (i := 1203) (by decide +kernel), List.mem_of_getElem? (i := 1698) (by decide +kernel), List.mem_of_getElem? (i := 1699) (by decide +kernel)⟩
theorem lw_p94 : lw_okq (⟨"ThroughPackModel", "follow", "()V"⟩, 47) := ⟨⟨by decide +kernel, by decide +kernel⟩, List.mem_of_getElem? (i := 1203) (by decide +kernel), List.mem_of_getElem? (i := 1714) (by decide +kernel), List.mem_of_getElem? (i := 1715) (by decide +kernel)⟩
theorem lw_p95 : lw_okq (⟨"ThroughPackModel", "canHome", "(IIII)Z"⟩, 47) := ⟨⟨by decide +kernel, by decide +kernel⟩, List.mem_of_getElem? (i := 1203) (by decide +kernel), List.mem_of_getElem? (i := 1726) (by decide +kernel), List.mem_of_getElem? (i := 1727) (by decide +kernel)⟩
def lw_privs_6 : List (MethodName × Nat) := [(⟨"ThroughPackModel", "driven", "(III)I"⟩, 47), (⟨"ThroughPackModel", "floatShip", "(IZII)V"⟩, 47), (⟨"ThroughPackModel", "drifted", "(II)I"⟩, 47), (⟨"ThroughPackModel", "nips", "(IIII)Z"⟩, 47), (⟨"ThroughPackModel", "findOut", "()V"⟩, 47), (⟨"ThroughPackModel", "look", "()V"⟩, 47), (⟨"ThroughPackModel", "windBefore", "(I)I"⟩, 47), (⟨"ThroughPackModel", "bestOut", "(IIII)I"⟩, 47), (⟨"ThroughPackModel", "outBy", "(IIIII)I"⟩, 47), (⟨"ThroughPackModel", "costAhead", "(IIIII)I"⟩, 47), (⟨"ThroughPackModel", "cellAhead", "(III)I"⟩, 47), (⟨"ThroughPackModel", "shipCell", "()I"⟩, 47), (⟨"ThroughPackModel", "shipCoal", "()I"⟩, 47), (⟨"ThroughPackModel", "shipBanked", "()I"⟩, 47), (⟨"ThroughPackModel", "follow", "()V"⟩, 47), (⟨"ThroughPackModel", "canHome", "(IIII)Z"⟩, 47)]
theorem lw_r6 : ∀ q ∈ lw_privs_6, lw_okq q := List.forall_mem_cons.mpr ⟨lw_p80, List.forall_mem_cons.mpr ⟨lw_p81, List.forall_mem_cons.mpr ⟨lw_p82, List.forall_mem_cons.mpr ⟨lw_p83, List.forall_mem_cons.mpr ⟨lw_p84, List.forall_mem_cons.mpr ⟨lw_p85, List.forall_mem_cons.mpr ⟨lw_p86, List.forall_mem_cons.mpr ⟨lw_p87, List.forall_mem_cons.mpr ⟨lw_p88, List.forall_mem_cons.mpr ⟨lw_p89, List.forall_mem_cons.mpr ⟨lw_p90, List.forall_mem_cons.mpr ⟨lw_p91, List.forall_mem_cons.mpr ⟨lw_p92, List.forall_mem_cons.mpr ⟨lw_p93, List.forall_mem_cons.mpr ⟨lw_p94, List.forall_mem_cons.mpr ⟨lw_p95, fun _ h => absurd h List.not_mem_nil⟩⟩⟩⟩⟩⟩⟩⟩⟩⟩⟩⟩⟩⟩⟩⟩
theorem lw_p96 : lw_okq (⟨"ThroughPackModel", "walkFrom", "(II)I"⟩, 47) := ⟨⟨by decide +kernel, by decide +kernel⟩, List.mem_of_getElem? (i := 1203) (by decide +kernel), List.mem_of_getElem? (i := 1734) (by decide +kernel), List.mem_of_getElem? (i := 1735) (by decide +kernel)⟩
theorem lw_p97 : lw_okq (⟨"ThroughPackModel", "walkOn", "(I)V"⟩, 47) := ⟨⟨by decide +kernel, by decide +kernel⟩, List.mem_of_getElem? (i := 1203) (by decide +kernel), List.mem_of_getElem? (i := 1738) (by decide +kernel), List.mem_of_getElem? (i := 1739) (by decide +kernel)⟩
theorem lw_p98 : lw_okq (⟨"ThroughPackModel", "walks", "(IIII)Z"⟩, 47) := ⟨⟨by decide +kernel, by decide +kernel⟩, List.mem_of_getElem? (i := 1203) (by decide +kernel), List.mem_of_getElem? (i := 1742) (by decide +kernel), List.mem_of_getElem? (i := 1743) (by decide +kernel)⟩
theorem lw_p99 : lw_okq (⟨"ThroughPackModel", "winterAt", "(I)I"⟩, 47) := ⟨⟨by decide +kernel, by decide +kernel⟩, List.mem_of_getElem? (i := 1203) (by decide +kernel), List.mem_of_getElem? (i := 1754) (by decide +kernel), List.mem_of_getElem? (i := 1755) (by decide +kernel)⟩
theorem lw_p100 : lw_okq (⟨"ThroughPackModel", "hope", "(I)I"⟩, 47) := ⟨⟨by decide +kernel, by decide +kernel⟩, List.mem_of_getElem? (i := 1203) (by decide +kernel), List.mem_of_getElem? (i := 1762) (by decide +kernel), List.mem_of_getElem? (i := 1763) (by decide +kernel)⟩
theorem lw_p101 : lw_okq (⟨"ThroughPackModel", "isWayOut", "(II)Z"⟩, 47) := ⟨⟨by decide +kernel, by decide +kernel⟩, List.mem_of_getElem? (i := 1203) (by decide +kernel), List.mem_of_getElem? (i := 1766) (by decide +kernel), List.mem_of_getElem? (i := 1767) (by decide +kernel)⟩
theorem lw_p102 : lw_okq (⟨"ThroughPackModel", "hopeBehind", "(III)I"⟩, 47) := ⟨⟨by decide +kernel, by decide +kernel⟩, List.mem_of_getElem? (i := 1203) (by decide +kernel), List.mem_of_getElem? (i := 1770) (by decide +kernel), List.mem_of_getElem? (i := 1771) (by decide +kernel)⟩
theorem lw_p103 : lw_okq (⟨"ThroughPackModel", "chanceOf", "(II)I"⟩, 47) := ⟨⟨by decide +kernel, by decide +kernel⟩, List.mem_of_getElem? (i := 1203) (by decide +kernel), List.mem_of_getElem? (i := 1774) (by decide +kernel), List.mem_of_getElem? (i := 1775) (by decide +kernel)⟩
theorem lw_p104 : lw_okq (⟨"ThroughPackModel", "behind", "(III)I"⟩, 47) := ⟨⟨by decide +kernel, by decide +kernel⟩, List.mem_of_getElem? (i := 1203) (by decide +kernel), List.mem_of_getElem? (i := 1778) (by decide +kernel), List.mem_of_getElem? (i := 1779) (by decide +kernel)⟩
theorem lw_p105 : lw_okq (⟨"ThroughPackModel", "hopeOne", "(IIIIII)I"⟩, 47) := ⟨⟨by decide +kernel, by decide +kernel⟩, List.mem_of_getElem? (i := 1203) (by decide +kernel), List.mem_of_getElem? (i := 1782) (by decide +kernel), List.mem_of_getElem? (i := 1783) (by decide +kernel)⟩
theorem lw_p106 : lw_okq (⟨"ThroughPackModel", "hopeTwo", "(IIIIIII)I"⟩, 47) := ⟨⟨by decide +kernel, by decide +kernel⟩, List.mem_of_getElem? (i := 1203) (by decide +kernel), List.mem_of_getElem? (i := 1786) (by decide +kernel), List.mem_of_getElem? (i := 1787) (by decide +kernel)⟩
theorem lw_p107 : lw_okq (⟨"ThroughPackModel", "known", "(I)I"⟩, 47) := ⟨⟨by decide +kernel, by decide +kernel⟩, List.mem_of_getElem? (i := 1203) (by decide +kernel), List.mem_of_getElem? (i := 1790) (by decide +kernel), List.mem_of_getElem? (i := 1791) (by decide +kernel)⟩
theorem lw_p108 : lw_okq (⟨"ThroughPackModel", "weigh", "(II)J"⟩, 47) := ⟨⟨by decide +kernel, by decide +kernel⟩, List.mem_of_getElem? (i := 1203) (by decide +kernel), List.mem_of_getElem? (i := 1810) (by decide +kernel), List.mem_of_getElem? (i := 1811) (by decide +kernel)⟩
theorem lw_p109 : lw_okq (⟨"ThroughPackModel", "isText", "(I)Z"⟩, 47) := ⟨⟨by decide +kernel, by decide +kernel⟩, List.mem_of_getElem? (i := 1203) (by decide +kernel), List.mem_of_getElem? (i := 1820) (by decide +kernel), List.mem_of_getElem? (i := 1821) (by decide +kernel)⟩
theorem lw_p110 : lw_okq (⟨"ThroughPackModel", "runAll", "(III)V"⟩, 47) := ⟨⟨by decide +kernel, by decide +kernel⟩, List.mem_of_getElem? (i := 1203) (by decide +kernel), List.mem_of_getElem? (i := 1824) (by decide +kernel), List.mem_of_getElem? (i := 1825) (by decide +kernel)⟩
theorem lw_p111 : lw_okq (⟨"ThroughPackModel", "orderBy", "(I)I"⟩, 47) := ⟨⟨by decide +kernel, by decide +kernel⟩, List.mem_of_getElem? (i := 1203) (by decide +kernel), List.mem_of_getElem? (i := 1828) (by decide +kernel), List.mem_of_getElem? (i := 1829) (by decide +kernel)⟩
def lw_privs_7 : List (MethodName × Nat) := [(⟨"ThroughPackModel", "walkFrom", "(II)I"⟩, 47), (⟨"ThroughPackModel", "walkOn", "(I)V"⟩, 47), (⟨"ThroughPackModel", "walks", "(IIII)Z"⟩, 47), (⟨"ThroughPackModel", "winterAt", "(I)I"⟩, 47), (⟨"ThroughPackModel", "hope", "(I)I"⟩, 47), (⟨"ThroughPackModel", "isWayOut", "(II)Z"⟩, 47), (⟨"ThroughPackModel", "hopeBehind", "(III)I"⟩, 47), (⟨"ThroughPackModel", "chanceOf", "(II)I"⟩, 47), (⟨"ThroughPackModel", "behind", "(III)I"⟩, 47), (⟨"ThroughPackModel", "hopeOne", "(IIIIII)I"⟩, 47), (⟨"ThroughPackModel", "hopeTwo", "(IIIIIII)I"⟩, 47), (⟨"ThroughPackModel", "known", "(I)I"⟩, 47), (⟨"ThroughPackModel", "weigh", "(II)J"⟩, 47), (⟨"ThroughPackModel", "isText", "(I)Z"⟩, 47), (⟨"ThroughPackModel", "runAll", "(III)V"⟩, 47), (⟨"ThroughPackModel", "orderBy", "(I)I"⟩, 47)]
theorem lw_r7 : ∀ q ∈ lw_privs_7, lw_okq q := List.forall_mem_cons.mpr ⟨lw_p96, List.forall_mem_cons.mpr ⟨lw_p97, List.forall_mem_cons.mpr ⟨lw_p98, List.forall_mem_cons.mpr ⟨lw_p99, List.forall_mem_cons.mpr ⟨lw_p100, List.forall_mem_cons.mpr ⟨lw_p101, List.forall_mem_cons.mpr ⟨lw_p102, List.forall_mem_cons.mpr ⟨lw_p103, List.forall_mem_cons.mpr ⟨lw_p104, List.forall_mem_cons.mpr ⟨lw_p105, List.forall_mem_cons.mpr ⟨lw_p106, List.forall_mem_cons.mpr ⟨lw_p107, List.forall_mem_cons.mpr ⟨lw_p108, List.forall_mem_cons.mpr ⟨lw_p109, List.forall_mem_cons.mpr ⟨lw_p110, List.forall_mem_cons.mpr ⟨lw_p111, fun _ h => absurd h List.not_mem_nil⟩⟩⟩⟩⟩⟩⟩⟩⟩⟩⟩⟩⟩⟩⟩⟩
theorem lw_p112 : lw_okq (⟨"ThroughPackModel", "canRun", "(I)Z"⟩, 47) := ⟨⟨by decide +kernel, by decide +kernel⟩, List.mem_of_getElem? (i := 1203) (by decide +kernel), List.mem_of_getElem? (i := 1832) (by decide +kernel), List.mem_of_getElem? (i := 1833) (by decide +kernel)⟩
theorem lw_p113 : lw_okq (⟨"ThroughPackModel", "drawWind", "(I)I"⟩, 47) := ⟨⟨by decide +kernel, by decide +kernel⟩, List.mem_of_getElem? (i := 1203) (by decide +kernel), List.mem_of_getElem? (i := 1836) (by decide +kernel), List.mem_of_getElem? (i := 1837) (by decide +kernel)⟩
theorem lw_p114 : lw_okq (⟨"ThroughPackModel", "runOne", "(II)V"⟩, 47) := ⟨⟨by decide +kernel, by decide +kernel⟩, List.mem_of_getElem? (i := 1203) (by decide +kernel), List.mem_of_getElem? (i := 1840) (by decide +kernel), List.mem_of_getElem? (i := 1841) (by decide +kernel)⟩
def lw_privs_8 : List (MethodName × Nat) := [(⟨"ThroughPackModel", "canRun", "(I)Z"⟩, 47), (⟨"ThroughPackModel", "drawWind", "(I)I"⟩, 47), (⟨"ThroughPackModel", "runOne", "(II)V"⟩, 47)]
theorem lw_r8 : ∀ q ∈ lw_privs_8, lw_okq q := List.forall_mem_cons.mpr ⟨lw_p112, List.forall_mem_cons.mpr ⟨lw_p113, List.forall_mem_cons.mpr ⟨lw_p114, fun _ h => absurd h List.not_mem_nil⟩⟩⟩
def lw_privs : List (MethodName × Nat) := lw_privs_1 ++ (lw_privs_2 ++ (lw_privs_3 ++ (lw_privs_4 ++ (lw_privs_5 ++ (lw_privs_6 ++ (lw_privs_7 ++ (lw_privs_8)))))))
def lw_tbl : List Cond := k2_sels lw_privs ++ tables_1
theorem lw_privs_ok : ∀ q ∈ lw_privs, lw_okq q := by
  show ∀ q ∈ lw_privs_1 ++ (lw_privs_2 ++ (lw_privs_3 ++ (lw_privs_4 ++ (lw_privs_5 ++ (lw_privs_6 ++ (lw_privs_7 ++ (lw_privs_8))))))), lw_okq q
  exact List.forall_mem_append.mpr ⟨lw_r1, List.forall_mem_append.mpr ⟨lw_r2, List.forall_mem_append.mpr ⟨lw_r3, List.forall_mem_append.mpr ⟨lw_r4, List.forall_mem_append.mpr ⟨lw_r5, List.forall_mem_append.mpr ⟨lw_r6, List.forall_mem_append.mpr ⟨lw_r7, lw_r8⟩⟩⟩⟩⟩⟩⟩
theorem goodIn_sub {big ws : List Cond} (hm : ∀ w ∈ ws, w ∈ big) (h : ws.all goodWord = true) : GoodIn big ws := fun w hw => ⟨hm w hw, good_of_word (List.all_eq_true.mp h w hw)⟩
def RX0 : String := "ThroughPack$Helm"
def TX0 : u_T := fun k => match k with
  | 0 => ("ThroughPack$Helm", "world", "LThroughPack$World;", true)
  | 1 => ("ThroughPack$Helm", "sea", "LThroughPack$Sea;", true)
  | 2 => ("ThroughPack$Helm", "judge", "LThroughPack$Judge;", true)
  | 3 => ("ThroughPack$Helm", "field", "[I", true)
  | 4 => ("ThroughPack$Helm", "runner", "LThroughPack$Ship;", true)
  | _ => ("ThroughPack$Helm", "watches", "I", false)
def tyX0 : Nat → FieldType := fun k => match k with
  | 0 => .object "ThroughPack$World"
  | 1 => .object "ThroughPack$Sea"
  | 2 => .object "ThroughPack$Judge"
  | 3 => .array .int
  | 4 => .object "ThroughPack$Ship"
  | _ => .int
abbrev wsX00 : List Cond := u_ws RX0 TX0 6
theorem nmX0 : ∀ a, a < 6 → ∀ b, b < 6 → a ≠ b → (TX0 a).2.1 ≠ (TX0 b).2.1 := by decide +kernel
theorem tyX0_ok : ∀ k, k < 6 → parseFieldDescriptor (TX0 k).2.2.1 = some (tyX0 k) := by decide +kernel
abbrev cX0_init : ByteArray := prog_2_method_1_code
def yX0_init : MethodName := ⟨RX0, "<init>", "(LThroughPack$World;LThroughPack$Judge;)V"⟩
abbrev cX0_price : ByteArray := prog_2_method_2_code
def yX0_price : MethodName := ⟨RX0, "price", "(IZI)I"⟩
abbrev cX0_landing : ByteArray := prog_2_method_3_code
def yX0_landing : MethodName := ⟨RX0, "landing", "(III)I"⟩
abbrev cX0_isPush : ByteArray := prog_2_method_4_code
def yX0_isPush : MethodName := ⟨RX0, "isPush", "(I)Z"⟩
abbrev cX0_banksBehind : ByteArray := prog_2_method_5_code
def yX0_banksBehind : MethodName := ⟨RX0, "banksBehind", "(IZ)Z"⟩
abbrev cX0_priceFor : ByteArray := prog_2_method_6_code
def yX0_priceFor : MethodName := ⟨RX0, "priceFor", "(LThroughPack$Ship;I)I"⟩
abbrev cX0_obey : ByteArray := prog_2_method_7_code
def yX0_obey : MethodName := ⟨RX0, "obey", "(LThroughPack$Ship;I)Z"⟩
abbrev cX0_settle : ByteArray := prog_2_method_8_code
def yX0_settle : MethodName := ⟨RX0, "settle", "(LThroughPack$Ship;II)V"⟩
abbrev cX0_sail : ByteArray := prog_2_method_9_code
def yX0_sail : MethodName := ⟨RX0, "sail", "(LThroughPack$Text;II)V"⟩
abbrev cX0_chosen : ByteArray := prog_2_method_10_code
def yX0_chosen : MethodName := ⟨RX0, "chosen", "(LThroughPack$Text;)I"⟩
def RX1 : String := "ThroughPack$Judge"
def TX1 : u_T := fun k => match k with
  | 0 => ("ThroughPack$Judge", "sea", "LThroughPack$Sea;", true)
  | 1 => ("ThroughPack$Judge", "stack", "[I", true)
  | 2 => ("ThroughPack$Judge", "carried", "[I", true)
  | 3 => ("ThroughPack$Judge", "law", "LThroughPack$Text;", false)
  | 4 => ("ThroughPack$Judge", "ice", "[I", false)
  | 5 => ("ThroughPack$Judge", "wind", "I", false)
  | 6 => ("ThroughPack$Judge", "watch", "I", false)
  | 7 => ("ThroughPack$Judge", "coal", "I", false)
  | _ => ("ThroughPack$Judge", "banked", "I", false)
def tyX1 : Nat → FieldType := fun k => match k with
  | 0 => .object "ThroughPack$Sea"
  | 1 => .array .int
  | 2 => .array .int
  | 3 => .object "ThroughPack$Text"
  | 4 => .array .int
  | 5 => .int
  | 6 => .int
  | 7 => .int
  | _ => .int
abbrev wsX10 : List Cond := u_ws RX1 TX1 9
theorem nmX1 : ∀ a, a < 9 → ∀ b, b < 9 → a ≠ b → (TX1 a).2.1 ≠ (TX1 b).2.1 := by decide +kernel
theorem tyX1_ok : ∀ k, k < 9 → parseFieldDescriptor (TX1 k).2.2.1 = some (tyX1 k) := by decide +kernel
abbrev cX1_init : ByteArray := prog_3_method_1_code
def yX1_init : MethodName := ⟨RX1, "<init>", "(LThroughPack$Sea;)V"⟩
abbrev cX1_face : ByteArray := prog_3_method_2_code
def yX1_face : MethodName := ⟨RX1, "face", "([III)V"⟩
abbrev cX1_isOpen : ByteArray := prog_3_method_3_code
def yX1_isOpen : MethodName := ⟨RX1, "isOpen", "(I)Z"⟩
abbrev cX1_isNipping : ByteArray := prog_3_method_4_code
def yX1_isNipping : MethodName := ⟨RX1, "isNipping", "(I)Z"⟩
abbrev cX1_isFirm : ByteArray := prog_3_method_5_code
def yX1_isFirm : MethodName := ⟨RX1, "isFirm", "(I)Z"⟩
abbrev cX1_toll : ByteArray := prog_3_method_6_code
def yX1_toll : MethodName := ⟨RX1, "toll", "(I)I"⟩
abbrev cX1_drive : ByteArray := prog_3_method_7_code
def yX1_drive : MethodName := ⟨RX1, "drive", "([I[III)V"⟩
abbrev cX1_wants : ByteArray := prog_3_method_8_code
def yX1_wants : MethodName := ⟨RX1, "wants", "(LThroughPack$Text;ILThroughPack$Ship;)Z"⟩
abbrev cX1_anySo : ByteArray := prog_3_method_9_code
def yX1_anySo : MethodName := ⟨RX1, "anySo", "(IIZ)Z"⟩
abbrev cX1_value : ByteArray := prog_3_method_10_code
def yX1_value : MethodName := ⟨RX1, "value", "(LThroughPack$Text;II)I"⟩
abbrev cX1_named : ByteArray := prog_3_method_11_code
def yX1_named : MethodName := ⟨RX1, "named", "(II)I"⟩
abbrev cX1_joined : ByteArray := prog_3_method_12_code
def yX1_joined : MethodName := ⟨RX1, "joined", "(III)J"⟩
def RX2 : String := "ThroughPack$Looks"
def TX2 : u_T := fun k => match k with
  | 0 => ("ThroughPack$Looks", "prior", "[I", true)
  | 1 => ("ThroughPack$Looks", "cells", "[I", true)
  | 2 => ("ThroughPack$Looks", "kinds", "[I", true)
  | _ => ("ThroughPack$Looks", "count", "I", false)
def tyX2 : Nat → FieldType := fun k => match k with
  | 0 => .array .int
  | 1 => .array .int
  | 2 => .array .int
  | _ => .int
abbrev wsX20 : List Cond := u_ws RX2 TX2 4
theorem nmX2 : ∀ a, a < 4 → ∀ b, b < 4 → a ≠ b → (TX2 a).2.1 ≠ (TX2 b).2.1 := by decide +kernel
theorem tyX2_ok : ∀ k, k < 4 → parseFieldDescriptor (TX2 k).2.2.1 = some (tyX2 k) := by decide +kernel
abbrev cX2_init : ByteArray := prog_4_method_1_code
def yX2_init : MethodName := ⟨RX2, "<init>", "()V"⟩
abbrev cX2_add : ByteArray := prog_4_method_2_code
def yX2_add : MethodName := ⟨RX2, "add", "(II)V"⟩
abbrev cX2_go : ByteArray := prog_4_method_3_code
def yX2_go : MethodName := ⟨RX2, "go", "(LThroughPack$Sea;I)V"⟩
abbrev cX2_seenIn : ByteArray := prog_4_method_4_code
def yX2_seenIn : MethodName := ⟨RX2, "seenIn", "(I)I"⟩
abbrev cX2_thousandths : ByteArray := prog_4_method_5_code
def yX2_thousandths : MethodName := ⟨RX2, "thousandths", "(II)I"⟩
abbrev cX2_weight : ByteArray := prog_4_method_6_code
def yX2_weight : MethodName := ⟨RX2, "weight", "(II)J"⟩
abbrev cX2_take : ByteArray := prog_4_method_7_code
def yX2_take : MethodName := ⟨RX2, "take", "(LThroughPack$Looks;)V"⟩
def RX3 : String := "ThroughPack$Odds"
def TX3 : u_T := fun k => match k with
  | 0 => ("ThroughPack$Odds", "world", "LThroughPack$World;", true)
  | 1 => ("ThroughPack$Odds", "sea", "LThroughPack$Sea;", true)
  | 2 => ("ThroughPack$Odds", "helm", "LThroughPack$Helm;", true)
  | 3 => ("ThroughPack$Odds", "outlook", "LThroughPack$Outlook;", true)
  | 4 => ("ThroughPack$Odds", "best", "I", false)
  | _ => ("ThroughPack$Odds", "first", "I", false)
def tyX3 : Nat → FieldType := fun k => match k with
  | 0 => .object "ThroughPack$World"
  | 1 => .object "ThroughPack$Sea"
  | 2 => .object "ThroughPack$Helm"
  | 3 => .object "ThroughPack$Outlook"
  | 4 => .int
  | _ => .int
abbrev wsX30 : List Cond := u_ws RX3 TX3 6
theorem nmX3 : ∀ a, a < 6 → ∀ b, b < 6 → a ≠ b → (TX3 a).2.1 ≠ (TX3 b).2.1 := by decide +kernel
theorem tyX3_ok : ∀ k, k < 6 → parseFieldDescriptor (TX3 k).2.2.1 = some (tyX3 k) := by decide +kernel
abbrev cX3_init : ByteArray := prog_5_method_1_code
def yX3_init : MethodName := ⟨RX3, "<init>", "(LThroughPack$World;LThroughPack$Helm;LThroughPack$Outlook;)V"⟩
abbrev cX3_tens : ByteArray := prog_5_method_2_code
def yX3_tens : MethodName := ⟨RX3, "tens", "(I)I"⟩
abbrev cX3_weigh : ByteArray := prog_5_method_3_code
def yX3_weigh : MethodName := ⟨RX3, "weigh", "(I)V"⟩
abbrev cX3_chanceBy : ByteArray := prog_5_method_4_code
def yX3_chanceBy : MethodName := ⟨RX3, "chanceBy", "(IIIIZI)I"⟩
abbrev cX3_bestFrom : ByteArray := prog_5_method_5_code
def yX3_bestFrom : MethodName := ⟨RX3, "bestFrom", "(IIIZI)I"⟩
abbrev cX3_leaves : ByteArray := prog_5_method_6_code
def yX3_leaves : MethodName := ⟨RX3, "leaves", "(II)Z"⟩
abbrev cX3_knownAhead : ByteArray := prog_5_method_7_code
def yX3_knownAhead : MethodName := ⟨RX3, "knownAhead", "(I)I"⟩
abbrev cX3_tenthsOf : ByteArray := prog_5_method_8_code
def yX3_tenthsOf : MethodName := ⟨RX3, "tenthsOf", "(II)I"⟩
abbrev cX3_getsOut : ByteArray := prog_5_method_9_code
def yX3_getsOut : MethodName := ⟨RX3, "getsOut", "(IIIIZI)Z"⟩
def RX4 : String := "ThroughPack$Outlook"
def TX4 : u_T := fun k => match k with
  | 0 => ("ThroughPack$Outlook", "world", "LThroughPack$World;", true)
  | 1 => ("ThroughPack$Outlook", "sea", "LThroughPack$Sea;", true)
  | 2 => ("ThroughPack$Outlook", "judge", "LThroughPack$Judge;", true)
  | 3 => ("ThroughPack$Outlook", "ice", "[[I", true)
  | 4 => ("ThroughPack$Outlook", "tolls", "[[I", true)
  | 5 => ("ThroughPack$Outlook", "nips", "[[I", true)
  | 6 => ("ThroughPack$Outlook", "winds", "[I", true)
  | _ => ("ThroughPack$Outlook", "hours", "[I", true)
def tyX4 : Nat → FieldType := fun k => match k with
  | 0 => .object "ThroughPack$World"
  | 1 => .object "ThroughPack$Sea"
  | 2 => .object "ThroughPack$Judge"
  | 3 => .array (.array .int)
  | 4 => .array (.array .int)
  | 5 => .array (.array .int)
  | 6 => .array .int
  | _ => .array .int
abbrev wsX40 : List Cond := u_ws RX4 TX4 8
theorem nmX4 : ∀ a, a < 8 → ∀ b, b < 8 → a ≠ b → (TX4 a).2.1 ≠ (TX4 b).2.1 := by decide +kernel
theorem tyX4_ok : ∀ k, k < 8 → parseFieldDescriptor (TX4 k).2.2.1 = some (tyX4 k) := by decide +kernel
abbrev cX4_init : ByteArray := prog_6_method_1_code
def yX4_init : MethodName := ⟨RX4, "<init>", "(LThroughPack$World;LThroughPack$Judge;)V"⟩
abbrev cX4_foresee : ByteArray := prog_6_method_2_code
def yX4_foresee : MethodName := ⟨RX4, "foresee", "()V"⟩
abbrev cX4_foreseeAll : ByteArray := prog_6_method_3_code
def yX4_foreseeAll : MethodName := ⟨RX4, "foreseeAll", "(I)V"⟩
abbrev cX4_behind : ByteArray := prog_6_method_4_code
def yX4_behind : MethodName := ⟨RX4, "behind", "(II)I"⟩
abbrev cX4_begin : ByteArray := prog_6_method_5_code
def yX4_begin : MethodName := ⟨RX4, "begin", "()V"⟩
abbrev cX4_follow : ByteArray := prog_6_method_6_code
def yX4_follow : MethodName := ⟨RX4, "follow", "(III)V"⟩
abbrev cX4_askTolls : ByteArray := prog_6_method_7_code
def yX4_askTolls : MethodName := ⟨RX4, "askTolls", "(I)V"⟩
abbrev cX4_tollOf : ByteArray := prog_6_method_8_code
def yX4_tollOf : MethodName := ⟨RX4, "tollOf", "(III)I"⟩
def RX5 : String := "ThroughPack$Reader"
def TX5 : u_T := fun k => match k with
  | 0 => ("ThroughPack$Reader", "tape", "[I", true)
  | 1 => ("ThroughPack$Reader", "tokens", "[I", true)
  | 2 => ("ThroughPack$Reader", "starts", "[I", true)
  | 3 => ("ThroughPack$Reader", "values", "[I", true)
  | 4 => ("ThroughPack$Reader", "bytes", "I", false)
  | 5 => ("ThroughPack$Reader", "fault", "I", false)
  | 6 => ("ThroughPack$Reader", "place", "I", false)
  | 7 => ("ThroughPack$Reader", "text", "LThroughPack$Text;", false)
  | 8 => ("ThroughPack$Reader", "split", "I", false)
  | 9 => ("ThroughPack$Reader", "at", "I", false)
  | 10 => ("ThroughPack$Reader", "token", "I", false)
  | _ => ("ThroughPack$Reader", "clause", "I", false)
def tyX5 : Nat → FieldType := fun k => match k with
  | 0 => .array .int
  | 1 => .array .int
  | 2 => .array .int
  | 3 => .array .int
  | 4 => .int
  | 5 => .int
  | 6 => .int
  | 7 => .object "ThroughPack$Text"
  | 8 => .int
  | 9 => .int
  | 10 => .int
  | _ => .int
abbrev wsX50 : List Cond := u_ws RX5 TX5 12
theorem nmX5 : ∀ a, a < 12 → ∀ b, b < 12 → a ≠ b → (TX5 a).2.1 ≠ (TX5 b).2.1 := by decide +kernel
theorem tyX5_ok : ∀ k, k < 12 → parseFieldDescriptor (TX5 k).2.2.1 = some (tyX5 k) := by decide +kernel
abbrev cX5_init : ByteArray := prog_7_method_1_code
def yX5_init : MethodName := ⟨RX5, "<init>", "()V"⟩
abbrev cX5_take : ByteArray := prog_7_method_2_code
def yX5_take : MethodName := ⟨RX5, "take", "(I)V"⟩
abbrev cX5_reads : ByteArray := prog_7_method_3_code
def yX5_reads : MethodName := ⟨RX5, "reads", "(LThroughPack$Text;)Z"⟩
abbrev cX5_next : ByteArray := prog_7_method_4_code
def yX5_next : MethodName := ⟨RX5, "next", "()V"⟩
abbrev cX5_faulty : ByteArray := prog_7_method_5_code
def yX5_faulty : MethodName := ⟨RX5, "faulty", "(I)Z"⟩
abbrev cX5_readsClause : ByteArray := prog_7_method_6_code
def yX5_readsClause : MethodName := ⟨RX5, "readsClause", "()Z"⟩
abbrev cX5_readsOrder : ByteArray := prog_7_method_7_code
def yX5_readsOrder : MethodName := ⟨RX5, "readsOrder", "()I"⟩
abbrev cX5_readsEither : ByteArray := prog_7_method_8_code
def yX5_readsEither : MethodName := ⟨RX5, "readsEither", "()Z"⟩
abbrev cX5_readsAsk : ByteArray := prog_7_method_9_code
def yX5_readsAsk : MethodName := ⟨RX5, "readsAsk", "(I)Z"⟩
abbrev cX5_readsSum : ByteArray := prog_7_method_10_code
def yX5_readsSum : MethodName := ⟨RX5, "readsSum", "(I)Z"⟩
abbrev cX5_readsOne : ByteArray := prog_7_method_11_code
def yX5_readsOne : MethodName := ⟨RX5, "readsOne", "(I)Z"⟩
abbrev cX5_splitTape : ByteArray := prog_7_method_12_code
def yX5_splitTape : MethodName := ⟨RX5, "splitTape", "()V"⟩
abbrev cX5_splitWord : ByteArray := prog_7_method_13_code
def yX5_splitWord : MethodName := ⟨RX5, "splitWord", "()I"⟩
abbrev cX5_isWord : ByteArray := prog_7_method_14_code
def yX5_isWord : MethodName := ⟨RX5, "isWord", "(III)Z"⟩
abbrev cX5_splitNumber : ByteArray := prog_7_method_15_code
def yX5_splitNumber : MethodName := ⟨RX5, "splitNumber", "()I"⟩
abbrev cX5_splitSign : ByteArray := prog_7_method_16_code
def yX5_splitSign : MethodName := ⟨RX5, "splitSign", "()I"⟩
abbrev cX5_plainSign : ByteArray := prog_7_method_17_code
def yX5_plainSign : MethodName := ⟨RX5, "plainSign", "(I)I"⟩
abbrev cX5_isLetter : ByteArray := prog_7_method_18_code
def yX5_isLetter : MethodName := ⟨RX5, "isLetter", "(I)Z"⟩
abbrev cX5_isDigit : ByteArray := prog_7_method_19_code
def yX5_isDigit : MethodName := ⟨RX5, "isDigit", "(I)Z"⟩
def RX6 : String := "ThroughPack$Sea"
def TX6 : u_T := fun k => match k with
  | 0 => ("ThroughPack$Sea", "w", "I", true)
  | 1 => ("ThroughPack$Sea", "h", "I", true)
  | 2 => ("ThroughPack$Sea", "size", "I", true)
  | 3 => ("ThroughPack$Sea", "ice", "[I", true)
  | 4 => ("ThroughPack$Sea", "exit", "[Z", true)
  | 5 => ("ThroughPack$Sea", "shore", "[Z", true)
  | 6 => ("ThroughPack$Sea", "dx", "[I", true)
  | 7 => ("ThroughPack$Sea", "dy", "[I", true)
  | 8 => ("ThroughPack$Sea", "chance", "[I", true)
  | 9 => ("ThroughPack$Sea", "edge", "I", false)
  | 10 => ("ThroughPack$Sea", "wind", "I", false)
  | _ => ("ThroughPack$Sea", "watch", "I", false)
def tyX6 : Nat → FieldType := fun k => match k with
  | 0 => .int
  | 1 => .int
  | 2 => .int
  | 3 => .array .int
  | 4 => .array .boolean
  | 5 => .array .boolean
  | 6 => .array .int
  | 7 => .array .int
  | 8 => .array .int
  | 9 => .int
  | 10 => .int
  | _ => .int
abbrev wsX60 : List Cond := u_ws RX6 TX6 12
theorem nmX6 : ∀ a, a < 12 → ∀ b, b < 12 → a ≠ b → (TX6 a).2.1 ≠ (TX6 b).2.1 := by decide +kernel
theorem tyX6_ok : ∀ k, k < 12 → parseFieldDescriptor (TX6 k).2.2.1 = some (tyX6 k) := by decide +kernel
abbrev cX6_init : ByteArray := prog_8_method_1_code
def yX6_init : MethodName := ⟨RX6, "<init>", "(II)V"⟩
abbrev cX6_has : ByteArray := prog_8_method_2_code
def yX6_has : MethodName := ⟨RX6, "has", "(I)Z"⟩
abbrev cX6_off : ByteArray := prog_8_method_3_code
def yX6_off : MethodName := ⟨RX6, "off", "(III)I"⟩
abbrev cX6_beside : ByteArray := prog_8_method_4_code
def yX6_beside : MethodName := ⟨RX6, "beside", "(II)I"⟩
abbrev cX6_carried : ByteArray := prog_8_method_5_code
def yX6_carried : MethodName := ⟨RX6, "carried", "(II)I"⟩
abbrev cX6_afloat : ByteArray := prog_8_method_6_code
def yX6_afloat : MethodName := ⟨RX6, "afloat", "(II)I"⟩
abbrev cX6_drawn : ByteArray := prog_8_method_7_code
def yX6_drawn : MethodName := ⟨RX6, "drawn", "(II)I"⟩
abbrev cX6_take : ByteArray := prog_8_method_8_code
def yX6_take : MethodName := ⟨RX6, "take", "(LThroughPack$Sea;)V"⟩
def RX7 : String := "ThroughPack$Ship"
def TX7 : u_T := fun k => match k with
  | 0 => ("ThroughPack$Ship", "cell", "I", false)
  | 1 => ("ThroughPack$Ship", "coal", "I", false)
  | 2 => ("ThroughPack$Ship", "fate", "I", false)
  | 3 => ("ThroughPack$Ship", "banked", "Z", false)
  | _ => ("ThroughPack$Ship", "there", "Z", false)
def tyX7 : Nat → FieldType := fun k => match k with
  | 0 => .int
  | 1 => .int
  | 2 => .int
  | 3 => .boolean
  | _ => .boolean
abbrev wsX70 : List Cond := u_ws RX7 TX7 5
theorem nmX7 : ∀ a, a < 5 → ∀ b, b < 5 → a ≠ b → (TX7 a).2.1 ≠ (TX7 b).2.1 := by decide +kernel
theorem tyX7_ok : ∀ k, k < 5 → parseFieldDescriptor (TX7 k).2.2.1 = some (tyX7 k) := by decide +kernel
abbrev cX7_init : ByteArray := prog_9_method_1_code
def yX7_init : MethodName := ⟨RX7, "<init>", "(Z)V"⟩
abbrev cX7_put : ByteArray := prog_9_method_2_code
def yX7_put : MethodName := ⟨RX7, "put", "(II)V"⟩
abbrev cX7_take : ByteArray := prog_9_method_3_code
def yX7_take : MethodName := ⟨RX7, "take", "(LThroughPack$Ship;)V"⟩
def RX8 : String := "ThroughPack$Text"
def TX8 : u_T := fun k => match k with
  | 0 => ("ThroughPack$Text", "steps", "[I", true)
  | 1 => ("ThroughPack$Text", "from", "[I", true)
  | 2 => ("ThroughPack$Text", "kinds", "[I", true)
  | 3 => ("ThroughPack$Text", "numbers", "[I", true)
  | 4 => ("ThroughPack$Text", "clauses", "I", false)
  | _ => ("ThroughPack$Text", "length", "I", false)
def tyX8 : Nat → FieldType := fun k => match k with
  | 0 => .array .int
  | 1 => .array .int
  | 2 => .array .int
  | 3 => .array .int
  | 4 => .int
  | _ => .int
abbrev wsX80 : List Cond := u_ws RX8 TX8 6
theorem nmX8 : ∀ a, a < 6 → ∀ b, b < 6 → a ≠ b → (TX8 a).2.1 ≠ (TX8 b).2.1 := by decide +kernel
theorem tyX8_ok : ∀ k, k < 6 → parseFieldDescriptor (TX8 k).2.2.1 = some (tyX8 k) := by decide +kernel
abbrev cX8_init : ByteArray := prog_10_method_1_code
def yX8_init : MethodName := ⟨RX8, "<init>", "()V"⟩
abbrev cX8_clear : ByteArray := prog_10_method_2_code
def yX8_clear : MethodName := ⟨RX8, "clear", "()V"⟩
abbrev cX8_add : ByteArray := prog_10_method_3_code
def yX8_add : MethodName := ⟨RX8, "add", "(I)V"⟩
abbrev cX8_close : ByteArray := prog_10_method_4_code
def yX8_close : MethodName := ⟨RX8, "close", "(II)V"⟩
abbrev cX8_firstOf : ByteArray := prog_10_method_5_code
def yX8_firstOf : MethodName := ⟨RX8, "firstOf", "(I)I"⟩
def RX9 : String := "ThroughPack$Ways"
def TX9 : u_T := fun k => match k with
  | 0 => ("ThroughPack$Ways", "world", "LThroughPack$World;", true)
  | 1 => ("ThroughPack$Ways", "sea", "LThroughPack$Sea;", true)
  | 2 => ("ThroughPack$Ways", "helm", "LThroughPack$Helm;", true)
  | 3 => ("ThroughPack$Ways", "judge", "LThroughPack$Judge;", true)
  | 4 => ("ThroughPack$Ways", "outlook", "LThroughPack$Outlook;", true)
  | 5 => ("ThroughPack$Ways", "spent", "[[I", true)
  | 6 => ("ThroughPack$Ways", "needs", "[[I", true)
  | 7 => ("ThroughPack$Ways", "afoot", "[[I", true)
  | 8 => ("ThroughPack$Ways", "behind", "[LThroughPack$Ship;", true)
  | 9 => ("ThroughPack$Ways", "pushes", "[I", true)
  | 10 => ("ThroughPack$Ways", "queue", "[I", true)
  | _ => ("ThroughPack$Ways", "outFor", "I", false)
def tyX9 : Nat → FieldType := fun k => match k with
  | 0 => .object "ThroughPack$World"
  | 1 => .object "ThroughPack$Sea"
  | 2 => .object "ThroughPack$Helm"
  | 3 => .object "ThroughPack$Judge"
  | 4 => .object "ThroughPack$Outlook"
  | 5 => .array (.array .int)
  | 6 => .array (.array .int)
  | 7 => .array (.array .int)
  | 8 => .array (.object "ThroughPack$Ship")
  | 9 => .array .int
  | 10 => .array .int
  | _ => .int
abbrev wsX90 : List Cond := u_ws RX9 TX9 12
theorem nmX9 : ∀ a, a < 12 → ∀ b, b < 12 → a ≠ b → (TX9 a).2.1 ≠ (TX9 b).2.1 := by decide +kernel
theorem tyX9_ok : ∀ k, k < 12 → parseFieldDescriptor (TX9 k).2.2.1 = some (tyX9 k) := by decide +kernel
abbrev cX9_init : ByteArray := prog_11_method_1_code
def yX9_init : MethodName := ⟨RX9, "<init>", "(LThroughPack$World;LThroughPack$Helm;LThroughPack$Judge;LThroughPack$Outlook;)V"⟩
abbrev cX9_fewestWatches : ByteArray := prog_11_method_2_code
def yX9_fewestWatches : MethodName := ⟨RX9, "fewestWatches", "()I"⟩
abbrev cX9_coalLeft : ByteArray := prog_11_method_3_code
def yX9_coalLeft : MethodName := ⟨RX9, "coalLeft", "()I"⟩
abbrev cX9_leastCoal : ByteArray := prog_11_method_4_code
def yX9_leastCoal : MethodName := ⟨RX9, "leastCoal", "()I"⟩
abbrev cX9_seekOut : ByteArray := prog_11_method_5_code
def yX9_seekOut : MethodName := ⟨RX9, "seekOut", "(IZ)I"⟩
abbrev cX9_clearSpent : ByteArray := prog_11_method_6_code
def yX9_clearSpent : MethodName := ⟨RX9, "clearSpent", "(I)V"⟩
abbrev cX9_seekFrom : ByteArray := prog_11_method_7_code
def yX9_seekFrom : MethodName := ⟨RX9, "seekFrom", "(IIZI)V"⟩
abbrev cX9_orderOfBest : ByteArray := prog_11_method_8_code
def yX9_orderOfBest : MethodName := ⟨RX9, "orderOfBest", "(II)I"⟩
abbrev cX9_lowestBest : ByteArray := prog_11_method_9_code
def yX9_lowestBest : MethodName := ⟨RX9, "lowestBest", "(IIZ)I"⟩
abbrev cX9_place : ByteArray := prog_11_method_10_code
def yX9_place : MethodName := ⟨RX9, "place", "(IZ)I"⟩
abbrev cX9_askNeeds : ByteArray := prog_11_method_11_code
def yX9_askNeeds : MethodName := ⟨RX9, "askNeeds", "(II)V"⟩
abbrev cX9_leastNeed : ByteArray := prog_11_method_12_code
def yX9_leastNeed : MethodName := ⟨RX9, "leastNeed", "(IIZII)I"⟩
abbrev cX9_needBy : ByteArray := prog_11_method_13_code
def yX9_needBy : MethodName := ⟨RX9, "needBy", "(IIIZI)I"⟩
abbrev cX9_followTold : ByteArray := prog_11_method_14_code
def yX9_followTold : MethodName := ⟨RX9, "followTold", "()I"⟩
abbrev cX9_goesOn : ByteArray := prog_11_method_15_code
def yX9_goesOn : MethodName := ⟨RX9, "goesOn", "(I)Z"⟩
abbrev cX9_toldCell : ByteArray := prog_11_method_16_code
def yX9_toldCell : MethodName := ⟨RX9, "toldCell", "(I)I"⟩
abbrev cX9_lastTurn : ByteArray := prog_11_method_17_code
def yX9_lastTurn : MethodName := ⟨RX9, "lastTurn", "()I"⟩
abbrev cX9_watchesAfoot : ByteArray := prog_11_method_18_code
def yX9_watchesAfoot : MethodName := ⟨RX9, "watchesAfoot", "(I)I"⟩
abbrev cX9_lastLeave : ByteArray := prog_11_method_19_code
def yX9_lastLeave : MethodName := ⟨RX9, "lastLeave", "()I"⟩
abbrev cX9_askAfoot : ByteArray := prog_11_method_20_code
def yX9_askAfoot : MethodName := ⟨RX9, "askAfoot", "()V"⟩
abbrev cX9_afootBehind : ByteArray := prog_11_method_21_code
def yX9_afootBehind : MethodName := ⟨RX9, "afootBehind", "(II)I"⟩
abbrev cX9_reachAfoot : ByteArray := prog_11_method_22_code
def yX9_reachAfoot : MethodName := ⟨RX9, "reachAfoot", "(II)V"⟩
abbrev cX9_nipsIn : ByteArray := prog_11_method_23_code
def yX9_nipsIn : MethodName := ⟨RX9, "nipsIn", "(I)I"⟩
abbrev cX9_calmest : ByteArray := prog_11_method_24_code
def yX9_calmest : MethodName := ⟨RX9, "calmest", "()I"⟩
abbrev cX9_openLeads : ByteArray := prog_11_method_25_code
def yX9_openLeads : MethodName := ⟨RX9, "openLeads", "()I"⟩
abbrev cX9_spread : ByteArray := prog_11_method_26_code
def yX9_spread : MethodName := ⟨RX9, "spread", "(II)I"⟩
abbrev cX9_pushesTo : ByteArray := prog_11_method_27_code
def yX9_pushesTo : MethodName := ⟨RX9, "pushesTo", "(I)I"⟩
def RX10 : String := "ThroughPack$World"
def TX10 : u_T := fun k => match k with
  | 0 => ("ThroughPack$World", "sea", "LThroughPack$Sea;", true)
  | 1 => ("ThroughPack$World", "first", "LThroughPack$Ship;", true)
  | 2 => ("ThroughPack$World", "second", "LThroughPack$Ship;", true)
  | 3 => ("ThroughPack$World", "costs", "[I", true)
  | 4 => ("ThroughPack$World", "looks", "LThroughPack$Looks;", true)
  | 5 => ("ThroughPack$World", "winds", "[I", true)
  | 6 => ("ThroughPack$World", "orders", "[I", true)
  | 7 => ("ThroughPack$World", "n", "I", false)
  | 8 => ("ThroughPack$World", "m", "I", false)
  | 9 => ("ThroughPack$World", "home", "I", false)
  | 10 => ("ThroughPack$World", "texts", "I", false)
  | _ => ("ThroughPack$World", "law", "I", false)
def tyX10 : Nat → FieldType := fun k => match k with
  | 0 => .object "ThroughPack$Sea"
  | 1 => .object "ThroughPack$Ship"
  | 2 => .object "ThroughPack$Ship"
  | 3 => .array .int
  | 4 => .object "ThroughPack$Looks"
  | 5 => .array .int
  | 6 => .array .int
  | 7 => .int
  | 8 => .int
  | 9 => .int
  | 10 => .int
  | _ => .int
abbrev wsX100 : List Cond := u_ws RX10 TX10 12
theorem nmX10 : ∀ a, a < 12 → ∀ b, b < 12 → a ≠ b → (TX10 a).2.1 ≠ (TX10 b).2.1 := by decide +kernel
theorem tyX10_ok : ∀ k, k < 12 → parseFieldDescriptor (TX10 k).2.2.1 = some (tyX10 k) := by decide +kernel
abbrev cX10_init : ByteArray := prog_12_method_1_code
def yX10_init : MethodName := ⟨RX10, "<init>", "(II)V"⟩
abbrev cX10_take : ByteArray := prog_12_method_2_code
def yX10_take : MethodName := ⟨RX10, "take", "(LThroughPack$World;)V"⟩
def RX11 : String := "ThroughPack"
def TX11 : u_T := fun k => match k with
  | 0 => ("ThroughPack", "now", "LThroughPack$World;", true)
  | 1 => ("ThroughPack", "kept", "LThroughPack$World;", true)
  | 2 => ("ThroughPack", "texts", "[LThroughPack$Text;", true)
  | 3 => ("ThroughPack", "reader", "LThroughPack$Reader;", true)
  | 4 => ("ThroughPack", "judge", "LThroughPack$Judge;", true)
  | 5 => ("ThroughPack", "helm", "LThroughPack$Helm;", true)
  | 6 => ("ThroughPack", "outlook", "LThroughPack$Outlook;", true)
  | 7 => ("ThroughPack", "ways", "LThroughPack$Ways;", true)
  | _ => ("ThroughPack", "odds", "LThroughPack$Odds;", true)
def tyX11 : Nat → FieldType := fun k => match k with
  | 0 => .object "ThroughPack$World"
  | 1 => .object "ThroughPack$World"
  | 2 => .array (.object "ThroughPack$Text")
  | 3 => .object "ThroughPack$Reader"
  | 4 => .object "ThroughPack$Judge"
  | 5 => .object "ThroughPack$Helm"
  | 6 => .object "ThroughPack$Outlook"
  | 7 => .object "ThroughPack$Ways"
  | _ => .object "ThroughPack$Odds"
abbrev wsX110 : List Cond := u_ws RX11 TX11 9
theorem nmX11 : ∀ a, a < 9 → ∀ b, b < 9 → a ≠ b → (TX11 a).2.1 ≠ (TX11 b).2.1 := by decide +kernel
theorem tyX11_ok : ∀ k, k < 9 → parseFieldDescriptor (TX11 k).2.2.1 = some (tyX11 k) := by decide +kernel
abbrev cX11_init : ByteArray := prog_1_method_1_code
def yX11_init : MethodName := ⟨RX11, "<init>", "(II)V"⟩
abbrev cX11_ice : ByteArray := prog_1_method_2_code
def yX11_ice : MethodName := ⟨RX11, "ice", "(II)Z"⟩
abbrev cX11_iceAt : ByteArray := prog_1_method_3_code
def yX11_iceAt : MethodName := ⟨RX11, "iceAt", "(I)I"⟩
abbrev cX11_mark : ByteArray := prog_1_method_4_code
def yX11_mark : MethodName := ⟨RX11, "mark", "(IZZ)Z"⟩
abbrev cX11_edge : ByteArray := prog_1_method_5_code
def yX11_edge : MethodName := ⟨RX11, "edge", "(I)Z"⟩
abbrev cX11_drift : ByteArray := prog_1_method_6_code
def yX11_drift : MethodName := ⟨RX11, "drift", "(III)Z"⟩
abbrev cX11_chances : ByteArray := prog_1_method_7_code
def yX11_chances : MethodName := ⟨RX11, "chances", "(IIIII)Z"⟩
abbrev cX11_ship : ByteArray := prog_1_method_8_code
def yX11_ship : MethodName := ⟨RX11, "ship", "(III)Z"⟩
abbrev cX11_costs : ByteArray := prog_1_method_9_code
def yX11_costs : MethodName := ⟨RX11, "costs", "(III)Z"⟩
abbrev cX11_wind : ByteArray := prog_1_method_10_code
def yX11_wind : MethodName := ⟨RX11, "wind", "(I)Z"⟩
abbrev cX11_feed : ByteArray := prog_1_method_11_code
def yX11_feed : MethodName := ⟨RX11, "feed", "(IIIII)I"⟩
abbrev cX11_end : ByteArray := prog_1_method_12_code
def yX11_end : MethodName := ⟨RX11, "end", "(I)I"⟩
abbrev cX11_text : ByteArray := prog_1_method_13_code
def yX11_text : MethodName := ⟨RX11, "text", "()I"⟩
abbrev cX11_fault : ByteArray := prog_1_method_14_code
def yX11_fault : MethodName := ⟨RX11, "fault", "(I)I"⟩
abbrev cX11_by : ByteArray := prog_1_method_15_code
def yX11_by : MethodName := ⟨RX11, "by", "(I)Z"⟩
abbrev cX11_can : ByteArray := prog_1_method_16_code
def yX11_can : MethodName := ⟨RX11, "can", "(II)Z"⟩
abbrev cX11_watch : ByteArray := prog_1_method_17_code
def yX11_watch : MethodName := ⟨RX11, "watch", "(III)I"⟩
abbrev cX11_of : ByteArray := prog_1_method_18_code
def yX11_of : MethodName := ⟨RX11, "of", "(II)I"⟩
abbrev cX11_ahead : ByteArray := prog_1_method_19_code
def yX11_ahead : MethodName := ⟨RX11, "ahead", "(II)I"⟩
abbrev cX11_many : ByteArray := prog_1_method_20_code
def yX11_many : MethodName := ⟨RX11, "many", "(II)Z"⟩
abbrev cX11_soonest : ByteArray := prog_1_method_21_code
def yX11_soonest : MethodName := ⟨RX11, "soonest", "(I)I"⟩
abbrev cX11_least : ByteArray := prog_1_method_22_code
def yX11_least : MethodName := ⟨RX11, "least", "()I"⟩
abbrev cX11_order : ByteArray := prog_1_method_23_code
def yX11_order : MethodName := ⟨RX11, "order", "(II)I"⟩
abbrev cX11_told : ByteArray := prog_1_method_24_code
def yX11_told : MethodName := ⟨RX11, "told", "(I)I"⟩
abbrev cX11_home : ByteArray := prog_1_method_25_code
def yX11_home : MethodName := ⟨RX11, "home", "(I)Z"⟩
abbrev cX11_last : ByteArray := prog_1_method_26_code
def yX11_last : MethodName := ⟨RX11, "last", "()I"⟩
abbrev cX11_walk : ByteArray := prog_1_method_27_code
def yX11_walk : MethodName := ⟨RX11, "walk", "(I)I"⟩
abbrev cX11_leave : ByteArray := prog_1_method_28_code
def yX11_leave : MethodName := ⟨RX11, "leave", "()I"⟩
abbrev cX11_winter : ByteArray := prog_1_method_29_code
def yX11_winter : MethodName := ⟨RX11, "winter", "(I)I"⟩
abbrev cX11_surest : ByteArray := prog_1_method_30_code
def yX11_surest : MethodName := ⟨RX11, "surest", "(II)I"⟩
abbrev cX11_leads : ByteArray := prog_1_method_31_code
def yX11_leads : MethodName := ⟨RX11, "leads", "(I)I"⟩
abbrev cX11_prior : ByteArray := prog_1_method_32_code
def yX11_prior : MethodName := ⟨RX11, "prior", "(II)Z"⟩
abbrev cX11_look : ByteArray := prog_1_method_33_code
def yX11_look : MethodName := ⟨RX11, "look", "(II)I"⟩
abbrev cX11_think : ByteArray := prog_1_method_34_code
def yX11_think : MethodName := ⟨RX11, "think", "(II)I"⟩
abbrev cX11_run : ByteArray := prog_1_method_35_code
def yX11_run : MethodName := ⟨RX11, "run", "(IIII)I"⟩
abbrev cX11_runs : ByteArray := prog_1_method_36_code
def yX11_runs : MethodName := ⟨RX11, "runs", "(IIIII)I"⟩
abbrev cX11_image : ByteArray := prog_1_method_37_code
def yX11_image : MethodName := ⟨RX11, "image", "()I"⟩
abbrev cX11_back : ByteArray := prog_1_method_38_code
def yX11_back : MethodName := ⟨RX11, "back", "()I"⟩
abbrev cX11_about : ByteArray := prog_1_method_39_code
def yX11_about : MethodName := ⟨RX11, "about", "(I)I"⟩
abbrev cX11_shipOf : ByteArray := prog_1_method_40_code
def yX11_shipOf : MethodName := ⟨RX11, "shipOf", "(I)LThroughPack$Ship;"⟩
abbrev cX11_isText : ByteArray := prog_1_method_41_code
def yX11_isText : MethodName := ⟨RX11, "isText", "(I)Z"⟩
abbrev cX11_heedLaw : ByteArray := prog_1_method_42_code
def yX11_heedLaw : MethodName := ⟨RX11, "heedLaw", "()V"⟩
abbrev cX11_isWind : ByteArray := prog_1_method_43_code
def yX11_isWind : MethodName := ⟨RX11, "isWind", "(I)Z"⟩
abbrev cX11_isOrder : ByteArray := prog_1_method_44_code
def yX11_isOrder : MethodName := ⟨RX11, "isOrder", "(I)Z"⟩
abbrev cX11_within : ByteArray := prog_1_method_45_code
def yX11_within : MethodName := ⟨RX11, "within", "(III)Z"⟩
abbrev cX11_held : ByteArray := prog_1_method_46_code
def yX11_held : MethodName := ⟨RX11, "held", "(III)I"⟩
def RX12 : String := "ThroughPackModel"
def TX12 : u_T := fun k => match k with
  | 0 => ("ThroughPackModel", "wide", "I", true)
  | 1 => ("ThroughPackModel", "high", "I", true)
  | 2 => ("ThroughPackModel", "cells", "I", true)
  | 3 => ("ThroughPackModel", "a", "[I", true)
  | 4 => ("ThroughPackModel", "image", "[I", true)
  | 5 => ("ThroughPackModel", "texts", "[I", true)
  | 6 => ("ThroughPackModel", "tape", "[I", true)
  | 7 => ("ThroughPackModel", "taped", "I", false)
  | 8 => ("ThroughPackModel", "fault", "I", false)
  | 9 => ("ThroughPackModel", "faultPlace", "I", false)
  | 10 => ("ThroughPackModel", "at", "I", false)
  | 11 => ("ThroughPackModel", "place", "I", false)
  | 12 => ("ThroughPackModel", "token", "I", false)
  | 13 => ("ThroughPackModel", "number", "I", false)
  | 14 => ("ThroughPackModel", "word", "J", false)
  | 15 => ("ThroughPackModel", "text0", "I", false)
  | 16 => ("ThroughPackModel", "clauses", "I", false)
  | 17 => ("ThroughPackModel", "written", "I", false)
  | 18 => ("ThroughPackModel", "came", "I", false)
  | 19 => ("ThroughPackModel", "pile", "[I", true)
  | 20 => ("ThroughPackModel", "piled", "I", false)
  | 21 => ("ThroughPackModel", "opens", "I", false)
  | 22 => ("ThroughPackModel", "isWhole", "Z", false)
  | 23 => ("ThroughPackModel", "sort0", "I", false)
  | 24 => ("ThroughPackModel", "once", "I", false)
  | 25 => ("ThroughPackModel", "named", "[I", true)
  | 26 => ("ThroughPackModel", "values", "[J", true)
  | 27 => ("ThroughPackModel", "truth", "[Z", true)
  | 28 => ("ThroughPackModel", "seas", "[I", true)
  | 29 => ("ThroughPackModel", "push", "[I", true)
  | 30 => ("ThroughPackModel", "bites", "[Z", true)
  | 31 => ("ThroughPackModel", "out", "[I", true)
  | 32 => ("ThroughPackModel", "followed", "I", false)
  | 33 => ("ThroughPackModel", "cellAt", "[I", true)
  | 34 => ("ThroughPackModel", "coalAt", "[I", true)
  | 35 => ("ThroughPackModel", "firesAt", "[I", true)
  | 36 => ("ThroughPackModel", "homes", "[Z", true)
  | 37 => ("ThroughPackModel", "here", "[Z", true)
  | 38 => ("ThroughPackModel", "then", "[Z", true)
  | 39 => ("ThroughPackModel", "begins", "I", false)
  | 40 => ("ThroughPackModel", "keptAhead", "[I", true)
  | 41 => ("ThroughPackModel", "ranCell", "I", false)
  | 42 => ("ThroughPackModel", "ranCoal", "I", false)
  | 43 => ("ThroughPackModel", "ranBanked", "I", false)
  | 44 => ("ThroughPackModel", "ranState", "I", false)
  | 45 => ("ThroughPackModel", "ranWatches", "I", false)
  | _ => ("ThroughPackModel", "ranWind", "I", false)
def tyX12 : Nat → FieldType := fun k => match k with
  | 0 => .int
  | 1 => .int
  | 2 => .int
  | 3 => .array .int
  | 4 => .array .int
  | 5 => .array .int
  | 6 => .array .int
  | 7 => .int
  | 8 => .int
  | 9 => .int
  | 10 => .int
  | 11 => .int
  | 12 => .int
  | 13 => .int
  | 14 => .long
  | 15 => .int
  | 16 => .int
  | 17 => .int
  | 18 => .int
  | 19 => .array .int
  | 20 => .int
  | 21 => .int
  | 22 => .boolean
  | 23 => .int
  | 24 => .int
  | 25 => .array .int
  | 26 => .array .long
  | 27 => .array .boolean
  | 28 => .array .int
  | 29 => .array .int
  | 30 => .array .boolean
  | 31 => .array .int
  | 32 => .int
  | 33 => .array .int
  | 34 => .array .int
  | 35 => .array .int
  | 36 => .array .boolean
  | 37 => .array .boolean
  | 38 => .array .boolean
  | 39 => .int
  | 40 => .array .int
  | 41 => .int
  | 42 => .int
  | 43 => .int
  | 44 => .int
  | 45 => .int
  | _ => .int
abbrev wsX120 : List Cond := u_ws RX12 TX12 47
theorem nmX12 : ∀ a, a < 47 → ∀ b, b < 47 → a ≠ b → (TX12 a).2.1 ≠ (TX12 b).2.1 := by decide +kernel
theorem tyX12_ok : ∀ k, k < 47 → parseFieldDescriptor (TX12 k).2.2.1 = some (tyX12 k) := by decide +kernel
abbrev cX12_init : ByteArray := prog_14_method_1_code
def yX12_init : MethodName := ⟨RX12, "<init>", "(II)V"⟩
abbrev cX12_copyRow : ByteArray := prog_14_method_2_code
def yX12_copyRow : MethodName := ⟨RX12, "copyRow", "([I[I)V"⟩
abbrev cX12_isIn : ByteArray := prog_14_method_3_code
def yX12_isIn : MethodName := ⟨RX12, "isIn", "(III)Z"⟩
abbrev cX12_isCell : ByteArray := prog_14_method_4_code
def yX12_isCell : MethodName := ⟨RX12, "isCell", "(I)Z"⟩
abbrev cX12_isWind : ByteArray := prog_14_method_5_code
def yX12_isWind : MethodName := ⟨RX12, "isWind", "(I)Z"⟩
abbrev cX12_besideBy : ByteArray := prog_14_method_6_code
def yX12_besideBy : MethodName := ⟨RX12, "besideBy", "(III)I"⟩
abbrev cX12_pushed : ByteArray := prog_14_method_7_code
def yX12_pushed : MethodName := ⟨RX12, "pushed", "(II)I"⟩
abbrev cX12_ice : ByteArray := prog_14_method_8_code
def yX12_ice : MethodName := ⟨RX12, "ice", "(II)Z"⟩
abbrev cX12_iceAt : ByteArray := prog_14_method_9_code
def yX12_iceAt : MethodName := ⟨RX12, "iceAt", "(I)I"⟩
abbrev cX12_mark : ByteArray := prog_14_method_10_code
def yX12_mark : MethodName := ⟨RX12, "mark", "(IZZ)Z"⟩
abbrev cX12_edge : ByteArray := prog_14_method_11_code
def yX12_edge : MethodName := ⟨RX12, "edge", "(I)Z"⟩
abbrev cX12_drift : ByteArray := prog_14_method_12_code
def yX12_drift : MethodName := ⟨RX12, "drift", "(III)Z"⟩
abbrev cX12_chances : ByteArray := prog_14_method_13_code
def yX12_chances : MethodName := ⟨RX12, "chances", "(IIIII)Z"⟩
abbrev cX12_isShip : ByteArray := prog_14_method_14_code
def yX12_isShip : MethodName := ⟨RX12, "isShip", "(I)Z"⟩
abbrev cX12_ofShip : ByteArray := prog_14_method_15_code
def yX12_ofShip : MethodName := ⟨RX12, "ofShip", "(II)I"⟩
abbrev cX12_ship : ByteArray := prog_14_method_16_code
def yX12_ship : MethodName := ⟨RX12, "ship", "(III)Z"⟩
abbrev cX12_costs : ByteArray := prog_14_method_17_code
def yX12_costs : MethodName := ⟨RX12, "costs", "(III)Z"⟩
abbrev cX12_wind : ByteArray := prog_14_method_18_code
def yX12_wind : MethodName := ⟨RX12, "wind", "(I)Z"⟩
abbrev cX12_four : ByteArray := prog_14_method_19_code
def yX12_four : MethodName := ⟨RX12, "four", "(I)V"⟩
abbrev cX12_feed : ByteArray := prog_14_method_20_code
def yX12_feed : MethodName := ⟨RX12, "feed", "(IIIII)I"⟩
abbrev cX12_end : ByteArray := prog_14_method_21_code
def yX12_end : MethodName := ⟨RX12, "end", "(I)I"⟩
abbrev cX12_byteAt : ByteArray := prog_14_method_22_code
def yX12_byteAt : MethodName := ⟨RX12, "byteAt", "(I)I"⟩
abbrev cX12_isLetter : ByteArray := prog_14_method_23_code
def yX12_isLetter : MethodName := ⟨RX12, "isLetter", "(I)Z"⟩
abbrev cX12_isDigit : ByteArray := prog_14_method_24_code
def yX12_isDigit : MethodName := ⟨RX12, "isDigit", "(I)Z"⟩
abbrev cX12_nextToken : ByteArray := prog_14_method_25_code
def yX12_nextToken : MethodName := ⟨RX12, "nextToken", "()V"⟩
abbrev cX12_w3 : ByteArray := prog_14_method_26_code
def yX12_w3 : MethodName := ⟨RX12, "w3", "(III)J"⟩
abbrev cX12_w5 : ByteArray := prog_14_method_27_code
def yX12_w5 : MethodName := ⟨RX12, "w5", "(IIIII)J"⟩
abbrev cX12_w4 : ByteArray := prog_14_method_28_code
def yX12_w4 : MethodName := ⟨RX12, "w4", "(IIII)J"⟩
abbrev cX12_w6 : ByteArray := prog_14_method_29_code
def yX12_w6 : MethodName := ⟨RX12, "w6", "(IIIIII)J"⟩
abbrev cX12_isWord : ByteArray := prog_14_method_30_code
def yX12_isWord : MethodName := ⟨RX12, "isWord", "(J)Z"⟩
abbrev cX12_emit : ByteArray := prog_14_method_31_code
def yX12_emit : MethodName := ⟨RX12, "emit", "(II)V"⟩
abbrev cX12_push : ByteArray := prog_14_method_32_code
def yX12_push : MethodName := ⟨RX12, "push", "(I)V"⟩
abbrev cX12_whole : ByteArray := prog_14_method_33_code
def yX12_whole : MethodName := ⟨RX12, "whole", "()V"⟩
abbrev cX12_settle : ByteArray := prog_14_method_34_code
def yX12_settle : MethodName := ⟨RX12, "settle", "(I)V"⟩
abbrev cX12_nameOf : ByteArray := prog_14_method_35_code
def yX12_nameOf : MethodName := ⟨RX12, "nameOf", "()I"⟩
abbrev cX12_isBarred : ByteArray := prog_14_method_36_code
def yX12_isBarred : MethodName := ⟨RX12, "isBarred", "(I)Z"⟩
abbrev cX12_beginOne : ByteArray := prog_14_method_37_code
def yX12_beginOne : MethodName := ⟨RX12, "beginOne", "()I"⟩
abbrev cX12_hasParen : ByteArray := prog_14_method_38_code
def yX12_hasParen : MethodName := ⟨RX12, "hasParen", "()Z"⟩
abbrev cX12_goesOn : ByteArray := prog_14_method_39_code
def yX12_goesOn : MethodName := ⟨RX12, "goesOn", "()Z"⟩
abbrev cX12_behindOne : ByteArray := prog_14_method_40_code
def yX12_behindOne : MethodName := ⟨RX12, "behindOne", "()I"⟩
abbrev cX12_summed : ByteArray := prog_14_method_41_code
def yX12_summed : MethodName := ⟨RX12, "summed", "()I"⟩
abbrev cX12_compareOf : ByteArray := prog_14_method_42_code
def yX12_compareOf : MethodName := ⟨RX12, "compareOf", "()I"⟩
abbrev cX12_asks : ByteArray := prog_14_method_43_code
def yX12_asks : MethodName := ⟨RX12, "asks", "()I"⟩
abbrev cX12_either : ByteArray := prog_14_method_44_code
def yX12_either : MethodName := ⟨RX12, "either", "()I"⟩
abbrev cX12_sortOf : ByteArray := prog_14_method_45_code
def yX12_sortOf : MethodName := ⟨RX12, "sortOf", "()I"⟩
abbrev cX12_goesBy : ByteArray := prog_14_method_46_code
def yX12_goesBy : MethodName := ⟨RX12, "goesBy", "(I)I"⟩
abbrev cX12_clause : ByteArray := prog_14_method_47_code
def yX12_clause : MethodName := ⟨RX12, "clause", "()I"⟩
abbrev cX12_readText : ByteArray := prog_14_method_48_code
def yX12_readText : MethodName := ⟨RX12, "readText", "()I"⟩
abbrev cX12_text : ByteArray := prog_14_method_49_code
def yX12_text : MethodName := ⟨RX12, "text", "()I"⟩
abbrev cX12_fault : ByteArray := prog_14_method_50_code
def yX12_fault : MethodName := ⟨RX12, "fault", "(I)I"⟩
abbrev cX12_by : ByteArray := prog_14_method_51_code
def yX12_by : MethodName := ⟨RX12, "by", "(I)Z"⟩
abbrev cX12_clip : ByteArray := prog_14_method_52_code
def yX12_clip : MethodName := ⟨RX12, "clip", "(J)J"⟩
abbrev cX12_two : ByteArray := prog_14_method_53_code
def yX12_two : MethodName := ⟨RX12, "two", "(IJJ)J"⟩
abbrev cX12_isAsked : ByteArray := prog_14_method_54_code
def yX12_isAsked : MethodName := ⟨RX12, "isAsked", "(IJJ)Z"⟩
abbrev cX12_work : ByteArray := prog_14_method_55_code
def yX12_work : MethodName := ⟨RX12, "work", "(II)V"⟩
abbrev cX12_sortAt : ByteArray := prog_14_method_56_code
def yX12_sortAt : MethodName := ⟨RX12, "sortAt", "(II)I"⟩
abbrev cX12_clauses : ByteArray := prog_14_method_57_code
def yX12_clauses : MethodName := ⟨RX12, "clauses", "(I)I"⟩
abbrev cX12_iceOf : ByteArray := prog_14_method_58_code
def yX12_iceOf : MethodName := ⟨RX12, "iceOf", "(II)I"⟩
abbrev cX12_nameCell : ByteArray := prog_14_method_59_code
def yX12_nameCell : MethodName := ⟨RX12, "nameCell", "(IIII)V"⟩
abbrev cX12_isAny : ByteArray := prog_14_method_60_code
def yX12_isAny : MethodName := ⟨RX12, "isAny", "(IZ)Z"⟩
abbrev cX12_sumOf : ByteArray := prog_14_method_61_code
def yX12_sumOf : MethodName := ⟨RX12, "sumOf", "(II)I"⟩
abbrev cX12_pushCost : ByteArray := prog_14_method_62_code
def yX12_pushCost : MethodName := ⟨RX12, "pushCost", "(IIII)I"⟩
abbrev cX12_nips : ByteArray := prog_14_method_63_code
def yX12_nips : MethodName := ⟨RX12, "nips", "(IIII)Z"⟩
abbrev cX12_walks : ByteArray := prog_14_method_64_code
def yX12_walks : MethodName := ⟨RX12, "walks", "(IIII)Z"⟩
abbrev cX12_driven : ByteArray := prog_14_method_65_code
def yX12_driven : MethodName := ⟨RX12, "driven", "(III)I"⟩
abbrev cX12_drifted : ByteArray := prog_14_method_66_code
def yX12_drifted : MethodName := ⟨RX12, "drifted", "(II)I"⟩
abbrev cX12_go : ByteArray := prog_14_method_67_code
def yX12_go : MethodName := ⟨RX12, "go", "(IIII)V"⟩
abbrev cX12_layNow : ByteArray := prog_14_method_68_code
def yX12_layNow : MethodName := ⟨RX12, "layNow", "(I)V"⟩
abbrev cX12_isOrder : ByteArray := prog_14_method_69_code
def yX12_isOrder : MethodName := ⟨RX12, "isOrder", "(I)Z"⟩
abbrev cX12_orderCost : ByteArray := prog_14_method_70_code
def yX12_orderCost : MethodName := ⟨RX12, "orderCost", "(IIIIIII)I"⟩
abbrev cX12_firesBehind : ByteArray := prog_14_method_71_code
def yX12_firesBehind : MethodName := ⟨RX12, "firesBehind", "(II)I"⟩
abbrev cX12_isFree : ByteArray := prog_14_method_72_code
def yX12_isFree : MethodName := ⟨RX12, "isFree", "(I)Z"⟩
abbrev cX12_costOf : ByteArray := prog_14_method_73_code
def yX12_costOf : MethodName := ⟨RX12, "costOf", "(III)I"⟩
abbrev cX12_can : ByteArray := prog_14_method_74_code
def yX12_can : MethodName := ⟨RX12, "can", "(II)Z"⟩
abbrev cX12_does : ByteArray := prog_14_method_75_code
def yX12_does : MethodName := ⟨RX12, "does", "(III)Z"⟩
abbrev cX12_floatShip : ByteArray := prog_14_method_76_code
def yX12_floatShip : MethodName := ⟨RX12, "floatShip", "(IZII)V"⟩
abbrev cX12_watch : ByteArray := prog_14_method_77_code
def yX12_watch : MethodName := ⟨RX12, "watch", "(III)I"⟩
abbrev cX12_of : ByteArray := prog_14_method_78_code
def yX12_of : MethodName := ⟨RX12, "of", "(II)I"⟩
abbrev cX12_ahead : ByteArray := prog_14_method_79_code
def yX12_ahead : MethodName := ⟨RX12, "ahead", "(II)I"⟩
abbrev cX12_many : ByteArray := prog_14_method_80_code
def yX12_many : MethodName := ⟨RX12, "many", "(II)Z"⟩
abbrev cX12_windBefore : ByteArray := prog_14_method_81_code
def yX12_windBefore : MethodName := ⟨RX12, "windBefore", "(I)I"⟩
abbrev cX12_look : ByteArray := prog_14_method_82_code
def yX12_look : MethodName := ⟨RX12, "look", "()V"⟩
abbrev cX12_costAhead : ByteArray := prog_14_method_83_code
def yX12_costAhead : MethodName := ⟨RX12, "costAhead", "(IIIII)I"⟩
abbrev cX12_cellAhead : ByteArray := prog_14_method_84_code
def yX12_cellAhead : MethodName := ⟨RX12, "cellAhead", "(III)I"⟩
abbrev cX12_stateAt : ByteArray := prog_14_method_85_code
def yX12_stateAt : MethodName := ⟨RX12, "stateAt", "(IIII)I"⟩
abbrev cX12_outBy : ByteArray := prog_14_method_86_code
def yX12_outBy : MethodName := ⟨RX12, "outBy", "(IIIII)I"⟩
abbrev cX12_bestOut : ByteArray := prog_14_method_87_code
def yX12_bestOut : MethodName := ⟨RX12, "bestOut", "(IIII)I"⟩
abbrev cX12_findOut : ByteArray := prog_14_method_88_code
def yX12_findOut : MethodName := ⟨RX12, "findOut", "()V"⟩
abbrev cX12_shipCell : ByteArray := prog_14_method_89_code
def yX12_shipCell : MethodName := ⟨RX12, "shipCell", "()I"⟩
abbrev cX12_shipCoal : ByteArray := prog_14_method_90_code
def yX12_shipCoal : MethodName := ⟨RX12, "shipCoal", "()I"⟩
abbrev cX12_shipBanked : ByteArray := prog_14_method_91_code
def yX12_shipBanked : MethodName := ⟨RX12, "shipBanked", "()I"⟩
abbrev cX12_soonest : ByteArray := prog_14_method_92_code
def yX12_soonest : MethodName := ⟨RX12, "soonest", "(I)I"⟩
abbrev cX12_least : ByteArray := prog_14_method_93_code
def yX12_least : MethodName := ⟨RX12, "least", "()I"⟩
abbrev cX12_order : ByteArray := prog_14_method_94_code
def yX12_order : MethodName := ⟨RX12, "order", "(II)I"⟩
abbrev cX12_follow : ByteArray := prog_14_method_95_code
def yX12_follow : MethodName := ⟨RX12, "follow", "()V"⟩
abbrev cX12_told : ByteArray := prog_14_method_96_code
def yX12_told : MethodName := ⟨RX12, "told", "(I)I"⟩
abbrev cX12_home : ByteArray := prog_14_method_97_code
def yX12_home : MethodName := ⟨RX12, "home", "(I)Z"⟩
abbrev cX12_canHome : ByteArray := prog_14_method_98_code
def yX12_canHome : MethodName := ⟨RX12, "canHome", "(IIII)Z"⟩
abbrev cX12_last : ByteArray := prog_14_method_99_code
def yX12_last : MethodName := ⟨RX12, "last", "()I"⟩
abbrev cX12_walkOn : ByteArray := prog_14_method_100_code
def yX12_walkOn : MethodName := ⟨RX12, "walkOn", "(I)V"⟩
abbrev cX12_walkFrom : ByteArray := prog_14_method_101_code
def yX12_walkFrom : MethodName := ⟨RX12, "walkFrom", "(II)I"⟩
abbrev cX12_walk : ByteArray := prog_14_method_102_code
def yX12_walk : MethodName := ⟨RX12, "walk", "(I)I"⟩
abbrev cX12_leave : ByteArray := prog_14_method_103_code
def yX12_leave : MethodName := ⟨RX12, "leave", "()I"⟩
abbrev cX12_winterAt : ByteArray := prog_14_method_104_code
def yX12_winterAt : MethodName := ⟨RX12, "winterAt", "(I)I"⟩
abbrev cX12_winter : ByteArray := prog_14_method_105_code
def yX12_winter : MethodName := ⟨RX12, "winter", "(I)I"⟩
abbrev cX12_chanceOf : ByteArray := prog_14_method_106_code
def yX12_chanceOf : MethodName := ⟨RX12, "chanceOf", "(II)I"⟩
abbrev cX12_behind : ByteArray := prog_14_method_107_code
def yX12_behind : MethodName := ⟨RX12, "behind", "(III)I"⟩
abbrev cX12_isWayOut : ByteArray := prog_14_method_108_code
def yX12_isWayOut : MethodName := ⟨RX12, "isWayOut", "(II)Z"⟩
abbrev cX12_hopeOne : ByteArray := prog_14_method_109_code
def yX12_hopeOne : MethodName := ⟨RX12, "hopeOne", "(IIIIII)I"⟩
abbrev cX12_hopeTwo : ByteArray := prog_14_method_110_code
def yX12_hopeTwo : MethodName := ⟨RX12, "hopeTwo", "(IIIIIII)I"⟩
abbrev cX12_hope : ByteArray := prog_14_method_111_code
def yX12_hope : MethodName := ⟨RX12, "hope", "(I)I"⟩
abbrev cX12_hopeBehind : ByteArray := prog_14_method_112_code
def yX12_hopeBehind : MethodName := ⟨RX12, "hopeBehind", "(III)I"⟩
abbrev cX12_known : ByteArray := prog_14_method_113_code
def yX12_known : MethodName := ⟨RX12, "known", "(I)I"⟩
abbrev cX12_surest : ByteArray := prog_14_method_114_code
def yX12_surest : MethodName := ⟨RX12, "surest", "(II)I"⟩
abbrev cX12_leads : ByteArray := prog_14_method_115_code
def yX12_leads : MethodName := ⟨RX12, "leads", "(I)I"⟩
abbrev cX12_prior : ByteArray := prog_14_method_116_code
def yX12_prior : MethodName := ⟨RX12, "prior", "(II)Z"⟩
abbrev cX12_look_ : ByteArray := prog_14_method_117_code
def yX12_look_ : MethodName := ⟨RX12, "look", "(II)I"⟩
abbrev cX12_weigh : ByteArray := prog_14_method_118_code
def yX12_weigh : MethodName := ⟨RX12, "weigh", "(II)J"⟩
abbrev cX12_think : ByteArray := prog_14_method_119_code
def yX12_think : MethodName := ⟨RX12, "think", "(II)I"⟩
abbrev cX12_isText : ByteArray := prog_14_method_120_code
def yX12_isText : MethodName := ⟨RX12, "isText", "(I)Z"⟩
abbrev cX12_canRun : ByteArray := prog_14_method_121_code
def yX12_canRun : MethodName := ⟨RX12, "canRun", "(I)Z"⟩
abbrev cX12_orderBy : ByteArray := prog_14_method_122_code
def yX12_orderBy : MethodName := ⟨RX12, "orderBy", "(I)I"⟩
abbrev cX12_drawWind : ByteArray := prog_14_method_123_code
def yX12_drawWind : MethodName := ⟨RX12, "drawWind", "(I)I"⟩
abbrev cX12_runOne : ByteArray := prog_14_method_124_code
def yX12_runOne : MethodName := ⟨RX12, "runOne", "(II)V"⟩
abbrev cX12_runAll : ByteArray := prog_14_method_125_code
def yX12_runAll : MethodName := ⟨RX12, "runAll", "(III)V"⟩
abbrev cX12_run : ByteArray := prog_14_method_126_code
def yX12_run : MethodName := ⟨RX12, "run", "(IIII)I"⟩
abbrev cX12_runs : ByteArray := prog_14_method_127_code
def yX12_runs : MethodName := ⟨RX12, "runs", "(IIIII)I"⟩
abbrev cX12_image : ByteArray := prog_14_method_128_code
def yX12_image : MethodName := ⟨RX12, "image", "()I"⟩
abbrev cX12_back : ByteArray := prog_14_method_129_code
def yX12_back : MethodName := ⟨RX12, "back", "()I"⟩
abbrev cX12_about : ByteArray := prog_14_method_130_code
def yX12_about : MethodName := ⟨RX12, "about", "(I)I"⟩
def RJ9 : String := "java/lang/Math"
def TJ9 : u_T := fun k => match k with
  | _ => ("", "", "", false)
def tyJ9 : Nat → FieldType := fun k => match k with
  | _ => .int
abbrev wsJ90 : List Cond := u_ws RJ9 TJ9 0
theorem nmJ9 : ∀ a, a < 0 → ∀ b, b < 0 → a ≠ b → (TJ9 a).2.1 ≠ (TJ9 b).2.1 := by decide +kernel
theorem tyJ9_ok : ∀ k, k < 0 → parseFieldDescriptor (TJ9 k).2.2.1 = some (tyJ9 k) := by decide +kernel
abbrev cJ9_abs_0f7a4 : ByteArray := prog_15_method_59_code
def yJ9_abs_0f7a4 : MethodName := ⟨RJ9, "abs", "(I)I"⟩
abbrev cJ9_max_7cf53 : ByteArray := prog_15_method_65_code
def yJ9_max_7cf53 : MethodName := ⟨RJ9, "max", "(II)I"⟩
abbrev cJ9_min_7cf53 : ByteArray := prog_15_method_69_code
def yJ9_min_7cf53 : MethodName := ⟨RJ9, "min", "(II)I"⟩
def RJ0 : String := "java/lang/String"
def TJ0 : u_T := fun k => match k with
  | _ => ("", "", "", false)
def tyJ0 : Nat → FieldType := fun k => match k with
  | _ => .int
abbrev wsJ00 : List Cond := u_ws RJ0 TJ0 0
theorem nmJ0 : ∀ a, a < 0 → ∀ b, b < 0 → a ≠ b → (TJ0 a).2.1 ≠ (TJ0 b).2.1 := by decide +kernel
theorem tyJ0_ok : ∀ k, k < 0 → parseFieldDescriptor (TJ0 k).2.2.1 = some (tyJ0 k) := by decide +kernel
abbrev cJ0_length_8abf5 : ByteArray := prog_16_method_54_code
def yJ0_length_8abf5 : MethodName := ⟨RJ0, "length", "()I"⟩
abbrev cJ0_charAt_5068e : ByteArray := prog_16_method_56_code
def yJ0_charAt_5068e : MethodName := ⟨RJ0, "charAt", "(I)C"⟩
abbrev cJ0_coder_7d493 : ByteArray := prog_16_method_152_code
def yJ0_coder_7d493 : MethodName := ⟨RJ0, "coder", "()B"⟩
abbrev cJ0_isLatin1_aae02 : ByteArray := prog_16_method_154_code
def yJ0_isLatin1_aae02 : MethodName := ⟨RJ0, "isLatin1", "()Z"⟩
abbrev cJ0_checkIndex_df160 : ByteArray := prog_16_method_155_code
def yJ0_checkIndex_df160 : MethodName := ⟨RJ0, "checkIndex", "(II)V"⟩
def RJ1 : String := "java/lang/StringLatin1"
def TJ1 : u_T := fun k => match k with
  | _ => ("", "", "", false)
def tyJ1 : Nat → FieldType := fun k => match k with
  | _ => .int
abbrev wsJ10 : List Cond := u_ws RJ1 TJ1 0
theorem nmJ1 : ∀ a, a < 0 → ∀ b, b < 0 → a ≠ b → (TJ1 a).2.1 ≠ (TJ1 b).2.1 := by decide +kernel
theorem tyJ1_ok : ∀ k, k < 0 → parseFieldDescriptor (TJ1 k).2.2.1 = some (tyJ1 k) := by decide +kernel
abbrev cJ1_charAt_3b067 : ByteArray := prog_17_method_2_code
def yJ1_charAt_3b067 : MethodName := ⟨RJ1, "charAt", "([BI)C"⟩
def RJ2 : String := "java/lang/StringUTF16"
def TJ2 : u_T := fun k => match k with
  | _ => ("", "", "", false)
def tyJ2 : Nat → FieldType := fun k => match k with
  | _ => .int
abbrev wsJ20 : List Cond := u_ws RJ2 TJ2 0
theorem nmJ2 : ∀ a, a < 0 → ∀ b, b < 0 → a ≠ b → (TJ2 a).2.1 ≠ (TJ2 b).2.1 := by decide +kernel
theorem tyJ2_ok : ∀ k, k < 0 → parseFieldDescriptor (TJ2 k).2.2.1 = some (tyJ2 k) := by decide +kernel
abbrev cJ2_getChar_3b067 : ByteArray := prog_18_method_5_code
def yJ2_getChar_3b067 : MethodName := ⟨RJ2, "getChar", "([BI)C"⟩
abbrev cJ2_length_9d52b : ByteArray := prog_18_method_6_code
def yJ2_length_9d52b : MethodName := ⟨RJ2, "length", "([B)I"⟩
abbrev cJ2_charAt_3b067 : ByteArray := prog_18_method_83_code
def yJ2_charAt_3b067 : MethodName := ⟨RJ2, "charAt", "([BI)C"⟩
abbrev cJ2_checkIndex_2214a : ByteArray := prog_18_method_91_code
def yJ2_checkIndex_2214a : MethodName := ⟨RJ2, "checkIndex", "(I[B)V"⟩
def RJ10 : String := "java/lang/System"
def TJ10 : u_T := fun k => match k with
  | _ => ("", "", "", false)
def tyJ10 : Nat → FieldType := fun k => match k with
  | _ => .int
abbrev wsJ100 : List Cond := u_ws RJ10 TJ10 0
theorem nmJ10 : ∀ a, a < 0 → ∀ b, b < 0 → a ≠ b → (TJ10 a).2.1 ≠ (TJ10 b).2.1 := by decide +kernel
theorem tyJ10_ok : ∀ k, k < 0 → parseFieldDescriptor (TJ10 k).2.2.1 = some (tyJ10 k) := by decide +kernel
def RJ3 : String := "jdk/internal/util/Preconditions"
def TJ3 : u_T := fun k => match k with
  | _ => ("", "", "", false)
def tyJ3 : Nat → FieldType := fun k => match k with
  | _ => .int
abbrev wsJ30 : List Cond := u_ws RJ3 TJ3 0
theorem nmJ3 : ∀ a, a < 0 → ∀ b, b < 0 → a ≠ b → (TJ3 a).2.1 ≠ (TJ3 b).2.1 := by decide +kernel
theorem tyJ3_ok : ∀ k, k < 0 → parseFieldDescriptor (TJ3 k).2.2.1 = some (tyJ3 k) := by decide +kernel
abbrev cJ3_checkIndex_8e157 : ByteArray := prog_20_method_11_code
def yJ3_checkIndex_8e157 : MethodName := ⟨RJ3, "checkIndex", "(IILjava/util/function/BiFunction;)I"⟩
def RL : String := "ThroughPackLaw"
abbrev cL_cell : ByteArray := method_2_code
def yL_cell : MethodName := ⟨RL, "cell", "([II)I"⟩
abbrev cL_law : ByteArray := code
def yL_law : MethodName := ⟨RL, "law", "([I)Z"⟩
def wsX7_init : List Cond := .code yX7_init cX7_init 2 none :: ([.methodLink RX7 3 objectInit, .instanceMethod objectInit, .code objectInit ⟨#[0xb1]⟩ 1 none, .fieldLink RX7 9 "ThroughPack$Ship" "coal" "I", .fieldLink RX7 15 "ThroughPack$Ship" "there" "Z"] ++ wsX70)
def wsX0_init : List Cond := .code yX0_init cX0_init 3 none :: ([.methodLink RX0 3 objectInit, .instanceMethod objectInit, .code objectInit ⟨#[0xb1]⟩ 1 none, .fieldLink RX0 9 "ThroughPack$Helm" "world" "LThroughPack$World;", .fieldLink RX0 15 "ThroughPack$Helm" "judge" "LThroughPack$Judge;", .fieldLink RX0 19 "ThroughPack$World" "sea" "LThroughPack$Sea;", .fieldLink RX0 25 "ThroughPack$Helm" "sea" "LThroughPack$Sea;", .arrayClass .int, .fieldLink RX0 26 "ThroughPack$Helm" "field" "[I", .classLink RX0 30 RX7, .instantiable RX7 5, .initialized RX7, .fieldLink RX0 35 "ThroughPack$Helm" "runner" "LThroughPack$Ship;", .methodLink RX0 32 yX7_init, .instanceMethod yX7_init, .code yX7_init cX7_init 2 none, .methodLink RX7 3 objectInit, .fieldLink RX7 9 "ThroughPack$Ship" "coal" "I", .fieldLink RX7 15 "ThroughPack$Ship" "there" "Z"] ++ wsX00 ++ wsX100 ++ wsX70)
def wsX0_price : List Cond := .code yX0_price cX0_price 4 (some .int) :: ([.fieldLink RX0 9 "ThroughPack$Helm" "world" "LThroughPack$World;", .fieldLink RX0 39 "ThroughPack$World" "costs" "[I"] ++ wsX00 ++ wsX100)
def wsX0_isPush : List Cond := .code yX0_isPush cX0_isPush 1 (some .boolean) :: ([])
def wsX6_off : List Cond := .code yX6_off cX6_off 6 (some .int) :: ([.fieldLink RX6 9 "ThroughPack$Sea" "w" "I", .fieldLink RX6 15 "ThroughPack$Sea" "h" "I"] ++ wsX60)
def wsX6_beside : List Cond := .code yX6_beside cX6_beside 3 (some .int) :: ([.methodLink RX6 41 yX6_off, .instanceMethod yX6_off, .selects RX6 yX6_off yX6_off, .initialized RX6, .code yX6_off cX6_off 6 (some .int), .fieldLink RX6 9 "ThroughPack$Sea" "w" "I", .fieldLink RX6 15 "ThroughPack$Sea" "h" "I"] ++ wsX60)
def wsX6_afloat : List Cond := .code yX6_afloat cX6_afloat 4 (some .int) :: ([.fieldLink RX6 32 "ThroughPack$Sea" "dx" "[I", .fieldLink RX6 35 "ThroughPack$Sea" "dy" "[I", .methodLink RX6 41 yX6_off, .instanceMethod yX6_off, .selects RX6 yX6_off yX6_off, .initialized RX6, .code yX6_off cX6_off 6 (some .int), .fieldLink RX6 9 "ThroughPack$Sea" "w" "I", .fieldLink RX6 15 "ThroughPack$Sea" "h" "I"] ++ wsX60)
def wsX0_landing : List Cond := .code yX0_landing cX0_landing 4 (some .int) :: ([.fieldLink RX0 25 "ThroughPack$Helm" "sea" "LThroughPack$Sea;", .methodLink RX0 42 yX0_isPush, .static yX0_isPush, .initialized RX0, .code yX0_isPush cX0_isPush 1 (some .boolean), .methodLink RX0 46 yX6_beside, .instanceMethod yX6_beside, .selects RX6 yX6_beside yX6_beside, .initialized RX6, .code yX6_beside cX6_beside 3 (some .int), .methodLink RX6 41 yX6_off, .instanceMethod yX6_off, .selects RX6 yX6_off yX6_off, .code yX6_off cX6_off 6 (some .int), .fieldLink RX6 9 "ThroughPack$Sea" "w" "I", .fieldLink RX6 15 "ThroughPack$Sea" "h" "I", .methodLink RX0 52 yX6_afloat, .instanceMethod yX6_afloat, .selects RX6 yX6_afloat yX6_afloat, .code yX6_afloat cX6_afloat 4 (some .int), .fieldLink RX6 32 "ThroughPack$Sea" "dx" "[I", .fieldLink RX6 35 "ThroughPack$Sea" "dy" "[I"] ++ wsX00 ++ wsX60)
def wsX0_banksBehind : List Cond := .code yX0_banksBehind cX0_banksBehind 2 (some .boolean) :: ([])
def wsX11_within : List Cond := .code yX11_within cX11_within 3 (some .boolean) :: ([])
def wsX11_isOrder : List Cond := .code yX11_isOrder cX11_isOrder 1 (some .boolean) :: ([.methodLink RX11 92 yX11_within, .static yX11_within, .initialized RX11, .code yX11_within cX11_within 3 (some .boolean)])
def wsX8_firstOf : List Cond := .code yX8_firstOf cX8_firstOf 3 (some .int) :: ([.fieldLink RX8 24 "ThroughPack$Text" "clauses" "I", .fieldLink RX8 18 "ThroughPack$Text" "kinds" "[I"] ++ wsX80)
def wsX1_named : List Cond := .code yX1_named cX1_named 5 (some .int) :: ([.fieldLink RX1 9 "ThroughPack$Judge" "sea" "LThroughPack$Sea;", .fieldLink RX1 119 "ThroughPack$Sea" "w" "I", .fieldLink RX1 27 "ThroughPack$Judge" "ice" "[I", .fieldLink RX1 69 "ThroughPack$Sea" "edge" "I", .fieldLink RX1 122 "ThroughPack$Sea" "h" "I", .fieldLink RX1 28 "ThroughPack$Judge" "wind" "I", .fieldLink RX1 32 "ThroughPack$Judge" "watch" "I", .fieldLink RX1 81 "ThroughPack$Judge" "coal" "I", .fieldLink RX1 86 "ThroughPack$Judge" "banked" "I"] ++ wsX10 ++ wsX60)
def wsX1_joined : List Cond := .code yX1_joined cX1_joined 3 (some .long) :: ([])
def wsX1_value : List Cond := .code yX1_value cX1_value 9 (some .int) :: ([.fieldLink RX1 97 "ThroughPack$Text" "from" "[I", .fieldLink RX1 100 "ThroughPack$Text" "steps" "[I", .fieldLink RX1 15 "ThroughPack$Judge" "stack" "[I", .constantLong RX1 113 (1000000), .constant RX1 115 (1000000), .constantLong RX1 116 (-1000000), .constant RX1 118 (-1000000), .methodLink RX1 103 yX1_named, .instanceMethod yX1_named, .selects RX1 yX1_named yX1_named, .initialized RX1, .code yX1_named cX1_named 5 (some .int), .fieldLink RX1 9 "ThroughPack$Judge" "sea" "LThroughPack$Sea;", .fieldLink RX1 119 "ThroughPack$Sea" "w" "I", .fieldLink RX1 27 "ThroughPack$Judge" "ice" "[I", .fieldLink RX1 69 "ThroughPack$Sea" "edge" "I", .fieldLink RX1 122 "ThroughPack$Sea" "h" "I", .fieldLink RX1 28 "ThroughPack$Judge" "wind" "I", .fieldLink RX1 32 "ThroughPack$Judge" "watch" "I", .fieldLink RX1 81 "ThroughPack$Judge" "coal" "I", .fieldLink RX1 86 "ThroughPack$Judge" "banked" "I", .methodLink RX1 109 yX1_joined, .static yX1_joined, .code yX1_joined cX1_joined 3 (some .long)] ++ wsX80 ++ wsX10 ++ wsX60)
def wsX1_anySo_r1 : List Cond := [Cond.fieldLink RX1 39 "ThroughPack$Judge" "law" "LThroughPack$Text;", Cond.fieldLink RX1 91 "ThroughPack$Text" "clauses" "I", Cond.fieldLink RX1 94 "ThroughPack$Text" "kinds" "[I", Cond.methodLink RX1 43 yX8_firstOf, Cond.instanceMethod yX8_firstOf, Cond.selects RX8 yX8_firstOf yX8_firstOf, Cond.initialized RX8, Cond.code yX8_firstOf cX8_firstOf 3 (some .int), Cond.fieldLink RX8 24 "ThroughPack$Text" "clauses" "I", Cond.fieldLink RX8 18 "ThroughPack$Text" "kinds" "[I", Cond.methodLink RX1 49 yX1_value, Cond.instanceMethod yX1_value, Cond.selects RX1 yX1_value yX1_value, Cond.initialized RX1, Cond.code yX1_value cX1_value 9 (some .int), Cond.fieldLink RX1 97 "ThroughPack$Text" "from" "[I", Cond.fieldLink RX1 100 "ThroughPack$Text" "steps" "[I", Cond.fieldLink RX1 15 "ThroughPack$Judge" "stack" "[I", Cond.constantLong RX1 113 (1000000), Cond.constant RX1 115 (1000000), Cond.constantLong RX1 116 (-1000000), Cond.constant RX1 118 (-1000000), Cond.methodLink RX1 103 yX1_named, Cond.instanceMethod yX1_named]
def wsX1_anySo_r2 : List Cond := [Cond.selects RX1 yX1_named yX1_named, Cond.code yX1_named cX1_named 5 (some .int), Cond.fieldLink RX1 9 "ThroughPack$Judge" "sea" "LThroughPack$Sea;", Cond.fieldLink RX1 119 "ThroughPack$Sea" "w" "I", Cond.fieldLink RX1 27 "ThroughPack$Judge" "ice" "[I", Cond.fieldLink RX1 69 "ThroughPack$Sea" "edge" "I", Cond.fieldLink RX1 122 "ThroughPack$Sea" "h" "I", Cond.fieldLink RX1 28 "ThroughPack$Judge" "wind" "I", Cond.fieldLink RX1 32 "ThroughPack$Judge" "watch" "I", Cond.fieldLink RX1 81 "ThroughPack$Judge" "coal" "I", Cond.fieldLink RX1 86 "ThroughPack$Judge" "banked" "I", Cond.methodLink RX1 109 yX1_joined, Cond.static yX1_joined, Cond.code yX1_joined cX1_joined 3 (some .long)]
def wsX1_anySo : List Cond := .code yX1_anySo cX1_anySo 5 (some .boolean) :: ((wsX1_anySo_r1 ++ wsX1_anySo_r2) ++ wsX10 ++ wsX80 ++ wsX60)
def wsX11_held : List Cond := .code yX11_held cX11_held 3 (some .int) :: ([])
def wsX1_toll_r1 : List Cond := [Cond.fieldLink RX1 27 "ThroughPack$Judge" "ice" "[I", Cond.fieldLink RX1 39 "ThroughPack$Judge" "law" "LThroughPack$Text;", Cond.methodLink RX1 35 yX1_anySo, Cond.instanceMethod yX1_anySo, Cond.selects RX1 yX1_anySo yX1_anySo, Cond.initialized RX1, Cond.code yX1_anySo cX1_anySo 5 (some .boolean), Cond.fieldLink RX1 91 "ThroughPack$Text" "clauses" "I", Cond.fieldLink RX1 94 "ThroughPack$Text" "kinds" "[I", Cond.methodLink RX1 43 yX8_firstOf, Cond.instanceMethod yX8_firstOf, Cond.selects RX8 yX8_firstOf yX8_firstOf, Cond.initialized RX8, Cond.code yX8_firstOf cX8_firstOf 3 (some .int), Cond.fieldLink RX8 24 "ThroughPack$Text" "clauses" "I", Cond.fieldLink RX8 18 "ThroughPack$Text" "kinds" "[I", Cond.methodLink RX1 49 yX1_value, Cond.instanceMethod yX1_value, Cond.selects RX1 yX1_value yX1_value, Cond.code yX1_value cX1_value 9 (some .int), Cond.fieldLink RX1 97 "ThroughPack$Text" "from" "[I", Cond.fieldLink RX1 100 "ThroughPack$Text" "steps" "[I", Cond.fieldLink RX1 15 "ThroughPack$Judge" "stack" "[I", Cond.constantLong RX1 113 (1000000)]
def wsX1_toll_r2 : List Cond := [Cond.constant RX1 115 (1000000), Cond.constantLong RX1 116 (-1000000), Cond.constant RX1 118 (-1000000), Cond.methodLink RX1 103 yX1_named, Cond.instanceMethod yX1_named, Cond.selects RX1 yX1_named yX1_named, Cond.code yX1_named cX1_named 5 (some .int), Cond.fieldLink RX1 9 "ThroughPack$Judge" "sea" "LThroughPack$Sea;", Cond.fieldLink RX1 119 "ThroughPack$Sea" "w" "I", Cond.fieldLink RX1 69 "ThroughPack$Sea" "edge" "I", Cond.fieldLink RX1 122 "ThroughPack$Sea" "h" "I", Cond.fieldLink RX1 28 "ThroughPack$Judge" "wind" "I", Cond.fieldLink RX1 32 "ThroughPack$Judge" "watch" "I", Cond.fieldLink RX1 81 "ThroughPack$Judge" "coal" "I", Cond.fieldLink RX1 86 "ThroughPack$Judge" "banked" "I", Cond.methodLink RX1 109 yX1_joined, Cond.static yX1_joined, Cond.code yX1_joined cX1_joined 3 (some .long), Cond.static yX11_held, Cond.initialized RX11, Cond.code yX11_held cX11_held 3 (some .int)]
def wsX1_toll : List Cond := .code yX1_toll cX1_toll 3 (some .int) :: ((wsX1_toll_r1 ++ wsX1_toll_r2) ++ wsX10 ++ wsX80 ++ wsX60)
def wsX0_priceFor_r1 : List Cond := [Cond.fieldLink RX0 55 "ThroughPack$Ship" "there" "Z", Cond.fieldLink RX0 59 "ThroughPack$Ship" "fate" "I", Cond.fieldLink RX0 66 "ThroughPack$Ship" "banked" "Z", Cond.fieldLink RX0 25 "ThroughPack$Helm" "sea" "LThroughPack$Sea;", Cond.fieldLink RX0 69 "ThroughPack$Ship" "cell" "I", Cond.fieldLink RX0 15 "ThroughPack$Helm" "judge" "LThroughPack$Judge;", Cond.fieldLink RX0 82 "ThroughPack$Ship" "coal" "I", Cond.static yX11_isOrder, Cond.initialized RX11, Cond.code yX11_isOrder cX11_isOrder 1 (some .boolean), Cond.methodLink RX11 92 yX11_within, Cond.static yX11_within, Cond.code yX11_within cX11_within 3 (some .boolean), Cond.methodLink RX0 42 yX0_isPush, Cond.static yX0_isPush, Cond.initialized RX0, Cond.code yX0_isPush cX0_isPush 1 (some .boolean), Cond.methodLink RX0 46 yX6_beside, Cond.instanceMethod yX6_beside, Cond.selects RX6 yX6_beside yX6_beside, Cond.initialized RX6, Cond.code yX6_beside cX6_beside 3 (some .int), Cond.methodLink RX6 41 yX6_off, Cond.instanceMethod yX6_off]
def wsX0_priceFor_r2 : List Cond := [Cond.selects RX6 yX6_off yX6_off, Cond.code yX6_off cX6_off 6 (some .int), Cond.fieldLink RX6 9 "ThroughPack$Sea" "w" "I", Cond.fieldLink RX6 15 "ThroughPack$Sea" "h" "I", Cond.methodLink RX0 72 yX1_toll, Cond.instanceMethod yX1_toll, Cond.selects RX1 yX1_toll yX1_toll, Cond.initialized RX1, Cond.code yX1_toll cX1_toll 3 (some .int), Cond.fieldLink RX1 27 "ThroughPack$Judge" "ice" "[I", Cond.fieldLink RX1 39 "ThroughPack$Judge" "law" "LThroughPack$Text;", Cond.methodLink RX1 35 yX1_anySo, Cond.instanceMethod yX1_anySo, Cond.selects RX1 yX1_anySo yX1_anySo, Cond.code yX1_anySo cX1_anySo 5 (some .boolean), Cond.fieldLink RX1 91 "ThroughPack$Text" "clauses" "I", Cond.fieldLink RX1 94 "ThroughPack$Text" "kinds" "[I", Cond.methodLink RX1 43 yX8_firstOf, Cond.instanceMethod yX8_firstOf, Cond.selects RX8 yX8_firstOf yX8_firstOf, Cond.initialized RX8, Cond.code yX8_firstOf cX8_firstOf 3 (some .int), Cond.fieldLink RX8 24 "ThroughPack$Text" "clauses" "I", Cond.fieldLink RX8 18 "ThroughPack$Text" "kinds" "[I"]
def wsX0_priceFor_r3 : List Cond := [Cond.methodLink RX1 49 yX1_value, Cond.instanceMethod yX1_value, Cond.selects RX1 yX1_value yX1_value, Cond.code yX1_value cX1_value 9 (some .int), Cond.fieldLink RX1 97 "ThroughPack$Text" "from" "[I", Cond.fieldLink RX1 100 "ThroughPack$Text" "steps" "[I", Cond.fieldLink RX1 15 "ThroughPack$Judge" "stack" "[I", Cond.constantLong RX1 113 (1000000), Cond.constant RX1 115 (1000000), Cond.constantLong RX1 116 (-1000000), Cond.constant RX1 118 (-1000000), Cond.methodLink RX1 103 yX1_named, Cond.instanceMethod yX1_named, Cond.selects RX1 yX1_named yX1_named, Cond.code yX1_named cX1_named 5 (some .int), Cond.fieldLink RX1 9 "ThroughPack$Judge" "sea" "LThroughPack$Sea;", Cond.fieldLink RX1 119 "ThroughPack$Sea" "w" "I", Cond.fieldLink RX1 69 "ThroughPack$Sea" "edge" "I", Cond.fieldLink RX1 122 "ThroughPack$Sea" "h" "I", Cond.fieldLink RX1 28 "ThroughPack$Judge" "wind" "I", Cond.fieldLink RX1 32 "ThroughPack$Judge" "watch" "I", Cond.fieldLink RX1 81 "ThroughPack$Judge" "coal" "I", Cond.fieldLink RX1 86 "ThroughPack$Judge" "banked" "I", Cond.methodLink RX1 109 yX1_joined]
def wsX0_priceFor_r4 : List Cond := [Cond.static yX1_joined, Cond.code yX1_joined cX1_joined 3 (some .long), Cond.static yX11_held, Cond.code yX11_held cX11_held 3 (some .int), Cond.methodLink RX0 78 yX0_price, Cond.instanceMethod yX0_price, Cond.selects RX0 yX0_price yX0_price, Cond.code yX0_price cX0_price 4 (some .int), Cond.fieldLink RX0 9 "ThroughPack$Helm" "world" "LThroughPack$World;", Cond.fieldLink RX0 39 "ThroughPack$World" "costs" "[I"]
def wsX0_priceFor : List Cond := .code yX0_priceFor cX0_priceFor 5 (some .int) :: ((wsX0_priceFor_r1 ++ (wsX0_priceFor_r2 ++ (wsX0_priceFor_r3 ++ wsX0_priceFor_r4))) ++ wsX70 ++ wsX00 ++ wsX60 ++ wsX10 ++ wsX80 ++ wsX100)
def wsX0_obey_r1 : List Cond := [Cond.fieldLink RX0 82 "ThroughPack$Ship" "coal" "I", Cond.fieldLink RX0 66 "ThroughPack$Ship" "banked" "Z", Cond.fieldLink RX0 25 "ThroughPack$Helm" "sea" "LThroughPack$Sea;", Cond.fieldLink RX0 69 "ThroughPack$Ship" "cell" "I", Cond.fieldLink RX0 93 "ThroughPack$Sea" "exit" "[Z", Cond.fieldLink RX0 59 "ThroughPack$Ship" "fate" "I", Cond.methodLink RX0 85 yX0_priceFor, Cond.instanceMethod yX0_priceFor, Cond.selects RX0 yX0_priceFor yX0_priceFor, Cond.initialized RX0, Cond.code yX0_priceFor cX0_priceFor 5 (some .int), Cond.fieldLink RX0 55 "ThroughPack$Ship" "there" "Z", Cond.fieldLink RX0 15 "ThroughPack$Helm" "judge" "LThroughPack$Judge;", Cond.static yX11_isOrder, Cond.initialized RX11, Cond.code yX11_isOrder cX11_isOrder 1 (some .boolean), Cond.methodLink RX11 92 yX11_within, Cond.static yX11_within, Cond.code yX11_within cX11_within 3 (some .boolean), Cond.methodLink RX0 42 yX0_isPush, Cond.static yX0_isPush, Cond.code yX0_isPush cX0_isPush 1 (some .boolean), Cond.methodLink RX0 46 yX6_beside, Cond.instanceMethod yX6_beside]
def wsX0_obey_r2 : List Cond := [Cond.selects RX6 yX6_beside yX6_beside, Cond.initialized RX6, Cond.code yX6_beside cX6_beside 3 (some .int), Cond.methodLink RX6 41 yX6_off, Cond.instanceMethod yX6_off, Cond.selects RX6 yX6_off yX6_off, Cond.code yX6_off cX6_off 6 (some .int), Cond.fieldLink RX6 9 "ThroughPack$Sea" "w" "I", Cond.fieldLink RX6 15 "ThroughPack$Sea" "h" "I", Cond.methodLink RX0 72 yX1_toll, Cond.instanceMethod yX1_toll, Cond.selects RX1 yX1_toll yX1_toll, Cond.initialized RX1, Cond.code yX1_toll cX1_toll 3 (some .int), Cond.fieldLink RX1 27 "ThroughPack$Judge" "ice" "[I", Cond.fieldLink RX1 39 "ThroughPack$Judge" "law" "LThroughPack$Text;", Cond.methodLink RX1 35 yX1_anySo, Cond.instanceMethod yX1_anySo, Cond.selects RX1 yX1_anySo yX1_anySo, Cond.code yX1_anySo cX1_anySo 5 (some .boolean), Cond.fieldLink RX1 91 "ThroughPack$Text" "clauses" "I", Cond.fieldLink RX1 94 "ThroughPack$Text" "kinds" "[I", Cond.methodLink RX1 43 yX8_firstOf, Cond.instanceMethod yX8_firstOf]
def wsX0_obey_r3 : List Cond := [Cond.selects RX8 yX8_firstOf yX8_firstOf, Cond.initialized RX8, Cond.code yX8_firstOf cX8_firstOf 3 (some .int), Cond.fieldLink RX8 24 "ThroughPack$Text" "clauses" "I", Cond.fieldLink RX8 18 "ThroughPack$Text" "kinds" "[I", Cond.methodLink RX1 49 yX1_value, Cond.instanceMethod yX1_value, Cond.selects RX1 yX1_value yX1_value, Cond.code yX1_value cX1_value 9 (some .int), Cond.fieldLink RX1 97 "ThroughPack$Text" "from" "[I", Cond.fieldLink RX1 100 "ThroughPack$Text" "steps" "[I", Cond.fieldLink RX1 15 "ThroughPack$Judge" "stack" "[I", Cond.constantLong RX1 113 (1000000), Cond.constant RX1 115 (1000000), Cond.constantLong RX1 116 (-1000000), Cond.constant RX1 118 (-1000000), Cond.methodLink RX1 103 yX1_named, Cond.instanceMethod yX1_named, Cond.selects RX1 yX1_named yX1_named, Cond.code yX1_named cX1_named 5 (some .int), Cond.fieldLink RX1 9 "ThroughPack$Judge" "sea" "LThroughPack$Sea;", Cond.fieldLink RX1 119 "ThroughPack$Sea" "w" "I", Cond.fieldLink RX1 69 "ThroughPack$Sea" "edge" "I", Cond.fieldLink RX1 122 "ThroughPack$Sea" "h" "I"]
def wsX0_obey_r4 : List Cond := [Cond.fieldLink RX1 28 "ThroughPack$Judge" "wind" "I", Cond.fieldLink RX1 32 "ThroughPack$Judge" "watch" "I", Cond.fieldLink RX1 81 "ThroughPack$Judge" "coal" "I", Cond.fieldLink RX1 86 "ThroughPack$Judge" "banked" "I", Cond.methodLink RX1 109 yX1_joined, Cond.static yX1_joined, Cond.code yX1_joined cX1_joined 3 (some .long), Cond.static yX11_held, Cond.code yX11_held cX11_held 3 (some .int), Cond.methodLink RX0 78 yX0_price, Cond.instanceMethod yX0_price, Cond.selects RX0 yX0_price yX0_price, Cond.code yX0_price cX0_price 4 (some .int), Cond.fieldLink RX0 9 "ThroughPack$Helm" "world" "LThroughPack$World;", Cond.fieldLink RX0 39 "ThroughPack$World" "costs" "[I", Cond.methodLink RX0 89 yX0_banksBehind, Cond.static yX0_banksBehind, Cond.code yX0_banksBehind cX0_banksBehind 2 (some .boolean)]
def wsX0_obey : List Cond := .code yX0_obey cX0_obey 4 (some .boolean) :: ((wsX0_obey_r1 ++ (wsX0_obey_r2 ++ (wsX0_obey_r3 ++ wsX0_obey_r4))) ++ wsX70 ++ wsX00 ++ wsX60 ++ wsX10 ++ wsX80 ++ wsX100)
def wsX1_isNipping_r1 : List Cond := [Cond.methodLink RX1 35 yX1_anySo, Cond.instanceMethod yX1_anySo, Cond.selects RX1 yX1_anySo yX1_anySo, Cond.initialized RX1, Cond.code yX1_anySo cX1_anySo 5 (some .boolean), Cond.fieldLink RX1 39 "ThroughPack$Judge" "law" "LThroughPack$Text;", Cond.fieldLink RX1 91 "ThroughPack$Text" "clauses" "I", Cond.fieldLink RX1 94 "ThroughPack$Text" "kinds" "[I", Cond.methodLink RX1 43 yX8_firstOf, Cond.instanceMethod yX8_firstOf, Cond.selects RX8 yX8_firstOf yX8_firstOf, Cond.initialized RX8, Cond.code yX8_firstOf cX8_firstOf 3 (some .int), Cond.fieldLink RX8 24 "ThroughPack$Text" "clauses" "I", Cond.fieldLink RX8 18 "ThroughPack$Text" "kinds" "[I", Cond.methodLink RX1 49 yX1_value, Cond.instanceMethod yX1_value, Cond.selects RX1 yX1_value yX1_value, Cond.code yX1_value cX1_value 9 (some .int), Cond.fieldLink RX1 97 "ThroughPack$Text" "from" "[I", Cond.fieldLink RX1 100 "ThroughPack$Text" "steps" "[I", Cond.fieldLink RX1 15 "ThroughPack$Judge" "stack" "[I", Cond.constantLong RX1 113 (1000000), Cond.constant RX1 115 (1000000)]
def wsX1_isNipping_r2 : List Cond := [Cond.constantLong RX1 116 (-1000000), Cond.constant RX1 118 (-1000000), Cond.methodLink RX1 103 yX1_named, Cond.instanceMethod yX1_named, Cond.selects RX1 yX1_named yX1_named, Cond.code yX1_named cX1_named 5 (some .int), Cond.fieldLink RX1 9 "ThroughPack$Judge" "sea" "LThroughPack$Sea;", Cond.fieldLink RX1 119 "ThroughPack$Sea" "w" "I", Cond.fieldLink RX1 27 "ThroughPack$Judge" "ice" "[I", Cond.fieldLink RX1 69 "ThroughPack$Sea" "edge" "I", Cond.fieldLink RX1 122 "ThroughPack$Sea" "h" "I", Cond.fieldLink RX1 28 "ThroughPack$Judge" "wind" "I", Cond.fieldLink RX1 32 "ThroughPack$Judge" "watch" "I", Cond.fieldLink RX1 81 "ThroughPack$Judge" "coal" "I", Cond.fieldLink RX1 86 "ThroughPack$Judge" "banked" "I", Cond.methodLink RX1 109 yX1_joined, Cond.static yX1_joined, Cond.code yX1_joined cX1_joined 3 (some .long)]
def wsX1_isNipping : List Cond := .code yX1_isNipping cX1_isNipping 2 (some .boolean) :: ((wsX1_isNipping_r1 ++ wsX1_isNipping_r2) ++ wsX10 ++ wsX80 ++ wsX60)
def wsX0_settle_r1 : List Cond := [Cond.fieldLink RX0 55 "ThroughPack$Ship" "there" "Z", Cond.fieldLink RX0 59 "ThroughPack$Ship" "fate" "I", Cond.fieldLink RX0 25 "ThroughPack$Helm" "sea" "LThroughPack$Sea;", Cond.fieldLink RX0 69 "ThroughPack$Ship" "cell" "I", Cond.fieldLink RX0 15 "ThroughPack$Helm" "judge" "LThroughPack$Judge;", Cond.methodLink RX0 42 yX0_isPush, Cond.static yX0_isPush, Cond.initialized RX0, Cond.code yX0_isPush cX0_isPush 1 (some .boolean), Cond.methodLink RX0 52 yX6_afloat, Cond.instanceMethod yX6_afloat, Cond.selects RX6 yX6_afloat yX6_afloat, Cond.initialized RX6, Cond.code yX6_afloat cX6_afloat 4 (some .int), Cond.fieldLink RX6 32 "ThroughPack$Sea" "dx" "[I", Cond.fieldLink RX6 35 "ThroughPack$Sea" "dy" "[I", Cond.methodLink RX6 41 yX6_off, Cond.instanceMethod yX6_off, Cond.selects RX6 yX6_off yX6_off, Cond.code yX6_off cX6_off 6 (some .int), Cond.fieldLink RX6 9 "ThroughPack$Sea" "w" "I", Cond.fieldLink RX6 15 "ThroughPack$Sea" "h" "I", Cond.methodLink RX0 97 yX1_isNipping, Cond.instanceMethod yX1_isNipping]
def wsX0_settle_r2 : List Cond := [Cond.selects RX1 yX1_isNipping yX1_isNipping, Cond.initialized RX1, Cond.code yX1_isNipping cX1_isNipping 2 (some .boolean), Cond.methodLink RX1 35 yX1_anySo, Cond.instanceMethod yX1_anySo, Cond.selects RX1 yX1_anySo yX1_anySo, Cond.code yX1_anySo cX1_anySo 5 (some .boolean), Cond.fieldLink RX1 39 "ThroughPack$Judge" "law" "LThroughPack$Text;", Cond.fieldLink RX1 91 "ThroughPack$Text" "clauses" "I", Cond.fieldLink RX1 94 "ThroughPack$Text" "kinds" "[I", Cond.methodLink RX1 43 yX8_firstOf, Cond.instanceMethod yX8_firstOf, Cond.selects RX8 yX8_firstOf yX8_firstOf, Cond.initialized RX8, Cond.code yX8_firstOf cX8_firstOf 3 (some .int), Cond.fieldLink RX8 24 "ThroughPack$Text" "clauses" "I", Cond.fieldLink RX8 18 "ThroughPack$Text" "kinds" "[I", Cond.methodLink RX1 49 yX1_value, Cond.instanceMethod yX1_value, Cond.selects RX1 yX1_value yX1_value, Cond.code yX1_value cX1_value 9 (some .int), Cond.fieldLink RX1 97 "ThroughPack$Text" "from" "[I", Cond.fieldLink RX1 100 "ThroughPack$Text" "steps" "[I", Cond.fieldLink RX1 15 "ThroughPack$Judge" "stack" "[I"]
def wsX0_settle_r3 : List Cond := [Cond.constantLong RX1 113 (1000000), Cond.constant RX1 115 (1000000), Cond.constantLong RX1 116 (-1000000), Cond.constant RX1 118 (-1000000), Cond.methodLink RX1 103 yX1_named, Cond.instanceMethod yX1_named, Cond.selects RX1 yX1_named yX1_named, Cond.code yX1_named cX1_named 5 (some .int), Cond.fieldLink RX1 9 "ThroughPack$Judge" "sea" "LThroughPack$Sea;", Cond.fieldLink RX1 119 "ThroughPack$Sea" "w" "I", Cond.fieldLink RX1 27 "ThroughPack$Judge" "ice" "[I", Cond.fieldLink RX1 69 "ThroughPack$Sea" "edge" "I", Cond.fieldLink RX1 122 "ThroughPack$Sea" "h" "I", Cond.fieldLink RX1 28 "ThroughPack$Judge" "wind" "I", Cond.fieldLink RX1 32 "ThroughPack$Judge" "watch" "I", Cond.fieldLink RX1 81 "ThroughPack$Judge" "coal" "I", Cond.fieldLink RX1 86 "ThroughPack$Judge" "banked" "I", Cond.methodLink RX1 109 yX1_joined, Cond.static yX1_joined, Cond.code yX1_joined cX1_joined 3 (some .long)]
def wsX0_settle : List Cond := .code yX0_settle cX0_settle 4 none :: ((wsX0_settle_r1 ++ (wsX0_settle_r2 ++ wsX0_settle_r3)) ++ wsX70 ++ wsX00 ++ wsX60 ++ wsX10 ++ wsX80)
def wsX7_take : List Cond := .code yX7_take cX7_take 2 none :: ([.fieldLink RX7 19 "ThroughPack$Ship" "cell" "I", .fieldLink RX7 9 "ThroughPack$Ship" "coal" "I", .fieldLink RX7 22 "ThroughPack$Ship" "fate" "I", .fieldLink RX7 25 "ThroughPack$Ship" "banked" "Z", .fieldLink RX7 15 "ThroughPack$Ship" "there" "Z"] ++ wsX70)
def wsX1_face : List Cond := .code yX1_face cX1_face 4 none :: ([.fieldLink RX1 27 "ThroughPack$Judge" "ice" "[I", .fieldLink RX1 28 "ThroughPack$Judge" "wind" "I", .fieldLink RX1 32 "ThroughPack$Judge" "watch" "I"] ++ wsX10)
def wsX1_wants_r1 : List Cond := [Cond.fieldLink RX1 76 "ThroughPack$Ship" "coal" "I", Cond.fieldLink RX1 81 "ThroughPack$Judge" "coal" "I", Cond.fieldLink RX1 82 "ThroughPack$Ship" "banked" "Z", Cond.fieldLink RX1 86 "ThroughPack$Judge" "banked" "I", Cond.fieldLink RX1 88 "ThroughPack$Ship" "cell" "I", Cond.methodLink RX1 49 yX1_value, Cond.instanceMethod yX1_value, Cond.selects RX1 yX1_value yX1_value, Cond.initialized RX1, Cond.code yX1_value cX1_value 9 (some .int), Cond.fieldLink RX1 97 "ThroughPack$Text" "from" "[I", Cond.fieldLink RX1 100 "ThroughPack$Text" "steps" "[I", Cond.fieldLink RX1 15 "ThroughPack$Judge" "stack" "[I", Cond.constantLong RX1 113 (1000000), Cond.constant RX1 115 (1000000), Cond.constantLong RX1 116 (-1000000), Cond.constant RX1 118 (-1000000), Cond.methodLink RX1 103 yX1_named, Cond.instanceMethod yX1_named, Cond.selects RX1 yX1_named yX1_named, Cond.code yX1_named cX1_named 5 (some .int), Cond.fieldLink RX1 9 "ThroughPack$Judge" "sea" "LThroughPack$Sea;", Cond.fieldLink RX1 119 "ThroughPack$Sea" "w" "I", Cond.fieldLink RX1 27 "ThroughPack$Judge" "ice" "[I"]
def wsX1_wants_r2 : List Cond := [Cond.fieldLink RX1 69 "ThroughPack$Sea" "edge" "I", Cond.fieldLink RX1 122 "ThroughPack$Sea" "h" "I", Cond.fieldLink RX1 28 "ThroughPack$Judge" "wind" "I", Cond.fieldLink RX1 32 "ThroughPack$Judge" "watch" "I", Cond.methodLink RX1 109 yX1_joined, Cond.static yX1_joined, Cond.code yX1_joined cX1_joined 3 (some .long)]
def wsX1_wants : List Cond := .code yX1_wants cX1_wants 4 (some .boolean) :: ((wsX1_wants_r1 ++ wsX1_wants_r2) ++ wsX70 ++ wsX10 ++ wsX80 ++ wsX60)
def wsX0_chosen_r1 : List Cond := [Cond.fieldLink RX0 148 "ThroughPack$Text" "clauses" "I", Cond.fieldLink RX0 153 "ThroughPack$Text" "numbers" "[I", Cond.fieldLink RX0 156 "ThroughPack$Text" "kinds" "[I", Cond.fieldLink RX0 15 "ThroughPack$Helm" "judge" "LThroughPack$Judge;", Cond.fieldLink RX0 35 "ThroughPack$Helm" "runner" "LThroughPack$Ship;", Cond.methodLink RX0 159 yX1_wants, Cond.instanceMethod yX1_wants, Cond.selects RX1 yX1_wants yX1_wants, Cond.initialized RX1, Cond.code yX1_wants cX1_wants 4 (some .boolean), Cond.fieldLink RX1 76 "ThroughPack$Ship" "coal" "I", Cond.fieldLink RX1 81 "ThroughPack$Judge" "coal" "I", Cond.fieldLink RX1 82 "ThroughPack$Ship" "banked" "Z", Cond.fieldLink RX1 86 "ThroughPack$Judge" "banked" "I", Cond.fieldLink RX1 88 "ThroughPack$Ship" "cell" "I", Cond.methodLink RX1 49 yX1_value, Cond.instanceMethod yX1_value, Cond.selects RX1 yX1_value yX1_value, Cond.code yX1_value cX1_value 9 (some .int), Cond.fieldLink RX1 97 "ThroughPack$Text" "from" "[I", Cond.fieldLink RX1 100 "ThroughPack$Text" "steps" "[I", Cond.fieldLink RX1 15 "ThroughPack$Judge" "stack" "[I", Cond.constantLong RX1 113 (1000000), Cond.constant RX1 115 (1000000)]
def wsX0_chosen_r2 : List Cond := [Cond.constantLong RX1 116 (-1000000), Cond.constant RX1 118 (-1000000), Cond.methodLink RX1 103 yX1_named, Cond.instanceMethod yX1_named, Cond.selects RX1 yX1_named yX1_named, Cond.code yX1_named cX1_named 5 (some .int), Cond.fieldLink RX1 9 "ThroughPack$Judge" "sea" "LThroughPack$Sea;", Cond.fieldLink RX1 119 "ThroughPack$Sea" "w" "I", Cond.fieldLink RX1 27 "ThroughPack$Judge" "ice" "[I", Cond.fieldLink RX1 69 "ThroughPack$Sea" "edge" "I", Cond.fieldLink RX1 122 "ThroughPack$Sea" "h" "I", Cond.fieldLink RX1 28 "ThroughPack$Judge" "wind" "I", Cond.fieldLink RX1 32 "ThroughPack$Judge" "watch" "I", Cond.methodLink RX1 109 yX1_joined, Cond.static yX1_joined, Cond.code yX1_joined cX1_joined 3 (some .long), Cond.methodLink RX0 85 yX0_priceFor, Cond.instanceMethod yX0_priceFor, Cond.selects RX0 yX0_priceFor yX0_priceFor, Cond.initialized RX0, Cond.code yX0_priceFor cX0_priceFor 5 (some .int), Cond.fieldLink RX0 55 "ThroughPack$Ship" "there" "Z", Cond.fieldLink RX0 59 "ThroughPack$Ship" "fate" "I", Cond.fieldLink RX0 66 "ThroughPack$Ship" "banked" "Z"]
def wsX0_chosen_r3 : List Cond := [Cond.fieldLink RX0 25 "ThroughPack$Helm" "sea" "LThroughPack$Sea;", Cond.fieldLink RX0 69 "ThroughPack$Ship" "cell" "I", Cond.fieldLink RX0 82 "ThroughPack$Ship" "coal" "I", Cond.static yX11_isOrder, Cond.initialized RX11, Cond.code yX11_isOrder cX11_isOrder 1 (some .boolean), Cond.methodLink RX11 92 yX11_within, Cond.static yX11_within, Cond.code yX11_within cX11_within 3 (some .boolean), Cond.methodLink RX0 42 yX0_isPush, Cond.static yX0_isPush, Cond.code yX0_isPush cX0_isPush 1 (some .boolean), Cond.methodLink RX0 46 yX6_beside, Cond.instanceMethod yX6_beside, Cond.selects RX6 yX6_beside yX6_beside, Cond.initialized RX6, Cond.code yX6_beside cX6_beside 3 (some .int), Cond.methodLink RX6 41 yX6_off, Cond.instanceMethod yX6_off, Cond.selects RX6 yX6_off yX6_off, Cond.code yX6_off cX6_off 6 (some .int), Cond.fieldLink RX6 9 "ThroughPack$Sea" "w" "I", Cond.fieldLink RX6 15 "ThroughPack$Sea" "h" "I", Cond.methodLink RX0 72 yX1_toll]
def wsX0_chosen_r4 : List Cond := [Cond.instanceMethod yX1_toll, Cond.selects RX1 yX1_toll yX1_toll, Cond.code yX1_toll cX1_toll 3 (some .int), Cond.fieldLink RX1 39 "ThroughPack$Judge" "law" "LThroughPack$Text;", Cond.methodLink RX1 35 yX1_anySo, Cond.instanceMethod yX1_anySo, Cond.selects RX1 yX1_anySo yX1_anySo, Cond.code yX1_anySo cX1_anySo 5 (some .boolean), Cond.fieldLink RX1 91 "ThroughPack$Text" "clauses" "I", Cond.fieldLink RX1 94 "ThroughPack$Text" "kinds" "[I", Cond.methodLink RX1 43 yX8_firstOf, Cond.instanceMethod yX8_firstOf, Cond.selects RX8 yX8_firstOf yX8_firstOf, Cond.initialized RX8, Cond.code yX8_firstOf cX8_firstOf 3 (some .int), Cond.fieldLink RX8 24 "ThroughPack$Text" "clauses" "I", Cond.fieldLink RX8 18 "ThroughPack$Text" "kinds" "[I", Cond.static yX11_held, Cond.code yX11_held cX11_held 3 (some .int), Cond.methodLink RX0 78 yX0_price, Cond.instanceMethod yX0_price, Cond.selects RX0 yX0_price yX0_price, Cond.code yX0_price cX0_price 4 (some .int), Cond.fieldLink RX0 9 "ThroughPack$Helm" "world" "LThroughPack$World;"]
def wsX0_chosen_r5 : List Cond := [Cond.fieldLink RX0 39 "ThroughPack$World" "costs" "[I"]
def wsX0_chosen : List Cond := .code yX0_chosen cX0_chosen 4 (some .int) :: ((wsX0_chosen_r1 ++ (wsX0_chosen_r2 ++ (wsX0_chosen_r3 ++ (wsX0_chosen_r4 ++ wsX0_chosen_r5)))) ++ wsX80 ++ wsX00 ++ wsX70 ++ wsX10 ++ wsX60 ++ wsX100)
def wsX6_drawn : List Cond := .code yX6_drawn cX6_drawn 5 (some .int) :: ([.fieldLink RX6 38 "ThroughPack$Sea" "chance" "[I"] ++ wsX60)
def wsX1_drive_r1 : List Cond := [Cond.fieldLink RX1 9 "ThroughPack$Judge" "sea" "LThroughPack$Sea;", Cond.fieldLink RX1 57 "ThroughPack$Sea" "size" "I", Cond.fieldLink RX1 60 "ThroughPack$Sea" "dx" "[I", Cond.fieldLink RX1 63 "ThroughPack$Sea" "dy" "[I", Cond.fieldLink RX1 19 "ThroughPack$Judge" "carried" "[I", Cond.fieldLink RX1 69 "ThroughPack$Sea" "edge" "I", Cond.fieldLink RX1 39 "ThroughPack$Judge" "law" "LThroughPack$Text;", Cond.methodLink RX1 66 yX6_off, Cond.instanceMethod yX6_off, Cond.selects RX6 yX6_off yX6_off, Cond.initialized RX6, Cond.code yX6_off cX6_off 6 (some .int), Cond.fieldLink RX6 9 "ThroughPack$Sea" "w" "I", Cond.fieldLink RX6 15 "ThroughPack$Sea" "h" "I", Cond.methodLink RX1 72 yX1_face, Cond.instanceMethod yX1_face, Cond.selects RX1 yX1_face yX1_face, Cond.initialized RX1, Cond.code yX1_face cX1_face 4 none, Cond.fieldLink RX1 27 "ThroughPack$Judge" "ice" "[I", Cond.fieldLink RX1 28 "ThroughPack$Judge" "wind" "I", Cond.fieldLink RX1 32 "ThroughPack$Judge" "watch" "I", Cond.methodLink RX1 43 yX8_firstOf, Cond.instanceMethod yX8_firstOf]
def wsX1_drive_r2 : List Cond := [Cond.selects RX8 yX8_firstOf yX8_firstOf, Cond.initialized RX8, Cond.code yX8_firstOf cX8_firstOf 3 (some .int), Cond.fieldLink RX8 24 "ThroughPack$Text" "clauses" "I", Cond.fieldLink RX8 18 "ThroughPack$Text" "kinds" "[I", Cond.methodLink RX1 49 yX1_value, Cond.instanceMethod yX1_value, Cond.selects RX1 yX1_value yX1_value, Cond.code yX1_value cX1_value 9 (some .int), Cond.fieldLink RX1 97 "ThroughPack$Text" "from" "[I", Cond.fieldLink RX1 100 "ThroughPack$Text" "steps" "[I", Cond.fieldLink RX1 15 "ThroughPack$Judge" "stack" "[I", Cond.constantLong RX1 113 (1000000), Cond.constant RX1 115 (1000000), Cond.constantLong RX1 116 (-1000000), Cond.constant RX1 118 (-1000000), Cond.methodLink RX1 103 yX1_named, Cond.instanceMethod yX1_named, Cond.selects RX1 yX1_named yX1_named, Cond.code yX1_named cX1_named 5 (some .int), Cond.fieldLink RX1 119 "ThroughPack$Sea" "w" "I", Cond.fieldLink RX1 122 "ThroughPack$Sea" "h" "I", Cond.fieldLink RX1 81 "ThroughPack$Judge" "coal" "I", Cond.fieldLink RX1 86 "ThroughPack$Judge" "banked" "I"]
def wsX1_drive_r3 : List Cond := [Cond.methodLink RX1 109 yX1_joined, Cond.static yX1_joined, Cond.code yX1_joined cX1_joined 3 (some .long), Cond.static yX11_held, Cond.initialized RX11, Cond.code yX11_held cX11_held 3 (some .int)]
def wsX1_drive : List Cond := .code yX1_drive cX1_drive 7 none :: ((wsX1_drive_r1 ++ (wsX1_drive_r2 ++ wsX1_drive_r3)) ++ wsX10 ++ wsX60 ++ wsX80)
def wsX0_sail_r1 : List Cond := [Cond.fieldLink RX0 25 "ThroughPack$Helm" "sea" "LThroughPack$Sea;", Cond.fieldLink RX0 100 "ThroughPack$Sea" "ice" "[I", Cond.fieldLink RX0 26 "ThroughPack$Helm" "field" "[I", Cond.methodLink RX0 103 arraycopyName, Cond.native arraycopyName, Cond.static arraycopyName, Cond.initialized "java/lang/System", Cond.fieldLink RX0 35 "ThroughPack$Helm" "runner" "LThroughPack$Ship;", Cond.fieldLink RX0 9 "ThroughPack$Helm" "world" "LThroughPack$World;", Cond.fieldLink RX0 109 "ThroughPack$World" "first" "LThroughPack$Ship;", Cond.fieldLink RX0 116 "ThroughPack$Sea" "wind" "I", Cond.fieldLink RX0 119 "ThroughPack$Helm" "watches" "I", Cond.fieldLink RX0 59 "ThroughPack$Ship" "fate" "I", Cond.fieldLink RX0 15 "ThroughPack$Helm" "judge" "LThroughPack$Judge;", Cond.fieldLink RX0 122 "ThroughPack$Sea" "watch" "I", Cond.methodLink RX0 112 yX7_take, Cond.instanceMethod yX7_take, Cond.selects RX7 yX7_take yX7_take, Cond.initialized RX7, Cond.code yX7_take cX7_take 2 none, Cond.fieldLink RX7 19 "ThroughPack$Ship" "cell" "I", Cond.fieldLink RX7 9 "ThroughPack$Ship" "coal" "I", Cond.fieldLink RX7 22 "ThroughPack$Ship" "fate" "I", Cond.fieldLink RX7 25 "ThroughPack$Ship" "banked" "Z"]
def wsX0_sail_r2 : List Cond := [Cond.fieldLink RX7 15 "ThroughPack$Ship" "there" "Z", Cond.methodLink RX0 125 yX1_face, Cond.instanceMethod yX1_face, Cond.selects RX1 yX1_face yX1_face, Cond.initialized RX1, Cond.code yX1_face cX1_face 4 none, Cond.fieldLink RX1 27 "ThroughPack$Judge" "ice" "[I", Cond.fieldLink RX1 28 "ThroughPack$Judge" "wind" "I", Cond.fieldLink RX1 32 "ThroughPack$Judge" "watch" "I", Cond.methodLink RX0 129 yX0_chosen, Cond.instanceMethod yX0_chosen, Cond.selects RX0 yX0_chosen yX0_chosen, Cond.initialized RX0, Cond.code yX0_chosen cX0_chosen 4 (some .int), Cond.fieldLink RX0 148 "ThroughPack$Text" "clauses" "I", Cond.fieldLink RX0 153 "ThroughPack$Text" "numbers" "[I", Cond.fieldLink RX0 156 "ThroughPack$Text" "kinds" "[I", Cond.methodLink RX0 159 yX1_wants, Cond.instanceMethod yX1_wants, Cond.selects RX1 yX1_wants yX1_wants, Cond.code yX1_wants cX1_wants 4 (some .boolean), Cond.fieldLink RX1 76 "ThroughPack$Ship" "coal" "I", Cond.fieldLink RX1 81 "ThroughPack$Judge" "coal" "I", Cond.fieldLink RX1 82 "ThroughPack$Ship" "banked" "Z"]
def wsX0_sail_r3 : List Cond := [Cond.fieldLink RX1 86 "ThroughPack$Judge" "banked" "I", Cond.fieldLink RX1 88 "ThroughPack$Ship" "cell" "I", Cond.methodLink RX1 49 yX1_value, Cond.instanceMethod yX1_value, Cond.selects RX1 yX1_value yX1_value, Cond.code yX1_value cX1_value 9 (some .int), Cond.fieldLink RX1 97 "ThroughPack$Text" "from" "[I", Cond.fieldLink RX1 100 "ThroughPack$Text" "steps" "[I", Cond.fieldLink RX1 15 "ThroughPack$Judge" "stack" "[I", Cond.constantLong RX1 113 (1000000), Cond.constant RX1 115 (1000000), Cond.constantLong RX1 116 (-1000000), Cond.constant RX1 118 (-1000000), Cond.methodLink RX1 103 yX1_named, Cond.instanceMethod yX1_named, Cond.selects RX1 yX1_named yX1_named, Cond.code yX1_named cX1_named 5 (some .int), Cond.fieldLink RX1 9 "ThroughPack$Judge" "sea" "LThroughPack$Sea;", Cond.fieldLink RX1 119 "ThroughPack$Sea" "w" "I", Cond.fieldLink RX1 69 "ThroughPack$Sea" "edge" "I", Cond.fieldLink RX1 122 "ThroughPack$Sea" "h" "I", Cond.methodLink RX1 109 yX1_joined, Cond.static yX1_joined, Cond.code yX1_joined cX1_joined 3 (some .long)]
def wsX0_sail_r4 : List Cond := [Cond.methodLink RX0 85 yX0_priceFor, Cond.instanceMethod yX0_priceFor, Cond.selects RX0 yX0_priceFor yX0_priceFor, Cond.code yX0_priceFor cX0_priceFor 5 (some .int), Cond.fieldLink RX0 55 "ThroughPack$Ship" "there" "Z", Cond.fieldLink RX0 66 "ThroughPack$Ship" "banked" "Z", Cond.fieldLink RX0 69 "ThroughPack$Ship" "cell" "I", Cond.fieldLink RX0 82 "ThroughPack$Ship" "coal" "I", Cond.static yX11_isOrder, Cond.initialized RX11, Cond.code yX11_isOrder cX11_isOrder 1 (some .boolean), Cond.methodLink RX11 92 yX11_within, Cond.static yX11_within, Cond.code yX11_within cX11_within 3 (some .boolean), Cond.methodLink RX0 42 yX0_isPush, Cond.static yX0_isPush, Cond.code yX0_isPush cX0_isPush 1 (some .boolean), Cond.methodLink RX0 46 yX6_beside, Cond.instanceMethod yX6_beside, Cond.selects RX6 yX6_beside yX6_beside, Cond.initialized RX6, Cond.code yX6_beside cX6_beside 3 (some .int), Cond.methodLink RX6 41 yX6_off, Cond.instanceMethod yX6_off]
def wsX0_sail_r5 : List Cond := [Cond.selects RX6 yX6_off yX6_off, Cond.code yX6_off cX6_off 6 (some .int), Cond.fieldLink RX6 9 "ThroughPack$Sea" "w" "I", Cond.fieldLink RX6 15 "ThroughPack$Sea" "h" "I", Cond.methodLink RX0 72 yX1_toll, Cond.instanceMethod yX1_toll, Cond.selects RX1 yX1_toll yX1_toll, Cond.code yX1_toll cX1_toll 3 (some .int), Cond.fieldLink RX1 39 "ThroughPack$Judge" "law" "LThroughPack$Text;", Cond.methodLink RX1 35 yX1_anySo, Cond.instanceMethod yX1_anySo, Cond.selects RX1 yX1_anySo yX1_anySo, Cond.code yX1_anySo cX1_anySo 5 (some .boolean), Cond.fieldLink RX1 91 "ThroughPack$Text" "clauses" "I", Cond.fieldLink RX1 94 "ThroughPack$Text" "kinds" "[I", Cond.methodLink RX1 43 yX8_firstOf, Cond.instanceMethod yX8_firstOf, Cond.selects RX8 yX8_firstOf yX8_firstOf, Cond.initialized RX8, Cond.code yX8_firstOf cX8_firstOf 3 (some .int), Cond.fieldLink RX8 24 "ThroughPack$Text" "clauses" "I", Cond.fieldLink RX8 18 "ThroughPack$Text" "kinds" "[I", Cond.static yX11_held, Cond.code yX11_held cX11_held 3 (some .int)]
def wsX0_sail_r6 : List Cond := [Cond.methodLink RX0 78 yX0_price, Cond.instanceMethod yX0_price, Cond.selects RX0 yX0_price yX0_price, Cond.code yX0_price cX0_price 4 (some .int), Cond.fieldLink RX0 39 "ThroughPack$World" "costs" "[I", Cond.methodLink RX0 133 yX0_obey, Cond.instanceMethod yX0_obey, Cond.selects RX0 yX0_obey yX0_obey, Cond.code yX0_obey cX0_obey 4 (some .boolean), Cond.fieldLink RX0 93 "ThroughPack$Sea" "exit" "[Z", Cond.methodLink RX0 89 yX0_banksBehind, Cond.static yX0_banksBehind, Cond.code yX0_banksBehind cX0_banksBehind 2 (some .boolean), Cond.methodLink RX0 137 yX6_drawn, Cond.instanceMethod yX6_drawn, Cond.selects RX6 yX6_drawn yX6_drawn, Cond.code yX6_drawn cX6_drawn 5 (some .int), Cond.fieldLink RX6 38 "ThroughPack$Sea" "chance" "[I", Cond.methodLink RX0 140 yX1_drive, Cond.instanceMethod yX1_drive, Cond.selects RX1 yX1_drive yX1_drive, Cond.code yX1_drive cX1_drive 7 none, Cond.fieldLink RX1 57 "ThroughPack$Sea" "size" "I", Cond.fieldLink RX1 60 "ThroughPack$Sea" "dx" "[I"]
def wsX0_sail_r7 : List Cond := [Cond.fieldLink RX1 63 "ThroughPack$Sea" "dy" "[I", Cond.fieldLink RX1 19 "ThroughPack$Judge" "carried" "[I", Cond.methodLink RX1 66 yX6_off, Cond.methodLink RX1 72 yX1_face, Cond.methodLink RX0 144 yX0_settle, Cond.instanceMethod yX0_settle, Cond.selects RX0 yX0_settle yX0_settle, Cond.code yX0_settle cX0_settle 4 none, Cond.methodLink RX0 52 yX6_afloat, Cond.instanceMethod yX6_afloat, Cond.selects RX6 yX6_afloat yX6_afloat, Cond.code yX6_afloat cX6_afloat 4 (some .int), Cond.fieldLink RX6 32 "ThroughPack$Sea" "dx" "[I", Cond.fieldLink RX6 35 "ThroughPack$Sea" "dy" "[I", Cond.methodLink RX0 97 yX1_isNipping, Cond.instanceMethod yX1_isNipping, Cond.selects RX1 yX1_isNipping yX1_isNipping, Cond.code yX1_isNipping cX1_isNipping 2 (some .boolean)]
def wsX0_sail : List Cond := .code yX0_sail cX0_sail 8 none :: ((wsX0_sail_r1 ++ (wsX0_sail_r2 ++ (wsX0_sail_r3 ++ (wsX0_sail_r4 ++ (wsX0_sail_r5 ++ (wsX0_sail_r6 ++ wsX0_sail_r7)))))) ++ wsX00 ++ wsX60 ++ wsX100 ++ wsX70 ++ wsX10 ++ wsX80)
def wsX1_init : List Cond := .code yX1_init cX1_init 2 none :: ([.methodLink RX1 3 objectInit, .instanceMethod objectInit, .code objectInit ⟨#[0xb1]⟩ 1 none, .fieldLink RX1 9 "ThroughPack$Judge" "sea" "LThroughPack$Sea;", .arrayClass .int, .fieldLink RX1 15 "ThroughPack$Judge" "stack" "[I", .fieldLink RX1 19 "ThroughPack$Judge" "carried" "[I", .fieldLink RX1 22 "ThroughPack$Sea" "ice" "[I", .fieldLink RX1 27 "ThroughPack$Judge" "ice" "[I"] ++ wsX10 ++ wsX60)
def wsX1_isOpen_r1 : List Cond := [Cond.fieldLink RX1 27 "ThroughPack$Judge" "ice" "[I", Cond.methodLink RX1 35 yX1_anySo, Cond.instanceMethod yX1_anySo, Cond.selects RX1 yX1_anySo yX1_anySo, Cond.initialized RX1, Cond.code yX1_anySo cX1_anySo 5 (some .boolean), Cond.fieldLink RX1 39 "ThroughPack$Judge" "law" "LThroughPack$Text;", Cond.fieldLink RX1 91 "ThroughPack$Text" "clauses" "I", Cond.fieldLink RX1 94 "ThroughPack$Text" "kinds" "[I", Cond.methodLink RX1 43 yX8_firstOf, Cond.instanceMethod yX8_firstOf, Cond.selects RX8 yX8_firstOf yX8_firstOf, Cond.initialized RX8, Cond.code yX8_firstOf cX8_firstOf 3 (some .int), Cond.fieldLink RX8 24 "ThroughPack$Text" "clauses" "I", Cond.fieldLink RX8 18 "ThroughPack$Text" "kinds" "[I", Cond.methodLink RX1 49 yX1_value, Cond.instanceMethod yX1_value, Cond.selects RX1 yX1_value yX1_value, Cond.code yX1_value cX1_value 9 (some .int), Cond.fieldLink RX1 97 "ThroughPack$Text" "from" "[I", Cond.fieldLink RX1 100 "ThroughPack$Text" "steps" "[I", Cond.fieldLink RX1 15 "ThroughPack$Judge" "stack" "[I", Cond.constantLong RX1 113 (1000000)]
def wsX1_isOpen_r2 : List Cond := [Cond.constant RX1 115 (1000000), Cond.constantLong RX1 116 (-1000000), Cond.constant RX1 118 (-1000000), Cond.methodLink RX1 103 yX1_named, Cond.instanceMethod yX1_named, Cond.selects RX1 yX1_named yX1_named, Cond.code yX1_named cX1_named 5 (some .int), Cond.fieldLink RX1 9 "ThroughPack$Judge" "sea" "LThroughPack$Sea;", Cond.fieldLink RX1 119 "ThroughPack$Sea" "w" "I", Cond.fieldLink RX1 69 "ThroughPack$Sea" "edge" "I", Cond.fieldLink RX1 122 "ThroughPack$Sea" "h" "I", Cond.fieldLink RX1 28 "ThroughPack$Judge" "wind" "I", Cond.fieldLink RX1 32 "ThroughPack$Judge" "watch" "I", Cond.fieldLink RX1 81 "ThroughPack$Judge" "coal" "I", Cond.fieldLink RX1 86 "ThroughPack$Judge" "banked" "I", Cond.methodLink RX1 109 yX1_joined, Cond.static yX1_joined, Cond.code yX1_joined cX1_joined 3 (some .long)]
def wsX1_isOpen : List Cond := .code yX1_isOpen cX1_isOpen 2 (some .boolean) :: ((wsX1_isOpen_r1 ++ wsX1_isOpen_r2) ++ wsX10 ++ wsX80 ++ wsX60)
def wsX1_isFirm_r1 : List Cond := [Cond.fieldLink RX1 27 "ThroughPack$Judge" "ice" "[I", Cond.methodLink RX1 35 yX1_anySo, Cond.instanceMethod yX1_anySo, Cond.selects RX1 yX1_anySo yX1_anySo, Cond.initialized RX1, Cond.code yX1_anySo cX1_anySo 5 (some .boolean), Cond.fieldLink RX1 39 "ThroughPack$Judge" "law" "LThroughPack$Text;", Cond.fieldLink RX1 91 "ThroughPack$Text" "clauses" "I", Cond.fieldLink RX1 94 "ThroughPack$Text" "kinds" "[I", Cond.methodLink RX1 43 yX8_firstOf, Cond.instanceMethod yX8_firstOf, Cond.selects RX8 yX8_firstOf yX8_firstOf, Cond.initialized RX8, Cond.code yX8_firstOf cX8_firstOf 3 (some .int), Cond.fieldLink RX8 24 "ThroughPack$Text" "clauses" "I", Cond.fieldLink RX8 18 "ThroughPack$Text" "kinds" "[I", Cond.methodLink RX1 49 yX1_value, Cond.instanceMethod yX1_value, Cond.selects RX1 yX1_value yX1_value, Cond.code yX1_value cX1_value 9 (some .int), Cond.fieldLink RX1 97 "ThroughPack$Text" "from" "[I", Cond.fieldLink RX1 100 "ThroughPack$Text" "steps" "[I", Cond.fieldLink RX1 15 "ThroughPack$Judge" "stack" "[I", Cond.constantLong RX1 113 (1000000)]
def wsX1_isFirm_r2 : List Cond := [Cond.constant RX1 115 (1000000), Cond.constantLong RX1 116 (-1000000), Cond.constant RX1 118 (-1000000), Cond.methodLink RX1 103 yX1_named, Cond.instanceMethod yX1_named, Cond.selects RX1 yX1_named yX1_named, Cond.code yX1_named cX1_named 5 (some .int), Cond.fieldLink RX1 9 "ThroughPack$Judge" "sea" "LThroughPack$Sea;", Cond.fieldLink RX1 119 "ThroughPack$Sea" "w" "I", Cond.fieldLink RX1 69 "ThroughPack$Sea" "edge" "I", Cond.fieldLink RX1 122 "ThroughPack$Sea" "h" "I", Cond.fieldLink RX1 28 "ThroughPack$Judge" "wind" "I", Cond.fieldLink RX1 32 "ThroughPack$Judge" "watch" "I", Cond.fieldLink RX1 81 "ThroughPack$Judge" "coal" "I", Cond.fieldLink RX1 86 "ThroughPack$Judge" "banked" "I", Cond.methodLink RX1 109 yX1_joined, Cond.static yX1_joined, Cond.code yX1_joined cX1_joined 3 (some .long)]
def wsX1_isFirm : List Cond := .code yX1_isFirm cX1_isFirm 2 (some .boolean) :: ((wsX1_isFirm_r1 ++ wsX1_isFirm_r2) ++ wsX10 ++ wsX80 ++ wsX60)
def wsX2_init : List Cond := .code yX2_init cX2_init 2 none :: ([.methodLink RX2 3 objectInit, .instanceMethod objectInit, .code objectInit ⟨#[0xb1]⟩ 1 none, .arrayClass .int, .fieldLink RX2 9 "ThroughPack$Looks" "prior" "[I", .fieldLink RX2 15 "ThroughPack$Looks" "cells" "[I", .fieldLink RX2 18 "ThroughPack$Looks" "kinds" "[I"] ++ wsX20)
def wsX2_add : List Cond := .code yX2_add cX2_add 3 none :: ([.fieldLink RX2 21 "ThroughPack$Looks" "count" "I", .fieldLink RX2 15 "ThroughPack$Looks" "cells" "[I", .fieldLink RX2 18 "ThroughPack$Looks" "kinds" "[I"] ++ wsX20)
def wsX6_carried : List Cond := .code yX6_carried cX6_carried 3 (some .int) :: ([.fieldLink RX6 32 "ThroughPack$Sea" "dx" "[I", .fieldLink RX6 35 "ThroughPack$Sea" "dy" "[I", .methodLink RX6 41 yX6_off, .instanceMethod yX6_off, .selects RX6 yX6_off yX6_off, .initialized RX6, .code yX6_off cX6_off 6 (some .int), .fieldLink RX6 9 "ThroughPack$Sea" "w" "I", .fieldLink RX6 15 "ThroughPack$Sea" "h" "I"] ++ wsX60)
def wsX2_go : List Cond := .code yX2_go cX2_go 4 none :: ([.fieldLink RX2 21 "ThroughPack$Looks" "count" "I", .fieldLink RX2 15 "ThroughPack$Looks" "cells" "[I", .methodLink RX2 25 yX6_carried, .instanceMethod yX6_carried, .selects RX6 yX6_carried yX6_carried, .initialized RX6, .code yX6_carried cX6_carried 3 (some .int), .fieldLink RX6 32 "ThroughPack$Sea" "dx" "[I", .fieldLink RX6 35 "ThroughPack$Sea" "dy" "[I", .methodLink RX6 41 yX6_off, .instanceMethod yX6_off, .selects RX6 yX6_off yX6_off, .code yX6_off cX6_off 6 (some .int), .fieldLink RX6 9 "ThroughPack$Sea" "w" "I", .fieldLink RX6 15 "ThroughPack$Sea" "h" "I"] ++ wsX20 ++ wsX60)
def wsX2_seenIn : List Cond := .code yX2_seenIn cX2_seenIn 4 (some .int) :: ([.fieldLink RX2 21 "ThroughPack$Looks" "count" "I", .fieldLink RX2 15 "ThroughPack$Looks" "cells" "[I"] ++ wsX20)
def wsX2_weight : List Cond := .code yX2_weight cX2_weight 8 (some .long) :: ([.fieldLink RX2 9 "ThroughPack$Looks" "prior" "[I", .fieldLink RX2 21 "ThroughPack$Looks" "count" "I", .fieldLink RX2 15 "ThroughPack$Looks" "cells" "[I", .fieldLink RX2 18 "ThroughPack$Looks" "kinds" "[I", .methodLink RX2 37 Lib.Math.abs.name, .static Lib.Math.abs.name, .initialized "java/lang/Math", .code Lib.Math.abs.name Lib.Math.abs.code 1 (some .int), .constantLong RX2 43 (8)] ++ wsX20)
def wsX2_thousandths : List Cond := .code yX2_thousandths cX2_thousandths 6 (some .int) :: ([.constantLong RX2 35 (1000), .methodLink RX2 31 yX2_weight, .instanceMethod yX2_weight, .selects RX2 yX2_weight yX2_weight, .initialized RX2, .code yX2_weight cX2_weight 8 (some .long), .fieldLink RX2 9 "ThroughPack$Looks" "prior" "[I", .fieldLink RX2 21 "ThroughPack$Looks" "count" "I", .fieldLink RX2 15 "ThroughPack$Looks" "cells" "[I", .fieldLink RX2 18 "ThroughPack$Looks" "kinds" "[I", .methodLink RX2 37 Lib.Math.abs.name, .static Lib.Math.abs.name, .initialized "java/lang/Math", .code Lib.Math.abs.name Lib.Math.abs.code 1 (some .int), .constantLong RX2 43 (8)] ++ wsX20)
def wsX2_take : List Cond := .code yX2_take cX2_take 2 none :: ([.fieldLink RX2 9 "ThroughPack$Looks" "prior" "[I", .methodLink RX2 45 arraycopyName, .native arraycopyName, .static arraycopyName, .initialized "java/lang/System", .fieldLink RX2 15 "ThroughPack$Looks" "cells" "[I", .fieldLink RX2 18 "ThroughPack$Looks" "kinds" "[I", .fieldLink RX2 21 "ThroughPack$Looks" "count" "I"] ++ wsX20)
def wsX3_init : List Cond := .code yX3_init cX3_init 4 none :: ([.methodLink RX3 3 objectInit, .instanceMethod objectInit, .code objectInit ⟨#[0xb1]⟩ 1 none, .fieldLink RX3 9 "ThroughPack$Odds" "world" "LThroughPack$World;", .fieldLink RX3 15 "ThroughPack$Odds" "helm" "LThroughPack$Helm;", .fieldLink RX3 19 "ThroughPack$Odds" "outlook" "LThroughPack$Outlook;", .fieldLink RX3 23 "ThroughPack$World" "sea" "LThroughPack$Sea;", .fieldLink RX3 29 "ThroughPack$Odds" "sea" "LThroughPack$Sea;"] ++ wsX30 ++ wsX100)
def wsX3_tens : List Cond := .code yX3_tens cX3_tens 3 (some .int) :: ([])
def wsX4_tollOf : List Cond := .code yX4_tollOf cX4_tollOf 5 (some .int) :: ([.fieldLink RX4 25 "ThroughPack$Outlook" "sea" "LThroughPack$Sea;", .fieldLink RX4 31 "ThroughPack$Outlook" "tolls" "[[I", .methodLink RX4 104 yX6_beside, .instanceMethod yX6_beside, .selects RX6 yX6_beside yX6_beside, .initialized RX6, .code yX6_beside cX6_beside 3 (some .int), .methodLink RX6 41 yX6_off, .instanceMethod yX6_off, .selects RX6 yX6_off yX6_off, .code yX6_off cX6_off 6 (some .int), .fieldLink RX6 9 "ThroughPack$Sea" "w" "I", .fieldLink RX6 15 "ThroughPack$Sea" "h" "I"] ++ wsX40 ++ wsX60)
def wsX3_leaves : List Cond := .code yX3_leaves cX3_leaves 4 (some .boolean) :: ([.fieldLink RX3 29 "ThroughPack$Odds" "sea" "LThroughPack$Sea;", .fieldLink RX3 112 "ThroughPack$Sea" "exit" "[Z", .methodLink RX3 109 yX6_beside, .instanceMethod yX6_beside, .selects RX6 yX6_beside yX6_beside, .initialized RX6, .code yX6_beside cX6_beside 3 (some .int), .methodLink RX6 41 yX6_off, .instanceMethod yX6_off, .selects RX6 yX6_off yX6_off, .code yX6_off cX6_off 6 (some .int), .fieldLink RX6 9 "ThroughPack$Sea" "w" "I", .fieldLink RX6 15 "ThroughPack$Sea" "h" "I"] ++ wsX30 ++ wsX60)
def wsX4_behind : List Cond := .code yX4_behind cX4_behind 2 (some .int) :: ([])
def wsX3_bestFrom_r1 : List Cond := [Cond.methodLink RX3 104 Lib.Math.max.name, Cond.static Lib.Math.max.name, Cond.initialized "java/lang/Math", Cond.code Lib.Math.max.name Lib.Math.max.code 2 (some .int), Cond.methodLink RX3 52 yX3_chanceBy, Cond.instanceMethod yX3_chanceBy, Cond.selects RX3 yX3_chanceBy yX3_chanceBy, Cond.initialized RX3, Cond.code yX3_chanceBy cX3_chanceBy 13 (some .int), Cond.fieldLink RX3 15 "ThroughPack$Odds" "helm" "LThroughPack$Helm;", Cond.fieldLink RX3 19 "ThroughPack$Odds" "outlook" "LThroughPack$Outlook;", Cond.fieldLink RX3 29 "ThroughPack$Odds" "sea" "LThroughPack$Sea;", Cond.fieldLink RX3 76 "ThroughPack$Sea" "chance" "[I", Cond.fieldLink RX3 82 "ThroughPack$Outlook" "winds" "[I", Cond.fieldLink RX3 92 "ThroughPack$Outlook" "nips" "[[I", Cond.methodLink RX3 56 yX4_tollOf, Cond.instanceMethod yX4_tollOf, Cond.selects RX4 yX4_tollOf yX4_tollOf, Cond.initialized RX4, Cond.code yX4_tollOf cX4_tollOf 5 (some .int), Cond.fieldLink RX4 25 "ThroughPack$Outlook" "sea" "LThroughPack$Sea;", Cond.fieldLink RX4 31 "ThroughPack$Outlook" "tolls" "[[I", Cond.methodLink RX4 104 yX6_beside, Cond.instanceMethod yX6_beside]
def wsX3_bestFrom_r2 : List Cond := [Cond.selects RX6 yX6_beside yX6_beside, Cond.initialized RX6, Cond.code yX6_beside cX6_beside 3 (some .int), Cond.methodLink RX6 41 yX6_off, Cond.instanceMethod yX6_off, Cond.selects RX6 yX6_off yX6_off, Cond.code yX6_off cX6_off 6 (some .int), Cond.fieldLink RX6 9 "ThroughPack$Sea" "w" "I", Cond.fieldLink RX6 15 "ThroughPack$Sea" "h" "I", Cond.methodLink RX3 62 yX0_price, Cond.instanceMethod yX0_price, Cond.selects RX0 yX0_price yX0_price, Cond.initialized RX0, Cond.code yX0_price cX0_price 4 (some .int), Cond.fieldLink RX0 9 "ThroughPack$Helm" "world" "LThroughPack$World;", Cond.fieldLink RX0 39 "ThroughPack$World" "costs" "[I", Cond.methodLink RX3 68 yX3_leaves, Cond.instanceMethod yX3_leaves, Cond.selects RX3 yX3_leaves yX3_leaves, Cond.code yX3_leaves cX3_leaves 4 (some .boolean), Cond.fieldLink RX3 112 "ThroughPack$Sea" "exit" "[Z", Cond.methodLink RX3 109 yX6_beside, Cond.methodLink RX3 72 yX3_tens, Cond.static yX3_tens]
def wsX3_bestFrom_r3 : List Cond := [Cond.code yX3_tens cX3_tens 3 (some .int), Cond.methodLink RX3 85 yX0_landing, Cond.instanceMethod yX0_landing, Cond.selects RX0 yX0_landing yX0_landing, Cond.code yX0_landing cX0_landing 4 (some .int), Cond.fieldLink RX0 25 "ThroughPack$Helm" "sea" "LThroughPack$Sea;", Cond.methodLink RX0 42 yX0_isPush, Cond.static yX0_isPush, Cond.code yX0_isPush cX0_isPush 1 (some .boolean), Cond.methodLink RX0 46 yX6_beside, Cond.methodLink RX0 52 yX6_afloat, Cond.instanceMethod yX6_afloat, Cond.selects RX6 yX6_afloat yX6_afloat, Cond.code yX6_afloat cX6_afloat 4 (some .int), Cond.fieldLink RX6 32 "ThroughPack$Sea" "dx" "[I", Cond.fieldLink RX6 35 "ThroughPack$Sea" "dy" "[I", Cond.methodLink RX3 88 yX4_behind, Cond.static yX4_behind, Cond.code yX4_behind cX4_behind 2 (some .int), Cond.methodLink RX3 96 yX0_banksBehind, Cond.static yX0_banksBehind, Cond.code yX0_banksBehind cX0_banksBehind 2 (some .boolean), Cond.methodLink RX3 100 yX3_bestFrom, Cond.instanceMethod yX3_bestFrom]
def wsX3_bestFrom_r4 : List Cond := [Cond.selects RX3 yX3_bestFrom yX3_bestFrom]
def wsX3_bestFrom : List Cond := .code yX3_bestFrom cX3_bestFrom 8 (some .int) :: ((wsX3_bestFrom_r1 ++ (wsX3_bestFrom_r2 ++ (wsX3_bestFrom_r3 ++ wsX3_bestFrom_r4))) ++ wsX30 ++ wsX60 ++ wsX40 ++ wsX00 ++ wsX100)
def wsX3_chanceBy_r1 : List Cond := [Cond.fieldLink RX3 15 "ThroughPack$Odds" "helm" "LThroughPack$Helm;", Cond.fieldLink RX3 19 "ThroughPack$Odds" "outlook" "LThroughPack$Outlook;", Cond.fieldLink RX3 29 "ThroughPack$Odds" "sea" "LThroughPack$Sea;", Cond.fieldLink RX3 76 "ThroughPack$Sea" "chance" "[I", Cond.fieldLink RX3 82 "ThroughPack$Outlook" "winds" "[I", Cond.fieldLink RX3 92 "ThroughPack$Outlook" "nips" "[[I", Cond.methodLink RX3 56 yX4_tollOf, Cond.instanceMethod yX4_tollOf, Cond.selects RX4 yX4_tollOf yX4_tollOf, Cond.initialized RX4, Cond.code yX4_tollOf cX4_tollOf 5 (some .int), Cond.fieldLink RX4 25 "ThroughPack$Outlook" "sea" "LThroughPack$Sea;", Cond.fieldLink RX4 31 "ThroughPack$Outlook" "tolls" "[[I", Cond.methodLink RX4 104 yX6_beside, Cond.instanceMethod yX6_beside, Cond.selects RX6 yX6_beside yX6_beside, Cond.initialized RX6, Cond.code yX6_beside cX6_beside 3 (some .int), Cond.methodLink RX6 41 yX6_off, Cond.instanceMethod yX6_off, Cond.selects RX6 yX6_off yX6_off, Cond.code yX6_off cX6_off 6 (some .int), Cond.fieldLink RX6 9 "ThroughPack$Sea" "w" "I", Cond.fieldLink RX6 15 "ThroughPack$Sea" "h" "I"]
def wsX3_chanceBy_r2 : List Cond := [Cond.methodLink RX3 62 yX0_price, Cond.instanceMethod yX0_price, Cond.selects RX0 yX0_price yX0_price, Cond.initialized RX0, Cond.code yX0_price cX0_price 4 (some .int), Cond.fieldLink RX0 9 "ThroughPack$Helm" "world" "LThroughPack$World;", Cond.fieldLink RX0 39 "ThroughPack$World" "costs" "[I", Cond.methodLink RX3 68 yX3_leaves, Cond.instanceMethod yX3_leaves, Cond.selects RX3 yX3_leaves yX3_leaves, Cond.initialized RX3, Cond.code yX3_leaves cX3_leaves 4 (some .boolean), Cond.fieldLink RX3 112 "ThroughPack$Sea" "exit" "[Z", Cond.methodLink RX3 109 yX6_beside, Cond.methodLink RX3 72 yX3_tens, Cond.static yX3_tens, Cond.code yX3_tens cX3_tens 3 (some .int), Cond.methodLink RX3 85 yX0_landing, Cond.instanceMethod yX0_landing, Cond.selects RX0 yX0_landing yX0_landing, Cond.code yX0_landing cX0_landing 4 (some .int), Cond.fieldLink RX0 25 "ThroughPack$Helm" "sea" "LThroughPack$Sea;", Cond.methodLink RX0 42 yX0_isPush, Cond.static yX0_isPush]
def wsX3_chanceBy_r3 : List Cond := [Cond.code yX0_isPush cX0_isPush 1 (some .boolean), Cond.methodLink RX0 46 yX6_beside, Cond.methodLink RX0 52 yX6_afloat, Cond.instanceMethod yX6_afloat, Cond.selects RX6 yX6_afloat yX6_afloat, Cond.code yX6_afloat cX6_afloat 4 (some .int), Cond.fieldLink RX6 32 "ThroughPack$Sea" "dx" "[I", Cond.fieldLink RX6 35 "ThroughPack$Sea" "dy" "[I", Cond.methodLink RX3 88 yX4_behind, Cond.static yX4_behind, Cond.code yX4_behind cX4_behind 2 (some .int), Cond.methodLink RX3 96 yX0_banksBehind, Cond.static yX0_banksBehind, Cond.code yX0_banksBehind cX0_banksBehind 2 (some .boolean), Cond.methodLink RX3 100 yX3_bestFrom, Cond.instanceMethod yX3_bestFrom, Cond.selects RX3 yX3_bestFrom yX3_bestFrom, Cond.code yX3_bestFrom cX3_bestFrom 8 (some .int), Cond.methodLink RX3 104 Lib.Math.max.name, Cond.static Lib.Math.max.name, Cond.initialized "java/lang/Math", Cond.code Lib.Math.max.name Lib.Math.max.code 2 (some .int), Cond.methodLink RX3 52 yX3_chanceBy, Cond.instanceMethod yX3_chanceBy]
def wsX3_chanceBy_r4 : List Cond := [Cond.selects RX3 yX3_chanceBy yX3_chanceBy]
def wsX3_chanceBy : List Cond := .code yX3_chanceBy cX3_chanceBy 13 (some .int) :: ((wsX3_chanceBy_r1 ++ (wsX3_chanceBy_r2 ++ (wsX3_chanceBy_r3 ++ wsX3_chanceBy_r4))) ++ wsX30 ++ wsX60 ++ wsX40 ++ wsX00 ++ wsX100)
def wsX3_weigh_r1 : List Cond := [Cond.fieldLink RX3 9 "ThroughPack$Odds" "world" "LThroughPack$World;", Cond.fieldLink RX3 30 "ThroughPack$World" "first" "LThroughPack$Ship;", Cond.fieldLink RX3 34 "ThroughPack$Odds" "best" "I", Cond.fieldLink RX3 38 "ThroughPack$Odds" "first" "I", Cond.fieldLink RX3 40 "ThroughPack$Ship" "cell" "I", Cond.fieldLink RX3 45 "ThroughPack$Ship" "coal" "I", Cond.fieldLink RX3 48 "ThroughPack$Ship" "banked" "Z", Cond.methodLink RX3 52 yX3_chanceBy, Cond.instanceMethod yX3_chanceBy, Cond.selects RX3 yX3_chanceBy yX3_chanceBy, Cond.initialized RX3, Cond.code yX3_chanceBy cX3_chanceBy 13 (some .int), Cond.fieldLink RX3 15 "ThroughPack$Odds" "helm" "LThroughPack$Helm;", Cond.fieldLink RX3 19 "ThroughPack$Odds" "outlook" "LThroughPack$Outlook;", Cond.fieldLink RX3 29 "ThroughPack$Odds" "sea" "LThroughPack$Sea;", Cond.fieldLink RX3 76 "ThroughPack$Sea" "chance" "[I", Cond.fieldLink RX3 82 "ThroughPack$Outlook" "winds" "[I", Cond.fieldLink RX3 92 "ThroughPack$Outlook" "nips" "[[I", Cond.methodLink RX3 56 yX4_tollOf, Cond.instanceMethod yX4_tollOf, Cond.selects RX4 yX4_tollOf yX4_tollOf, Cond.initialized RX4, Cond.code yX4_tollOf cX4_tollOf 5 (some .int), Cond.fieldLink RX4 25 "ThroughPack$Outlook" "sea" "LThroughPack$Sea;"]
def wsX3_weigh_r2 : List Cond := [Cond.fieldLink RX4 31 "ThroughPack$Outlook" "tolls" "[[I", Cond.methodLink RX4 104 yX6_beside, Cond.instanceMethod yX6_beside, Cond.selects RX6 yX6_beside yX6_beside, Cond.initialized RX6, Cond.code yX6_beside cX6_beside 3 (some .int), Cond.methodLink RX6 41 yX6_off, Cond.instanceMethod yX6_off, Cond.selects RX6 yX6_off yX6_off, Cond.code yX6_off cX6_off 6 (some .int), Cond.fieldLink RX6 9 "ThroughPack$Sea" "w" "I", Cond.fieldLink RX6 15 "ThroughPack$Sea" "h" "I", Cond.methodLink RX3 62 yX0_price, Cond.instanceMethod yX0_price, Cond.selects RX0 yX0_price yX0_price, Cond.initialized RX0, Cond.code yX0_price cX0_price 4 (some .int), Cond.fieldLink RX0 9 "ThroughPack$Helm" "world" "LThroughPack$World;", Cond.fieldLink RX0 39 "ThroughPack$World" "costs" "[I", Cond.methodLink RX3 68 yX3_leaves, Cond.instanceMethod yX3_leaves, Cond.selects RX3 yX3_leaves yX3_leaves, Cond.code yX3_leaves cX3_leaves 4 (some .boolean), Cond.fieldLink RX3 112 "ThroughPack$Sea" "exit" "[Z"]
def wsX3_weigh_r3 : List Cond := [Cond.methodLink RX3 109 yX6_beside, Cond.methodLink RX3 72 yX3_tens, Cond.static yX3_tens, Cond.code yX3_tens cX3_tens 3 (some .int), Cond.methodLink RX3 85 yX0_landing, Cond.instanceMethod yX0_landing, Cond.selects RX0 yX0_landing yX0_landing, Cond.code yX0_landing cX0_landing 4 (some .int), Cond.fieldLink RX0 25 "ThroughPack$Helm" "sea" "LThroughPack$Sea;", Cond.methodLink RX0 42 yX0_isPush, Cond.static yX0_isPush, Cond.code yX0_isPush cX0_isPush 1 (some .boolean), Cond.methodLink RX0 46 yX6_beside, Cond.methodLink RX0 52 yX6_afloat, Cond.instanceMethod yX6_afloat, Cond.selects RX6 yX6_afloat yX6_afloat, Cond.code yX6_afloat cX6_afloat 4 (some .int), Cond.fieldLink RX6 32 "ThroughPack$Sea" "dx" "[I", Cond.fieldLink RX6 35 "ThroughPack$Sea" "dy" "[I", Cond.methodLink RX3 88 yX4_behind, Cond.static yX4_behind, Cond.code yX4_behind cX4_behind 2 (some .int), Cond.methodLink RX3 96 yX0_banksBehind, Cond.static yX0_banksBehind]
def wsX3_weigh_r4 : List Cond := [Cond.code yX0_banksBehind cX0_banksBehind 2 (some .boolean), Cond.methodLink RX3 100 yX3_bestFrom, Cond.instanceMethod yX3_bestFrom, Cond.selects RX3 yX3_bestFrom yX3_bestFrom, Cond.code yX3_bestFrom cX3_bestFrom 8 (some .int), Cond.methodLink RX3 104 Lib.Math.max.name, Cond.static Lib.Math.max.name, Cond.initialized "java/lang/Math", Cond.code Lib.Math.max.name Lib.Math.max.code 2 (some .int)]
def wsX3_weigh : List Cond := .code yX3_weigh cX3_weigh 5 none :: ((wsX3_weigh_r1 ++ (wsX3_weigh_r2 ++ (wsX3_weigh_r3 ++ wsX3_weigh_r4))) ++ wsX30 ++ wsX100 ++ wsX70 ++ wsX60 ++ wsX40 ++ wsX00)
def wsX3_tenthsOf : List Cond := .code yX3_tenthsOf cX3_tenthsOf 7 (some .int) :: ([.fieldLink RX3 29 "ThroughPack$Odds" "sea" "LThroughPack$Sea;", .fieldLink RX3 123 "ThroughPack$Sea" "wind" "I", .fieldLink RX3 76 "ThroughPack$Sea" "chance" "[I"] ++ wsX30 ++ wsX60)
def wsX3_getsOut_r1 : List Cond := [Cond.fieldLink RX3 15 "ThroughPack$Odds" "helm" "LThroughPack$Helm;", Cond.fieldLink RX3 19 "ThroughPack$Odds" "outlook" "LThroughPack$Outlook;", Cond.fieldLink RX3 92 "ThroughPack$Outlook" "nips" "[[I", Cond.methodLink RX3 56 yX4_tollOf, Cond.instanceMethod yX4_tollOf, Cond.selects RX4 yX4_tollOf yX4_tollOf, Cond.initialized RX4, Cond.code yX4_tollOf cX4_tollOf 5 (some .int), Cond.fieldLink RX4 25 "ThroughPack$Outlook" "sea" "LThroughPack$Sea;", Cond.fieldLink RX4 31 "ThroughPack$Outlook" "tolls" "[[I", Cond.methodLink RX4 104 yX6_beside, Cond.instanceMethod yX6_beside, Cond.selects RX6 yX6_beside yX6_beside, Cond.initialized RX6, Cond.code yX6_beside cX6_beside 3 (some .int), Cond.methodLink RX6 41 yX6_off, Cond.instanceMethod yX6_off, Cond.selects RX6 yX6_off yX6_off, Cond.code yX6_off cX6_off 6 (some .int), Cond.fieldLink RX6 9 "ThroughPack$Sea" "w" "I", Cond.fieldLink RX6 15 "ThroughPack$Sea" "h" "I", Cond.methodLink RX3 62 yX0_price, Cond.instanceMethod yX0_price, Cond.selects RX0 yX0_price yX0_price]
def wsX3_getsOut_r2 : List Cond := [Cond.initialized RX0, Cond.code yX0_price cX0_price 4 (some .int), Cond.fieldLink RX0 9 "ThroughPack$Helm" "world" "LThroughPack$World;", Cond.fieldLink RX0 39 "ThroughPack$World" "costs" "[I", Cond.methodLink RX3 68 yX3_leaves, Cond.instanceMethod yX3_leaves, Cond.selects RX3 yX3_leaves yX3_leaves, Cond.initialized RX3, Cond.code yX3_leaves cX3_leaves 4 (some .boolean), Cond.fieldLink RX3 29 "ThroughPack$Odds" "sea" "LThroughPack$Sea;", Cond.fieldLink RX3 112 "ThroughPack$Sea" "exit" "[Z", Cond.methodLink RX3 109 yX6_beside, Cond.methodLink RX3 85 yX0_landing, Cond.instanceMethod yX0_landing, Cond.selects RX0 yX0_landing yX0_landing, Cond.code yX0_landing cX0_landing 4 (some .int), Cond.fieldLink RX0 25 "ThroughPack$Helm" "sea" "LThroughPack$Sea;", Cond.methodLink RX0 42 yX0_isPush, Cond.static yX0_isPush, Cond.code yX0_isPush cX0_isPush 1 (some .boolean), Cond.methodLink RX0 46 yX6_beside, Cond.methodLink RX0 52 yX6_afloat, Cond.instanceMethod yX6_afloat, Cond.selects RX6 yX6_afloat yX6_afloat]
def wsX3_getsOut_r3 : List Cond := [Cond.code yX6_afloat cX6_afloat 4 (some .int), Cond.fieldLink RX6 32 "ThroughPack$Sea" "dx" "[I", Cond.fieldLink RX6 35 "ThroughPack$Sea" "dy" "[I", Cond.methodLink RX3 88 yX4_behind, Cond.static yX4_behind, Cond.code yX4_behind cX4_behind 2 (some .int), Cond.methodLink RX3 96 yX0_banksBehind, Cond.static yX0_banksBehind, Cond.code yX0_banksBehind cX0_banksBehind 2 (some .boolean), Cond.methodLink RX3 119 yX3_getsOut, Cond.instanceMethod yX3_getsOut, Cond.selects RX3 yX3_getsOut yX3_getsOut]
def wsX3_getsOut : List Cond := .code yX3_getsOut cX3_getsOut 13 (some .boolean) :: ((wsX3_getsOut_r1 ++ (wsX3_getsOut_r2 ++ wsX3_getsOut_r3)) ++ wsX30 ++ wsX40 ++ wsX60 ++ wsX00 ++ wsX100)
def wsX3_knownAhead_r1 : List Cond := [Cond.fieldLink RX3 9 "ThroughPack$Odds" "world" "LThroughPack$World;", Cond.fieldLink RX3 30 "ThroughPack$World" "first" "LThroughPack$Ship;", Cond.fieldLink RX3 40 "ThroughPack$Ship" "cell" "I", Cond.fieldLink RX3 45 "ThroughPack$Ship" "coal" "I", Cond.fieldLink RX3 48 "ThroughPack$Ship" "banked" "Z", Cond.methodLink RX3 116 yX3_tenthsOf, Cond.instanceMethod yX3_tenthsOf, Cond.selects RX3 yX3_tenthsOf yX3_tenthsOf, Cond.initialized RX3, Cond.code yX3_tenthsOf cX3_tenthsOf 7 (some .int), Cond.fieldLink RX3 29 "ThroughPack$Odds" "sea" "LThroughPack$Sea;", Cond.fieldLink RX3 123 "ThroughPack$Sea" "wind" "I", Cond.fieldLink RX3 76 "ThroughPack$Sea" "chance" "[I", Cond.methodLink RX3 119 yX3_getsOut, Cond.instanceMethod yX3_getsOut, Cond.selects RX3 yX3_getsOut yX3_getsOut, Cond.code yX3_getsOut cX3_getsOut 13 (some .boolean), Cond.fieldLink RX3 15 "ThroughPack$Odds" "helm" "LThroughPack$Helm;", Cond.fieldLink RX3 19 "ThroughPack$Odds" "outlook" "LThroughPack$Outlook;", Cond.fieldLink RX3 92 "ThroughPack$Outlook" "nips" "[[I", Cond.methodLink RX3 56 yX4_tollOf, Cond.instanceMethod yX4_tollOf, Cond.selects RX4 yX4_tollOf yX4_tollOf, Cond.initialized RX4]
def wsX3_knownAhead_r2 : List Cond := [Cond.code yX4_tollOf cX4_tollOf 5 (some .int), Cond.fieldLink RX4 25 "ThroughPack$Outlook" "sea" "LThroughPack$Sea;", Cond.fieldLink RX4 31 "ThroughPack$Outlook" "tolls" "[[I", Cond.methodLink RX4 104 yX6_beside, Cond.instanceMethod yX6_beside, Cond.selects RX6 yX6_beside yX6_beside, Cond.initialized RX6, Cond.code yX6_beside cX6_beside 3 (some .int), Cond.methodLink RX6 41 yX6_off, Cond.instanceMethod yX6_off, Cond.selects RX6 yX6_off yX6_off, Cond.code yX6_off cX6_off 6 (some .int), Cond.fieldLink RX6 9 "ThroughPack$Sea" "w" "I", Cond.fieldLink RX6 15 "ThroughPack$Sea" "h" "I", Cond.methodLink RX3 62 yX0_price, Cond.instanceMethod yX0_price, Cond.selects RX0 yX0_price yX0_price, Cond.initialized RX0, Cond.code yX0_price cX0_price 4 (some .int), Cond.fieldLink RX0 9 "ThroughPack$Helm" "world" "LThroughPack$World;", Cond.fieldLink RX0 39 "ThroughPack$World" "costs" "[I", Cond.methodLink RX3 68 yX3_leaves, Cond.instanceMethod yX3_leaves, Cond.selects RX3 yX3_leaves yX3_leaves]
def wsX3_knownAhead_r3 : List Cond := [Cond.code yX3_leaves cX3_leaves 4 (some .boolean), Cond.fieldLink RX3 112 "ThroughPack$Sea" "exit" "[Z", Cond.methodLink RX3 109 yX6_beside, Cond.methodLink RX3 85 yX0_landing, Cond.instanceMethod yX0_landing, Cond.selects RX0 yX0_landing yX0_landing, Cond.code yX0_landing cX0_landing 4 (some .int), Cond.fieldLink RX0 25 "ThroughPack$Helm" "sea" "LThroughPack$Sea;", Cond.methodLink RX0 42 yX0_isPush, Cond.static yX0_isPush, Cond.code yX0_isPush cX0_isPush 1 (some .boolean), Cond.methodLink RX0 46 yX6_beside, Cond.methodLink RX0 52 yX6_afloat, Cond.instanceMethod yX6_afloat, Cond.selects RX6 yX6_afloat yX6_afloat, Cond.code yX6_afloat cX6_afloat 4 (some .int), Cond.fieldLink RX6 32 "ThroughPack$Sea" "dx" "[I", Cond.fieldLink RX6 35 "ThroughPack$Sea" "dy" "[I", Cond.methodLink RX3 88 yX4_behind, Cond.static yX4_behind, Cond.code yX4_behind cX4_behind 2 (some .int), Cond.methodLink RX3 96 yX0_banksBehind, Cond.static yX0_banksBehind, Cond.code yX0_banksBehind cX0_banksBehind 2 (some .boolean)]
def wsX3_knownAhead : List Cond := .code yX3_knownAhead cX3_knownAhead 7 (some .int) :: ((wsX3_knownAhead_r1 ++ (wsX3_knownAhead_r2 ++ wsX3_knownAhead_r3)) ++ wsX30 ++ wsX100 ++ wsX70 ++ wsX60 ++ wsX40 ++ wsX00)
def wsX4_init : List Cond := .code yX4_init cX4_init 3 none :: ([.methodLink RX4 3 objectInit, .instanceMethod objectInit, .code objectInit ⟨#[0xb1]⟩ 1 none, .fieldLink RX4 9 "ThroughPack$Outlook" "world" "LThroughPack$World;", .fieldLink RX4 15 "ThroughPack$Outlook" "judge" "LThroughPack$Judge;", .fieldLink RX4 19 "ThroughPack$World" "sea" "LThroughPack$Sea;", .fieldLink RX4 25 "ThroughPack$Outlook" "sea" "LThroughPack$Sea;", .classLink RX4 26 "[[I", .arrayClass .int, .fieldLink RX4 28 "ThroughPack$Outlook" "ice" "[[I", .fieldLink RX4 31 "ThroughPack$Outlook" "tolls" "[[I", .fieldLink RX4 34 "ThroughPack$Outlook" "nips" "[[I", .fieldLink RX4 37 "ThroughPack$Outlook" "winds" "[I", .fieldLink RX4 41 "ThroughPack$Outlook" "hours" "[I"] ++ wsX40 ++ wsX100)
def wsX4_askTolls_r1 : List Cond := [Cond.fieldLink RX4 15 "ThroughPack$Outlook" "judge" "LThroughPack$Judge;", Cond.fieldLink RX4 28 "ThroughPack$Outlook" "ice" "[[I", Cond.fieldLink RX4 37 "ThroughPack$Outlook" "winds" "[I", Cond.fieldLink RX4 41 "ThroughPack$Outlook" "hours" "[I", Cond.fieldLink RX4 25 "ThroughPack$Outlook" "sea" "LThroughPack$Sea;", Cond.fieldLink RX4 89 "ThroughPack$Sea" "size" "I", Cond.fieldLink RX4 31 "ThroughPack$Outlook" "tolls" "[[I", Cond.methodLink RX4 96 yX1_face, Cond.instanceMethod yX1_face, Cond.selects RX1 yX1_face yX1_face, Cond.initialized RX1, Cond.code yX1_face cX1_face 4 none, Cond.fieldLink RX1 27 "ThroughPack$Judge" "ice" "[I", Cond.fieldLink RX1 28 "ThroughPack$Judge" "wind" "I", Cond.fieldLink RX1 32 "ThroughPack$Judge" "watch" "I", Cond.methodLink RX4 100 yX1_toll, Cond.instanceMethod yX1_toll, Cond.selects RX1 yX1_toll yX1_toll, Cond.code yX1_toll cX1_toll 3 (some .int), Cond.fieldLink RX1 39 "ThroughPack$Judge" "law" "LThroughPack$Text;", Cond.methodLink RX1 35 yX1_anySo, Cond.instanceMethod yX1_anySo, Cond.selects RX1 yX1_anySo yX1_anySo, Cond.code yX1_anySo cX1_anySo 5 (some .boolean)]
def wsX4_askTolls_r2 : List Cond := [Cond.fieldLink RX1 91 "ThroughPack$Text" "clauses" "I", Cond.fieldLink RX1 94 "ThroughPack$Text" "kinds" "[I", Cond.methodLink RX1 43 yX8_firstOf, Cond.instanceMethod yX8_firstOf, Cond.selects RX8 yX8_firstOf yX8_firstOf, Cond.initialized RX8, Cond.code yX8_firstOf cX8_firstOf 3 (some .int), Cond.fieldLink RX8 24 "ThroughPack$Text" "clauses" "I", Cond.fieldLink RX8 18 "ThroughPack$Text" "kinds" "[I", Cond.methodLink RX1 49 yX1_value, Cond.instanceMethod yX1_value, Cond.selects RX1 yX1_value yX1_value, Cond.code yX1_value cX1_value 9 (some .int), Cond.fieldLink RX1 97 "ThroughPack$Text" "from" "[I", Cond.fieldLink RX1 100 "ThroughPack$Text" "steps" "[I", Cond.fieldLink RX1 15 "ThroughPack$Judge" "stack" "[I", Cond.constantLong RX1 113 (1000000), Cond.constant RX1 115 (1000000), Cond.constantLong RX1 116 (-1000000), Cond.constant RX1 118 (-1000000), Cond.methodLink RX1 103 yX1_named, Cond.instanceMethod yX1_named, Cond.selects RX1 yX1_named yX1_named, Cond.code yX1_named cX1_named 5 (some .int)]
def wsX4_askTolls_r3 : List Cond := [Cond.fieldLink RX1 9 "ThroughPack$Judge" "sea" "LThroughPack$Sea;", Cond.fieldLink RX1 119 "ThroughPack$Sea" "w" "I", Cond.fieldLink RX1 69 "ThroughPack$Sea" "edge" "I", Cond.fieldLink RX1 122 "ThroughPack$Sea" "h" "I", Cond.fieldLink RX1 81 "ThroughPack$Judge" "coal" "I", Cond.fieldLink RX1 86 "ThroughPack$Judge" "banked" "I", Cond.methodLink RX1 109 yX1_joined, Cond.static yX1_joined, Cond.code yX1_joined cX1_joined 3 (some .long), Cond.static yX11_held, Cond.initialized RX11, Cond.code yX11_held cX11_held 3 (some .int)]
def wsX4_askTolls : List Cond := .code yX4_askTolls cX4_askTolls 3 none :: ((wsX4_askTolls_r1 ++ (wsX4_askTolls_r2 ++ wsX4_askTolls_r3)) ++ wsX40 ++ wsX60 ++ wsX10 ++ wsX80)
def wsX4_begin_r1 : List Cond := [Cond.fieldLink RX4 25 "ThroughPack$Outlook" "sea" "LThroughPack$Sea;", Cond.fieldLink RX4 65 "ThroughPack$Sea" "ice" "[I", Cond.fieldLink RX4 28 "ThroughPack$Outlook" "ice" "[[I", Cond.methodLink RX4 67 arraycopyName, Cond.native arraycopyName, Cond.static arraycopyName, Cond.initialized "java/lang/System", Cond.fieldLink RX4 37 "ThroughPack$Outlook" "winds" "[I", Cond.fieldLink RX4 73 "ThroughPack$Sea" "wind" "I", Cond.fieldLink RX4 41 "ThroughPack$Outlook" "hours" "[I", Cond.fieldLink RX4 76 "ThroughPack$Sea" "watch" "I", Cond.methodLink RX4 79 yX4_askTolls, Cond.instanceMethod yX4_askTolls, Cond.selects RX4 yX4_askTolls yX4_askTolls, Cond.initialized RX4, Cond.code yX4_askTolls cX4_askTolls 3 none, Cond.fieldLink RX4 15 "ThroughPack$Outlook" "judge" "LThroughPack$Judge;", Cond.fieldLink RX4 89 "ThroughPack$Sea" "size" "I", Cond.fieldLink RX4 31 "ThroughPack$Outlook" "tolls" "[[I", Cond.methodLink RX4 96 yX1_face, Cond.instanceMethod yX1_face, Cond.selects RX1 yX1_face yX1_face, Cond.initialized RX1, Cond.code yX1_face cX1_face 4 none]
def wsX4_begin_r2 : List Cond := [Cond.fieldLink RX1 27 "ThroughPack$Judge" "ice" "[I", Cond.fieldLink RX1 28 "ThroughPack$Judge" "wind" "I", Cond.fieldLink RX1 32 "ThroughPack$Judge" "watch" "I", Cond.methodLink RX4 100 yX1_toll, Cond.instanceMethod yX1_toll, Cond.selects RX1 yX1_toll yX1_toll, Cond.code yX1_toll cX1_toll 3 (some .int), Cond.fieldLink RX1 39 "ThroughPack$Judge" "law" "LThroughPack$Text;", Cond.methodLink RX1 35 yX1_anySo, Cond.instanceMethod yX1_anySo, Cond.selects RX1 yX1_anySo yX1_anySo, Cond.code yX1_anySo cX1_anySo 5 (some .boolean), Cond.fieldLink RX1 91 "ThroughPack$Text" "clauses" "I", Cond.fieldLink RX1 94 "ThroughPack$Text" "kinds" "[I", Cond.methodLink RX1 43 yX8_firstOf, Cond.instanceMethod yX8_firstOf, Cond.selects RX8 yX8_firstOf yX8_firstOf, Cond.initialized RX8, Cond.code yX8_firstOf cX8_firstOf 3 (some .int), Cond.fieldLink RX8 24 "ThroughPack$Text" "clauses" "I", Cond.fieldLink RX8 18 "ThroughPack$Text" "kinds" "[I", Cond.methodLink RX1 49 yX1_value, Cond.instanceMethod yX1_value, Cond.selects RX1 yX1_value yX1_value]
def wsX4_begin_r3 : List Cond := [Cond.code yX1_value cX1_value 9 (some .int), Cond.fieldLink RX1 97 "ThroughPack$Text" "from" "[I", Cond.fieldLink RX1 100 "ThroughPack$Text" "steps" "[I", Cond.fieldLink RX1 15 "ThroughPack$Judge" "stack" "[I", Cond.constantLong RX1 113 (1000000), Cond.constant RX1 115 (1000000), Cond.constantLong RX1 116 (-1000000), Cond.constant RX1 118 (-1000000), Cond.methodLink RX1 103 yX1_named, Cond.instanceMethod yX1_named, Cond.selects RX1 yX1_named yX1_named, Cond.code yX1_named cX1_named 5 (some .int), Cond.fieldLink RX1 9 "ThroughPack$Judge" "sea" "LThroughPack$Sea;", Cond.fieldLink RX1 119 "ThroughPack$Sea" "w" "I", Cond.fieldLink RX1 69 "ThroughPack$Sea" "edge" "I", Cond.fieldLink RX1 122 "ThroughPack$Sea" "h" "I", Cond.fieldLink RX1 81 "ThroughPack$Judge" "coal" "I", Cond.fieldLink RX1 86 "ThroughPack$Judge" "banked" "I", Cond.methodLink RX1 109 yX1_joined, Cond.static yX1_joined, Cond.code yX1_joined cX1_joined 3 (some .long), Cond.static yX11_held, Cond.initialized RX11, Cond.code yX11_held cX11_held 3 (some .int)]
def wsX4_begin : List Cond := .code yX4_begin cX4_begin 1 none :: ((wsX4_begin_r1 ++ (wsX4_begin_r2 ++ wsX4_begin_r3)) ++ wsX40 ++ wsX60 ++ wsX10 ++ wsX80)
def wsX4_follow_r1 : List Cond := [Cond.fieldLink RX4 15 "ThroughPack$Outlook" "judge" "LThroughPack$Judge;", Cond.fieldLink RX4 28 "ThroughPack$Outlook" "ice" "[[I", Cond.fieldLink RX4 41 "ThroughPack$Outlook" "hours" "[I", Cond.fieldLink RX4 25 "ThroughPack$Outlook" "sea" "LThroughPack$Sea;", Cond.fieldLink RX4 89 "ThroughPack$Sea" "size" "I", Cond.fieldLink RX4 34 "ThroughPack$Outlook" "nips" "[[I", Cond.fieldLink RX4 37 "ThroughPack$Outlook" "winds" "[I", Cond.methodLink RX4 83 yX1_drive, Cond.instanceMethod yX1_drive, Cond.selects RX1 yX1_drive yX1_drive, Cond.initialized RX1, Cond.code yX1_drive cX1_drive 7 none, Cond.fieldLink RX1 9 "ThroughPack$Judge" "sea" "LThroughPack$Sea;", Cond.fieldLink RX1 57 "ThroughPack$Sea" "size" "I", Cond.fieldLink RX1 60 "ThroughPack$Sea" "dx" "[I", Cond.fieldLink RX1 63 "ThroughPack$Sea" "dy" "[I", Cond.fieldLink RX1 19 "ThroughPack$Judge" "carried" "[I", Cond.fieldLink RX1 69 "ThroughPack$Sea" "edge" "I", Cond.fieldLink RX1 39 "ThroughPack$Judge" "law" "LThroughPack$Text;", Cond.methodLink RX1 66 yX6_off, Cond.instanceMethod yX6_off, Cond.selects RX6 yX6_off yX6_off, Cond.initialized RX6, Cond.code yX6_off cX6_off 6 (some .int)]
def wsX4_follow_r2 : List Cond := [Cond.fieldLink RX6 9 "ThroughPack$Sea" "w" "I", Cond.fieldLink RX6 15 "ThroughPack$Sea" "h" "I", Cond.methodLink RX1 72 yX1_face, Cond.instanceMethod yX1_face, Cond.selects RX1 yX1_face yX1_face, Cond.code yX1_face cX1_face 4 none, Cond.fieldLink RX1 27 "ThroughPack$Judge" "ice" "[I", Cond.fieldLink RX1 28 "ThroughPack$Judge" "wind" "I", Cond.fieldLink RX1 32 "ThroughPack$Judge" "watch" "I", Cond.methodLink RX1 43 yX8_firstOf, Cond.instanceMethod yX8_firstOf, Cond.selects RX8 yX8_firstOf yX8_firstOf, Cond.initialized RX8, Cond.code yX8_firstOf cX8_firstOf 3 (some .int), Cond.fieldLink RX8 24 "ThroughPack$Text" "clauses" "I", Cond.fieldLink RX8 18 "ThroughPack$Text" "kinds" "[I", Cond.methodLink RX1 49 yX1_value, Cond.instanceMethod yX1_value, Cond.selects RX1 yX1_value yX1_value, Cond.code yX1_value cX1_value 9 (some .int), Cond.fieldLink RX1 97 "ThroughPack$Text" "from" "[I", Cond.fieldLink RX1 100 "ThroughPack$Text" "steps" "[I", Cond.fieldLink RX1 15 "ThroughPack$Judge" "stack" "[I", Cond.constantLong RX1 113 (1000000)]
def wsX4_follow_r3 : List Cond := [Cond.constant RX1 115 (1000000), Cond.constantLong RX1 116 (-1000000), Cond.constant RX1 118 (-1000000), Cond.methodLink RX1 103 yX1_named, Cond.instanceMethod yX1_named, Cond.selects RX1 yX1_named yX1_named, Cond.code yX1_named cX1_named 5 (some .int), Cond.fieldLink RX1 119 "ThroughPack$Sea" "w" "I", Cond.fieldLink RX1 122 "ThroughPack$Sea" "h" "I", Cond.fieldLink RX1 81 "ThroughPack$Judge" "coal" "I", Cond.fieldLink RX1 86 "ThroughPack$Judge" "banked" "I", Cond.methodLink RX1 109 yX1_joined, Cond.static yX1_joined, Cond.code yX1_joined cX1_joined 3 (some .long), Cond.static yX11_held, Cond.initialized RX11, Cond.code yX11_held cX11_held 3 (some .int), Cond.methodLink RX4 92 yX1_isNipping, Cond.instanceMethod yX1_isNipping, Cond.selects RX1 yX1_isNipping yX1_isNipping, Cond.code yX1_isNipping cX1_isNipping 2 (some .boolean), Cond.methodLink RX1 35 yX1_anySo, Cond.instanceMethod yX1_anySo, Cond.selects RX1 yX1_anySo yX1_anySo]
def wsX4_follow_r4 : List Cond := [Cond.code yX1_anySo cX1_anySo 5 (some .boolean), Cond.fieldLink RX1 91 "ThroughPack$Text" "clauses" "I", Cond.fieldLink RX1 94 "ThroughPack$Text" "kinds" "[I", Cond.methodLink RX4 79 yX4_askTolls, Cond.instanceMethod yX4_askTolls, Cond.selects RX4 yX4_askTolls yX4_askTolls, Cond.initialized RX4, Cond.code yX4_askTolls cX4_askTolls 3 none, Cond.fieldLink RX4 31 "ThroughPack$Outlook" "tolls" "[[I", Cond.methodLink RX4 96 yX1_face, Cond.methodLink RX4 100 yX1_toll, Cond.instanceMethod yX1_toll, Cond.selects RX1 yX1_toll yX1_toll, Cond.code yX1_toll cX1_toll 3 (some .int)]
def wsX4_follow : List Cond := .code yX4_follow cX4_follow 5 none :: ((wsX4_follow_r1 ++ (wsX4_follow_r2 ++ (wsX4_follow_r3 ++ wsX4_follow_r4))) ++ wsX40 ++ wsX60 ++ wsX10 ++ wsX80)
def wsX4_foresee_r1 : List Cond := [Cond.fieldLink RX4 9 "ThroughPack$Outlook" "world" "LThroughPack$World;", Cond.fieldLink RX4 47 "ThroughPack$World" "n" "I", Cond.fieldLink RX4 51 "ThroughPack$World" "winds" "[I", Cond.methodLink RX4 44 yX4_begin, Cond.instanceMethod yX4_begin, Cond.selects RX4 yX4_begin yX4_begin, Cond.initialized RX4, Cond.code yX4_begin cX4_begin 1 none, Cond.fieldLink RX4 25 "ThroughPack$Outlook" "sea" "LThroughPack$Sea;", Cond.fieldLink RX4 65 "ThroughPack$Sea" "ice" "[I", Cond.fieldLink RX4 28 "ThroughPack$Outlook" "ice" "[[I", Cond.methodLink RX4 67 arraycopyName, Cond.native arraycopyName, Cond.static arraycopyName, Cond.initialized "java/lang/System", Cond.fieldLink RX4 37 "ThroughPack$Outlook" "winds" "[I", Cond.fieldLink RX4 73 "ThroughPack$Sea" "wind" "I", Cond.fieldLink RX4 41 "ThroughPack$Outlook" "hours" "[I", Cond.fieldLink RX4 76 "ThroughPack$Sea" "watch" "I", Cond.methodLink RX4 79 yX4_askTolls, Cond.instanceMethod yX4_askTolls, Cond.selects RX4 yX4_askTolls yX4_askTolls, Cond.code yX4_askTolls cX4_askTolls 3 none, Cond.fieldLink RX4 15 "ThroughPack$Outlook" "judge" "LThroughPack$Judge;"]
def wsX4_foresee_r2 : List Cond := [Cond.fieldLink RX4 89 "ThroughPack$Sea" "size" "I", Cond.fieldLink RX4 31 "ThroughPack$Outlook" "tolls" "[[I", Cond.methodLink RX4 96 yX1_face, Cond.instanceMethod yX1_face, Cond.selects RX1 yX1_face yX1_face, Cond.initialized RX1, Cond.code yX1_face cX1_face 4 none, Cond.fieldLink RX1 27 "ThroughPack$Judge" "ice" "[I", Cond.fieldLink RX1 28 "ThroughPack$Judge" "wind" "I", Cond.fieldLink RX1 32 "ThroughPack$Judge" "watch" "I", Cond.methodLink RX4 100 yX1_toll, Cond.instanceMethod yX1_toll, Cond.selects RX1 yX1_toll yX1_toll, Cond.code yX1_toll cX1_toll 3 (some .int), Cond.fieldLink RX1 39 "ThroughPack$Judge" "law" "LThroughPack$Text;", Cond.methodLink RX1 35 yX1_anySo, Cond.instanceMethod yX1_anySo, Cond.selects RX1 yX1_anySo yX1_anySo, Cond.code yX1_anySo cX1_anySo 5 (some .boolean), Cond.fieldLink RX1 91 "ThroughPack$Text" "clauses" "I", Cond.fieldLink RX1 94 "ThroughPack$Text" "kinds" "[I", Cond.methodLink RX1 43 yX8_firstOf, Cond.instanceMethod yX8_firstOf, Cond.selects RX8 yX8_firstOf yX8_firstOf]
def wsX4_foresee_r3 : List Cond := [Cond.initialized RX8, Cond.code yX8_firstOf cX8_firstOf 3 (some .int), Cond.fieldLink RX8 24 "ThroughPack$Text" "clauses" "I", Cond.fieldLink RX8 18 "ThroughPack$Text" "kinds" "[I", Cond.methodLink RX1 49 yX1_value, Cond.instanceMethod yX1_value, Cond.selects RX1 yX1_value yX1_value, Cond.code yX1_value cX1_value 9 (some .int), Cond.fieldLink RX1 97 "ThroughPack$Text" "from" "[I", Cond.fieldLink RX1 100 "ThroughPack$Text" "steps" "[I", Cond.fieldLink RX1 15 "ThroughPack$Judge" "stack" "[I", Cond.constantLong RX1 113 (1000000), Cond.constant RX1 115 (1000000), Cond.constantLong RX1 116 (-1000000), Cond.constant RX1 118 (-1000000), Cond.methodLink RX1 103 yX1_named, Cond.instanceMethod yX1_named, Cond.selects RX1 yX1_named yX1_named, Cond.code yX1_named cX1_named 5 (some .int), Cond.fieldLink RX1 9 "ThroughPack$Judge" "sea" "LThroughPack$Sea;", Cond.fieldLink RX1 119 "ThroughPack$Sea" "w" "I", Cond.fieldLink RX1 69 "ThroughPack$Sea" "edge" "I", Cond.fieldLink RX1 122 "ThroughPack$Sea" "h" "I", Cond.fieldLink RX1 81 "ThroughPack$Judge" "coal" "I"]
def wsX4_foresee_r4 : List Cond := [Cond.fieldLink RX1 86 "ThroughPack$Judge" "banked" "I", Cond.methodLink RX1 109 yX1_joined, Cond.static yX1_joined, Cond.code yX1_joined cX1_joined 3 (some .long), Cond.static yX11_held, Cond.initialized RX11, Cond.code yX11_held cX11_held 3 (some .int), Cond.methodLink RX4 52 yX4_follow, Cond.instanceMethod yX4_follow, Cond.selects RX4 yX4_follow yX4_follow, Cond.code yX4_follow cX4_follow 5 none, Cond.fieldLink RX4 34 "ThroughPack$Outlook" "nips" "[[I", Cond.methodLink RX4 83 yX1_drive, Cond.instanceMethod yX1_drive, Cond.selects RX1 yX1_drive yX1_drive, Cond.code yX1_drive cX1_drive 7 none, Cond.fieldLink RX1 57 "ThroughPack$Sea" "size" "I", Cond.fieldLink RX1 60 "ThroughPack$Sea" "dx" "[I", Cond.fieldLink RX1 63 "ThroughPack$Sea" "dy" "[I", Cond.fieldLink RX1 19 "ThroughPack$Judge" "carried" "[I", Cond.methodLink RX1 66 yX6_off, Cond.instanceMethod yX6_off, Cond.selects RX6 yX6_off yX6_off, Cond.initialized RX6]
def wsX4_foresee_r5 : List Cond := [Cond.code yX6_off cX6_off 6 (some .int), Cond.fieldLink RX6 9 "ThroughPack$Sea" "w" "I", Cond.fieldLink RX6 15 "ThroughPack$Sea" "h" "I", Cond.methodLink RX1 72 yX1_face, Cond.methodLink RX4 92 yX1_isNipping, Cond.instanceMethod yX1_isNipping, Cond.selects RX1 yX1_isNipping yX1_isNipping, Cond.code yX1_isNipping cX1_isNipping 2 (some .boolean)]
def wsX4_foresee : List Cond := .code yX4_foresee cX4_foresee 2 none :: ((wsX4_foresee_r1 ++ (wsX4_foresee_r2 ++ (wsX4_foresee_r3 ++ (wsX4_foresee_r4 ++ wsX4_foresee_r5)))) ++ wsX40 ++ wsX100 ++ wsX60 ++ wsX10 ++ wsX80)
def wsX4_foreseeAll_r1 : List Cond := [Cond.fieldLink RX4 37 "ThroughPack$Outlook" "winds" "[I", Cond.fieldLink RX4 25 "ThroughPack$Outlook" "sea" "LThroughPack$Sea;", Cond.fieldLink RX4 60 "ThroughPack$Sea" "chance" "[I", Cond.methodLink RX4 44 yX4_begin, Cond.instanceMethod yX4_begin, Cond.selects RX4 yX4_begin yX4_begin, Cond.initialized RX4, Cond.code yX4_begin cX4_begin 1 none, Cond.fieldLink RX4 65 "ThroughPack$Sea" "ice" "[I", Cond.fieldLink RX4 28 "ThroughPack$Outlook" "ice" "[[I", Cond.methodLink RX4 67 arraycopyName, Cond.native arraycopyName, Cond.static arraycopyName, Cond.initialized "java/lang/System", Cond.fieldLink RX4 73 "ThroughPack$Sea" "wind" "I", Cond.fieldLink RX4 41 "ThroughPack$Outlook" "hours" "[I", Cond.fieldLink RX4 76 "ThroughPack$Sea" "watch" "I", Cond.methodLink RX4 79 yX4_askTolls, Cond.instanceMethod yX4_askTolls, Cond.selects RX4 yX4_askTolls yX4_askTolls, Cond.code yX4_askTolls cX4_askTolls 3 none, Cond.fieldLink RX4 15 "ThroughPack$Outlook" "judge" "LThroughPack$Judge;", Cond.fieldLink RX4 89 "ThroughPack$Sea" "size" "I", Cond.fieldLink RX4 31 "ThroughPack$Outlook" "tolls" "[[I"]
def wsX4_foreseeAll_r2 : List Cond := [Cond.methodLink RX4 96 yX1_face, Cond.instanceMethod yX1_face, Cond.selects RX1 yX1_face yX1_face, Cond.initialized RX1, Cond.code yX1_face cX1_face 4 none, Cond.fieldLink RX1 27 "ThroughPack$Judge" "ice" "[I", Cond.fieldLink RX1 28 "ThroughPack$Judge" "wind" "I", Cond.fieldLink RX1 32 "ThroughPack$Judge" "watch" "I", Cond.methodLink RX4 100 yX1_toll, Cond.instanceMethod yX1_toll, Cond.selects RX1 yX1_toll yX1_toll, Cond.code yX1_toll cX1_toll 3 (some .int), Cond.fieldLink RX1 39 "ThroughPack$Judge" "law" "LThroughPack$Text;", Cond.methodLink RX1 35 yX1_anySo, Cond.instanceMethod yX1_anySo, Cond.selects RX1 yX1_anySo yX1_anySo, Cond.code yX1_anySo cX1_anySo 5 (some .boolean), Cond.fieldLink RX1 91 "ThroughPack$Text" "clauses" "I", Cond.fieldLink RX1 94 "ThroughPack$Text" "kinds" "[I", Cond.methodLink RX1 43 yX8_firstOf, Cond.instanceMethod yX8_firstOf, Cond.selects RX8 yX8_firstOf yX8_firstOf, Cond.initialized RX8, Cond.code yX8_firstOf cX8_firstOf 3 (some .int)]
def wsX4_foreseeAll_r3 : List Cond := [Cond.fieldLink RX8 24 "ThroughPack$Text" "clauses" "I", Cond.fieldLink RX8 18 "ThroughPack$Text" "kinds" "[I", Cond.methodLink RX1 49 yX1_value, Cond.instanceMethod yX1_value, Cond.selects RX1 yX1_value yX1_value, Cond.code yX1_value cX1_value 9 (some .int), Cond.fieldLink RX1 97 "ThroughPack$Text" "from" "[I", Cond.fieldLink RX1 100 "ThroughPack$Text" "steps" "[I", Cond.fieldLink RX1 15 "ThroughPack$Judge" "stack" "[I", Cond.constantLong RX1 113 (1000000), Cond.constant RX1 115 (1000000), Cond.constantLong RX1 116 (-1000000), Cond.constant RX1 118 (-1000000), Cond.methodLink RX1 103 yX1_named, Cond.instanceMethod yX1_named, Cond.selects RX1 yX1_named yX1_named, Cond.code yX1_named cX1_named 5 (some .int), Cond.fieldLink RX1 9 "ThroughPack$Judge" "sea" "LThroughPack$Sea;", Cond.fieldLink RX1 119 "ThroughPack$Sea" "w" "I", Cond.fieldLink RX1 69 "ThroughPack$Sea" "edge" "I", Cond.fieldLink RX1 122 "ThroughPack$Sea" "h" "I", Cond.fieldLink RX1 81 "ThroughPack$Judge" "coal" "I", Cond.fieldLink RX1 86 "ThroughPack$Judge" "banked" "I", Cond.methodLink RX1 109 yX1_joined]
def wsX4_foreseeAll_r4 : List Cond := [Cond.static yX1_joined, Cond.code yX1_joined cX1_joined 3 (some .long), Cond.static yX11_held, Cond.initialized RX11, Cond.code yX11_held cX11_held 3 (some .int), Cond.methodLink RX4 56 yX4_behind, Cond.static yX4_behind, Cond.code yX4_behind cX4_behind 2 (some .int), Cond.methodLink RX4 52 yX4_follow, Cond.instanceMethod yX4_follow, Cond.selects RX4 yX4_follow yX4_follow, Cond.code yX4_follow cX4_follow 5 none, Cond.fieldLink RX4 34 "ThroughPack$Outlook" "nips" "[[I", Cond.methodLink RX4 83 yX1_drive, Cond.instanceMethod yX1_drive, Cond.selects RX1 yX1_drive yX1_drive, Cond.code yX1_drive cX1_drive 7 none, Cond.fieldLink RX1 57 "ThroughPack$Sea" "size" "I", Cond.fieldLink RX1 60 "ThroughPack$Sea" "dx" "[I", Cond.fieldLink RX1 63 "ThroughPack$Sea" "dy" "[I", Cond.fieldLink RX1 19 "ThroughPack$Judge" "carried" "[I", Cond.methodLink RX1 66 yX6_off, Cond.instanceMethod yX6_off, Cond.selects RX6 yX6_off yX6_off]
def wsX4_foreseeAll_r5 : List Cond := [Cond.initialized RX6, Cond.code yX6_off cX6_off 6 (some .int), Cond.fieldLink RX6 9 "ThroughPack$Sea" "w" "I", Cond.fieldLink RX6 15 "ThroughPack$Sea" "h" "I", Cond.methodLink RX1 72 yX1_face, Cond.methodLink RX4 92 yX1_isNipping, Cond.instanceMethod yX1_isNipping, Cond.selects RX1 yX1_isNipping yX1_isNipping, Cond.code yX1_isNipping cX1_isNipping 2 (some .boolean)]
def wsX4_foreseeAll : List Cond := .code yX4_foreseeAll cX4_foreseeAll 6 none :: ((wsX4_foreseeAll_r1 ++ (wsX4_foreseeAll_r2 ++ (wsX4_foreseeAll_r3 ++ (wsX4_foreseeAll_r4 ++ wsX4_foreseeAll_r5)))) ++ wsX40 ++ wsX60 ++ wsX10 ++ wsX80)
def wsX5_init : List Cond := .code yX5_init cX5_init 1 none :: ([.methodLink RX5 3 objectInit, .instanceMethod objectInit, .code objectInit ⟨#[0xb1]⟩ 1 none, .arrayClass .int, .fieldLink RX5 9 "ThroughPack$Reader" "tape" "[I", .fieldLink RX5 15 "ThroughPack$Reader" "tokens" "[I", .fieldLink RX5 18 "ThroughPack$Reader" "starts" "[I", .fieldLink RX5 21 "ThroughPack$Reader" "values" "[I", .fieldLink RX5 24 "ThroughPack$Reader" "fault" "I", .fieldLink RX5 28 "ThroughPack$Reader" "place" "I", .fieldLink RX5 31 "ThroughPack$Reader" "token" "I"] ++ wsX50)
def wsX5_take : List Cond := .code yX5_take cX5_take 3 none :: ([.fieldLink RX5 34 "ThroughPack$Reader" "bytes" "I", .fieldLink RX5 9 "ThroughPack$Reader" "tape" "[I"] ++ wsX50)
def wsX8_clear : List Cond := .code yX8_clear cX8_clear 1 none :: ([.fieldLink RX8 24 "ThroughPack$Text" "clauses" "I", .fieldLink RX8 28 "ThroughPack$Text" "length" "I"] ++ wsX80)
def wsX5_isLetter : List Cond := .code yX5_isLetter cX5_isLetter 1 (some .boolean) :: ([])
abbrev vwCl : List vw_C := [(RX0, TX0, 6), (RX1, TX1, 9), (RX2, TX2, 4), (RX3, TX3, 6), (RX4, TX4, 8), (RX5, TX5, 12), (RX6, TX6, 12), (RX7, TX7, 5), (RX8, TX8, 6), (RX9, TX9, 12), (RX10, TX10, 12), (RX11, TX11, 9), (RX12, TX12, 47)]
/-! tables of the pure machine: own class, pool index, what it links; printed by wip/gen/gen01.py -/
def pOwn (o : Nat) : String := [RX0, RX1, RX2, RX3, RX4, RX5, RX6, RX7, RX8, RX9, RX10, RX11, RX12, RL].getD o ""
def tFld : List (List (Nat × Nat × Nat)) := [[(9, 0, 0), (15, 0, 2), (19, 10, 0), (25, 0, 1), (26, 0, 3), (35, 0, 4), (39, 10, 3), (55, 7, 4), (59, 7, 2), (66, 7, 3), (69, 7, 0), (82, 7, 1), (93, 6, 4), (100, 6, 3), (109, 10, 1), (116, 6, 10), (119, 0, 5), (122, 6, 11), (148, 8, 4), (153, 8, 3), (156, 8, 2)], [(9, 1, 0), (15, 1, 1), (19, 1, 2), (22, 6, 3), (27, 1, 4), (28, 1, 5), (32, 1, 6), (39, 1, 3), (57, 6, 2), (60, 6, 6), (63, 6, 7), (69, 6, 9), (76, 7, 1), (81, 1, 7), (82, 7, 3), (86, 1, 8), (88, 7, 0), (91, 8, 4), (94, 8, 2), (97, 8, 1), (100, 8, 0), (119, 6, 0), (122, 6, 1)], [(9, 2, 0), (15, 2, 1), (18, 2, 2), (21, 2, 3)], [(9, 3, 0), (15, 3, 2), (19, 3, 3), (23, 10, 0), (29, 3, 1), (30, 10, 1), (34, 3, 4), (38, 3, 5), (40, 7, 0), (45, 7, 1), (48, 7, 3), (76, 6, 8), (82, 4, 6), (92, 4, 5), (112, 6, 4), (123, 6, 10)], [(9, 4, 0), (15, 4, 2), (19, 10, 0), (25, 4, 1), (28, 4, 3), (31, 4, 4), (34, 4, 5), (37, 4, 6), (41, 4, 7), (47, 10, 7), (51, 10, 5), (60, 6, 8), (65, 6, 3), (73, 6, 10), (76, 6, 11), (89, 6, 2)], [(9, 5, 0), (15, 5, 1), (18, 5, 2), (21, 5, 3), (24, 5, 5), (28, 5, 6), (31, 5, 10), (34, 5, 4), (37, 5, 7), (49, 5, 9), (59, 5, 11), (70, 8, 4), (97, 5, 8)], [(9, 6, 0), (15, 6, 1), (18, 6, 2), (21, 6, 3), (25, 6, 4), (29, 6, 5), (32, 6, 6), (35, 6, 7), (38, 6, 8), (51, 6, 9), (54, 6, 10), (57, 6, 11)], [(9, 7, 1), (15, 7, 4), (19, 7, 0), (22, 7, 2), (25, 7, 3)], [(9, 8, 0), (15, 8, 1), (18, 8, 2), (21, 8, 3), (24, 8, 4), (28, 8, 5)], [(9, 9, 0), (15, 9, 2), (19, 9, 3), (23, 9, 4), (27, 10, 0), (33, 9, 1), (36, 9, 5), (39, 9, 6), (42, 9, 7), (47, 9, 8), (54, 9, 9), (58, 9, 10), (61, 10, 1), (65, 7, 1), (73, 9, 11), (81, 7, 0), (84, 7, 3), (91, 10, 7), (94, 6, 2), (115, 10, 5), (125, 6, 4), (135, 4, 5), (162, 7, 2), (165, 10, 8), (171, 10, 6), (181, 10, 9), (187, 4, 3), (190, 4, 6), (191, 4, 7), (200, 6, 5), (222, 6, 3), (224, 6, 10), (227, 6, 11)], [(14, 10, 0), (25, 10, 1), (29, 10, 2), (32, 10, 3), (39, 10, 4), (43, 10, 5), (46, 10, 6), (49, 10, 11), (69, 10, 7), (72, 10, 8), (75, 10, 9), (78, 10, 10)], [(18, 11, 0), (22, 11, 1), (27, 11, 2), (35, 11, 3), (41, 10, 0), (48, 11, 4), (57, 11, 5), (64, 11, 6), (73, 11, 7), (82, 11, 8), (96, 6, 3), (100, 6, 5), (104, 6, 4), (107, 6, 9), (114, 6, 6), (117, 6, 7), (120, 6, 8), (123, 10, 2), (127, 7, 4), (140, 10, 3), (143, 6, 10), (146, 5, 4), (153, 10, 10), (159, 5, 5), (162, 5, 6), (168, 10, 11), (177, 6, 11), (188, 10, 1), (191, 7, 0), (206, 10, 4), (216, 7, 1), (219, 7, 3), (222, 7, 2), (225, 10, 5), (228, 10, 7), (237, 10, 8), (256, 10, 6), (266, 10, 9), (278, 6, 2), (296, 3, 4), (299, 3, 5), (310, 2, 0), (313, 2, 3), (329, 0, 4), (332, 0, 5), (338, 6, 0), (341, 6, 1), (344, 1, 3)], [(7, 12, 3), (13, 12, 4), (16, 12, 5), (19, 12, 6), (22, 12, 8), (26, 12, 9), (29, 12, 19), (32, 12, 25), (35, 12, 26), (39, 12, 27), (43, 12, 28), (46, 12, 29), (49, 12, 30), (53, 12, 31), (56, 12, 33), (59, 12, 34), (62, 12, 35), (65, 12, 36), (68, 12, 37), (71, 12, 38), (74, 12, 40), (77, 12, 0), (80, 12, 1), (83, 12, 2), (112, 12, 7), (119, 12, 10), (126, 12, 11), (129, 12, 12), (135, 12, 13), (142, 12, 14), (154, 12, 15), (157, 12, 17), (160, 12, 20), (163, 12, 22), (167, 12, 21), (186, 12, 23), (240, 12, 24), (376, 12, 32), (411, 12, 39), (434, 12, 41), (437, 12, 42), (440, 12, 43), (443, 12, 46), (446, 12, 45), (452, 12, 44)], []]
def pM : List (Nat × MethodName × ByteArray × Nat × Option FieldType) := [(0, yX0_init, cX0_init, 3, none), (0, yX0_price, cX0_price, 4, some FieldType.int), (0, yX0_landing, cX0_landing, 4, some FieldType.int), (0, yX0_isPush, cX0_isPush, 1, some FieldType.boolean), (0, yX0_banksBehind, cX0_banksBehind, 2, some FieldType.boolean), (0, yX0_priceFor, cX0_priceFor, 5, some FieldType.int), (0, yX0_obey, cX0_obey, 4, some FieldType.boolean), (0, yX0_settle, cX0_settle, 4, none), (0, yX0_sail, cX0_sail, 8, none), (0, yX0_chosen, cX0_chosen, 4, some FieldType.int), (1, yX1_init, cX1_init, 2, none), (1, yX1_face, cX1_face, 4, none), (1, yX1_isOpen, cX1_isOpen, 2, some FieldType.boolean), (1, yX1_isNipping, cX1_isNipping, 2, some FieldType.boolean), (1, yX1_isFirm, cX1_isFirm, 2, some FieldType.boolean), (1, yX1_toll, cX1_toll, 3, some FieldType.int), (1, yX1_drive, cX1_drive, 7, none), (1, yX1_wants, cX1_wants, 4, some FieldType.boolean), (1, yX1_anySo, cX1_anySo, 5, some FieldType.boolean), (1, yX1_value, cX1_value, 9, some FieldType.int), (1, yX1_named, cX1_named, 5, some FieldType.int), (1, yX1_joined, cX1_joined, 3, some FieldType.long), (2, yX2_init, cX2_init, 2, none), (2, yX2_add, cX2_add, 3, none), (2, yX2_go, cX2_go, 4, none), (2, yX2_seenIn, cX2_seenIn, 4, some FieldType.int), (2, yX2_thousandths, cX2_thousandths, 6, some FieldType.int), (2, yX2_weight, cX2_weight, 8, some FieldType.long), (2, yX2_take, cX2_take, 2, none), (3, yX3_init, cX3_init, 4, none), (3, yX3_tens, cX3_tens, 3, some FieldType.int), (3, yX3_weigh, cX3_weigh, 5, none), (3, yX3_chanceBy, cX3_chanceBy, 13, some FieldType.int), (3, yX3_bestFrom, cX3_bestFrom, 8, some FieldType.int), (3, yX3_leaves, cX3_leaves, 4, some FieldType.boolean), (3, yX3_knownAhead, cX3_knownAhead, 7, some FieldType.int), (3, yX3_tenthsOf, cX3_tenthsOf, 7, some FieldType.int), (3, yX3_getsOut, cX3_getsOut, 13, some FieldType.boolean), (4, yX4_init, cX4_init, 3, none), (4, yX4_foresee, cX4_foresee, 2, none), (4, yX4_foreseeAll, cX4_foreseeAll, 6, none), (4, yX4_behind, cX4_behind, 2, some FieldType.int), (4, yX4_begin, cX4_begin, 1, none), (4, yX4_follow, cX4_follow, 5, none), (4, yX4_askTolls, cX4_askTolls, 3, none), (4, yX4_tollOf, cX4_tollOf, 5, some FieldType.int), (5, yX5_init, cX5_init, 1, none), (5, yX5_take, cX5_take, 3, none), (5, yX5_reads, cX5_reads, 3, some FieldType.boolean), (5, yX5_next, cX5_next, 1, none), (5, yX5_faulty, cX5_faulty, 2, some FieldType.boolean), (5, yX5_readsClause, cX5_readsClause, 4, some FieldType.boolean), (5, yX5_readsOrder, cX5_readsOrder, 2, some FieldType.int), (5, yX5_readsEither, cX5_readsEither, 4, some FieldType.boolean), (5, yX5_readsAsk, cX5_readsAsk, 4, some FieldType.boolean), (5, yX5_readsSum, cX5_readsSum, 5, some FieldType.boolean), (5, yX5_readsOne, cX5_readsOne, 5, some FieldType.boolean), (5, yX5_splitTape, cX5_splitTape, 2, none), (5, yX5_splitWord, cX5_splitWord, 5, some FieldType.int), (5, yX5_isWord, cX5_isWord, 5, some FieldType.boolean), (5, yX5_splitNumber, cX5_splitNumber, 2, some FieldType.int), (5, yX5_splitSign, cX5_splitSign, 2, some FieldType.int), (5, yX5_plainSign, cX5_plainSign, 1, some FieldType.int), (5, yX5_isLetter, cX5_isLetter, 1, some FieldType.boolean), (5, yX5_isDigit, cX5_isDigit, 1, some FieldType.boolean), (6, yX6_init, cX6_init, 4, none), (6, yX6_has, cX6_has, 2, some FieldType.boolean), (6, yX6_off, cX6_off, 6, some FieldType.int), (6, yX6_beside, cX6_beside, 3, some FieldType.int), (6, yX6_carried, cX6_carried, 3, some FieldType.int), (6, yX6_afloat, cX6_afloat, 4, some FieldType.int), (6, yX6_drawn, cX6_drawn, 5, some FieldType.int), (6, yX6_take, cX6_take, 2, none), (7, yX7_init, cX7_init, 2, none), (7, yX7_put, cX7_put, 3, none), (7, yX7_take, cX7_take, 2, none), (8, yX8_init, cX8_init, 1, none), (8, yX8_clear, cX8_clear, 1, none), (8, yX8_add, cX8_add, 2, none), (8, yX8_close, cX8_close, 3, none), (8, yX8_firstOf, cX8_firstOf, 3, some FieldType.int), (9, yX9_init, cX9_init, 6, none), (9, yX9_fewestWatches, cX9_fewestWatches, 1, some FieldType.int), (9, yX9_coalLeft, cX9_coalLeft, 1, some FieldType.int), (9, yX9_leastCoal, cX9_leastCoal, 1, some FieldType.int), (9, yX9_seekOut, cX9_seekOut, 5, some FieldType.int), (9, yX9_clearSpent, cX9_clearSpent, 3, none), (9, yX9_seekFrom, cX9_seekFrom, 11, none), (9, yX9_orderOfBest, cX9_orderOfBest, 7, some FieldType.int), (9, yX9_lowestBest, cX9_lowestBest, 6, some FieldType.int), (9, yX9_place, cX9_place, 2, some FieldType.int), (9, yX9_askNeeds, cX9_askNeeds, 5, none), (9, yX9_leastNeed, cX9_leastNeed, 8, some FieldType.int), (9, yX9_needBy, cX9_needBy, 8, some FieldType.int), (9, yX9_followTold, cX9_followTold, 3, some FieldType.int), (9, yX9_goesOn, cX9_goesOn, 6, some FieldType.boolean), (9, yX9_toldCell, cX9_toldCell, 2, some FieldType.int), (9, yX9_lastTurn, cX9_lastTurn, 4, some FieldType.int), (9, yX9_watchesAfoot, cX9_watchesAfoot, 3, some FieldType.int), (9, yX9_lastLeave, cX9_lastLeave, 3, some FieldType.int), (9, yX9_askAfoot, cX9_askAfoot, 3, none), (9, yX9_afootBehind, cX9_afootBehind, 4, some FieldType.int), (9, yX9_reachAfoot, cX9_reachAfoot, 6, none), (9, yX9_nipsIn, cX9_nipsIn, 5, some FieldType.int), (9, yX9_calmest, cX9_calmest, 3, some FieldType.int), (9, yX9_openLeads, cX9_openLeads, 4, some FieldType.int), (9, yX9_spread, cX9_spread, 6, some FieldType.int), (9, yX9_pushesTo, cX9_pushesTo, 2, some FieldType.int), (10, yX10_init, cX10_init, 4, none), (10, yX10_take, cX10_take, 2, none), (11, yX11_init, cX11_init, 6, none), (11, yX11_ice, cX11_ice, 3, some FieldType.boolean), (11, yX11_iceAt, cX11_iceAt, 2, some FieldType.int), (11, yX11_mark, cX11_mark, 4, some FieldType.boolean), (11, yX11_edge, cX11_edge, 2, some FieldType.boolean), (11, yX11_drift, cX11_drift, 4, some FieldType.boolean), (11, yX11_chances, cX11_chances, 8, some FieldType.boolean), (11, yX11_ship, cX11_ship, 4, some FieldType.boolean), (11, yX11_costs, cX11_costs, 4, some FieldType.boolean), (11, yX11_wind, cX11_wind, 2, some FieldType.boolean), (11, yX11_feed, cX11_feed, 6, some FieldType.int), (11, yX11_end, cX11_end, 2, some FieldType.int), (11, yX11_text, cX11_text, 3, some FieldType.int), (11, yX11_fault, cX11_fault, 2, some FieldType.int), (11, yX11_by, cX11_by, 2, some FieldType.boolean), (11, yX11_can, cX11_can, 3, some FieldType.boolean), (11, yX11_watch, cX11_watch, 10, some FieldType.int), (11, yX11_of, cX11_of, 4, some FieldType.int), (11, yX11_ahead, cX11_ahead, 3, some FieldType.int), (11, yX11_many, cX11_many, 3, some FieldType.boolean), (11, yX11_soonest, cX11_soonest, 4, some FieldType.int), (11, yX11_least, cX11_least, 1, some FieldType.int), (11, yX11_order, cX11_order, 3, some FieldType.int), (11, yX11_told, cX11_told, 3, some FieldType.int), (11, yX11_home, cX11_home, 2, some FieldType.boolean), (11, yX11_last, cX11_last, 1, some FieldType.int), (11, yX11_walk, cX11_walk, 2, some FieldType.int), (11, yX11_leave, cX11_leave, 1, some FieldType.int), (11, yX11_winter, cX11_winter, 4, some FieldType.int), (11, yX11_surest, cX11_surest, 4, some FieldType.int), (11, yX11_leads, cX11_leads, 3, some FieldType.int), (11, yX11_prior, cX11_prior, 3, some FieldType.boolean), (11, yX11_look, cX11_look, 3, some FieldType.int), (11, yX11_think, cX11_think, 3, some FieldType.int), (11, yX11_run, cX11_run, 6, some FieldType.int), (11, yX11_runs, cX11_runs, 9, some FieldType.int), (11, yX11_image, cX11_image, 1, some FieldType.int), (11, yX11_back, cX11_back, 1, some FieldType.int), (11, yX11_about, cX11_about, 2, some FieldType.int), (11, yX11_shipOf, cX11_shipOf, 2, some (FieldType.object "ThroughPack$Ship")), (11, yX11_isText, cX11_isText, 2, some FieldType.boolean), (11, yX11_heedLaw, cX11_heedLaw, 1, none), (11, yX11_isWind, cX11_isWind, 1, some FieldType.boolean), (11, yX11_isOrder, cX11_isOrder, 1, some FieldType.boolean), (11, yX11_within, cX11_within, 3, some FieldType.boolean), (11, yX11_held, cX11_held, 3, some FieldType.int), (12, yX12_init, cX12_init, 4, none), (12, yX12_copyRow, cX12_copyRow, 3, none), (12, yX12_isIn, cX12_isIn, 3, some FieldType.boolean), (12, yX12_isCell, cX12_isCell, 2, some FieldType.boolean), (12, yX12_isWind, cX12_isWind, 1, some FieldType.boolean), (12, yX12_besideBy, cX12_besideBy, 6, some FieldType.int), (12, yX12_pushed, cX12_pushed, 3, some FieldType.int), (12, yX12_ice, cX12_ice, 3, some FieldType.boolean), (12, yX12_iceAt, cX12_iceAt, 2, some FieldType.int), (12, yX12_mark, cX12_mark, 4, some FieldType.boolean), (12, yX12_edge, cX12_edge, 2, some FieldType.boolean), (12, yX12_drift, cX12_drift, 4, some FieldType.boolean), (12, yX12_chances, cX12_chances, 6, some FieldType.boolean), (12, yX12_isShip, cX12_isShip, 1, some FieldType.boolean), (12, yX12_ofShip, cX12_ofShip, 2, some FieldType.int), (12, yX12_ship, cX12_ship, 4, some FieldType.boolean), (12, yX12_costs, cX12_costs, 4, some FieldType.boolean), (12, yX12_wind, cX12_wind, 2, some FieldType.boolean), (12, yX12_four, cX12_four, 3, none), (12, yX12_feed, cX12_feed, 6, some FieldType.int), (12, yX12_end, cX12_end, 2, some FieldType.int), (12, yX12_byteAt, cX12_byteAt, 2, some FieldType.int), (12, yX12_isLetter, cX12_isLetter, 1, some FieldType.boolean), (12, yX12_isDigit, cX12_isDigit, 1, some FieldType.boolean), (12, yX12_nextToken, cX12_nextToken, 3, none), (12, yX12_w3, cX12_w3, 3, some FieldType.long), (12, yX12_w5, cX12_w5, 5, some FieldType.long), (12, yX12_w4, cX12_w4, 4, some FieldType.long), (12, yX12_w6, cX12_w6, 6, some FieldType.long), (12, yX12_isWord, cX12_isWord, 3, some FieldType.boolean), (12, yX12_emit, cX12_emit, 3, none), (12, yX12_push, cX12_push, 2, none), (12, yX12_whole, cX12_whole, 1, none), (12, yX12_settle, cX12_settle, 2, none), (12, yX12_nameOf, cX12_nameOf, 1, some FieldType.int), (12, yX12_isBarred, cX12_isBarred, 2, some FieldType.boolean), (12, yX12_beginOne, cX12_beginOne, 2, some FieldType.int), (12, yX12_hasParen, cX12_hasParen, 2, some FieldType.boolean), (12, yX12_goesOn, cX12_goesOn, 1, some FieldType.boolean), (12, yX12_behindOne, cX12_behindOne, 2, some FieldType.int), (12, yX12_summed, cX12_summed, 2, some FieldType.int), (12, yX12_compareOf, cX12_compareOf, 1, some FieldType.int), (12, yX12_asks, cX12_asks, 5, some FieldType.int), (12, yX12_either, cX12_either, 6, some FieldType.int), (12, yX12_sortOf, cX12_sortOf, 1, some FieldType.int), (12, yX12_goesBy, cX12_goesBy, 2, some FieldType.int), (12, yX12_clause, cX12_clause, 5, some FieldType.int), (12, yX12_readText, cX12_readText, 2, some FieldType.int), (12, yX12_text, cX12_text, 1, some FieldType.int), (12, yX12_fault, cX12_fault, 2, some FieldType.int), (12, yX12_by, cX12_by, 2, some FieldType.boolean), (12, yX12_clip, cX12_clip, 2, some FieldType.long), (12, yX12_two, cX12_two, 5, some FieldType.long), (12, yX12_isAsked, cX12_isAsked, 5, some FieldType.boolean), (12, yX12_work, cX12_work, 10, none), (12, yX12_sortAt, cX12_sortAt, 3, some FieldType.int), (12, yX12_clauses, cX12_clauses, 2, some FieldType.int), (12, yX12_iceOf, cX12_iceOf, 3, some FieldType.int), (12, yX12_nameCell, cX12_nameCell, 6, none), (12, yX12_isAny, cX12_isAny, 5, some FieldType.boolean), (12, yX12_sumOf, cX12_sumOf, 4, some FieldType.int), (12, yX12_pushCost, cX12_pushCost, 5, some FieldType.int), (12, yX12_nips, cX12_nips, 5, some FieldType.boolean), (12, yX12_walks, cX12_walks, 5, some FieldType.boolean), (12, yX12_driven, cX12_driven, 4, some FieldType.int), (12, yX12_drifted, cX12_drifted, 4, some FieldType.int), (12, yX12_go, cX12_go, 6, none), (12, yX12_layNow, cX12_layNow, 3, none), (12, yX12_isOrder, cX12_isOrder, 1, some FieldType.boolean), (12, yX12_orderCost, cX12_orderCost, 9, some FieldType.int), (12, yX12_firesBehind, cX12_firesBehind, 2, some FieldType.int), (12, yX12_isFree, cX12_isFree, 2, some FieldType.boolean), (12, yX12_costOf, cX12_costOf, 4, some FieldType.int), (12, yX12_can, cX12_can, 3, some FieldType.boolean), (12, yX12_does, cX12_does, 6, some FieldType.boolean), (12, yX12_floatShip, cX12_floatShip, 6, none), (12, yX12_watch, cX12_watch, 8, some FieldType.int), (12, yX12_of, cX12_of, 3, some FieldType.int), (12, yX12_ahead, cX12_ahead, 3, some FieldType.int), (12, yX12_many, cX12_many, 3, some FieldType.boolean), (12, yX12_windBefore, cX12_windBefore, 2, some FieldType.int), (12, yX12_look, cX12_look, 4, none), (12, yX12_costAhead, cX12_costAhead, 8, some FieldType.int), (12, yX12_cellAhead, cX12_cellAhead, 4, some FieldType.int), (12, yX12_stateAt, cX12_stateAt, 4, some FieldType.int), (12, yX12_outBy, cX12_outBy, 9, some FieldType.int), (12, yX12_bestOut, cX12_bestOut, 9, some FieldType.int), (12, yX12_findOut, cX12_findOut, 6, none), (12, yX12_shipCell, cX12_shipCell, 1, some FieldType.int), (12, yX12_shipCoal, cX12_shipCoal, 1, some FieldType.int), (12, yX12_shipBanked, cX12_shipBanked, 1, some FieldType.int), (12, yX12_soonest, cX12_soonest, 9, some FieldType.int), (12, yX12_least, cX12_least, 2, some FieldType.int), (12, yX12_order, cX12_order, 3, some FieldType.int), (12, yX12_follow, cX12_follow, 6, none), (12, yX12_told, cX12_told, 2, some FieldType.int), (12, yX12_home, cX12_home, 2, some FieldType.boolean), (12, yX12_canHome, cX12_canHome, 8, some FieldType.boolean), (12, yX12_last, cX12_last, 5, some FieldType.int), (12, yX12_walkOn, cX12_walkOn, 5, none), (12, yX12_walkFrom, cX12_walkFrom, 5, some FieldType.int), (12, yX12_walk, cX12_walk, 2, some FieldType.int), (12, yX12_leave, cX12_leave, 2, some FieldType.int), (12, yX12_winterAt, cX12_winterAt, 5, some FieldType.int), (12, yX12_winter, cX12_winter, 4, some FieldType.int), (12, yX12_chanceOf, cX12_chanceOf, 3, some FieldType.int), (12, yX12_behind, cX12_behind, 4, some FieldType.int), (12, yX12_isWayOut, cX12_isWayOut, 3, some FieldType.boolean), (12, yX12_hopeOne, cX12_hopeOne, 8, some FieldType.int), (12, yX12_hopeTwo, cX12_hopeTwo, 14, some FieldType.int), (12, yX12_hope, cX12_hope, 6, some FieldType.int), (12, yX12_hopeBehind, cX12_hopeBehind, 9, some FieldType.int), (12, yX12_known, cX12_known, 8, some FieldType.int), (12, yX12_surest, cX12_surest, 5, some FieldType.int), (12, yX12_leads, cX12_leads, 7, some FieldType.int), (12, yX12_prior, cX12_prior, 3, some FieldType.boolean), (12, yX12_look_, cX12_look_, 3, some FieldType.int), (12, yX12_weigh, cX12_weigh, 8, some FieldType.long), (12, yX12_think, cX12_think, 7, some FieldType.int), (12, yX12_isText, cX12_isText, 2, some FieldType.boolean), (12, yX12_canRun, cX12_canRun, 2, some FieldType.boolean), (12, yX12_orderBy, cX12_orderBy, 4, some FieldType.int), (12, yX12_drawWind, cX12_drawWind, 4, some FieldType.int), (12, yX12_runOne, cX12_runOne, 5, none), (12, yX12_runAll, cX12_runAll, 6, none), (12, yX12_run, cX12_run, 5, some FieldType.int), (12, yX12_runs, cX12_runs, 8, some FieldType.int), (12, yX12_image, cX12_image, 1, some FieldType.int), (12, yX12_back, cX12_back, 1, some FieldType.int), (12, yX12_about, cX12_about, 2, some FieldType.int), (13, yL_cell, cL_cell, 2, some FieldType.int)]
def tMth : List (List (Nat × Nat × Nat × Nat)) := [[(32, 73, 1, 0), (42, 3, 1, 0), (46, 68, 2, 0), (52, 70, 2, 0), (63, 153, 1, 1), (72, 15, 1, 0), (78, 1, 3, 0), (85, 5, 2, 0), (89, 4, 2, 0), (97, 13, 1, 0), (112, 75, 1, 0), (125, 11, 3, 0), (129, 9, 1, 0), (133, 6, 2, 0), (137, 71, 2, 0), (140, 16, 4, 0), (144, 7, 3, 0), (159, 17, 3, 0)], [(35, 18, 3, 0), (43, 80, 1, 0), (49, 19, 3, 0), (53, 155, 3, 1), (66, 67, 3, 0), (72, 11, 3, 0), (103, 20, 2, 0), (109, 21, 3, 0)], [(25, 69, 2, 0), (31, 27, 2, 0)], [(52, 32, 6, 0), (56, 45, 3, 0), (62, 1, 3, 0), (68, 34, 2, 0), (72, 30, 1, 0), (85, 2, 3, 0), (88, 41, 2, 0), (96, 4, 2, 0), (100, 33, 5, 0), (109, 68, 2, 0), (116, 36, 2, 0), (119, 37, 6, 0)], [(44, 42, 0, 0), (52, 43, 3, 0), (56, 41, 2, 0), (79, 44, 1, 0), (83, 16, 4, 0), (92, 13, 1, 0), (96, 11, 3, 0), (100, 15, 1, 0), (104, 68, 2, 0)], [(41, 77, 0, 0), (46, 57, 0, 0), (52, 49, 0, 0), (55, 51, 0, 0), (62, 50, 1, 0), (66, 80, 1, 0), (73, 52, 0, 0), (77, 55, 1, 0), (80, 53, 0, 0), (83, 79, 2, 0), (87, 54, 1, 0), (90, 78, 1, 0), (94, 56, 1, 0), (100, 63, 1, 0), (103, 58, 0, 0), (106, 64, 1, 0), (109, 60, 0, 0), (112, 61, 0, 0), (126, 59, 3, 0), (136, 62, 1, 0)], [(41, 67, 3, 0)], [], [], [(51, 73, 1, 0), (69, 85, 2, 0), (77, 86, 1, 0), (88, 90, 2, 0), (99, 87, 4, 0), (103, 45, 3, 0), (109, 1, 3, 0), (118, 2, 3, 0), (121, 3, 1, 0), (138, 4, 2, 0), (142, 91, 2, 0), (146, 89, 3, 0), (150, 93, 5, 0), (154, 92, 5, 0), (158, 75, 1, 0), (168, 95, 1, 0), (174, 74, 2, 0), (177, 94, 0, 0), (184, 100, 0, 0), (194, 11, 3, 0), (203, 101, 2, 0), (206, 102, 2, 0), (209, 70, 2, 0), (212, 14, 1, 0), (215, 68, 2, 0), (218, 103, 1, 0), (230, 106, 2, 0), (233, 12, 1, 0)], [(11, 65, 2, 0), (22, 73, 1, 0), (38, 22, 0, 0), (53, 72, 1, 0), (57, 75, 1, 0), (66, 28, 1, 0)], [(7, 155, 3, 0), (15, 108, 2, 0), (31, 76, 0, 0), (34, 46, 0, 0), (45, 10, 1, 0), (54, 0, 2, 0), (63, 38, 2, 0), (70, 81, 4, 0), (79, 29, 3, 0), (86, 66, 1, 0), (92, 154, 3, 0), (111, 152, 1, 0), (133, 149, 1, 0), (137, 74, 2, 0), (149, 47, 1, 0), (155, 48, 1, 0), (165, 150, 1, 0), (171, 151, 0, 0), (174, 153, 1, 0), (180, 11, 3, 0), (184, 5, 2, 0), (194, 6, 2, 0), (198, 16, 4, 0), (202, 7, 3, 0), (210, 24, 2, 0), (240, 39, 0, 0), (243, 82, 0, 0), (247, 83, 0, 0), (250, 88, 2, 0), (253, 84, 0, 0), (259, 94, 0, 0), (262, 96, 1, 0), (269, 97, 0, 0), (272, 98, 1, 0), (275, 99, 0, 0), (281, 104, 0, 0), (284, 103, 1, 0), (287, 30, 1, 0), (290, 40, 1, 0), (293, 31, 1, 0), (301, 35, 1, 0), (304, 105, 0, 0), (307, 107, 1, 0), (316, 23, 2, 0), (319, 25, 1, 0), (322, 26, 2, 0), (325, 8, 3, 0), (335, 109, 1, 0)], [(86, 157, 2, 0), (90, 158, 3, 0), (94, 161, 3, 0), (98, 159, 1, 0), (102, 160, 1, 0), (105, 169, 1, 0), (108, 170, 2, 0), (115, 174, 1, 0), (122, 177, 1, 0), (132, 179, 1, 0), (139, 178, 1, 0), (146, 181, 3, 0), (150, 182, 5, 0), (170, 186, 2, 0), (174, 183, 4, 0), (182, 184, 6, 0), (189, 180, 0, 0), (192, 188, 0, 0), (195, 190, 0, 0), (199, 191, 1, 0), (202, 187, 1, 0), (204, 193, 0, 0), (208, 189, 1, 0), (211, 194, 0, 0), (214, 195, 0, 0), (217, 192, 0, 0), (220, 185, 1, 0), (224, 196, 0, 0), (227, 197, 0, 0), (230, 198, 0, 0), (237, 200, 0, 0), (243, 201, 1, 0), (246, 199, 0, 0), (249, 202, 0, 0), (252, 203, 0, 0), (259, 207, 1, 0), (263, 208, 3, 0), (267, 209, 3, 0), (271, 162, 2, 0), (274, 213, 2, 0), (277, 212, 1, 0), (280, 211, 2, 0), (283, 210, 2, 0), (288, 214, 4, 0), (292, 215, 2, 0), (296, 216, 2, 0), (299, 220, 3, 0), (302, 217, 4, 0), (306, 225, 7, 0), (310, 224, 1, 0), (313, 227, 1, 0), (316, 223, 1, 0), (319, 228, 3, 0), (322, 226, 2, 0), (325, 221, 2, 0), (328, 218, 4, 0), (332, 230, 3, 0), (335, 222, 4, 0), (338, 231, 4, 0), (342, 236, 1, 0), (345, 238, 5, 0), (349, 239, 3, 0), (352, 240, 4, 0), (355, 241, 5, 0), (358, 237, 0, 0), (361, 242, 4, 0), (364, 243, 0, 0), (367, 244, 0, 0), (370, 245, 0, 0), (373, 246, 0, 0), (379, 250, 0, 0), (382, 253, 4, 0), (385, 219, 4, 0), (388, 255, 1, 0), (391, 256, 2, 0), (394, 259, 1, 0), (397, 263, 2, 0), (401, 261, 2, 0), (404, 262, 3, 0), (407, 264, 6, 0), (414, 267, 3, 0), (417, 265, 7, 0), (420, 266, 1, 0), (423, 268, 1, 0), (428, 273, 2, 0), (449, 276, 1, 0), (455, 277, 1, 0), (458, 278, 1, 0), (461, 279, 2, 0), (464, 275, 1, 0), (467, 280, 3, 0)], [(9, 286, 2, 0), (15, 110, 2, 0), (20, 156, 2, 0), (21, 111, 2, 0), (25, 163, 2, 0), (26, 112, 1, 0), (30, 164, 1, 0), (31, 113, 3, 0), (35, 165, 3, 0), (36, 114, 1, 0), (40, 166, 1, 0), (41, 115, 3, 0), (45, 167, 3, 0), (46, 116, 5, 0), (50, 168, 5, 0), (51, 117, 3, 0), (54, 171, 3, 0), (55, 118, 3, 0), (58, 172, 3, 0), (59, 119, 1, 0), (62, 173, 1, 0), (63, 120, 5, 0), (67, 175, 5, 0), (68, 121, 1, 0), (71, 176, 1, 0), (72, 122, 0, 0), (76, 204, 0, 0), (77, 123, 1, 0), (80, 205, 1, 0), (81, 124, 1, 0), (84, 206, 1, 0), (85, 125, 2, 0), (88, 229, 2, 0), (89, 126, 3, 0), (93, 232, 3, 0), (94, 127, 2, 0), (98, 233, 2, 0), (99, 128, 2, 0), (102, 234, 2, 0), (103, 129, 2, 0), (106, 235, 2, 0), (107, 130, 1, 0), (110, 247, 1, 0), (111, 131, 0, 0), (114, 248, 0, 0), (115, 132, 2, 0), (118, 249, 2, 0), (119, 133, 1, 0), (122, 251, 1, 0), (123, 134, 1, 0), (126, 252, 1, 0), (127, 135, 0, 0), (130, 254, 0, 0), (131, 136, 1, 0), (134, 257, 1, 0), (135, 137, 0, 0), (138, 258, 0, 0), (139, 138, 1, 0), (142, 260, 1, 0), (143, 139, 2, 0), (146, 269, 2, 0), (147, 140, 1, 0), (150, 270, 1, 0), (151, 141, 2, 0), (154, 271, 2, 0), (155, 142, 2, 0), (158, 272, 2, 0), (159, 143, 2, 0), (162, 274, 2, 0), (163, 144, 4, 0), (167, 281, 4, 0), (168, 145, 5, 0), (171, 282, 5, 0), (172, 146, 0, 0), (175, 283, 0, 0), (176, 147, 0, 0), (179, 284, 0, 0), (180, 148, 1, 0), (183, 285, 1, 0)]]
def tJdk : List (List (Nat × Nat)) := [[(3, 0), (103, 4)], [(3, 0)], [(3, 0), (37, 3), (45, 4)], [(3, 0), (104, 1)], [(3, 0), (67, 4)], [(3, 0), (117, 5), (122, 6), (130, 2)], [(3, 0), (45, 4)], [(3, 0)], [(3, 0)], [(3, 0), (129, 2)], [(3, 0), (60, 4)], [(1, 0), (231, 1)], [(1, 0)], []]
def tCls : List (List (Nat × Nat)) := [[(30, 7)], [], [], [], [(26, 16)], [], [], [], [], [(34, 16), (45, 7)], [(9, 6), (20, 7), (36, 2)], [(13, 10), (25, 8), (32, 5), (39, 1), (52, 0), (61, 4), (68, 9), (77, 3)], [], [(7, 11), (18, 12)]]
def tCst : List (List (Nat × Int32)) := [[], [(115, 1000000), (118, -1000000)], [], [], [], [], [], [], [], [(76, 1000000)], [], [], [(52, 93600), (138, 100000)], []]
def tCsl : List (List (Nat × Int64)) := [[], [(113, 1000000), (116, -1000000)], [(35, 1000), (43, 8)], [], [], [], [], [], [], [], [], [], [(178, 120), (180, 121), (233, 28530), (235, 26479), (255, 1000000), (257, -1000000), (286, 99), (426, 8), (432, 1000)], []]
/-- 0 static, 1 by its class, 2 a constructor -/
def pKind : List Nat := [2, 1, 1, 0, 0, 1, 1, 1, 1, 1, 2, 1, 1, 1, 1, 1, 1, 1, 1, 1, 1, 0, 2, 1, 1, 1, 1, 1, 1, 2, 0, 1, 1, 1, 1, 1, 1, 1, 2, 1, 1, 0, 1, 1, 1, 1, 2, 1, 1, 1, 1, 1, 1, 1, 1, 1, 1, 1, 1, 1, 1, 1, 0, 0, 0, 2, 1, 1, 1, 1, 1, 1, 1, 2, 1, 1, 2, 1, 1, 1, 1, 2, 1, 1, 1, 1, 1, 1, 1, 1, 0, 1, 1, 1, 1, 1, 1, 1, 1, 1, 1, 1, 1, 1, 1, 1, 1, 1, 2, 1, 2, 1, 1, 1, 1, 1, 1, 1, 1, 1, 1, 1, 1, 1, 1, 1, 1, 1, 1, 1, 1, 1, 1, 1, 1, 1, 1, 1, 1, 1, 1, 1, 1, 1, 1, 1, 1, 1, 1, 1, 1, 1, 0, 0, 0, 0, 2, 0, 0, 1, 0, 1, 1, 1, 1, 1, 1, 1, 1, 0, 0, 1, 1, 1, 1, 1, 1, 1, 0, 0, 1, 0, 0, 0, 0, 1, 1, 1, 1, 1, 1, 1, 1, 1, 1, 1, 1, 1, 1, 1, 1, 1, 1, 1, 1, 1, 1, 0, 0, 0, 1, 1, 1, 1, 1, 1, 1, 1, 1, 1, 1, 1, 1, 1, 0, 1, 0, 1, 1, 1, 1, 1, 1, 1, 1, 1, 1, 1, 1, 1, 0, 1, 1, 1, 1, 1, 1, 1, 1, 1, 1, 1, 1, 1, 1, 1, 1, 1, 1, 1, 1, 1, 1, 1, 1, 1, 1, 1, 1, 1, 1, 1, 1, 1, 1, 1, 1, 1, 1, 1, 1, 1, 1, 1, 1, 1, 0]
def lw_good : List Cond := lw_tbl.filter goodWord
theorem lw_good_in {w : Cond} (ps : List Nat) (ws : List Cond) (h : ws = ps.filterMap (fun i => lw_tbl[i]?)) (hg : ws.all goodWord = true) (hw : w ∈ ws) : w ∈ lw_good := by
  refine List.mem_filter.mpr ⟨?_, List.all_eq_true.mp hg w hw⟩
  rw [h] at hw
  obtain ⟨i, -, hi⟩ := List.mem_filterMap.mp hw
  exact List.mem_of_getElem? hi
def pCl (ci : Nat) : vw_C := vwCl.getD ci ("", TX0, 0)
def wFld (o : Nat) (e : Nat × Nat × Nat) : Cond := .fieldLink (pOwn o) e.1 ((pCl e.2.1).2.1 e.2.2).1 ((pCl e.2.1).2.1 e.2.2).2.1 ((pCl e.2.1).2.1 e.2.2).2.2.1
def pMe (m : Nat) : Nat × MethodName × ByteArray × Nat × Option FieldType := pM.getD m (0, yL_cell, cL_cell, 0, none)
def wCode (m : Nat) : Cond := .code (pMe m).2.1 (pMe m).2.2.1 (pMe m).2.2.2.1 (pMe m).2.2.2.2
def wMth (o : Nat) (e : Nat × Nat × Nat × Nat) : Cond := .methodLink (pOwn o) e.1 (pMe e.2.1).2.1
def flatT {α : Type} (t : List (List α)) : List (Nat × α) := (List.range 14).flatMap (fun o => (t.getD o []).map (fun e => (o, e)))
theorem flatT_in {α : Type} {t : List (List α)} {o : Nat} {e : α} (ho : o < 14) (h : e ∈ t.getD o []) : (o, e) ∈ flatT t := List.mem_flatMap.mpr ⟨o, List.mem_range.mpr ho, List.mem_map.mpr ⟨e, h, rfl⟩⟩
set_option maxRecDepth 100000 in
theorem tFld_eq : (flatT tFld).map (fun q => wFld q.1 q.2) = [484, 486, 298, 485, 487, 488, 311, 263, 253, 259, 243, 249, 178, 173, 306, 199, 490, 204, 380, 376, 374, 447, 448, 449, 170, 452, 453, 454, 450, 167, 185, 188, 194, 250, 455, 260, 456, 244, 379, 373, 371, 369, 159, 162, 282, 284, 285, 286, 597, 599, 600, 300, 598, 305, 601, 603, 241, 248, 257, 191, 523, 520, 177, 197, 513, 515, 299, 514, 516, 518, 519, 522, 525, 322, 316, 190, 172, 196, 202, 166, 401, 402, 403, 404, 407, 409, 414, 405, 411, 413, 415, 378, 412, 158, 161, 164, 169, 175, 180, 183, 186, 189, 195, 198, 203, 246, 262, 240, 252, 256, 368, 370, 372, 375, 377, 381, 554, 556, 557, 558, 301, 555, 559, 560, 561, 562, 563, 564, 304, 247, 565, 242, 258, 324, 165, 317, 179, 521, 254, 327, 320, 330, 517, 524, 526, 182, 174, 201, 206, 297, 303, 308, 310, 313, 315, 319, 334, 323, 326, 329, 332, 618, 619, 620, 621, 302, 622, 623, 624, 625, 626, 171, 181, 176, 193, 184, 187, 192, 309, 264, 312, 200, 406, 333, 408, 410, 335, 205, 307, 245, 314, 251, 261, 255, 318, 325, 328, 321, 331, 168, 602, 604, 283, 287, 489, 491, 160, 163, 451, 1330, 1331, 1332, 1333, 1335, 1336, 1344, 1350, 1351, 1352, 1353, 1354, 1355, 1356, 1358, 1359, 1360, 1361, 1362, 1363, 1365, 1327, 1328, 1329, 1334, 1337, 1338, 1339, 1340, 1341, 1342, 1343, 1345, 1347, 1346, 1348, 1349, 1357, 1364, 1366, 1367, 1368, 1371, 1370, 1369].filterMap (fun i => lw_tbl[i]?) := by decide +kernel
set_option maxRecDepth 100000 in
theorem tFld_gd : ((flatT tFld).map (fun q => wFld q.1 q.2)).all goodWord = true := by decide +kernel
theorem tFld_ok {o : Nat} {e : Nat × Nat × Nat} (ho : o < 14) (h : e ∈ tFld.getD o []) : wFld o e ∈ lw_good := lw_good_in _ _ tFld_eq tFld_gd (List.mem_map.mpr ⟨(o, e), flatT_in ho h, rfl⟩)
set_option maxRecDepth 100000 in
theorem pM0_eq : (List.range 12).map (fun j => wCode (0 + j)) = [480, 921, 1031, 884, 933, 880, 929, 943, 1263, 1270, 445, 876].filterMap (fun i => lw_tbl[i]?) := by decide +kernel
set_option maxRecDepth 100000 in
theorem pM0_gd : ((List.range 12).map (fun j => wCode (0 + j))).all goodWord = true := by decide +kernel
theorem pM0_ok {m : Nat} (h0 : 0 ≤ m) (h : m < 12) : wCode m ∈ lw_good := lw_good_in _ _ pM0_eq pM0_gd (List.mem_map.mpr ⟨m - 0, List.mem_range.mpr (by omega), by rw [show 0 + (m - 0) = m by omega]⟩)
set_option maxRecDepth 100000 in
theorem pM12_eq : (List.range 12).map (fun j => wCode (12 + j)) = [1218, 951, 1130, 896, 937, 1274, 900, 905, 909, 912, 280, 1234].filterMap (fun i => lw_tbl[i]?) := by decide +kernel
set_option maxRecDepth 100000 in
theorem pM12_gd : ((List.range 12).map (fun j => wCode (12 + j))).all goodWord = true := by decide +kernel
theorem pM12_ok {m : Nat} (h0 : 12 ≤ m) (h : m < 24) : wCode m ∈ lw_good := lw_good_in _ _ pM12_eq pM12_gd (List.mem_map.mpr ⟨m - 12, List.mem_range.mpr (by omega), by rw [show 12 + (m - 12) = m by omega]⟩)
set_option maxRecDepth 100000 in
theorem pM24_eq : (List.range 12).map (fun j => wCode (24 + j)) = [955, 1242, 1246, 1250, 1304, 595, 1159, 1170, 1174, 1189, 1180, 1194].filterMap (fun i => lw_tbl[i]?) := by decide +kernel
set_option maxRecDepth 100000 in
theorem pM24_gd : ((List.range 12).map (fun j => wCode (24 + j))).all goodWord = true := by decide +kernel
theorem pM24_ok {m : Nat} (h0 : 24 ≤ m) (h : m < 36) : wCode m ∈ lw_good := lw_good_in _ _ pM24_eq pM24_gd (List.mem_map.mpr ⟨m - 24, List.mem_range.mpr (by omega), by rw [show 24 + (m - 24) = m by omega]⟩)
set_option maxRecDepth 100000 in
theorem pM36_eq : (List.range 12).map (fun j => wCode (36 + j)) = [1198, 1202, 509, 982, 1163, 1166, 986, 999, 993, 1025, 399, 707].filterMap (fun i => lw_tbl[i]?) := by decide +kernel
set_option maxRecDepth 100000 in
theorem pM36_gd : ((List.range 12).map (fun j => wCode (36 + j))).all goodWord = true := by decide +kernel
theorem pM36_ok {m : Nat} (h0 : 36 ≤ m) (h : m < 48) : wCode m ∈ lw_good := lw_good_in _ _ pM36_eq pM36_gd (List.mem_map.mpr ⟨m - 36, List.mem_range.mpr (by omega), by rw [show 36 + (m - 36) = m by omega]⟩)
set_option maxRecDepth 100000 in
theorem pM48_eq : (List.range 12).map (fun j => wCode (48 + j)) = [719, 808, 816, 812, 824, 840, 844, 828, 832, 727, 734, 787].filterMap (fun i => lw_tbl[i]?) := by decide +kernel
set_option maxRecDepth 100000 in
theorem pM48_gd : ((List.range 12).map (fun j => wCode (48 + j))).all goodWord = true := by decide +kernel
theorem pM48_ok {m : Nat} (h0 : 48 ≤ m) (h : m < 60) : wCode m ∈ lw_good := lw_good_in _ _ pM48_eq pM48_gd (List.mem_map.mpr ⟨m - 48, List.mem_range.mpr (by omega), by rw [show 48 + (m - 48) = m by omega]⟩)
set_option maxRecDepth 100000 in
theorem pM60_eq : (List.range 12).map (fun j => wCode (60 + j)) = [794, 801, 804, 730, 790, 156, 653, 892, 888, 959, 947, 1279].filterMap (fun i => lw_tbl[i]?) := by decide +kernel
set_option maxRecDepth 100000 in
theorem pM60_gd : ((List.range 12).map (fun j => wCode (60 + j))).all goodWord = true := by decide +kernel
theorem pM60_ok {m : Nat} (h0 : 60 ≤ m) (h : m < 72) : wCode m ∈ lw_good := lw_good_in _ _ pM60_eq pM60_gd (List.mem_map.mpr ⟨m - 60, List.mem_range.mpr (by omega), by rw [show 60 + (m - 60) = m by omega]⟩)
set_option maxRecDepth 100000 in
theorem pM72_eq : (List.range 12).map (fun j => wCode (72 + j)) = [1297, 238, 691, 1082, 366, 723, 836, 848, 820, 548, 1005, 1038].filterMap (fun i => lw_tbl[i]?) := by decide +kernel
set_option maxRecDepth 100000 in
theorem pM72_gd : ((List.range 12).map (fun j => wCode (72 + j))).all goodWord = true := by decide +kernel
theorem pM72_ok {m : Nat} (h0 : 72 ≤ m) (h : m < 84) : wCode m ∈ lw_good := lw_good_in _ _ pM72_eq pM72_gd (List.mem_map.mpr ⟨m - 72, List.mem_range.mpr (by omega), by rw [show 72 + (m - 72) = m by omega]⟩)
set_option maxRecDepth 100000 in
theorem pM84_eq : (List.range 12).map (fun j => wCode (84 + j)) = [1066, 1009, 1014, 1021, 1042, 1058, 1017, 1046, 1050, 1054, 1078, 1086].filterMap (fun i => lw_tbl[i]?) := by decide +kernel
set_option maxRecDepth 100000 in
theorem pM84_gd : ((List.range 12).map (fun j => wCode (84 + j))).all goodWord = true := by decide +kernel
theorem pM84_ok {m : Nat} (h0 : 84 ≤ m) (h : m < 96) : wCode m ∈ lw_good := lw_good_in _ _ pM84_eq pM84_gd (List.mem_map.mpr ⟨m - 84, List.mem_range.mpr (by omega), by rw [show 84 + (m - 84) = m by omega]⟩)
set_option maxRecDepth 100000 in
theorem pM96_eq : (List.range 12).map (fun j => wCode (96 + j)) = [1091, 1103, 1112, 1139, 1116, 1121, 1126, 1151, 1147, 1210, 1214, 1222].filterMap (fun i => lw_tbl[i]?) := by decide +kernel
set_option maxRecDepth 100000 in
theorem pM96_gd : ((List.range 12).map (fun j => wCode (96 + j))).all goodWord = true := by decide +kernel
theorem pM96_ok {m : Nat} (h0 : 96 ≤ m) (h : m < 108) : wCode m ∈ lw_good := lw_good_in _ _ pM96_eq pM96_gd (List.mem_map.mpr ⟨m - 96, List.mem_range.mpr (by omega), by rw [show 96 + (m - 96) = m by omega]⟩)
set_option maxRecDepth 100000 in
theorem pM108_eq : (List.range 12).map (fun j => wCode (108 + j)) = [150, 1293, 139, 649, 660, 664, 668, 672, 679, 683, 695, 699].filterMap (fun i => lw_tbl[i]?) := by decide +kernel
set_option maxRecDepth 100000 in
theorem pM108_gd : ((List.range 12).map (fun j => wCode (108 + j))).all goodWord = true := by decide +kernel
theorem pM108_ok {m : Nat} (h0 : 108 ≤ m) (h : m < 120) : wCode m ∈ lw_good := lw_good_in _ _ pM108_eq pM108_gd (List.mem_map.mpr ⟨m - 108, List.mem_range.mpr (by omega), by rw [show 108 + (m - 108) = m by omega]⟩)
set_option maxRecDepth 100000 in
theorem pM120_eq : (List.range 12).map (fun j => wCode (120 + j)) = [703, 711, 715, 853, 857, 869, 925, 963, 967, 974, 978, 1062].filterMap (fun i => lw_tbl[i]?) := by decide +kernel
set_option maxRecDepth 100000 in
theorem pM120_gd : ((List.range 12).map (fun j => wCode (120 + j))).all goodWord = true := by decide +kernel
theorem pM120_ok {m : Nat} (h0 : 120 ≤ m) (h : m < 132) : wCode m ∈ lw_good := lw_good_in _ _ pM120_eq pM120_gd (List.mem_map.mpr ⟨m - 120, List.mem_range.mpr (by omega), by rw [show 120 + (m - 120) = m by omega]⟩)
set_option maxRecDepth 100000 in
theorem pM132_eq : (List.range 12).map (fun j => wCode (132 + j)) = [1070, 1074, 1095, 1099, 1108, 1135, 1143, 1156, 1206, 1226, 1230, 1238].filterMap (fun i => lw_tbl[i]?) := by decide +kernel
set_option maxRecDepth 100000 in
theorem pM132_gd : ((List.range 12).map (fun j => wCode (132 + j))).all goodWord = true := by decide +kernel
theorem pM132_ok {m : Nat} (h0 : 132 ≤ m) (h : m < 144) : wCode m ∈ lw_good := lw_good_in _ _ pM132_eq pM132_gd (List.mem_map.mpr ⟨m - 132, List.mem_range.mpr (by omega), by rw [show 132 + (m - 132) = m by omega]⟩)
set_option maxRecDepth 100000 in
theorem pM144_eq : (List.range 12).map (fun j => wCode (144 + j)) = [1259, 1285, 1289, 1309, 1313, 687, 861, 865, 675, 872, 656, 145].filterMap (fun i => lw_tbl[i]?) := by decide +kernel
set_option maxRecDepth 100000 in
theorem pM144_gd : ((List.range 12).map (fun j => wCode (144 + j))).all goodWord = true := by decide +kernel
theorem pM144_ok {m : Nat} (h0 : 144 ≤ m) (h : m < 156) : wCode m ∈ lw_good := lw_good_in _ _ pM144_eq pM144_gd (List.mem_map.mpr ⟨m - 144, List.mem_range.mpr (by omega), by rw [show 144 + (m - 144) = m by omega]⟩)
set_option maxRecDepth 100000 in
theorem pM156_eq : (List.range 12).map (fun j => wCode (156 + j)) = [1321, 1326, 1478, 1475, 1497, 1681, 1677, 1471, 1482, 1486, 1490, 1494].filterMap (fun i => lw_tbl[i]?) := by decide +kernel
set_option maxRecDepth 100000 in
theorem pM156_gd : ((List.range 12).map (fun j => wCode (156 + j))).all goodWord = true := by decide +kernel
theorem pM156_ok {m : Nat} (h0 : 156 ≤ m) (h : m < 168) : wCode m ∈ lw_good := lw_good_in _ _ pM156_eq pM156_gd (List.mem_map.mpr ⟨m - 156, List.mem_range.mpr (by omega), by rw [show 156 + (m - 156) = m by omega]⟩)
set_option maxRecDepth 100000 in
theorem pM168_eq : (List.range 12).map (fun j => wCode (168 + j)) = [1501, 1508, 1511, 1505, 1515, 1519, 1527, 1523, 1531, 1547, 1554, 1550].filterMap (fun i => lw_tbl[i]?) := by decide +kernel
set_option maxRecDepth 100000 in
theorem pM168_gd : ((List.range 12).map (fun j => wCode (168 + j))).all goodWord = true := by decide +kernel
theorem pM168_ok {m : Nat} (h0 : 168 ≤ m) (h : m < 180) : wCode m ∈ lw_good := lw_good_in _ _ pM168_eq pM168_gd (List.mem_map.mpr ⟨m - 168, List.mem_range.mpr (by omega), by rw [show 168 + (m - 168) = m by omega]⟩)
set_option maxRecDepth 100000 in
theorem pM180_eq : (List.range 12).map (fun j => wCode (180 + j)) = [1543, 1565, 1620, 1572, 1625, 1569, 1601, 1605, 1609, 1597, 1617, 1629].filterMap (fun i => lw_tbl[i]?) := by decide +kernel
set_option maxRecDepth 100000 in
theorem pM180_gd : ((List.range 12).map (fun j => wCode (180 + j))).all goodWord = true := by decide +kernel
theorem pM180_ok {m : Nat} (h0 : 180 ≤ m) (h : m < 192) : wCode m ∈ lw_good := lw_good_in _ _ pM180_eq pM180_gd (List.mem_map.mpr ⟨m - 180, List.mem_range.mpr (by omega), by rw [show 180 + (m - 180) = m by omega]⟩)
set_option maxRecDepth 100000 in
theorem pM192_eq : (List.range 12).map (fun j => wCode (192 + j)) = [1613, 1589, 1585, 1593, 1581, 1641, 1637, 1633, 1562, 1577, 1558, 1539].filterMap (fun i => lw_tbl[i]?) := by decide +kernel
set_option maxRecDepth 100000 in
theorem pM192_gd : ((List.range 12).map (fun j => wCode (192 + j))).all goodWord = true := by decide +kernel
theorem pM192_ok {m : Nat} (h0 : 192 ≤ m) (h : m < 204) : wCode m ∈ lw_good := lw_good_in _ _ pM192_eq pM192_gd (List.mem_map.mpr ⟨m - 192, List.mem_range.mpr (by omega), by rw [show 192 + (m - 192) = m by omega]⟩)
set_option maxRecDepth 100000 in
theorem pM204_eq : (List.range 12).map (fun j => wCode (204 + j)) = [1535, 1646, 1650, 1715, 1712, 1720, 1709, 1705, 1701, 1693, 1689, 1697].filterMap (fun i => lw_tbl[i]?) := by decide +kernel
set_option maxRecDepth 100000 in
theorem pM204_gd : ((List.range 12).map (fun j => wCode (204 + j))).all goodWord = true := by decide +kernel
theorem pM204_ok {m : Nat} (h0 : 204 ≤ m) (h : m < 216) : wCode m ∈ lw_good := lw_good_in _ _ pM204_eq pM204_gd (List.mem_map.mpr ⟨m - 204, List.mem_range.mpr (by omega), by rw [show 204 + (m - 204) = m by omega]⟩)
set_option maxRecDepth 100000 in
theorem pM216_eq : (List.range 12).map (fun j => wCode (216 + j)) = [1724, 1685, 1756, 1859, 1744, 1752, 1740, 1665, 1657, 1673, 1736, 1661].filterMap (fun i => lw_tbl[i]?) := by decide +kernel
set_option maxRecDepth 100000 in
theorem pM216_gd : ((List.range 12).map (fun j => wCode (216 + j))).all goodWord = true := by decide +kernel
theorem pM216_ok {m : Nat} (h0 : 216 ≤ m) (h : m < 228) : wCode m ∈ lw_good := lw_good_in _ _ pM216_eq pM216_gd (List.mem_map.mpr ⟨m - 216, List.mem_range.mpr (by omega), by rw [show 216 + (m - 216) = m by omega]⟩)
set_option maxRecDepth 100000 in
theorem pM228_eq : (List.range 12).map (fun j => wCode (228 + j)) = [1669, 1654, 1733, 1748, 1729, 1760, 1764, 1768, 1784, 1780, 1799, 1803].filterMap (fun i => lw_tbl[i]?) := by decide +kernel
set_option maxRecDepth 100000 in
theorem pM228_gd : ((List.range 12).map (fun j => wCode (228 + j))).all goodWord = true := by decide +kernel
theorem pM228_ok {m : Nat} (h0 : 228 ≤ m) (h : m < 240) : wCode m ∈ lw_good := lw_good_in _ _ pM228_eq pM228_gd (List.mem_map.mpr ⟨m - 228, List.mem_range.mpr (by omega), by rw [show 228 + (m - 228) = m by omega]⟩)
set_option maxRecDepth 100000 in
theorem pM240_eq : (List.range 12).map (fun j => wCode (240 + j)) = [1787, 1795, 1791, 1776, 1807, 1811, 1815, 1772, 1819, 1823, 1831, 1827].filterMap (fun i => lw_tbl[i]?) := by decide +kernel
set_option maxRecDepth 100000 in
theorem pM240_gd : ((List.range 12).map (fun j => wCode (240 + j))).all goodWord = true := by decide +kernel
theorem pM240_ok {m : Nat} (h0 : 240 ≤ m) (h : m < 252) : wCode m ∈ lw_good := lw_good_in _ _ pM240_eq pM240_gd (List.mem_map.mpr ⟨m - 240, List.mem_range.mpr (by omega), by rw [show 240 + (m - 240) = m by omega]⟩)
set_option maxRecDepth 100000 in
theorem pM252_eq : (List.range 12).map (fun j => wCode (252 + j)) = [1835, 1843, 1839, 1855, 1851, 1847, 1863, 1871, 1867, 1891, 1895, 1883].filterMap (fun i => lw_tbl[i]?) := by decide +kernel
set_option maxRecDepth 100000 in
theorem pM252_gd : ((List.range 12).map (fun j => wCode (252 + j))).all goodWord = true := by decide +kernel
theorem pM252_ok {m : Nat} (h0 : 252 ≤ m) (h : m < 264) : wCode m ∈ lw_good := lw_good_in _ _ pM252_eq pM252_gd (List.mem_map.mpr ⟨m - 252, List.mem_range.mpr (by omega), by rw [show 252 + (m - 252) = m by omega]⟩)
set_option maxRecDepth 100000 in
theorem pM264_eq : (List.range 12).map (fun j => wCode (264 + j)) = [1899, 1903, 1879, 1887, 1907, 1875, 1911, 1915, 1919, 1927, 1923, 1937].filterMap (fun i => lw_tbl[i]?) := by decide +kernel
set_option maxRecDepth 100000 in
theorem pM264_gd : ((List.range 12).map (fun j => wCode (264 + j))).all goodWord = true := by decide +kernel
theorem pM264_ok {m : Nat} (h0 : 264 ≤ m) (h : m < 276) : wCode m ∈ lw_good := lw_good_in _ _ pM264_eq pM264_gd (List.mem_map.mpr ⟨m - 264, List.mem_range.mpr (by omega), by rw [show 264 + (m - 264) = m by omega]⟩)
set_option maxRecDepth 100000 in
theorem pM276_eq : (List.range 11).map (fun j => wCode (276 + j)) = [1949, 1945, 1953, 1957, 1941, 1933, 1961, 1965, 1969, 1973, 1316].filterMap (fun i => lw_tbl[i]?) := by decide +kernel
set_option maxRecDepth 100000 in
theorem pM276_gd : ((List.range 11).map (fun j => wCode (276 + j))).all goodWord = true := by decide +kernel
theorem pM276_ok {m : Nat} (h0 : 276 ≤ m) (h : m < 287) : wCode m ∈ lw_good := lw_good_in _ _ pM276_eq pM276_gd (List.mem_map.mpr ⟨m - 276, List.mem_range.mpr (by omega), by rw [show 276 + (m - 276) = m by omega]⟩)
theorem pM_ok {m : Nat} (h : m < 287) : wCode m ∈ lw_good := by
  by_cases h0 : m < 12
  · exact pM0_ok (by omega) h0
  by_cases h12 : m < 24
  · exact pM12_ok (by omega) h12
  by_cases h24 : m < 36
  · exact pM24_ok (by omega) h24
  by_cases h36 : m < 48
  · exact pM36_ok (by omega) h36
  by_cases h48 : m < 60
  · exact pM48_ok (by omega) h48
  by_cases h60 : m < 72
  · exact pM60_ok (by omega) h60
  by_cases h72 : m < 84
  · exact pM72_ok (by omega) h72
  by_cases h84 : m < 96
  · exact pM84_ok (by omega) h84
  by_cases h96 : m < 108
  · exact pM96_ok (by omega) h96
  by_cases h108 : m < 120
  · exact pM108_ok (by omega) h108
  by_cases h120 : m < 132
  · exact pM120_ok (by omega) h120
  by_cases h132 : m < 144
  · exact pM132_ok (by omega) h132
  by_cases h144 : m < 156
  · exact pM144_ok (by omega) h144
  by_cases h156 : m < 168
  · exact pM156_ok (by omega) h156
  by_cases h168 : m < 180
  · exact pM168_ok (by omega) h168
  by_cases h180 : m < 192
  · exact pM180_ok (by omega) h180
  by_cases h192 : m < 204
  · exact pM192_ok (by omega) h192
  by_cases h204 : m < 216
  · exact pM204_ok (by omega) h204
  by_cases h216 : m < 228
  · exact pM216_ok (by omega) h216
  by_cases h228 : m < 240
  · exact pM228_ok (by omega) h228
  by_cases h240 : m < 252
  · exact pM240_ok (by omega) h240
  by_cases h252 : m < 264
  · exact pM252_ok (by omega) h252
  by_cases h264 : m < 276
  · exact pM264_ok (by omega) h264
  exact pM276_ok (by omega) h
theorem pM_len : pM.length = 287 := by decide +kernel
def nM : Nat := 287
set_option maxRecDepth 100000 in
theorem tMth_eq : ((flatT tMth).filter (fun q => q.2.2.2.2 == 0)).map (fun q => wMth q.1 q.2) = [483, 882, 885, 944, 893, 918, 930, 931, 948, 1265, 1266, 1267, 1275, 1276, 1280, 1281, 1271, 897, 901, 902, 938, 939, 906, 910, 956, 1247, 1171, 1175, 1176, 1177, 1182, 1183, 1184, 1185, 1186, 1181, 1195, 1199, 983, 996, 1164, 990, 1000, 1001, 994, 995, 1026, 720, 724, 805, 809, 813, 817, 821, 825, 837, 845, 841, 833, 829, 728, 731, 788, 791, 798, 784, 802, 889, 553, 1006, 1011, 1015, 1018, 1022, 1027, 1028, 1032, 1034, 1043, 1055, 1051, 1047, 1079, 1083, 1087, 1104, 1113, 1117, 1118, 1123, 1122, 1127, 1131, 1148, 1211, 1215, 154, 236, 278, 1294, 1299, 1301, 143, 148, 364, 397, 443, 478, 507, 546, 593, 650, 654, 673, 684, 688, 704, 716, 858, 862, 870, 873, 877, 926, 934, 940, 952, 979, 1002, 1035, 1039, 1063, 1075, 1088, 1100, 1109, 1136, 1144, 1152, 1157, 1160, 1167, 1191, 1207, 1219, 1231, 1239, 1243, 1260, 1290, 1324, 1476, 1678, 1472, 1495, 1506, 1509, 1524, 1544, 1548, 1552, 1563, 1618, 1598, 1570, 1623, 1540, 1606, 1614, 1626, 1602, 1586, 1594, 1582, 1590, 1610, 1566, 1578, 1638, 1634, 1559, 1574, 1630, 1555, 1536, 1713, 1710, 1718, 1674, 1690, 1698, 1702, 1706, 1686, 1694, 1721, 1741, 1682, 1670, 1655, 1658, 1662, 1666, 1734, 1749, 1753, 1730, 1737, 1745, 1781, 1796, 1800, 1785, 1792, 1777, 1788, 1773, 1804, 1808, 1812, 1828, 1840, 1856, 1852, 1848, 1868, 1880, 1888, 1892, 1896, 1884, 1900, 1876, 1904, 1924, 1946, 1942, 1950, 1954, 1934, 1938, 1314, 137, 1319, 646, 1468, 657, 1479, 661, 1483, 665, 1487, 669, 1491, 676, 1498, 680, 1502, 692, 1512, 696, 1516, 700, 1520, 708, 1528, 712, 1532, 850, 1643, 854, 1647, 866, 1651, 922, 1726, 960, 1757, 964, 1761, 971, 1765, 975, 1769, 1059, 1816, 1067, 1820, 1071, 1824, 1092, 1832, 1096, 1836, 1105, 1844, 1132, 1860, 1140, 1864, 1153, 1872, 1203, 1908, 1223, 1912, 1227, 1916, 1235, 1920, 1256, 1930, 1282, 1958, 1286, 1962, 1306, 1966, 1310, 1970].filterMap (fun i => lw_tbl[i]?) := by decide +kernel
set_option maxRecDepth 100000 in
theorem tMth_gd : (((flatT tMth).filter (fun q => q.2.2.2.2 == 0)).map (fun q => wMth q.1 q.2)).all goodWord = true := by decide +kernel
theorem tMth_ok {o : Nat} {e : Nat × Nat × Nat × Nat} (ho : o < 14) (h : e ∈ tMth.getD o []) (h0 : e.2.2.2 = 0) : wMth o e ∈ lw_good := lw_good_in _ _ tMth_eq tMth_gd (List.mem_map.mpr ⟨(o, e), List.mem_filter.mpr ⟨flatT_in ho h, by simp [h0]⟩, rfl⟩)
def wKs (m : Nat) : Cond := .static (pMe m).2.1
set_option maxRecDepth 100000 in
theorem pKs_eq : ((List.range 287).filter (fun m => pKind.getD m 9 == 0)).map wKs = [883, 932, 911, 1158, 1165, 803, 729, 789, 1016, 674, 871, 655, 144, 1325, 1477, 1496, 1507, 1510, 1553, 1549, 1564, 1619, 1571, 1624, 1714, 1711, 1719, 1656, 1735, 1786, 1315].filterMap (fun i => lw_tbl[i]?) := by decide +kernel
set_option maxRecDepth 100000 in
theorem pKs_gd : (((List.range 287).filter (fun m => pKind.getD m 9 == 0)).map wKs).all goodWord = true := by decide +kernel
def wKi (m : Nat) : Cond := .instanceMethod (pMe m).2.1
set_option maxRecDepth 100000 in
theorem pKi_eq : ((List.range 287).filter (fun m => !(pKind.getD m 0 == 0))).map wKi = [479, 919, 1029, 878, 927, 941, 1261, 1269, 444, 874, 1216, 949, 1128, 894, 935, 1272, 899, 904, 908, 279, 1232, 953, 1240, 1244, 1249, 1302, 594, 1168, 1173, 1188, 1179, 1192, 1197, 1201, 508, 980, 1161, 985, 998, 992, 1023, 398, 705, 717, 807, 815, 811, 823, 839, 843, 827, 831, 726, 733, 786, 793, 800, 155, 651, 890, 886, 957, 945, 1277, 1295, 237, 689, 1080, 365, 721, 834, 846, 818, 547, 1003, 1036, 1064, 1008, 1013, 1020, 1040, 1057, 1045, 1049, 1053, 1076, 1085, 1089, 1101, 1110, 1137, 1115, 1120, 1125, 1149, 1145, 1208, 1213, 1220, 149, 1291, 138, 647, 658, 662, 666, 670, 677, 681, 693, 697, 701, 709, 713, 851, 855, 867, 923, 961, 965, 972, 976, 1060, 1068, 1072, 1093, 1097, 1106, 1133, 1141, 1154, 1204, 1224, 1228, 1236, 1257, 1283, 1287, 1307, 1311, 686, 860, 864, 1320, 1474, 1680, 1676, 1469, 1480, 1484, 1488, 1492, 1499, 1503, 1513, 1517, 1526, 1521, 1529, 1546, 1542, 1568, 1600, 1604, 1608, 1596, 1616, 1628, 1612, 1588, 1584, 1592, 1580, 1640, 1636, 1632, 1561, 1576, 1557, 1538, 1533, 1644, 1648, 1708, 1704, 1700, 1692, 1688, 1696, 1723, 1684, 1755, 1858, 1743, 1751, 1739, 1664, 1672, 1660, 1668, 1652, 1732, 1747, 1727, 1758, 1762, 1766, 1783, 1779, 1798, 1802, 1794, 1790, 1775, 1806, 1810, 1814, 1770, 1817, 1821, 1830, 1825, 1833, 1842, 1837, 1854, 1850, 1845, 1861, 1870, 1865, 1890, 1894, 1882, 1898, 1902, 1878, 1886, 1906, 1873, 1909, 1913, 1917, 1926, 1921, 1936, 1948, 1944, 1952, 1956, 1940, 1931, 1959, 1963, 1967, 1971].filterMap (fun i => lw_tbl[i]?) := by decide +kernel
set_option maxRecDepth 100000 in
theorem pKi_gd : (((List.range 287).filter (fun m => !(pKind.getD m 0 == 0))).map wKi).all goodWord = true := by decide +kernel
def wKv (m : Nat) : Cond := .selects (pMe m).2.1.cls (pMe m).2.1 (pMe m).2.1
set_option maxRecDepth 100000 in
theorem pKv_eq : ((List.range 287).filter (fun m => pKind.getD m 0 == 1)).map wKv = [920, 1030, 879, 928, 942, 1262, 40, 875, 1217, 950, 1129, 895, 936, 1273, 16, 17, 18, 1233, 954, 1241, 1245, 39, 1303, 1169, 33, 35, 34, 1193, 36, 37, 981, 1162, 19, 21, 20, 1024, 706, 718, 6, 8, 7, 9, 12, 13, 10, 11, 1, 2, 3, 4, 5, 652, 891, 887, 958, 946, 1278, 1296, 690, 1081, 722, 835, 847, 819, 1004, 1037, 1065, 22, 23, 24, 1041, 28, 25, 26, 27, 1077, 29, 1090, 1102, 1111, 1138, 30, 31, 32, 1150, 1146, 1209, 38, 1221, 1292, 648, 659, 663, 667, 671, 678, 682, 694, 698, 702, 710, 714, 852, 856, 868, 924, 962, 966, 973, 977, 1061, 1069, 1073, 1094, 1098, 1107, 1134, 1142, 1155, 1205, 1225, 1229, 1237, 1258, 1284, 1288, 1308, 1312, 0, 14, 15, 41, 69, 68, 1470, 1481, 1485, 1489, 1493, 1500, 1504, 1514, 1518, 42, 1522, 1530, 45, 44, 48, 55, 56, 57, 54, 59, 60, 58, 52, 51, 53, 50, 63, 62, 61, 47, 49, 46, 43, 1534, 1645, 1649, 76, 75, 74, 72, 71, 73, 77, 70, 83, 98, 80, 82, 79, 65, 67, 64, 66, 1653, 78, 81, 1728, 1759, 1763, 1767, 86, 85, 89, 90, 88, 87, 84, 91, 92, 93, 1771, 1818, 1822, 94, 1826, 1834, 95, 1838, 97, 96, 1846, 1862, 99, 1866, 103, 104, 101, 105, 106, 100, 102, 107, 1874, 1910, 1914, 1918, 108, 1922, 109, 112, 111, 113, 114, 110, 1932, 1960, 1964, 1968, 1972].filterMap (fun i => lw_tbl[i]?) := by decide +kernel
set_option maxRecDepth 100000 in
theorem pKv_gd : (((List.range 287).filter (fun m => pKind.getD m 0 == 1)).map wKv).all goodWord = true := by decide +kernel
theorem pKs_ok {m : Nat} (h : m < 287) (hk : pKind.getD m 9 = 0) : wKs m ∈ lw_good := lw_good_in _ _ pKs_eq pKs_gd (List.mem_map.mpr ⟨m, List.mem_filter.mpr ⟨List.mem_range.mpr h, by show (pKind.getD m 9 == 0) = true; rw [hk]; rfl⟩, rfl⟩)
theorem pKi_ok {m : Nat} (h : m < 287) (hk : pKind.getD m 0 ≠ 0) : wKi m ∈ lw_good := lw_good_in _ _ pKi_eq pKi_gd (List.mem_map.mpr ⟨m, List.mem_filter.mpr ⟨List.mem_range.mpr h, by show (!(pKind.getD m 0 == 0)) = true; rw [beq_eq_false_iff_ne.mpr hk]; rfl⟩, rfl⟩)
theorem pKv_ok {m : Nat} (h : m < 287) (hk : pKind.getD m 0 = 1) : wKv m ∈ lw_good := lw_good_in _ _ pKv_eq pKv_gd (List.mem_map.mpr ⟨m, List.mem_filter.mpr ⟨List.mem_range.mpr h, by show (pKind.getD m 0 == 1) = true; rw [hk]; rfl⟩, rfl⟩)
def wIni (o : Nat) : Cond := .initialized (pOwn o)
set_option maxRecDepth 100000 in
theorem pIni_eq : (List.range 14).map wIni = [124, 123, 120, 127, 125, 122, 118, 119, 121, 126, 117, 116, 128, 115].filterMap (fun i => lw_tbl[i]?) := by decide +kernel
set_option maxRecDepth 100000 in
theorem pIni_gd : ((List.range 14).map wIni).all goodWord = true := by decide +kernel
theorem pIni_ok {o : Nat} (h : o < 14) : wIni o ∈ lw_good := lw_good_in _ _ pIni_eq pIni_gd (List.mem_map.mpr ⟨o, List.mem_range.mpr h, rfl⟩)
def wInst (o : Nat) : Cond := .instantiable (pOwn o) (pCl o).2.2
set_option maxRecDepth 100000 in
theorem pInst_eq : (List.range 13).map wInst = [477, 442, 277, 592, 506, 396, 153, 235, 363, 545, 147, 136, 1318].filterMap (fun i => lw_tbl[i]?) := by decide +kernel
set_option maxRecDepth 100000 in
theorem pInst_gd : ((List.range 13).map wInst).all goodWord = true := by decide +kernel
theorem pInst_ok {o : Nat} (h : o < 13) : wInst o ∈ lw_good := lw_good_in _ _ pInst_eq pInst_gd (List.mem_map.mpr ⟨o, List.mem_range.mpr h, rfl⟩)
def wCls (o : Nat) (e : Nat × Nat) : Cond := .classLink (pOwn o) e.1 (if e.2 = 16 then "[[I" else pOwn e.2)
set_option maxRecDepth 100000 in
theorem tCls_eq : (flatT tCls).map (fun q => wCls q.1 q.2) = [482, 511, 550, 551, 152, 234, 276, 146, 361, 395, 441, 476, 505, 544, 591, 135, 1317].filterMap (fun i => lw_tbl[i]?) := by decide +kernel
set_option maxRecDepth 100000 in
theorem tCls_gd : ((flatT tCls).map (fun q => wCls q.1 q.2)).all goodWord = true := by decide +kernel
theorem tCls_ok {o : Nat} {e : Nat × Nat} (ho : o < 14) (h : e ∈ tCls.getD o []) : wCls o e ∈ lw_good := lw_good_in _ _ tCls_eq tCls_gd (List.mem_map.mpr ⟨(o, e), flatT_in ho h, rfl⟩)
def wCst (o : Nat) (e : Nat × Int32) : Cond := .constant (pOwn o) e.1 e.2
set_option maxRecDepth 100000 in
theorem tCst_eq : (flatT tCst).map (fun q => wCst q.1 q.2) = [914, 916, 1010, 1323, 1551].filterMap (fun i => lw_tbl[i]?) := by decide +kernel
set_option maxRecDepth 100000 in
theorem tCst_gd : ((flatT tCst).map (fun q => wCst q.1 q.2)).all goodWord = true := by decide +kernel
theorem tCst_ok {o : Nat} {e : Nat × Int32} (ho : o < 14) (h : e ∈ tCst.getD o []) : wCst o e ∈ lw_good := lw_good_in _ _ tCst_eq tCst_gd (List.mem_map.mpr ⟨(o, e), flatT_in ho h, rfl⟩)
def wCsl (o : Nat) (e : Nat × Int64) : Cond := .constantLong (pOwn o) e.1 e.2
set_option maxRecDepth 100000 in
theorem tCsl_eq : (flatT tCsl).map (fun q => wCsl q.1 q.2) = [913, 915, 1255, 1254, 1621, 1622, 1642, 1573, 1716, 1717, 1725, 1928, 1929].filterMap (fun i => lw_tbl[i]?) := by decide +kernel
set_option maxRecDepth 100000 in
theorem tCsl_gd : ((flatT tCsl).map (fun q => wCsl q.1 q.2)).all goodWord = true := by decide +kernel
theorem tCsl_ok {o : Nat} {e : Nat × Int64} (ho : o < 14) (h : e ∈ tCsl.getD o []) : wCsl o e ∈ lw_good := lw_good_in _ _ tCsl_eq tCsl_gd (List.mem_map.mpr ⟨(o, e), flatT_in ho h, rfl⟩)
def yStrLen : MethodName := ⟨"java/lang/String", "length", "()I"⟩
def yStrCh : MethodName := ⟨"java/lang/String", "charAt", "(I)C"⟩
def yJdk (k : Nat) : MethodName := match k with
  | 0 => Lib.objectInit
  | 1 => Lib.Math.max.name
  | 2 => Lib.Math.min.name
  | 3 => Lib.Math.abs.name
  | 4 => arraycopyName
  | 5 => yStrLen
  | _ => yStrCh
def wJdk (o : Nat) (e : Nat × Nat) : Cond := .methodLink (pOwn o) e.1 (yJdk e.2)
set_option maxRecDepth 100000 in
theorem tJdk_eq : (flatT tJdk).map (fun q => wJdk q.1 q.2) = [481, 1264, 446, 281, 1251, 1305, 596, 1190, 510, 987, 400, 736, 746, 795, 157, 1298, 239, 367, 549, 1033, 151, 1300, 140, 968, 1322].filterMap (fun i => lw_tbl[i]?) := by decide +kernel
set_option maxRecDepth 100000 in
theorem tJdk_gd : ((flatT tJdk).map (fun q => wJdk q.1 q.2)).all goodWord = true := by decide +kernel
theorem tJdk_ok {o : Nat} {e : Nat × Nat} (ho : o < 14) (h : e ∈ tJdk.getD o []) : wJdk o e ∈ lw_good := lw_good_in _ _ tJdk_eq tJdk_gd (List.mem_map.mpr ⟨(o, e), flatT_in ho h, rfl⟩)
def wLay : List Cond := (List.range 13).flatMap (fun ci => u_ws (pCl ci).1 (pCl ci).2.1 (pCl ci).2.2)
set_option maxRecDepth 100000 in
theorem pLay_eq : wLay = [492, 494, 496, 498, 500, 502, 457, 459, 461, 463, 465, 467, 469, 471, 473, 288, 290, 292, 294, 605, 607, 609, 611, 613, 615, 527, 529, 531, 533, 535, 537, 539, 541, 416, 418, 420, 422, 424, 426, 428, 430, 432, 434, 436, 438, 207, 209, 211, 213, 215, 217, 219, 221, 223, 225, 227, 229, 265, 267, 269, 271, 273, 382, 384, 386, 388, 390, 392, 566, 568, 570, 572, 574, 576, 578, 580, 582, 584, 586, 588, 336, 338, 340, 342, 344, 346, 348, 350, 352, 354, 356, 358, 627, 629, 631, 633, 635, 637, 639, 641, 643, 1372, 1374, 1376, 1378, 1380, 1382, 1384, 1386, 1388, 1390, 1392, 1394, 1396, 1398, 1400, 1402, 1404, 1406, 1408, 1410, 1412, 1414, 1416, 1418, 1420, 1422, 1424, 1426, 1428, 1430, 1432, 1434, 1436, 1438, 1440, 1442, 1444, 1446, 1448, 1450, 1452, 1454, 1456, 1458, 1460, 1462, 1464].filterMap (fun i => lw_tbl[i]?) := by decide +kernel
set_option maxRecDepth 100000 in
theorem pLay_gd : (wLay).all goodWord = true := by decide +kernel
theorem pLay_ok {ci : Nat} (h : ci < 13) : ∀ w ∈ u_ws (pCl ci).1 (pCl ci).2.1 (pCl ci).2.2, w ∈ lw_good := fun _ hw => lw_good_in _ _ pLay_eq pLay_gd (List.mem_flatMap.mpr ⟨ci, List.mem_range.mpr h, hw⟩)
def wArr : List Cond := [.arrayClass .int, .arrayClass .boolean, .arrayClass .byte, .arrayClass .long]
set_option maxRecDepth 100000 in
theorem pArr_eq : wArr = [232, 233, 849, 1467].filterMap (fun i => lw_tbl[i]?) := by decide +kernel
set_option maxRecDepth 100000 in
theorem pArr_gd : (wArr).all goodWord = true := by decide +kernel
def wBase : List Cond := [.instanceMethod Lib.objectInit, .code Lib.objectInit ⟨#[0xb1]⟩ 1 none, .native arraycopyName, .static arraycopyName, .initialized "java/lang/System", .initialized "java/lang/Math", .static Lib.Math.max.name, .code Lib.Math.max.name Lib.Math.max.code 2 (some .int), .static Lib.Math.min.name, .code Lib.Math.min.name Lib.Math.min.code 2 (some .int), .static Lib.Math.abs.name, .code Lib.Math.abs.name Lib.Math.abs.code 1 (some .int)]
set_option maxRecDepth 100000 in
theorem pBase_eq : wBase = [141, 142, 989, 988, 134, 133, 969, 970, 796, 797, 1252, 1253].filterMap (fun i => lw_tbl[i]?) := by decide +kernel
set_option maxRecDepth 100000 in
theorem pBase_gd : (wBase).all goodWord = true := by decide +kernel
theorem pBase_ok {w : Cond} (h : w ∈ wBase) : w ∈ lw_good := lw_good_in _ _ pBase_eq pBase_gd h
theorem pArr_ok {w : Cond} (h : w ∈ wArr) : w ∈ lw_good := lw_good_in _ _ pArr_eq pArr_gd h
