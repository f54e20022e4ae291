-- ===== PART A: goes FIRST, ahead of the names: the tables' words, and 'selects' of the private methods out of them =====
/-- a private method of a class that the tables say can be made, by its rows of tables_1 -/
def lw_okq (q : MethodName × Nat) : Prop := (q.1.cls ≠ "java/lang/invoke/MethodHandle" ∧ q.1.cls ≠ "java/lang/invoke/VarHandle") ∧ Cond.instantiable q.1.cls q.2 ∈ tables_1 ∧ Cond.privateMethod q.1 ∈ tables_1 ∧ Cond.instanceMethod q.1 ∈ tables_1
theorem lw_p0 : lw_okq (⟨"LehrBelt$Reader", "nextToken", "()V"⟩, 6) := ⟨⟨by decide +kernel, by decide +kernel⟩, List.mem_of_getElem? (i := 51) (by decide +kernel), List.mem_of_getElem? (i := 412) (by decide +kernel), List.mem_of_getElem? (i := 413) (by decide +kernel)⟩
theorem lw_p1 : lw_okq (⟨"LehrBelt$Reader", "readLine", "(LLehrBelt$Plan;)V"⟩, 6) := ⟨⟨by decide +kernel, by decide +kernel⟩, List.mem_of_getElem? (i := 51) (by decide +kernel), List.mem_of_getElem? (i := 426) (by decide +kernel), List.mem_of_getElem? (i := 427) (by decide +kernel)⟩
theorem lw_p2 : lw_okq (⟨"LehrBelt$Reader", "readHead", "(LLehrBelt$Plan;)V"⟩, 6) := ⟨⟨by decide +kernel, by decide +kernel⟩, List.mem_of_getElem? (i := 51) (by decide +kernel), List.mem_of_getElem? (i := 430) (by decide +kernel), List.mem_of_getElem? (i := 431) (by decide +kernel)⟩
theorem lw_p3 : lw_okq (⟨"LehrBelt$Reader", "expectWord", "(Ljava/lang/String;)V"⟩, 6) := ⟨⟨by decide +kernel, by decide +kernel⟩, List.mem_of_getElem? (i := 51) (by decide +kernel), List.mem_of_getElem? (i := 435) (by decide +kernel), List.mem_of_getElem? (i := 436) (by decide +kernel)⟩
theorem lw_p4 : lw_okq (⟨"LehrBelt$Reader", "isWord", "(Ljava/lang/String;)Z"⟩, 6) := ⟨⟨by decide +kernel, by decide +kernel⟩, List.mem_of_getElem? (i := 51) (by decide +kernel), List.mem_of_getElem? (i := 439) (by decide +kernel), List.mem_of_getElem? (i := 440) (by decide +kernel)⟩
theorem lw_p5 : lw_okq (⟨"LehrBelt$Reader", "fail", "(I)V"⟩, 6) := ⟨⟨by decide +kernel, by decide +kernel⟩, List.mem_of_getElem? (i := 51) (by decide +kernel), List.mem_of_getElem? (i := 491) (by decide +kernel), List.mem_of_getElem? (i := 492) (by decide +kernel)⟩
theorem lw_p6 : lw_okq (⟨"LehrBelt$Reader", "readNamed", "(Ljava/lang/String;II)I"⟩, 6) := ⟨⟨by decide +kernel, by decide +kernel⟩, List.mem_of_getElem? (i := 51) (by decide +kernel), List.mem_of_getElem? (i := 496) (by decide +kernel), List.mem_of_getElem? (i := 497) (by decide +kernel)⟩
theorem lw_p7 : lw_okq (⟨"LehrBelt$Reader", "tokenNumber", "()I"⟩, 6) := ⟨⟨by decide +kernel, by decide +kernel⟩, List.mem_of_getElem? (i := 51) (by decide +kernel), List.mem_of_getElem? (i := 500) (by decide +kernel), List.mem_of_getElem? (i := 501) (by decide +kernel)⟩
theorem lw_p8 : lw_okq (⟨"LehrBelt$Reader", "readZone", "(LLehrBelt$Plan;)V"⟩, 6) := ⟨⟨by decide +kernel, by decide +kernel⟩, List.mem_of_getElem? (i := 51) (by decide +kernel), List.mem_of_getElem? (i := 512) (by decide +kernel), List.mem_of_getElem? (i := 513) (by decide +kernel)⟩
theorem lw_p9 : lw_okq (⟨"LehrBelt$Reader", "readPiece", "(LLehrBelt$Plan;)V"⟩, 6) := ⟨⟨by decide +kernel, by decide +kernel⟩, List.mem_of_getElem? (i := 51) (by decide +kernel), List.mem_of_getElem? (i := 517) (by decide +kernel), List.mem_of_getElem? (i := 518) (by decide +kernel)⟩
theorem lw_p10 : lw_okq (⟨"LehrBelt$Reader", "expectSign", "()V"⟩, 6) := ⟨⟨by decide +kernel, by decide +kernel⟩, List.mem_of_getElem? (i := 51) (by decide +kernel), List.mem_of_getElem? (i := 525) (by decide +kernel), List.mem_of_getElem? (i := 526) (by decide +kernel)⟩
theorem lw_p11 : lw_okq (⟨"LehrBelt", "ofPieceAt", "(III)I"⟩, 11) := ⟨⟨by decide +kernel, by decide +kernel⟩, List.mem_of_getElem? (i := 22) (by decide +kernel), List.mem_of_getElem? (i := 616) (by decide +kernel), List.mem_of_getElem? (i := 617) (by decide +kernel)⟩
theorem lw_p12 : lw_okq (⟨"LehrBelt", "followedCourse", "()LLehrBelt$Course;"⟩, 11) := ⟨⟨by decide +kernel, by decide +kernel⟩, List.mem_of_getElem? (i := 22) (by decide +kernel), List.mem_of_getElem? (i := 620) (by decide +kernel), List.mem_of_getElem? (i := 621) (by decide +kernel)⟩
theorem lw_p13 : lw_okq (⟨"LehrBelt$Course", "begin", "(II)V"⟩, 10) := ⟨⟨by decide +kernel, by decide +kernel⟩, List.mem_of_getElem? (i := 220) (by decide +kernel), List.mem_of_getElem? (i := 629) (by decide +kernel), List.mem_of_getElem? (i := 630) (by decide +kernel)⟩
theorem lw_p14 : lw_okq (⟨"LehrBelt$Course", "advance", "(II)V"⟩, 10) := ⟨⟨by decide +kernel, by decide +kernel⟩, List.mem_of_getElem? (i := 220) (by decide +kernel), List.mem_of_getElem? (i := 634) (by decide +kernel), List.mem_of_getElem? (i := 635) (by decide +kernel)⟩
theorem lw_p15 : lw_okq (⟨"LehrBelt$Course", "meanAround", "(IIII)I"⟩, 10) := ⟨⟨by decide +kernel, by decide +kernel⟩, List.mem_of_getElem? (i := 220) (by decide +kernel), List.mem_of_getElem? (i := 639) (by decide +kernel), List.mem_of_getElem? (i := 640) (by decide +kernel)⟩
def lw_privs_1 : List (MethodName × Nat) := [(⟨"LehrBelt$Reader", "nextToken", "()V"⟩, 6), (⟨"LehrBelt$Reader", "readLine", "(LLehrBelt$Plan;)V"⟩, 6), (⟨"LehrBelt$Reader", "readHead", "(LLehrBelt$Plan;)V"⟩, 6), (⟨"LehrBelt$Reader", "expectWord", "(Ljava/lang/String;)V"⟩, 6), (⟨"LehrBelt$Reader", "isWord", "(Ljava/lang/String;)Z"⟩, 6), (⟨"LehrBelt$Reader", "fail", "(I)V"⟩, 6), (⟨"LehrBelt$Reader", "readNamed", "(Ljava/lang/String;II)I"⟩, 6), (⟨"LehrBelt$Reader", "tokenNumber", "()I"⟩, 6), (⟨"LehrBelt$Reader", "readZone", "(LLehrBelt$Plan;)V"⟩, 6), (⟨"LehrBelt$Reader", "readPiece", "(LLehrBelt$Plan;)V"⟩, 6), (⟨"LehrBelt$Reader", "expectSign", "()V"⟩, 6), (⟨"LehrBelt", "ofPieceAt", "(III)I"⟩, 11), (⟨"LehrBelt", "followedCourse", "()LLehrBelt$Course;"⟩, 11), (⟨"LehrBelt$Course", "begin", "(II)V"⟩, 10), (⟨"LehrBelt$Course", "advance", "(II)V"⟩, 10), (⟨"LehrBelt$Course", "meanAround", "(IIII)I"⟩, 10)]
theorem lw_r1 : ∀ q ∈ lw_privs_1, lw_okq q := List.forall_mem_cons.mpr ⟨lw_p0, List.forall_mem_cons.mpr ⟨lw_p1, List.forall_mem_cons.mpr ⟨lw_p2, List.forall_mem_cons.mpr ⟨lw_p3, List.forall_mem_cons.mpr ⟨lw_p4, List.forall_mem_cons.mpr ⟨lw_p5, List.forall_mem_cons.mpr ⟨lw_p6, List.forall_mem_cons.mpr ⟨lw_p7, List.forall_mem_cons.mpr ⟨lw_p8, List.forall_mem_cons.mpr ⟨lw_p9, List.forall_mem_cons.mpr ⟨lw_p10, List.forall_mem_cons.mpr ⟨lw_p11, List.forall_mem_cons.mpr ⟨lw_p12, List.forall_mem_cons.mpr ⟨lw_p13, List.forall_mem_cons.mpr ⟨lw_p14, List.forall_mem_cons.mpr ⟨lw_p15, fun _ h => absurd h List.not_mem_nil⟩⟩⟩⟩⟩⟩⟩⟩⟩⟩⟩⟩⟩⟩⟩⟩
theorem lw_p16 : lw_okq (⟨"LehrBelt$Course", "warmingBy", "(I)I"⟩, 10) := ⟨⟨by decide +kernel, by decide +kernel⟩, List.mem_of_getElem? (i := 220) (by decide +kernel), List.mem_of_getElem? (i := 643) (by decide +kernel), List.mem_of_getElem? (i := 644) (by decide +kernel)⟩
theorem lw_p17 : lw_okq (⟨"LehrBelt$Course", "setAndCrack", "(II)V"⟩, 10) := ⟨⟨by decide +kernel, by decide +kernel⟩, List.mem_of_getElem? (i := 220) (by decide +kernel), List.mem_of_getElem? (i := 648) (by decide +kernel), List.mem_of_getElem? (i := 649) (by decide +kernel)⟩
theorem lw_p18 : lw_okq (⟨"LehrBelt$Course", "crackingIn", "(I)I"⟩, 10) := ⟨⟨by decide +kernel, by decide +kernel⟩, List.mem_of_getElem? (i := 220) (by decide +kernel), List.mem_of_getElem? (i := 787) (by decide +kernel), List.mem_of_getElem? (i := 788) (by decide +kernel)⟩
theorem lw_p19 : lw_okq (⟨"LehrBelt", "airNow", "(II)I"⟩, 11) := ⟨⟨by decide +kernel, by decide +kernel⟩, List.mem_of_getElem? (i := 22) (by decide +kernel), List.mem_of_getElem? (i := 841) (by decide +kernel), List.mem_of_getElem? (i := 842) (by decide +kernel)⟩
theorem lw_p20 : lw_okq (⟨"LehrBelt", "airFall", "(II)I"⟩, 11) := ⟨⟨by decide +kernel, by decide +kernel⟩, List.mem_of_getElem? (i := 22) (by decide +kernel), List.mem_of_getElem? (i := 849) (by decide +kernel), List.mem_of_getElem? (i := 850) (by decide +kernel)⟩
theorem lw_p21 : lw_okq (⟨"LehrBelt$Trials", "isSound", "(I)Z"⟩, 6) := ⟨⟨by decide +kernel, by decide +kernel⟩, List.mem_of_getElem? (i := 262) (by decide +kernel), List.mem_of_getElem? (i := 988) (by decide +kernel), List.mem_of_getElem? (i := 989) (by decide +kernel)⟩
theorem lw_p22 : lw_okq (⟨"LehrBelt$Trials", "soundCount", "()I"⟩, 6) := ⟨⟨by decide +kernel, by decide +kernel⟩, List.mem_of_getElem? (i := 262) (by decide +kernel), List.mem_of_getElem? (i := 1005) (by decide +kernel), List.mem_of_getElem? (i := 1006) (by decide +kernel)⟩
theorem lw_p23 : lw_okq (⟨"LehrBelt", "refusalOfSeen", "(IZ)I"⟩, 11) := ⟨⟨by decide +kernel, by decide +kernel⟩, List.mem_of_getElem? (i := 22) (by decide +kernel), List.mem_of_getElem? (i := 1070) (by decide +kernel), List.mem_of_getElem? (i := 1071) (by decide +kernel)⟩
theorem lw_p24 : lw_okq (⟨"LehrBelt", "rowOf", "(I)LLehrBelt$Row;"⟩, 11) := ⟨⟨by decide +kernel, by decide +kernel⟩, List.mem_of_getElem? (i := 22) (by decide +kernel), List.mem_of_getElem? (i := 1074) (by decide +kernel), List.mem_of_getElem? (i := 1075) (by decide +kernel)⟩
theorem lw_p25 : lw_okq (⟨"LehrBelt$Trials", "agreesByAir", "(LLehrBelt$Row;II)Z"⟩, 6) := ⟨⟨by decide +kernel, by decide +kernel⟩, List.mem_of_getElem? (i := 262) (by decide +kernel), List.mem_of_getElem? (i := 1087) (by decide +kernel), List.mem_of_getElem? (i := 1088) (by decide +kernel)⟩
theorem lw_p26 : lw_okq (⟨"LehrBelt$Trials", "agrees", "(LLehrBelt$Row;)Z"⟩, 6) := ⟨⟨by decide +kernel, by decide +kernel⟩, List.mem_of_getElem? (i := 262) (by decide +kernel), List.mem_of_getElem? (i := 1091) (by decide +kernel), List.mem_of_getElem? (i := 1092) (by decide +kernel)⟩
theorem lw_p27 : lw_okq (⟨"LehrBelt$Trials", "soundBits", "()I"⟩, 6) := ⟨⟨by decide +kernel, by decide +kernel⟩, List.mem_of_getElem? (i := 262) (by decide +kernel), List.mem_of_getElem? (i := 1149) (by decide +kernel), List.mem_of_getElem? (i := 1150) (by decide +kernel)⟩
theorem lw_p28 : lw_okq (⟨"LehrBelt", "isPairOfZones", "(II)Z"⟩, 11) := ⟨⟨by decide +kernel, by decide +kernel⟩, List.mem_of_getElem? (i := 22) (by decide +kernel), List.mem_of_getElem? (i := 1205) (by decide +kernel), List.mem_of_getElem? (i := 1206) (by decide +kernel)⟩
theorem lw_p29 : lw_okq (⟨"LehrBelt", "isChanceStep", "(I)Z"⟩, 11) := ⟨⟨by decide +kernel, by decide +kernel⟩, List.mem_of_getElem? (i := 22) (by decide +kernel), List.mem_of_getElem? (i := 1226) (by decide +kernel), List.mem_of_getElem? (i := 1227) (by decide +kernel)⟩
theorem lw_p30 : lw_okq (⟨"LehrBelt$Odds", "weightOf", "(II)J"⟩, 3) := ⟨⟨by decide +kernel, by decide +kernel⟩, List.mem_of_getElem? (i := 304) (by decide +kernel), List.mem_of_getElem? (i := 1236) (by decide +kernel), List.mem_of_getElem? (i := 1237) (by decide +kernel)⟩
theorem lw_p31 : lw_okq (⟨"LehrBelt$Acts", "addAct", "(III)Z"⟩, 6) := ⟨⟨by decide +kernel, by decide +kernel⟩, List.mem_of_getElem? (i := 178) (by decide +kernel), List.mem_of_getElem? (i := 1257) (by decide +kernel), List.mem_of_getElem? (i := 1258) (by decide +kernel)⟩
def lw_privs_2 : List (MethodName × Nat) := [(⟨"LehrBelt$Course", "warmingBy", "(I)I"⟩, 10), (⟨"LehrBelt$Course", "setAndCrack", "(II)V"⟩, 10), (⟨"LehrBelt$Course", "crackingIn", "(I)I"⟩, 10), (⟨"LehrBelt", "airNow", "(II)I"⟩, 11), (⟨"LehrBelt", "airFall", "(II)I"⟩, 11), (⟨"LehrBelt$Trials", "isSound", "(I)Z"⟩, 6), (⟨"LehrBelt$Trials", "soundCount", "()I"⟩, 6), (⟨"LehrBelt", "refusalOfSeen", "(IZ)I"⟩, 11), (⟨"LehrBelt", "rowOf", "(I)LLehrBelt$Row;"⟩, 11), (⟨"LehrBelt$Trials", "agreesByAir", "(LLehrBelt$Row;II)Z"⟩, 6), (⟨"LehrBelt$Trials", "agrees", "(LLehrBelt$Row;)Z"⟩, 6), (⟨"LehrBelt$Trials", "soundBits", "()I"⟩, 6), (⟨"LehrBelt", "isPairOfZones", "(II)Z"⟩, 11), (⟨"LehrBelt", "isChanceStep", "(I)Z"⟩, 11), (⟨"LehrBelt$Odds", "weightOf", "(II)J"⟩, 3), (⟨"LehrBelt$Acts", "addAct", "(III)Z"⟩, 6)]
theorem lw_r2 : ∀ q ∈ lw_privs_2, lw_okq q := List.forall_mem_cons.mpr ⟨lw_p16, List.forall_mem_cons.mpr ⟨lw_p17, List.forall_mem_cons.mpr ⟨lw_p18, List.forall_mem_cons.mpr ⟨lw_p19, List.forall_mem_cons.mpr ⟨lw_p20, List.forall_mem_cons.mpr ⟨lw_p21, List.forall_mem_cons.mpr ⟨lw_p22, List.forall_mem_cons.mpr ⟨lw_p23, List.forall_mem_cons.mpr ⟨lw_p24, List.forall_mem_cons.mpr ⟨lw_p25, List.forall_mem_cons.mpr ⟨lw_p26, List.forall_mem_cons.mpr ⟨lw_p27, List.forall_mem_cons.mpr ⟨lw_p28, List.forall_mem_cons.mpr ⟨lw_p29, List.forall_mem_cons.mpr ⟨lw_p30, List.forall_mem_cons.mpr ⟨lw_p31, fun _ h => absurd h List.not_mem_nil⟩⟩⟩⟩⟩⟩⟩⟩⟩⟩⟩⟩⟩⟩⟩⟩
theorem lw_p32 : lw_okq (⟨"LehrBelt$Acts", "heatUp", "(III)V"⟩, 6) := ⟨⟨by decide +kernel, by decide +kernel⟩, List.mem_of_getElem? (i := 178) (by decide +kernel), List.mem_of_getElem? (i := 1261) (by decide +kernel), List.mem_of_getElem? (i := 1262) (by decide +kernel)⟩
theorem lw_p33 : lw_okq (⟨"LehrBelt", "soundNow", "()I"⟩, 11) := ⟨⟨by decide +kernel, by decide +kernel⟩, List.mem_of_getElem? (i := 22) (by decide +kernel), List.mem_of_getElem? (i := 1265) (by decide +kernel), List.mem_of_getElem? (i := 1266) (by decide +kernel)⟩
theorem lw_p34 : lw_okq (⟨"LehrBelt$Acts", "gatherGusts", "()V"⟩, 6) := ⟨⟨by decide +kernel, by decide +kernel⟩, List.mem_of_getElem? (i := 178) (by decide +kernel), List.mem_of_getElem? (i := 1285) (by decide +kernel), List.mem_of_getElem? (i := 1286) (by decide +kernel)⟩
theorem lw_p35 : lw_okq (⟨"LehrBelt", "slotsWithRows", "()I"⟩, 11) := ⟨⟨by decide +kernel, by decide +kernel⟩, List.mem_of_getElem? (i := 22) (by decide +kernel), List.mem_of_getElem? (i := 1328) (by decide +kernel), List.mem_of_getElem? (i := 1329) (by decide +kernel)⟩
theorem lw_p36 : lw_okq (⟨"LehrBelt$Row", "cutToWidth", "(J)J"⟩, 4) := ⟨⟨by decide +kernel, by decide +kernel⟩, List.mem_of_getElem? (i := 323) (by decide +kernel), List.mem_of_getElem? (i := 1364) (by decide +kernel), List.mem_of_getElem? (i := 1365) (by decide +kernel)⟩
theorem lw_p37 : lw_okq (⟨"LehrBeltModel", "four", "(I)V"⟩, 39) := ⟨⟨by decide +kernel, by decide +kernel⟩, List.mem_of_getElem? (i := 1377) (by decide +kernel), List.mem_of_getElem? (i := 1527) (by decide +kernel), List.mem_of_getElem? (i := 1528) (by decide +kernel)⟩
theorem lw_p38 : lw_okq (⟨"LehrBeltModel", "clears", "()V"⟩, 39) := ⟨⟨by decide +kernel, by decide +kernel⟩, List.mem_of_getElem? (i := 1377) (by decide +kernel), List.mem_of_getElem? (i := 1543) (by decide +kernel), List.mem_of_getElem? (i := 1544) (by decide +kernel)⟩
theorem lw_p39 : lw_okq (⟨"LehrBeltModel", "tells", "(II)V"⟩, 39) := ⟨⟨by decide +kernel, by decide +kernel⟩, List.mem_of_getElem? (i := 1377) (by decide +kernel), List.mem_of_getElem? (i := 1547) (by decide +kernel), List.mem_of_getElem? (i := 1548) (by decide +kernel)⟩
theorem lw_p40 : lw_okq (⟨"LehrBeltModel", "begins", "()V"⟩, 39) := ⟨⟨by decide +kernel, by decide +kernel⟩, List.mem_of_getElem? (i := 1377) (by decide +kernel), List.mem_of_getElem? (i := 1551) (by decide +kernel), List.mem_of_getElem? (i := 1552) (by decide +kernel)⟩
theorem lw_p41 : lw_okq (⟨"LehrBeltModel", "next", "()V"⟩, 39) := ⟨⟨by decide +kernel, by decide +kernel⟩, List.mem_of_getElem? (i := 1377) (by decide +kernel), List.mem_of_getElem? (i := 1555) (by decide +kernel), List.mem_of_getElem? (i := 1556) (by decide +kernel)⟩
theorem lw_p42 : lw_okq (⟨"LehrBeltModel", "isByte", "(III)Z"⟩, 39) := ⟨⟨by decide +kernel, by decide +kernel⟩, List.mem_of_getElem? (i := 1377) (by decide +kernel), List.mem_of_getElem? (i := 1559) (by decide +kernel), List.mem_of_getElem? (i := 1560) (by decide +kernel)⟩
theorem lw_p43 : lw_okq (⟨"LehrBeltModel", "isGood", "()Z"⟩, 39) := ⟨⟨by decide +kernel, by decide +kernel⟩, List.mem_of_getElem? (i := 1377) (by decide +kernel), List.mem_of_getElem? (i := 1568) (by decide +kernel), List.mem_of_getElem? (i := 1569) (by decide +kernel)⟩
theorem lw_p44 : lw_okq (⟨"LehrBeltModel", "asks", "(J)V"⟩, 39) := ⟨⟨by decide +kernel, by decide +kernel⟩, List.mem_of_getElem? (i := 1377) (by decide +kernel), List.mem_of_getElem? (i := 1573) (by decide +kernel), List.mem_of_getElem? (i := 1574) (by decide +kernel)⟩
theorem lw_p45 : lw_okq (⟨"LehrBeltModel", "takesWord", "(J)Z"⟩, 39) := ⟨⟨by decide +kernel, by decide +kernel⟩, List.mem_of_getElem? (i := 1377) (by decide +kernel), List.mem_of_getElem? (i := 1577) (by decide +kernel), List.mem_of_getElem? (i := 1578) (by decide +kernel)⟩
theorem lw_p46 : lw_okq (⟨"LehrBeltModel", "is", "(J)Z"⟩, 39) := ⟨⟨by decide +kernel, by decide +kernel⟩, List.mem_of_getElem? (i := 1377) (by decide +kernel), List.mem_of_getElem? (i := 1581) (by decide +kernel), List.mem_of_getElem? (i := 1582) (by decide +kernel)⟩
theorem lw_p47 : lw_okq (⟨"LehrBeltModel", "fails", "(I)V"⟩, 39) := ⟨⟨by decide +kernel, by decide +kernel⟩, List.mem_of_getElem? (i := 1377) (by decide +kernel), List.mem_of_getElem? (i := 1585) (by decide +kernel), List.mem_of_getElem? (i := 1586) (by decide +kernel)⟩
def lw_privs_3 : List (MethodName × Nat) := [(⟨"LehrBelt$Acts", "heatUp", "(III)V"⟩, 6), (⟨"LehrBelt", "soundNow", "()I"⟩, 11), (⟨"LehrBelt$Acts", "gatherGusts", "()V"⟩, 6), (⟨"LehrBelt", "slotsWithRows", "()I"⟩, 11), (⟨"LehrBelt$Row", "cutToWidth", "(J)J"⟩, 4), (⟨"LehrBeltModel", "four", "(I)V"⟩, 39), (⟨"LehrBeltModel", "clears", "()V"⟩, 39), (⟨"LehrBeltModel", "tells", "(II)V"⟩, 39), (⟨"LehrBeltModel", "begins", "()V"⟩, 39), (⟨"LehrBeltModel", "next", "()V"⟩, 39), (⟨"LehrBeltModel", "isByte", "(III)Z"⟩, 39), (⟨"LehrBeltModel", "isGood", "()Z"⟩, 39), (⟨"LehrBeltModel", "asks", "(J)V"⟩, 39), (⟨"LehrBeltModel", "takesWord", "(J)Z"⟩, 39), (⟨"LehrBeltModel", "is", "(J)Z"⟩, 39), (⟨"LehrBeltModel", "fails", "(I)V"⟩, 39)]
theorem lw_r3 : ∀ q ∈ lw_privs_3, lw_okq q := List.forall_mem_cons.mpr ⟨lw_p32, List.forall_mem_cons.mpr ⟨lw_p33, List.forall_mem_cons.mpr ⟨lw_p34, List.forall_mem_cons.mpr ⟨lw_p35, List.forall_mem_cons.mpr ⟨lw_p36, List.forall_mem_cons.mpr ⟨lw_p37, List.forall_mem_cons.mpr ⟨lw_p38, List.forall_mem_cons.mpr ⟨lw_p39, List.forall_mem_cons.mpr ⟨lw_p40, List.forall_mem_cons.mpr ⟨lw_p41, List.forall_mem_cons.mpr ⟨lw_p42, List.forall_mem_cons.mpr ⟨lw_p43, List.forall_mem_cons.mpr ⟨lw_p44, List.forall_mem_cons.mpr ⟨lw_p45, List.forall_mem_cons.mpr ⟨lw_p46, List.forall_mem_cons.mpr ⟨lw_p47, fun _ h => absurd h List.not_mem_nil⟩⟩⟩⟩⟩⟩⟩⟩⟩⟩⟩⟩⟩⟩⟩⟩
theorem lw_p48 : lw_okq (⟨"LehrBeltModel", "number", "(JII)I"⟩, 39) := ⟨⟨by decide +kernel, by decide +kernel⟩, List.mem_of_getElem? (i := 1377) (by decide +kernel), List.mem_of_getElem? (i := 1590) (by decide +kernel), List.mem_of_getElem? (i := 1591) (by decide +kernel)⟩
theorem lw_p49 : lw_okq (⟨"LehrBeltModel", "number", "(II)I"⟩, 39) := ⟨⟨by decide +kernel, by decide +kernel⟩, List.mem_of_getElem? (i := 1377) (by decide +kernel), List.mem_of_getElem? (i := 1594) (by decide +kernel), List.mem_of_getElem? (i := 1595) (by decide +kernel)⟩
theorem lw_p50 : lw_okq (⟨"LehrBeltModel", "lineHere", "()V"⟩, 39) := ⟨⟨by decide +kernel, by decide +kernel⟩, List.mem_of_getElem? (i := 1377) (by decide +kernel), List.mem_of_getElem? (i := 1602) (by decide +kernel), List.mem_of_getElem? (i := 1603) (by decide +kernel)⟩
theorem lw_p51 : lw_okq (⟨"LehrBeltModel", "isRoom", "(ZII)Z"⟩, 39) := ⟨⟨by decide +kernel, by decide +kernel⟩, List.mem_of_getElem? (i := 1377) (by decide +kernel), List.mem_of_getElem? (i := 1607) (by decide +kernel), List.mem_of_getElem? (i := 1608) (by decide +kernel)⟩
theorem lw_p52 : lw_okq (⟨"LehrBeltModel", "hasRead", "(I)I"⟩, 39) := ⟨⟨by decide +kernel, by decide +kernel⟩, List.mem_of_getElem? (i := 1377) (by decide +kernel), List.mem_of_getElem? (i := 1611) (by decide +kernel), List.mem_of_getElem? (i := 1612) (by decide +kernel)⟩
theorem lw_p53 : lw_okq (⟨"LehrBeltModel", "pieceLine", "()V"⟩, 39) := ⟨⟨by decide +kernel, by decide +kernel⟩, List.mem_of_getElem? (i := 1377) (by decide +kernel), List.mem_of_getElem? (i := 1616) (by decide +kernel), List.mem_of_getElem? (i := 1617) (by decide +kernel)⟩
theorem lw_p54 : lw_okq (⟨"LehrBeltModel", "ends", "()V"⟩, 39) := ⟨⟨by decide +kernel, by decide +kernel⟩, List.mem_of_getElem? (i := 1377) (by decide +kernel), List.mem_of_getElem? (i := 1624) (by decide +kernel), List.mem_of_getElem? (i := 1625) (by decide +kernel)⟩
theorem lw_p55 : lw_okq (⟨"LehrBeltModel", "isOver", "()V"⟩, 39) := ⟨⟨by decide +kernel, by decide +kernel⟩, List.mem_of_getElem? (i := 1377) (by decide +kernel), List.mem_of_getElem? (i := 1628) (by decide +kernel), List.mem_of_getElem? (i := 1629) (by decide +kernel)⟩
theorem lw_p56 : lw_okq (⟨"LehrBeltModel", "copyLehr", "(II)V"⟩, 39) := ⟨⟨by decide +kernel, by decide +kernel⟩, List.mem_of_getElem? (i := 1377) (by decide +kernel), List.mem_of_getElem? (i := 1632) (by decide +kernel), List.mem_of_getElem? (i := 1633) (by decide +kernel)⟩
theorem lw_p57 : lw_okq (⟨"LehrBeltModel", "isZone", "(I)Z"⟩, 39) := ⟨⟨by decide +kernel, by decide +kernel⟩, List.mem_of_getElem? (i := 1377) (by decide +kernel), List.mem_of_getElem? (i := 1643) (by decide +kernel), List.mem_of_getElem? (i := 1644) (by decide +kernel)⟩
theorem lw_p58 : lw_okq (⟨"LehrBeltModel", "isPiece", "(J)Z"⟩, 39) := ⟨⟨by decide +kernel, by decide +kernel⟩, List.mem_of_getElem? (i := 1377) (by decide +kernel), List.mem_of_getElem? (i := 1651) (by decide +kernel), List.mem_of_getElem? (i := 1652) (by decide +kernel)⟩
theorem lw_p59 : lw_okq (⟨"LehrBeltModel", "pieces", "()I"⟩, 39) := ⟨⟨by decide +kernel, by decide +kernel⟩, List.mem_of_getElem? (i := 1377) (by decide +kernel), List.mem_of_getElem? (i := 1655) (by decide +kernel), List.mem_of_getElem? (i := 1656) (by decide +kernel)⟩
theorem lw_p60 : lw_okq (⟨"LehrBeltModel", "isStep", "(J)Z"⟩, 39) := ⟨⟨by decide +kernel, by decide +kernel⟩, List.mem_of_getElem? (i := 1377) (by decide +kernel), List.mem_of_getElem? (i := 1663) (by decide +kernel), List.mem_of_getElem? (i := 1664) (by decide +kernel)⟩
theorem lw_p61 : lw_okq (⟨"LehrBeltModel", "isLehr", "()Z"⟩, 39) := ⟨⟨by decide +kernel, by decide +kernel⟩, List.mem_of_getElem? (i := 1377) (by decide +kernel), List.mem_of_getElem? (i := 1667) (by decide +kernel), List.mem_of_getElem? (i := 1668) (by decide +kernel)⟩
theorem lw_p62 : lw_okq (⟨"LehrBeltModel", "steps", "()I"⟩, 39) := ⟨⟨by decide +kernel, by decide +kernel⟩, List.mem_of_getElem? (i := 1377) (by decide +kernel), List.mem_of_getElem? (i := 1671) (by decide +kernel), List.mem_of_getElem? (i := 1672) (by decide +kernel)⟩
theorem lw_p63 : lw_okq (⟨"LehrBeltModel", "lays", "()V"⟩, 39) := ⟨⟨by decide +kernel, by decide +kernel⟩, List.mem_of_getElem? (i := 1377) (by decide +kernel), List.mem_of_getElem? (i := 1675) (by decide +kernel), List.mem_of_getElem? (i := 1676) (by decide +kernel)⟩
def lw_privs_4 : List (MethodName × Nat) := [(⟨"LehrBeltModel", "number", "(JII)I"⟩, 39), (⟨"LehrBeltModel", "number", "(II)I"⟩, 39), (⟨"LehrBeltModel", "lineHere", "()V"⟩, 39), (⟨"LehrBeltModel", "isRoom", "(ZII)Z"⟩, 39), (⟨"LehrBeltModel", "hasRead", "(I)I"⟩, 39), (⟨"LehrBeltModel", "pieceLine", "()V"⟩, 39), (⟨"LehrBeltModel", "ends", "()V"⟩, 39), (⟨"LehrBeltModel", "isOver", "()V"⟩, 39), (⟨"LehrBeltModel", "copyLehr", "(II)V"⟩, 39), (⟨"LehrBeltModel", "isZone", "(I)Z"⟩, 39), (⟨"LehrBeltModel", "isPiece", "(J)Z"⟩, 39), (⟨"LehrBeltModel", "pieces", "()I"⟩, 39), (⟨"LehrBeltModel", "isStep", "(J)Z"⟩, 39), (⟨"LehrBeltModel", "isLehr", "()Z"⟩, 39), (⟨"LehrBeltModel", "steps", "()I"⟩, 39), (⟨"LehrBeltModel", "lays", "()V"⟩, 39)]
theorem lw_r4 : ∀ q ∈ lw_privs_4, lw_okq q := List.forall_mem_cons.mpr ⟨lw_p48, List.forall_mem_cons.mpr ⟨lw_p49, List.forall_mem_cons.mpr ⟨lw_p50, List.forall_mem_cons.mpr ⟨lw_p51, List.forall_mem_cons.mpr ⟨lw_p52, List.forall_mem_cons.mpr ⟨lw_p53, List.forall_mem_cons.mpr ⟨lw_p54, List.forall_mem_cons.mpr ⟨lw_p55, List.forall_mem_cons.mpr ⟨lw_p56, List.forall_mem_cons.mpr ⟨lw_p57, List.forall_mem_cons.mpr ⟨lw_p58, List.forall_mem_cons.mpr ⟨lw_p59, List.forall_mem_cons.mpr ⟨lw_p60, List.forall_mem_cons.mpr ⟨lw_p61, List.forall_mem_cons.mpr ⟨lw_p62, List.forall_mem_cons.mpr ⟨lw_p63, fun _ h => absurd h List.not_mem_nil⟩⟩⟩⟩⟩⟩⟩⟩⟩⟩⟩⟩⟩⟩⟩⟩
theorem lw_p64 : lw_okq (⟨"LehrBeltModel", "airOf", "(II)I"⟩, 39) := ⟨⟨by decide +kernel, by decide +kernel⟩, List.mem_of_getElem? (i := 1377) (by decide +kernel), List.mem_of_getElem? (i := 1679) (by decide +kernel), List.mem_of_getElem? (i := 1680) (by decide +kernel)⟩
theorem lw_p65 : lw_okq (⟨"LehrBeltModel", "isThen", "(II)Z"⟩, 39) := ⟨⟨by decide +kernel, by decide +kernel⟩, List.mem_of_getElem? (i := 1377) (by decide +kernel), List.mem_of_getElem? (i := 1693) (by decide +kernel), List.mem_of_getElem? (i := 1694) (by decide +kernel)⟩
theorem lw_p66 : lw_okq (⟨"LehrBeltModel", "whereOf", "(II)I"⟩, 39) := ⟨⟨by decide +kernel, by decide +kernel⟩, List.mem_of_getElem? (i := 1377) (by decide +kernel), List.mem_of_getElem? (i := 1697) (by decide +kernel), List.mem_of_getElem? (i := 1698) (by decide +kernel)⟩
theorem lw_p67 : lw_okq (⟨"LehrBeltModel", "comes", "(I)I"⟩, 39) := ⟨⟨by decide +kernel, by decide +kernel⟩, List.mem_of_getElem? (i := 1377) (by decide +kernel), List.mem_of_getElem? (i := 1701) (by decide +kernel), List.mem_of_getElem? (i := 1702) (by decide +kernel)⟩
theorem lw_p68 : lw_okq (⟨"LehrBeltModel", "insideOf", "(II)I"⟩, 39) := ⟨⟨by decide +kernel, by decide +kernel⟩, List.mem_of_getElem? (i := 1377) (by decide +kernel), List.mem_of_getElem? (i := 1709) (by decide +kernel), List.mem_of_getElem? (i := 1710) (by decide +kernel)⟩
theorem lw_p69 : lw_okq (⟨"LehrBeltModel", "laysNow", "()V"⟩, 39) := ⟨⟨by decide +kernel, by decide +kernel⟩, List.mem_of_getElem? (i := 1377) (by decide +kernel), List.mem_of_getElem? (i := 1725) (by decide +kernel), List.mem_of_getElem? (i := 1726) (by decide +kernel)⟩
theorem lw_p70 : lw_okq (⟨"LehrBeltModel", "runs", "()V"⟩, 39) := ⟨⟨by decide +kernel, by decide +kernel⟩, List.mem_of_getElem? (i := 1377) (by decide +kernel), List.mem_of_getElem? (i := 1729) (by decide +kernel), List.mem_of_getElem? (i := 1730) (by decide +kernel)⟩
theorem lw_p71 : lw_okq (⟨"LehrBeltModel", "goesOn", "(II)V"⟩, 39) := ⟨⟨by decide +kernel, by decide +kernel⟩, List.mem_of_getElem? (i := 1377) (by decide +kernel), List.mem_of_getElem? (i := 1733) (by decide +kernel), List.mem_of_getElem? (i := 1734) (by decide +kernel)⟩
theorem lw_p72 : lw_okq (⟨"LehrBeltModel", "skinOf", "(II)I"⟩, 39) := ⟨⟨by decide +kernel, by decide +kernel⟩, List.mem_of_getElem? (i := 1377) (by decide +kernel), List.mem_of_getElem? (i := 1737) (by decide +kernel), List.mem_of_getElem? (i := 1738) (by decide +kernel)⟩
theorem lw_p73 : lw_okq (⟨"LehrBeltModel", "coreOf", "(II)I"⟩, 39) := ⟨⟨by decide +kernel, by decide +kernel⟩, List.mem_of_getElem? (i := 1377) (by decide +kernel), List.mem_of_getElem? (i := 1741) (by decide +kernel), List.mem_of_getElem? (i := 1742) (by decide +kernel)⟩
theorem lw_p74 : lw_okq (⟨"LehrBeltModel", "pullOf", "(III)I"⟩, 39) := ⟨⟨by decide +kernel, by decide +kernel⟩, List.mem_of_getElem? (i := 1377) (by decide +kernel), List.mem_of_getElem? (i := 1745) (by decide +kernel), List.mem_of_getElem? (i := 1746) (by decide +kernel)⟩
theorem lw_p75 : lw_okq (⟨"LehrBeltModel", "strainOf", "(II)I"⟩, 39) := ⟨⟨by decide +kernel, by decide +kernel⟩, List.mem_of_getElem? (i := 1377) (by decide +kernel), List.mem_of_getElem? (i := 1752) (by decide +kernel), List.mem_of_getElem? (i := 1753) (by decide +kernel)⟩
theorem lw_p76 : lw_okq (⟨"LehrBeltModel", "peakOf", "(I)I"⟩, 39) := ⟨⟨by decide +kernel, by decide +kernel⟩, List.mem_of_getElem? (i := 1377) (by decide +kernel), List.mem_of_getElem? (i := 1771) (by decide +kernel), List.mem_of_getElem? (i := 1772) (by decide +kernel)⟩
theorem lw_p77 : lw_okq (⟨"LehrBeltModel", "hasCome", "(II)Z"⟩, 39) := ⟨⟨by decide +kernel, by decide +kernel⟩, List.mem_of_getElem? (i := 1377) (by decide +kernel), List.mem_of_getElem? (i := 1799) (by decide +kernel), List.mem_of_getElem? (i := 1800) (by decide +kernel)⟩
theorem lw_p78 : lw_okq (⟨"LehrBeltModel", "isWhole", "(II)Z"⟩, 39) := ⟨⟨by decide +kernel, by decide +kernel⟩, List.mem_of_getElem? (i := 1377) (by decide +kernel), List.mem_of_getElem? (i := 1803) (by decide +kernel), List.mem_of_getElem? (i := 1804) (by decide +kernel)⟩
theorem lw_p79 : lw_okq (⟨"LehrBeltModel", "soundNow", "()I"⟩, 39) := ⟨⟨by decide +kernel, by decide +kernel⟩, List.mem_of_getElem? (i := 1377) (by decide +kernel), List.mem_of_getElem? (i := 1811) (by decide +kernel), List.mem_of_getElem? (i := 1812) (by decide +kernel)⟩
def lw_privs_5 : List (MethodName × Nat) := [(⟨"LehrBeltModel", "airOf", "(II)I"⟩, 39), (⟨"LehrBeltModel", "isThen", "(II)Z"⟩, 39), (⟨"LehrBeltModel", "whereOf", "(II)I"⟩, 39), (⟨"LehrBeltModel", "comes", "(I)I"⟩, 39), (⟨"LehrBeltModel", "insideOf", "(II)I"⟩, 39), (⟨"LehrBeltModel", "laysNow", "()V"⟩, 39), (⟨"LehrBeltModel", "runs", "()V"⟩, 39), (⟨"LehrBeltModel", "goesOn", "(II)V"⟩, 39), (⟨"LehrBeltModel", "skinOf", "(II)I"⟩, 39), (⟨"LehrBeltModel", "coreOf", "(II)I"⟩, 39), (⟨"LehrBeltModel", "pullOf", "(III)I"⟩, 39), (⟨"LehrBeltModel", "strainOf", "(II)I"⟩, 39), (⟨"LehrBeltModel", "peakOf", "(I)I"⟩, 39), (⟨"LehrBeltModel", "hasCome", "(II)Z"⟩, 39), (⟨"LehrBeltModel", "isWhole", "(II)Z"⟩, 39), (⟨"LehrBeltModel", "soundNow", "()I"⟩, 39)]
theorem lw_r5 : ∀ q ∈ lw_privs_5, lw_okq q := List.forall_mem_cons.mpr ⟨lw_p64, List.forall_mem_cons.mpr ⟨lw_p65, List.forall_mem_cons.mpr ⟨lw_p66, List.forall_mem_cons.mpr ⟨lw_p67, List.forall_mem_cons.mpr ⟨lw_p68, List.forall_mem_cons.mpr ⟨lw_p69, List.forall_mem_cons.mpr ⟨lw_p70, List.forall_mem_cons.mpr ⟨lw_p71, List.forall_mem_cons.mpr ⟨lw_p72, List.forall_mem_cons.mpr ⟨lw_p73, List.forall_mem_cons.mpr ⟨lw_p74, List.forall_mem_cons.mpr ⟨lw_p75, List.forall_mem_cons.mpr ⟨lw_p76, List.forall_mem_cons.mpr ⟨lw_p77, List.forall_mem_cons.mpr ⟨lw_p78, List.forall_mem_cons.mpr ⟨lw_p79, fun _ h => absurd h List.not_mem_nil⟩⟩⟩⟩⟩⟩⟩⟩⟩⟩⟩⟩⟩⟩⟩⟩
theorem lw_p80 : lw_okq (⟨"LehrBeltModel", "mostAt", "(II)I"⟩, 39) := ⟨⟨by decide +kernel, by decide +kernel⟩, List.mem_of_getElem? (i := 1377) (by decide +kernel), List.mem_of_getElem? (i := 1823) (by decide +kernel), List.mem_of_getElem? (i := 1824) (by decide +kernel)⟩
theorem lw_p81 : lw_okq (⟨"LehrBeltModel", "markOf", "(III)I"⟩, 39) := ⟨⟨by decide +kernel, by decide +kernel⟩, List.mem_of_getElem? (i := 1377) (by decide +kernel), List.mem_of_getElem? (i := 1827) (by decide +kernel), List.mem_of_getElem? (i := 1828) (by decide +kernel)⟩
theorem lw_p82 : lw_okq (⟨"LehrBeltModel", "crackedIn", "(I)I"⟩, 39) := ⟨⟨by decide +kernel, by decide +kernel⟩, List.mem_of_getElem? (i := 1377) (by decide +kernel), List.mem_of_getElem? (i := 1847) (by decide +kernel), List.mem_of_getElem? (i := 1848) (by decide +kernel)⟩
theorem lw_p83 : lw_okq (⟨"LehrBeltModel", "fallOf", "(II)I"⟩, 39) := ⟨⟨by decide +kernel, by decide +kernel⟩, List.mem_of_getElem? (i := 1377) (by decide +kernel), List.mem_of_getElem? (i := 1891) (by decide +kernel), List.mem_of_getElem? (i := 1892) (by decide +kernel)⟩
theorem lw_p84 : lw_okq (⟨"LehrBeltModel", "dropOf", "(II)I"⟩, 39) := ⟨⟨by decide +kernel, by decide +kernel⟩, List.mem_of_getElem? (i := 1377) (by decide +kernel), List.mem_of_getElem? (i := 1907) (by decide +kernel), List.mem_of_getElem? (i := 1908) (by decide +kernel)⟩
theorem lw_p85 : lw_okq (⟨"LehrBeltModel", "isAhead", "(I)Z"⟩, 39) := ⟨⟨by decide +kernel, by decide +kernel⟩, List.mem_of_getElem? (i := 1377) (by decide +kernel), List.mem_of_getElem? (i := 1915) (by decide +kernel), List.mem_of_getElem? (i := 1916) (by decide +kernel)⟩
theorem lw_p86 : lw_okq (⟨"LehrBeltModel", "busyOf", "(I)I"⟩, 39) := ⟨⟨by decide +kernel, by decide +kernel⟩, List.mem_of_getElem? (i := 1377) (by decide +kernel), List.mem_of_getElem? (i := 1949) (by decide +kernel), List.mem_of_getElem? (i := 1950) (by decide +kernel)⟩
theorem lw_p87 : lw_okq (⟨"LehrBeltModel", "isSound", "(I)Z"⟩, 39) := ⟨⟨by decide +kernel, by decide +kernel⟩, List.mem_of_getElem? (i := 1377) (by decide +kernel), List.mem_of_getElem? (i := 1965) (by decide +kernel), List.mem_of_getElem? (i := 1966) (by decide +kernel)⟩
theorem lw_p88 : lw_okq (⟨"LehrBeltModel", "bestPace", "()I"⟩, 39) := ⟨⟨by decide +kernel, by decide +kernel⟩, List.mem_of_getElem? (i := 1377) (by decide +kernel), List.mem_of_getElem? (i := 1981) (by decide +kernel), List.mem_of_getElem? (i := 1982) (by decide +kernel)⟩
theorem lw_p89 : lw_okq (⟨"LehrBeltModel", "soundBy", "(I)I"⟩, 39) := ⟨⟨by decide +kernel, by decide +kernel⟩, List.mem_of_getElem? (i := 1377) (by decide +kernel), List.mem_of_getElem? (i := 1985) (by decide +kernel), List.mem_of_getElem? (i := 1986) (by decide +kernel)⟩
theorem lw_p90 : lw_okq (⟨"LehrBeltModel", "raiseOf", "(II)I"⟩, 39) := ⟨⟨by decide +kernel, by decide +kernel⟩, List.mem_of_getElem? (i := 1377) (by decide +kernel), List.mem_of_getElem? (i := 1997) (by decide +kernel), List.mem_of_getElem? (i := 1998) (by decide +kernel)⟩
theorem lw_p91 : lw_okq (⟨"LehrBeltModel", "skips", "(I)V"⟩, 39) := ⟨⟨by decide +kernel, by decide +kernel⟩, List.mem_of_getElem? (i := 1377) (by decide +kernel), List.mem_of_getElem? (i := 2013) (by decide +kernel), List.mem_of_getElem? (i := 2014) (by decide +kernel)⟩
theorem lw_p92 : lw_okq (⟨"LehrBeltModel", "whyNot", "(IZ)I"⟩, 39) := ⟨⟨by decide +kernel, by decide +kernel⟩, List.mem_of_getElem? (i := 1377) (by decide +kernel), List.mem_of_getElem? (i := 2021) (by decide +kernel), List.mem_of_getElem? (i := 2022) (by decide +kernel)⟩
theorem lw_p93 : lw_okq (⟨"LehrBeltModel", "laysSeen", "(II)V"⟩, 39) := ⟨⟨by decide +kernel, by decide +kernel⟩, List.mem_of_getElem? (i := 1377) (by decide +kernel), List.mem_of_getElem? (i := 2026) (by decide +kernel), List.mem_of_getElem? (i := 2027) (by decide +kernel)⟩
theorem lw_p94 : lw_okq (⟨"LehrBeltModel", "isSo", "(I)Z"⟩, 39) := ⟨⟨by decide +kernel, by decide +kernel⟩, List.mem_of_getElem? (i := 1377) (by decide +kernel), List.mem_of_getElem? (i := 2030) (by decide +kernel), List.mem_of_getElem? (i := 2031) (by decide +kernel)⟩
theorem lw_p95 : lw_okq (⟨"LehrBeltModel", "byLaw", "(I)I"⟩, 39) := ⟨⟨by decide +kernel, by decide +kernel⟩, List.mem_of_getElem? (i := 1377) (by decide +kernel), List.mem_of_getElem? (i := 2050) (by decide +kernel), List.mem_of_getElem? (i := 2051) (by decide +kernel)⟩
def lw_privs_6 : List (MethodName × Nat) := [(⟨"LehrBeltModel", "mostAt", "(II)I"⟩, 39), (⟨"LehrBeltModel", "markOf", "(III)I"⟩, 39), (⟨"LehrBeltModel", "crackedIn", "(I)I"⟩, 39), (⟨"LehrBeltModel", "fallOf", "(II)I"⟩, 39), (⟨"LehrBeltModel", "dropOf", "(II)I"⟩, 39), (⟨"LehrBeltModel", "isAhead", "(I)Z"⟩, 39), (⟨"LehrBeltModel", "busyOf", "(I)I"⟩, 39), (⟨"LehrBeltModel", "isSound", "(I)Z"⟩, 39), (⟨"LehrBeltModel", "bestPace", "()I"⟩, 39), (⟨"LehrBeltModel", "soundBy", "(I)I"⟩, 39), (⟨"LehrBeltModel", "raiseOf", "(II)I"⟩, 39), (⟨"LehrBeltModel", "skips", "(I)V"⟩, 39), (⟨"LehrBeltModel", "whyNot", "(IZ)I"⟩, 39), (⟨"LehrBeltModel", "laysSeen", "(II)V"⟩, 39), (⟨"LehrBeltModel", "isSo", "(I)Z"⟩, 39), (⟨"LehrBeltModel", "byLaw", "(I)I"⟩, 39)]
theorem lw_r6 : ∀ q ∈ lw_privs_6, lw_okq q := List.forall_mem_cons.mpr ⟨lw_p80, List.forall_mem_cons.mpr ⟨lw_p81, List.forall_mem_cons.mpr ⟨lw_p82, List.forall_mem_cons.mpr ⟨lw_p83, List.forall_mem_cons.mpr ⟨lw_p84, List.forall_mem_cons.mpr ⟨lw_p85, List.forall_mem_cons.mpr ⟨lw_p86, List.forall_mem_cons.mpr ⟨lw_p87, List.forall_mem_cons.mpr ⟨lw_p88, List.forall_mem_cons.mpr ⟨lw_p89, List.forall_mem_cons.mpr ⟨lw_p90, List.forall_mem_cons.mpr ⟨lw_p91, List.forall_mem_cons.mpr ⟨lw_p92, List.forall_mem_cons.mpr ⟨lw_p93, List.forall_mem_cons.mpr ⟨lw_p94, List.forall_mem_cons.mpr ⟨lw_p95, fun _ h => absurd h List.not_mem_nil⟩⟩⟩⟩⟩⟩⟩⟩⟩⟩⟩⟩⟩⟩⟩⟩
theorem lw_p96 : lw_okq (⟨"LehrBeltModel", "worthOf", "(I)I"⟩, 39) := ⟨⟨by decide +kernel, by decide +kernel⟩, List.mem_of_getElem? (i := 1377) (by decide +kernel), List.mem_of_getElem? (i := 2066) (by decide +kernel), List.mem_of_getElem? (i := 2067) (by decide +kernel)⟩
theorem lw_p97 : lw_okq (⟨"LehrBeltModel", "areTwo", "(II)Z"⟩, 39) := ⟨⟨by decide +kernel, by decide +kernel⟩, List.mem_of_getElem? (i := 1377) (by decide +kernel), List.mem_of_getElem? (i := 2091) (by decide +kernel), List.mem_of_getElem? (i := 2092) (by decide +kernel)⟩
theorem lw_p98 : lw_okq (⟨"LehrBeltModel", "getsBy", "(IIIII)I"⟩, 39) := ⟨⟨by decide +kernel, by decide +kernel⟩, List.mem_of_getElem? (i := 1377) (by decide +kernel), List.mem_of_getElem? (i := 2095) (by decide +kernel), List.mem_of_getElem? (i := 2096) (by decide +kernel)⟩
theorem lw_p99 : lw_okq (⟨"LehrBeltModel", "isSoon", "(I)Z"⟩, 39) := ⟨⟨by decide +kernel, by decide +kernel⟩, List.mem_of_getElem? (i := 1377) (by decide +kernel), List.mem_of_getElem? (i := 2107) (by decide +kernel), List.mem_of_getElem? (i := 2108) (by decide +kernel)⟩
theorem lw_p100 : lw_okq (⟨"LehrBeltModel", "weightOf", "(II)J"⟩, 39) := ⟨⟨by decide +kernel, by decide +kernel⟩, List.mem_of_getElem? (i := 1377) (by decide +kernel), List.mem_of_getElem? (i := 2111) (by decide +kernel), List.mem_of_getElem? (i := 2112) (by decide +kernel)⟩
theorem lw_p101 : lw_okq (⟨"LehrBeltModel", "draws", "(J)V"⟩, 39) := ⟨⟨by decide +kernel, by decide +kernel⟩, List.mem_of_getElem? (i := 1377) (by decide +kernel), List.mem_of_getElem? (i := 2132) (by decide +kernel), List.mem_of_getElem? (i := 2133) (by decide +kernel)⟩
theorem lw_p102 : lw_okq (⟨"LehrBeltModel", "does", "(IIII)V"⟩, 39) := ⟨⟨by decide +kernel, by decide +kernel⟩, List.mem_of_getElem? (i := 1377) (by decide +kernel), List.mem_of_getElem? (i := 2150) (by decide +kernel), List.mem_of_getElem? (i := 2151) (by decide +kernel)⟩
def lw_privs_7 : List (MethodName × Nat) := [(⟨"LehrBeltModel", "worthOf", "(I)I"⟩, 39), (⟨"LehrBeltModel", "areTwo", "(II)Z"⟩, 39), (⟨"LehrBeltModel", "getsBy", "(IIIII)I"⟩, 39), (⟨"LehrBeltModel", "isSoon", "(I)Z"⟩, 39), (⟨"LehrBeltModel", "weightOf", "(II)J"⟩, 39), (⟨"LehrBeltModel", "draws", "(J)V"⟩, 39), (⟨"LehrBeltModel", "does", "(IIII)V"⟩, 39)]
theorem lw_r7 : ∀ q ∈ lw_privs_7, lw_okq q := List.forall_mem_cons.mpr ⟨lw_p96, List.forall_mem_cons.mpr ⟨lw_p97, List.forall_mem_cons.mpr ⟨lw_p98, List.forall_mem_cons.mpr ⟨lw_p99, List.forall_mem_cons.mpr ⟨lw_p100, List.forall_mem_cons.mpr ⟨lw_p101, List.forall_mem_cons.mpr ⟨lw_p102, fun _ h => absurd h List.not_mem_nil⟩⟩⟩⟩⟩⟩⟩
def lw_privs : List (MethodName × Nat) := lw_privs_1 ++ (lw_privs_2 ++ (lw_privs_3 ++ (lw_privs_4 ++ (lw_privs_5 ++ (lw_privs_6 ++ (lw_privs_7))))))
def lw_tbl : List Cond := k2_sels lw_privs ++ tables_1
theorem lw_privs_ok : ∀ q ∈ lw_privs, lw_okq q := by
  show ∀ q ∈ lw_privs_1 ++ (lw_privs_2 ++ (lw_privs_3 ++ (lw_privs_4 ++ (lw_privs_5 ++ (lw_privs_6 ++ (lw_privs_7)))))), lw_okq q
  exact List.forall_mem_append.mpr ⟨lw_r1, List.forall_mem_append.mpr ⟨lw_r2, List.forall_mem_append.mpr ⟨lw_r3, List.forall_mem_append.mpr ⟨lw_r4, List.forall_mem_append.mpr ⟨lw_r5, List.forall_mem_append.mpr ⟨lw_r6, lw_r7⟩⟩⟩⟩⟩⟩

theorem in_of {big ws : List Cond} (ps : List Nat) (hp : ws = ps.filterMap (fun i => big[i]?)) : ∀ w ∈ ws, w ∈ big := by
  intro w hw
  rw [hp] at hw
  obtain ⟨i, -, hi⟩ := List.mem_filterMap.mp hw
  exact List.mem_of_getElem? hi
def RX0 : String := "LehrBelt$Acts"
def TX0 : u_T := fun k => match k with
  | 0 => ("LehrBelt$Acts", "count", "I", false)
  | 1 => ("LehrBelt$Acts", "gustSteps", "I", false)
  | 2 => ("LehrBelt$Acts", "zones", "[I", true)
  | 3 => ("LehrBelt$Acts", "heats", "[I", true)
  | 4 => ("LehrBelt$Acts", "steps", "[I", true)
  | _ => ("LehrBelt$Acts", "hotter", "[I", true)
def tyX0 : Nat → FieldType := fun k => match k with
  | 0 => .int
  | 1 => .int
  | 2 => .array (.int)
  | 3 => .array (.int)
  | 4 => .array (.int)
  | _ => .array (.int)
theorem nmX0 : ∀ a, a < 6 → ∀ b, b < 6 → a ≠ b → (TX0 a).2.1 ≠ (TX0 b).2.1 := by decide +kernel
theorem tyX0_ok : ∀ k, k < 6 → parseFieldDescriptor (TX0 k).2.2.1 = some (tyX0 k) := by decide +kernel
theorem inX0 : ∀ w ∈ u_ws RX0 TX0 6, w ∈ lw_tbl := in_of [296, 298, 300, 302, 304, 306] (by decide +kernel)
def RX1 : String := "LehrBelt$Belt"
def TX1 : u_T := fun k => match k with
  | 0 => ("LehrBelt$Belt", "plan", "LLehrBelt$Plan;", true)
  | _ => ("LehrBelt$Belt", "acts", "LLehrBelt$Acts;", true)
def tyX1 : Nat → FieldType := fun k => match k with
  | 0 => .object "LehrBelt$Plan"
  | _ => .object "LehrBelt$Acts"
theorem nmX1 : ∀ a, a < 2 → ∀ b, b < 2 → a ≠ b → (TX1 a).2.1 ≠ (TX1 b).2.1 := by decide +kernel
theorem tyX1_ok : ∀ k, k < 2 → parseFieldDescriptor (TX1 k).2.2.1 = some (tyX1 k) := by decide +kernel
theorem inX1 : ∀ w ∈ u_ws RX1 TX1 2, w ∈ lw_tbl := in_of [317, 319] (by decide +kernel)
def RX2 : String := "LehrBelt$Course"
def TX2 : u_T := fun k => match k with
  | 0 => ("LehrBelt$Course", "belt", "LLehrBelt$Belt;", true)
  | 1 => ("LehrBelt$Course", "plan", "LLehrBelt$Plan;", true)
  | 2 => ("LehrBelt$Course", "gustSteps", "I", false)
  | 3 => ("LehrBelt$Course", "place", "[I", true)
  | 4 => ("LehrBelt$Course", "skins", "[I", true)
  | 5 => ("LehrBelt$Course", "cores", "[I", true)
  | 6 => ("LehrBelt$Course", "crackStep", "[I", true)
  | 7 => ("LehrBelt$Course", "reason", "[I", true)
  | 8 => ("LehrBelt$Course", "frozenIn", "[I", true)
  | _ => ("LehrBelt$Course", "setStep", "[I", true)
def tyX2 : Nat → FieldType := fun k => match k with
  | 0 => .object "LehrBelt$Belt"
  | 1 => .object "LehrBelt$Plan"
  | 2 => .int
  | 3 => .array (.int)
  | 4 => .array (.int)
  | 5 => .array (.int)
  | 6 => .array (.int)
  | 7 => .array (.int)
  | 8 => .array (.int)
  | _ => .array (.int)
theorem nmX2 : ∀ a, a < 10 → ∀ b, b < 10 → a ≠ b → (TX2 a).2.1 ≠ (TX2 b).2.1 := by decide +kernel
theorem tyX2_ok : ∀ k, k < 10 → parseFieldDescriptor (TX2 k).2.2.1 = some (tyX2 k) := by decide +kernel
theorem inX2 : ∀ w ∈ u_ws RX2 TX2 10, w ∈ lw_tbl := in_of [343, 345, 347, 349, 351, 353, 355, 357, 359, 361] (by decide +kernel)
def RX3 : String := "LehrBelt$Fraction"
def TX3 : u_T := fun k => match k with
  | 0 => ("LehrBelt$Fraction", "above", "J", false)
  | _ => ("LehrBelt$Fraction", "below", "J", false)
def tyX3 : Nat → FieldType := fun k => match k with
  | 0 => .long
  | _ => .long
theorem nmX3 : ∀ a, a < 2 → ∀ b, b < 2 → a ≠ b → (TX3 a).2.1 ≠ (TX3 b).2.1 := by decide +kernel
theorem tyX3_ok : ∀ k, k < 2 → parseFieldDescriptor (TX3 k).2.2.1 = some (tyX3 k) := by decide +kernel
theorem inX3 : ∀ w ∈ u_ws RX3 TX3 2, w ∈ lw_tbl := in_of [380, 382] (by decide +kernel)
def RX4 : String := "LehrBelt$Odds"
def TX4 : u_T := fun k => match k with
  | 0 => ("LehrBelt$Odds", "plan", "LLehrBelt$Plan;", true)
  | 1 => ("LehrBelt$Odds", "course", "LLehrBelt$Course;", true)
  | _ => ("LehrBelt$Odds", "fraction", "LLehrBelt$Fraction;", true)
def tyX4 : Nat → FieldType := fun k => match k with
  | 0 => .object "LehrBelt$Plan"
  | 1 => .object "LehrBelt$Course"
  | _ => .object "LehrBelt$Fraction"
theorem nmX4 : ∀ a, a < 3 → ∀ b, b < 3 → a ≠ b → (TX4 a).2.1 ≠ (TX4 b).2.1 := by decide +kernel
theorem tyX4_ok : ∀ k, k < 3 → parseFieldDescriptor (TX4 k).2.2.1 = some (tyX4 k) := by decide +kernel
theorem inX4 : ∀ w ∈ u_ws RX4 TX4 3, w ∈ lw_tbl := in_of [419, 421, 423] (by decide +kernel)
def RX5 : String := "LehrBelt$Plan"
def TX5 : u_T := fun k => match k with
  | 0 => ("LehrBelt$Plan", "lines", "I", false)
  | 1 => ("LehrBelt$Plan", "steps", "I", false)
  | 2 => ("LehrBelt$Plan", "law", "I", false)
  | 3 => ("LehrBelt$Plan", "odds", "I", false)
  | 4 => ("LehrBelt$Plan", "pace", "I", false)
  | 5 => ("LehrBelt$Plan", "set", "I", false)
  | 6 => ("LehrBelt$Plan", "zones", "I", false)
  | 7 => ("LehrBelt$Plan", "pieces", "I", false)
  | 8 => ("LehrBelt$Plan", "told", "[I", true)
  | 9 => ("LehrBelt$Plan", "heat", "[I", true)
  | 10 => ("LehrBelt$Plan", "thick", "[I", true)
  | 11 => ("LehrBelt$Plan", "bears", "[I", true)
  | _ => ("LehrBelt$Plan", "comes", "[I", true)
def tyX5 : Nat → FieldType := fun k => match k with
  | 0 => .int
  | 1 => .int
  | 2 => .int
  | 3 => .int
  | 4 => .int
  | 5 => .int
  | 6 => .int
  | 7 => .int
  | 8 => .array (.int)
  | 9 => .array (.int)
  | 10 => .array (.int)
  | 11 => .array (.int)
  | _ => .array (.int)
theorem nmX5 : ∀ a, a < 13 → ∀ b, b < 13 → a ≠ b → (TX5 a).2.1 ≠ (TX5 b).2.1 := by decide +kernel
theorem tyX5_ok : ∀ k, k < 13 → parseFieldDescriptor (TX5 k).2.2.1 = some (tyX5 k) := by decide +kernel
theorem inX5 : ∀ w ∈ u_ws RX5 TX5 13, w ∈ lw_tbl := in_of [245, 247, 249, 251, 253, 255, 257, 259, 261, 263, 265, 267, 269] (by decide +kernel)
def RX6 : String := "LehrBelt$Reader"
def TX6 : u_T := fun k => match k with
  | 0 => ("LehrBelt$Reader", "tape", "LLehrBelt$Tape;", true)
  | 1 => ("LehrBelt$Reader", "kind", "I", false)
  | 2 => ("LehrBelt$Reader", "start", "I", false)
  | 3 => ("LehrBelt$Reader", "stop", "I", false)
  | 4 => ("LehrBelt$Reader", "fault", "I", false)
  | _ => ("LehrBelt$Reader", "place", "I", false)
def tyX6 : Nat → FieldType := fun k => match k with
  | 0 => .object "LehrBelt$Tape"
  | 1 => .int
  | 2 => .int
  | 3 => .int
  | 4 => .int
  | _ => .int
theorem nmX6 : ∀ a, a < 6 → ∀ b, b < 6 → a ≠ b → (TX6 a).2.1 ≠ (TX6 b).2.1 := by decide +kernel
theorem tyX6_ok : ∀ k, k < 6 → parseFieldDescriptor (TX6 k).2.2.1 = some (tyX6 k) := by decide +kernel
theorem inX6 : ∀ w ∈ u_ws RX6 TX6 6, w ∈ lw_tbl := in_of [167, 169, 171, 173, 175, 177] (by decide +kernel)
def RX7 : String := "LehrBelt$Row"
def TX7 : u_T := fun k => match k with
  | 0 => ("LehrBelt$Row", "kept", "Z", false)
  | 1 => ("LehrBelt$Row", "width", "I", false)
  | 2 => ("LehrBelt$Row", "length", "I", false)
  | _ => ("LehrBelt$Row", "numbers", "[J", true)
def tyX7 : Nat → FieldType := fun k => match k with
  | 0 => .boolean
  | 1 => .int
  | 2 => .int
  | _ => .array (.long)
theorem nmX7 : ∀ a, a < 4 → ∀ b, b < 4 → a ≠ b → (TX7 a).2.1 ≠ (TX7 b).2.1 := by decide +kernel
theorem tyX7_ok : ∀ k, k < 4 → parseFieldDescriptor (TX7 k).2.2.1 = some (tyX7 k) := by decide +kernel
theorem inX7 : ∀ w ∈ u_ws RX7 TX7 4, w ∈ lw_tbl := in_of [438, 440, 442, 444] (by decide +kernel)
def RX8 : String := "LehrBelt$Tape"
def TX8 : u_T := fun k => match k with
  | 0 => ("LehrBelt$Tape", "bytes", "[B", true)
  | _ => ("LehrBelt$Tape", "length", "I", false)
def tyX8 : Nat → FieldType := fun k => match k with
  | 0 => .array (.byte)
  | _ => .int
theorem nmX8 : ∀ a, a < 2 → ∀ b, b < 2 → a ≠ b → (TX8 a).2.1 ≠ (TX8 b).2.1 := by decide +kernel
theorem tyX8_ok : ∀ k, k < 2 → parseFieldDescriptor (TX8 k).2.2.1 = some (tyX8 k) := by decide +kernel
theorem inX8 : ∀ w ∈ u_ws RX8 TX8 2, w ∈ lw_tbl := in_of [146, 148] (by decide +kernel)
def RX9 : String := "LehrBelt$Trials"
def TX9 : u_T := fun k => match k with
  | 0 => ("LehrBelt$Trials", "now", "LLehrBelt$Belt;", true)
  | 1 => ("LehrBelt$Trials", "trial", "LLehrBelt$Belt;", true)
  | 2 => ("LehrBelt$Trials", "course", "LLehrBelt$Course;", true)
  | 3 => ("LehrBelt$Trials", "fraction", "LLehrBelt$Fraction;", true)
  | 4 => ("LehrBelt$Trials", "worths", "[I", true)
  | _ => ("LehrBelt$Trials", "gains", "[I", true)
def tyX9 : Nat → FieldType := fun k => match k with
  | 0 => .object "LehrBelt$Belt"
  | 1 => .object "LehrBelt$Belt"
  | 2 => .object "LehrBelt$Course"
  | 3 => .object "LehrBelt$Fraction"
  | 4 => .array (.int)
  | _ => .array (.int)
theorem nmX9 : ∀ a, a < 6 → ∀ b, b < 6 → a ≠ b → (TX9 a).2.1 ≠ (TX9 b).2.1 := by decide +kernel
theorem tyX9_ok : ∀ k, k < 6 → parseFieldDescriptor (TX9 k).2.2.1 = some (tyX9 k) := by decide +kernel
theorem inX9 : ∀ w ∈ u_ws RX9 TX9 6, w ∈ lw_tbl := in_of [393, 395, 397, 399, 401, 403] (by decide +kernel)
def RX10 : String := "LehrBelt"
def TX10 : u_T := fun k => match k with
  | 0 => ("LehrBelt", "tape", "LLehrBelt$Tape;", true)
  | 1 => ("LehrBelt", "reader", "LLehrBelt$Reader;", true)
  | 2 => ("LehrBelt", "draft", "LLehrBelt$Plan;", true)
  | 3 => ("LehrBelt", "now", "LLehrBelt$Belt;", true)
  | 4 => ("LehrBelt", "course", "LLehrBelt$Course;", true)
  | 5 => ("LehrBelt", "trials", "LLehrBelt$Trials;", true)
  | 6 => ("LehrBelt", "odds", "LLehrBelt$Odds;", true)
  | 7 => ("LehrBelt", "images", "[LLehrBelt$Belt;", true)
  | 8 => ("LehrBelt", "imaged", "[Z", true)
  | 9 => ("LehrBelt", "rows", "[LLehrBelt$Row;", true)
  | _ => ("LehrBelt", "followed", "Z", false)
def tyX10 : Nat → FieldType := fun k => match k with
  | 0 => .object "LehrBelt$Tape"
  | 1 => .object "LehrBelt$Reader"
  | 2 => .object "LehrBelt$Plan"
  | 3 => .object "LehrBelt$Belt"
  | 4 => .object "LehrBelt$Course"
  | 5 => .object "LehrBelt$Trials"
  | 6 => .object "LehrBelt$Odds"
  | 7 => .array (.object "LehrBelt$Belt")
  | 8 => .array (.boolean)
  | 9 => .array (.object "LehrBelt$Row")
  | _ => .boolean
theorem nmX10 : ∀ a, a < 11 → ∀ b, b < 11 → a ≠ b → (TX10 a).2.1 ≠ (TX10 b).2.1 := by decide +kernel
theorem tyX10_ok : ∀ k, k < 11 → parseFieldDescriptor (TX10 k).2.2.1 = some (tyX10 k) := by decide +kernel
theorem inX10 : ∀ w ∈ u_ws RX10 TX10 11, w ∈ lw_tbl := in_of [459, 461, 463, 465, 467, 469, 471, 473, 475, 477, 479] (by decide +kernel)
def RX11 : String := "LehrBeltModel"
def TX11 : u_T := fun k => match k with
  | 0 => ("LehrBeltModel", "thrown", "I", false)
  | 1 => ("LehrBeltModel", "width", "[I", true)
  | 2 => ("LehrBeltModel", "many", "[I", true)
  | 3 => ("LehrBeltModel", "cells", "[J", true)
  | 4 => ("LehrBeltModel", "moved", "[J", true)
  | 5 => ("LehrBeltModel", "tape", "[B", true)
  | 6 => ("LehrBeltModel", "taped", "I", false)
  | 7 => ("LehrBeltModel", "spot", "I", false)
  | 8 => ("LehrBeltModel", "token", "I", false)
  | 9 => ("LehrBeltModel", "place", "I", false)
  | 10 => ("LehrBeltModel", "value", "I", false)
  | 11 => ("LehrBeltModel", "word", "J", false)
  | 12 => ("LehrBeltModel", "bad", "I", false)
  | 13 => ("LehrBeltModel", "badPlace", "I", false)
  | 14 => ("LehrBeltModel", "fault", "I", false)
  | 15 => ("LehrBeltModel", "faultPlace", "I", false)
  | 16 => ("LehrBeltModel", "lines", "[I", true)
  | 17 => ("LehrBeltModel", "has", "[I", true)
  | 18 => ("LehrBeltModel", "zoneOf", "[I", true)
  | 19 => ("LehrBeltModel", "told", "[I", true)
  | 20 => ("LehrBeltModel", "act", "[I", true)
  | 21 => ("LehrBeltModel", "isKept", "[Z", true)
  | 22 => ("LehrBeltModel", "law", "I", false)
  | 23 => ("LehrBeltModel", "pace0", "I", false)
  | 24 => ("LehrBeltModel", "chanced", "I", false)
  | 25 => ("LehrBeltModel", "zones", "I", false)
  | 26 => ("LehrBeltModel", "skipped", "I", false)
  | 27 => ("LehrBeltModel", "airTold", "[I", true)
  | 28 => ("LehrBeltModel", "thickTold", "[I", true)
  | 29 => ("LehrBeltModel", "bearsTold", "[I", true)
  | 30 => ("LehrBeltModel", "skinAt", "[I", true)
  | 31 => ("LehrBeltModel", "coreAt", "[I", true)
  | 32 => ("LehrBeltModel", "frozenOf", "[I", true)
  | 33 => ("LehrBeltModel", "setsOf", "[I", true)
  | 34 => ("LehrBeltModel", "crackOf", "[I", true)
  | 35 => ("LehrBeltModel", "whyOf", "[I", true)
  | 36 => ("LehrBeltModel", "seenMany", "I", false)
  | 37 => ("LehrBeltModel", "seenLow", "I", false)
  | _ => ("LehrBeltModel", "seenHigh", "I", false)
def tyX11 : Nat → FieldType := fun k => match k with
  | 0 => .int
  | 1 => .array (.int)
  | 2 => .array (.int)
  | 3 => .array (.long)
  | 4 => .array (.long)
  | 5 => .array (.byte)
  | 6 => .int
  | 7 => .int
  | 8 => .int
  | 9 => .int
  | 10 => .int
  | 11 => .long
  | 12 => .int
  | 13 => .int
  | 14 => .int
  | 15 => .int
  | 16 => .array (.int)
  | 17 => .array (.int)
  | 18 => .array (.int)
  | 19 => .array (.int)
  | 20 => .array (.int)
  | 21 => .array (.boolean)
  | 22 => .int
  | 23 => .int
  | 24 => .int
  | 25 => .int
  | 26 => .int
  | 27 => .array (.int)
  | 28 => .array (.int)
  | 29 => .array (.int)
  | 30 => .array (.int)
  | 31 => .array (.int)
  | 32 => .array (.int)
  | 33 => .array (.int)
  | 34 => .array (.int)
  | 35 => .array (.int)
  | 36 => .int
  | 37 => .int
  | _ => .int
theorem nmX11 : ∀ a, a < 39 → ∀ b, b < 39 → a ≠ b → (TX11 a).2.1 ≠ (TX11 b).2.1 := by decide +kernel
theorem tyX11_ok : ∀ k, k < 39 → parseFieldDescriptor (TX11 k).2.2.1 = some (tyX11 k) := by decide +kernel
theorem inX11 : ∀ w ∈ u_ws RX11 TX11 39, w ∈ lw_tbl := in_of [1524, 1526, 1528, 1530, 1532, 1534, 1536, 1538, 1540, 1542, 1544, 1546, 1548, 1550, 1552, 1554, 1556, 1558, 1560, 1562, 1564, 1566, 1568, 1570, 1572, 1574, 1576, 1578, 1580, 1582, 1584, 1586, 1588, 1590, 1592, 1594, 1596, 1598, 1600] (by decide +kernel)
abbrev vwCl : List vw_C := [(RX0, TX0, 6), (RX1, TX1, 2), (RX2, TX2, 10), (RX3, TX3, 2), (RX4, TX4, 3), (RX5, TX5, 13), (RX6, TX6, 6), (RX7, TX7, 4), (RX8, TX8, 2), (RX9, TX9, 6), (RX10, TX10, 11), (RX11, TX11, 39)]
