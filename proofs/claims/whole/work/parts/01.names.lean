-- ===== PART A: goes FIRST, ahead of the names: the tables' words, and 'selects' of the private methods out of them =====
/-- a private method of a class that the tables say can be made, by its rows of tables_1 -/
def lw_okq (q : MethodName × Nat) : Prop := (q.1.cls ≠ "java/lang/invoke/MethodHandle" ∧ q.1.cls ≠ "java/lang/invoke/VarHandle") ∧ Cond.instantiable q.1.cls q.2 ∈ tables_1 ∧ Cond.privateMethod q.1 ∈ tables_1 ∧ Cond.instanceMethod q.1 ∈ tables_1
theorem lw_p0 : lw_okq (⟨"WassailEnemies", "newHater", "(III)LWassailEnemies$Hater;"⟩, 13) := ⟨⟨by decide +kernel, by decide +kernel⟩, List.mem_of_getElem? (i := 31) (by decide +kernel), List.mem_of_getElem? (i := 265) (by decide +kernel), List.mem_of_getElem? (i := 266) (by decide +kernel)⟩
theorem lw_p1 : lw_okq (⟨"WassailEnemies", "ofTree", "(III)I"⟩, 13) := ⟨⟨by decide +kernel, by decide +kernel⟩, List.mem_of_getElem? (i := 31) (by decide +kernel), List.mem_of_getElem? (i := 399) (by decide +kernel), List.mem_of_getElem? (i := 400) (by decide +kernel)⟩
theorem lw_p2 : lw_okq (⟨"WassailEnemies", "lasts", "(II)I"⟩, 13) := ⟨⟨by decide +kernel, by decide +kernel⟩, List.mem_of_getElem? (i := 31) (by decide +kernel), List.mem_of_getElem? (i := 446) (by decide +kernel), List.mem_of_getElem? (i := 447) (by decide +kernel)⟩
theorem lw_p3 : lw_okq (⟨"WassailEnemies$Reader", "take", "(I)Z"⟩, 4) := ⟨⟨by decide +kernel, by decide +kernel⟩, List.mem_of_getElem? (i := 139) (by decide +kernel), List.mem_of_getElem? (i := 518) (by decide +kernel), List.mem_of_getElem? (i := 519) (by decide +kernel)⟩
theorem lw_p4 : lw_okq (⟨"WassailEnemies$Reader", "readClause", "(LWassailEnemies$Orchard;)Z"⟩, 4) := ⟨⟨by decide +kernel, by decide +kernel⟩, List.mem_of_getElem? (i := 139) (by decide +kernel), List.mem_of_getElem? (i := 522) (by decide +kernel), List.mem_of_getElem? (i := 523) (by decide +kernel)⟩
theorem lw_p5 : lw_okq (⟨"WassailEnemies$Reader", "takeWord", "(Ljava/lang/String;)Z"⟩, 4) := ⟨⟨by decide +kernel, by decide +kernel⟩, List.mem_of_getElem? (i := 139) (by decide +kernel), List.mem_of_getElem? (i := 527) (by decide +kernel), List.mem_of_getElem? (i := 528) (by decide +kernel)⟩
theorem lw_p6 : lw_okq (⟨"WassailEnemies$Reader", "readWarmth", "(LWassailEnemies$Orchard;I)Z"⟩, 4) := ⟨⟨by decide +kernel, by decide +kernel⟩, List.mem_of_getElem? (i := 139) (by decide +kernel), List.mem_of_getElem? (i := 570) (by decide +kernel), List.mem_of_getElem? (i := 571) (by decide +kernel)⟩
theorem lw_p7 : lw_okq (⟨"WassailEnemies$Reader", "readNumber", "()Z"⟩, 4) := ⟨⟨by decide +kernel, by decide +kernel⟩, List.mem_of_getElem? (i := 139) (by decide +kernel), List.mem_of_getElem? (i := 574) (by decide +kernel), List.mem_of_getElem? (i := 575) (by decide +kernel)⟩
theorem lw_p8 : lw_okq (⟨"WassailEnemies$Reader", "readAny", "(LWassailEnemies$Orchard;I)Z"⟩, 4) := ⟨⟨by decide +kernel, by decide +kernel⟩, List.mem_of_getElem? (i := 139) (by decide +kernel), List.mem_of_getElem? (i := 578) (by decide +kernel), List.mem_of_getElem? (i := 579) (by decide +kernel)⟩
theorem lw_p9 : lw_okq (⟨"WassailEnemies$Reader", "readOne", "(LWassailEnemies$Orchard;I)Z"⟩, 4) := ⟨⟨by decide +kernel, by decide +kernel⟩, List.mem_of_getElem? (i := 139) (by decide +kernel), List.mem_of_getElem? (i := 582) (by decide +kernel), List.mem_of_getElem? (i := 583) (by decide +kernel)⟩
theorem lw_p10 : lw_okq (⟨"WassailEnemies$Reader", "readTest", "(LWassailEnemies$Orchard;)Z"⟩, 4) := ⟨⟨by decide +kernel, by decide +kernel⟩, List.mem_of_getElem? (i := 139) (by decide +kernel), List.mem_of_getElem? (i := 590) (by decide +kernel), List.mem_of_getElem? (i := 591) (by decide +kernel)⟩
theorem lw_p11 : lw_okq (⟨"WassailEnemies$Reader", "takeOneOf", "(Ljava/lang/String;)I"⟩, 4) := ⟨⟨by decide +kernel, by decide +kernel⟩, List.mem_of_getElem? (i := 139) (by decide +kernel), List.mem_of_getElem? (i := 595) (by decide +kernel), List.mem_of_getElem? (i := 596) (by decide +kernel)⟩
theorem lw_p12 : lw_okq (⟨"WassailEnemies", "worst", "()I"⟩, 13) := ⟨⟨by decide +kernel, by decide +kernel⟩, List.mem_of_getElem? (i := 31) (by decide +kernel), List.mem_of_getElem? (i := 678) (by decide +kernel), List.mem_of_getElem? (i := 679) (by decide +kernel)⟩
theorem lw_p13 : lw_okq (⟨"WassailEnemies", "weigh", "()V"⟩, 13) := ⟨⟨by decide +kernel, by decide +kernel⟩, List.mem_of_getElem? (i := 31) (by decide +kernel), List.mem_of_getElem? (i := 682) (by decide +kernel), List.mem_of_getElem? (i := 683) (by decide +kernel)⟩
theorem lw_p14 : lw_okq (⟨"WassailEnemies", "bearingWithout", "(I)I"⟩, 13) := ⟨⟨by decide +kernel, by decide +kernel⟩, List.mem_of_getElem? (i := 31) (by decide +kernel), List.mem_of_getElem? (i := 687) (by decide +kernel), List.mem_of_getElem? (i := 688) (by decide +kernel)⟩
theorem lw_p15 : lw_okq (⟨"WassailEnemies", "fillBest", "(I)I"⟩, 13) := ⟨⟨by decide +kernel, by decide +kernel⟩, List.mem_of_getElem? (i := 31) (by decide +kernel), List.mem_of_getElem? (i := 695) (by decide +kernel), List.mem_of_getElem? (i := 696) (by decide +kernel)⟩
def lw_privs_1 : List (MethodName × Nat) := [(⟨"WassailEnemies", "newHater", "(III)LWassailEnemies$Hater;"⟩, 13), (⟨"WassailEnemies", "ofTree", "(III)I"⟩, 13), (⟨"WassailEnemies", "lasts", "(II)I"⟩, 13), (⟨"WassailEnemies$Reader", "take", "(I)Z"⟩, 4), (⟨"WassailEnemies$Reader", "readClause", "(LWassailEnemies$Orchard;)Z"⟩, 4), (⟨"WassailEnemies$Reader", "takeWord", "(Ljava/lang/String;)Z"⟩, 4), (⟨"WassailEnemies$Reader", "readWarmth", "(LWassailEnemies$Orchard;I)Z"⟩, 4), (⟨"WassailEnemies$Reader", "readNumber", "()Z"⟩, 4), (⟨"WassailEnemies$Reader", "readAny", "(LWassailEnemies$Orchard;I)Z"⟩, 4), (⟨"WassailEnemies$Reader", "readOne", "(LWassailEnemies$Orchard;I)Z"⟩, 4), (⟨"WassailEnemies$Reader", "readTest", "(LWassailEnemies$Orchard;)Z"⟩, 4), (⟨"WassailEnemies$Reader", "takeOneOf", "(Ljava/lang/String;)I"⟩, 4), (⟨"WassailEnemies", "worst", "()I"⟩, 13), (⟨"WassailEnemies", "weigh", "()V"⟩, 13), (⟨"WassailEnemies", "bearingWithout", "(I)I"⟩, 13), (⟨"WassailEnemies", "fillBest", "(I)I"⟩, 13)]
theorem lw_r1 : ∀ q ∈ lw_privs_1, lw_okq q := List.forall_mem_cons.mpr ⟨lw_p0, List.forall_mem_cons.mpr ⟨lw_p1, List.forall_mem_cons.mpr ⟨lw_p2, List.forall_mem_cons.mpr ⟨lw_p3, List.forall_mem_cons.mpr ⟨lw_p4, List.forall_mem_cons.mpr ⟨lw_p5, List.forall_mem_cons.mpr ⟨lw_p6, List.forall_mem_cons.mpr ⟨lw_p7, List.forall_mem_cons.mpr ⟨lw_p8, List.forall_mem_cons.mpr ⟨lw_p9, List.forall_mem_cons.mpr ⟨lw_p10, List.forall_mem_cons.mpr ⟨lw_p11, List.forall_mem_cons.mpr ⟨lw_p12, List.forall_mem_cons.mpr ⟨lw_p13, List.forall_mem_cons.mpr ⟨lw_p14, List.forall_mem_cons.mpr ⟨lw_p15, fun _ h => absurd h List.not_mem_nil⟩⟩⟩⟩⟩⟩⟩⟩⟩⟩⟩⟩⟩⟩⟩⟩
theorem lw_p16 : lw_okq (⟨"WassailEnemies", "toldOfTree", "(II)I"⟩, 13) := ⟨⟨by decide +kernel, by decide +kernel⟩, List.mem_of_getElem? (i := 31) (by decide +kernel), List.mem_of_getElem? (i := 703) (by decide +kernel), List.mem_of_getElem? (i := 704) (by decide +kernel)⟩
theorem lw_p17 : lw_okq (⟨"WassailEnemies", "ringAt", "(II)I"⟩, 13) := ⟨⟨by decide +kernel, by decide +kernel⟩, List.mem_of_getElem? (i := 31) (by decide +kernel), List.mem_of_getElem? (i := 727) (by decide +kernel), List.mem_of_getElem? (i := 728) (by decide +kernel)⟩
theorem lw_p18 : lw_okq (⟨"WassailEnemies", "firstOfBest", "(III)I"⟩, 13) := ⟨⟨by decide +kernel, by decide +kernel⟩, List.mem_of_getElem? (i := 31) (by decide +kernel), List.mem_of_getElem? (i := 731) (by decide +kernel), List.mem_of_getElem? (i := 732) (by decide +kernel)⟩
theorem lw_p19 : lw_okq (⟨"WassailEnemies", "firstOfTurns", "(II)I"⟩, 13) := ⟨⟨by decide +kernel, by decide +kernel⟩, List.mem_of_getElem? (i := 31) (by decide +kernel), List.mem_of_getElem? (i := 739) (by decide +kernel), List.mem_of_getElem? (i := 740) (by decide +kernel)⟩
theorem lw_p20 : lw_okq (⟨"WassailEnemies", "bearingByTurns", "(III)I"⟩, 13) := ⟨⟨by decide +kernel, by decide +kernel⟩, List.mem_of_getElem? (i := 31) (by decide +kernel), List.mem_of_getElem? (i := 743) (by decide +kernel), List.mem_of_getElem? (i := 744) (by decide +kernel)⟩
theorem lw_p21 : lw_okq (⟨"WassailEnemies", "turnAt", "(III)I"⟩, 13) := ⟨⟨by decide +kernel, by decide +kernel⟩, List.mem_of_getElem? (i := 31) (by decide +kernel), List.mem_of_getElem? (i := 747) (by decide +kernel), List.mem_of_getElem? (i := 748) (by decide +kernel)⟩
theorem lw_p22 : lw_okq (⟨"WassailEnemies", "isAsSeen", "(II)Z"⟩, 13) := ⟨⟨by decide +kernel, by decide +kernel⟩, List.mem_of_getElem? (i := 31) (by decide +kernel), List.mem_of_getElem? (i := 763) (by decide +kernel), List.mem_of_getElem? (i := 764) (by decide +kernel)⟩
theorem lw_p23 : lw_okq (⟨"WassailEnemies", "ofAll", "(II)J"⟩, 13) := ⟨⟨by decide +kernel, by decide +kernel⟩, List.mem_of_getElem? (i := 31) (by decide +kernel), List.mem_of_getElem? (i := 777) (by decide +kernel), List.mem_of_getElem? (i := 778) (by decide +kernel)⟩
theorem lw_p24 : lw_okq (⟨"WassailEnemies", "canPlan", "(II)Z"⟩, 13) := ⟨⟨by decide +kernel, by decide +kernel⟩, List.mem_of_getElem? (i := 31) (by decide +kernel), List.mem_of_getElem? (i := 789) (by decide +kernel), List.mem_of_getElem? (i := 790) (by decide +kernel)⟩
theorem lw_p25 : lw_okq (⟨"WassailEnemies", "hasItem", "(II)Z"⟩, 13) := ⟨⟨by decide +kernel, by decide +kernel⟩, List.mem_of_getElem? (i := 31) (by decide +kernel), List.mem_of_getElem? (i := 822) (by decide +kernel), List.mem_of_getElem? (i := 823) (by decide +kernel)⟩
theorem lw_p26 : lw_okq (⟨"java/util/ArrayList", "add", "(Ljava/lang/Object;[Ljava/lang/Object;I)V"⟩, 3) := ⟨⟨by decide +kernel, by decide +kernel⟩, List.mem_of_getElem? (i := 162) (by decide +kernel), List.mem_of_getElem? (i := 883) (by decide +kernel), List.mem_of_getElem? (i := 884) (by decide +kernel)⟩
theorem lw_p27 : lw_okq (⟨"java/util/ArrayList", "grow", "()[Ljava/lang/Object;"⟩, 3) := ⟨⟨by decide +kernel, by decide +kernel⟩, List.mem_of_getElem? (i := 162) (by decide +kernel), List.mem_of_getElem? (i := 887) (by decide +kernel), List.mem_of_getElem? (i := 888) (by decide +kernel)⟩
theorem lw_p28 : lw_okq (⟨"java/util/ArrayList", "grow", "(I)[Ljava/lang/Object;"⟩, 3) := ⟨⟨by decide +kernel, by decide +kernel⟩, List.mem_of_getElem? (i := 162) (by decide +kernel), List.mem_of_getElem? (i := 891) (by decide +kernel), List.mem_of_getElem? (i := 892) (by decide +kernel)⟩
theorem lw_p29 : lw_okq (⟨"WassailEnemies", "hasItems", "(III)Z"⟩, 13) := ⟨⟨by decide +kernel, by decide +kernel⟩, List.mem_of_getElem? (i := 31) (by decide +kernel), List.mem_of_getElem? (i := 1067) (by decide +kernel), List.mem_of_getElem? (i := 1068) (by decide +kernel)⟩
theorem lw_p30 : lw_okq (⟨"WassailEnemiesModel", "in", "(III)Z"⟩, 77) := ⟨⟨by decide +kernel, by decide +kernel⟩, List.mem_of_getElem? (i := 1072) (by decide +kernel), List.mem_of_getElem? (i := 1314) (by decide +kernel), List.mem_of_getElem? (i := 1315) (by decide +kernel)⟩
theorem lw_p31 : lw_okq (⟨"WassailEnemiesModel", "isHate", "(I)Z"⟩, 77) := ⟨⟨by decide +kernel, by decide +kernel⟩, List.mem_of_getElem? (i := 1072) (by decide +kernel), List.mem_of_getElem? (i := 1318) (by decide +kernel), List.mem_of_getElem? (i := 1319) (by decide +kernel)⟩
def lw_privs_2 : List (MethodName × Nat) := [(⟨"WassailEnemies", "toldOfTree", "(II)I"⟩, 13), (⟨"WassailEnemies", "ringAt", "(II)I"⟩, 13), (⟨"WassailEnemies", "firstOfBest", "(III)I"⟩, 13), (⟨"WassailEnemies", "firstOfTurns", "(II)I"⟩, 13), (⟨"WassailEnemies", "bearingByTurns", "(III)I"⟩, 13), (⟨"WassailEnemies", "turnAt", "(III)I"⟩, 13), (⟨"WassailEnemies", "isAsSeen", "(II)Z"⟩, 13), (⟨"WassailEnemies", "ofAll", "(II)J"⟩, 13), (⟨"WassailEnemies", "canPlan", "(II)Z"⟩, 13), (⟨"WassailEnemies", "hasItem", "(II)Z"⟩, 13), (⟨"java/util/ArrayList", "add", "(Ljava/lang/Object;[Ljava/lang/Object;I)V"⟩, 3), (⟨"java/util/ArrayList", "grow", "()[Ljava/lang/Object;"⟩, 3), (⟨"java/util/ArrayList", "grow", "(I)[Ljava/lang/Object;"⟩, 3), (⟨"WassailEnemies", "hasItems", "(III)Z"⟩, 13), (⟨"WassailEnemiesModel", "in", "(III)Z"⟩, 77), (⟨"WassailEnemiesModel", "isHate", "(I)Z"⟩, 77)]
theorem lw_r2 : ∀ q ∈ lw_privs_2, lw_okq q := List.forall_mem_cons.mpr ⟨lw_p16, List.forall_mem_cons.mpr ⟨lw_p17, List.forall_mem_cons.mpr ⟨lw_p18, List.forall_mem_cons.mpr ⟨lw_p19, List.forall_mem_cons.mpr ⟨lw_p20, List.forall_mem_cons.mpr ⟨lw_p21, List.forall_mem_cons.mpr ⟨lw_p22, List.forall_mem_cons.mpr ⟨lw_p23, List.forall_mem_cons.mpr ⟨lw_p24, List.forall_mem_cons.mpr ⟨lw_p25, List.forall_mem_cons.mpr ⟨lw_p26, List.forall_mem_cons.mpr ⟨lw_p27, List.forall_mem_cons.mpr ⟨lw_p28, List.forall_mem_cons.mpr ⟨lw_p29, List.forall_mem_cons.mpr ⟨lw_p30, List.forall_mem_cons.mpr ⟨lw_p31, fun _ h => absurd h List.not_mem_nil⟩⟩⟩⟩⟩⟩⟩⟩⟩⟩⟩⟩⟩⟩⟩⟩
theorem lw_p32 : lw_okq (⟨"WassailEnemiesModel", "isHater", "(I)Z"⟩, 77) := ⟨⟨by decide +kernel, by decide +kernel⟩, List.mem_of_getElem? (i := 1072) (by decide +kernel), List.mem_of_getElem? (i := 1326) (by decide +kernel), List.mem_of_getElem? (i := 1327) (by decide +kernel)⟩
theorem lw_p33 : lw_okq (⟨"WassailEnemiesModel", "isTree", "(I)Z"⟩, 77) := ⟨⟨by decide +kernel, by decide +kernel⟩, List.mem_of_getElem? (i := 1072) (by decide +kernel), List.mem_of_getElem? (i := 1330) (by decide +kernel), List.mem_of_getElem? (i := 1331) (by decide +kernel)⟩
theorem lw_p34 : lw_okq (⟨"WassailEnemiesModel", "leads", "(II)V"⟩, 77) := ⟨⟨by decide +kernel, by decide +kernel⟩, List.mem_of_getElem? (i := 1072) (by decide +kernel), List.mem_of_getElem? (i := 1338) (by decide +kernel), List.mem_of_getElem? (i := 1339) (by decide +kernel)⟩
theorem lw_p35 : lw_okq (⟨"WassailEnemiesModel", "has", "(II)Z"⟩, 77) := ⟨⟨by decide +kernel, by decide +kernel⟩, List.mem_of_getElem? (i := 1072) (by decide +kernel), List.mem_of_getElem? (i := 1346) (by decide +kernel), List.mem_of_getElem? (i := 1347) (by decide +kernel)⟩
theorem lw_p36 : lw_okq (⟨"WassailEnemiesModel", "goes", "(IZ)V"⟩, 77) := ⟨⟨by decide +kernel, by decide +kernel⟩, List.mem_of_getElem? (i := 1072) (by decide +kernel), List.mem_of_getElem? (i := 1350) (by decide +kernel), List.mem_of_getElem? (i := 1351) (by decide +kernel)⟩
theorem lw_p37 : lw_okq (⟨"WassailEnemiesModel", "goesText", "(I)Z"⟩, 77) := ⟨⟨by decide +kernel, by decide +kernel⟩, List.mem_of_getElem? (i := 1072) (by decide +kernel), List.mem_of_getElem? (i := 1366) (by decide +kernel), List.mem_of_getElem? (i := 1367) (by decide +kernel)⟩
theorem lw_p38 : lw_okq (⟨"WassailEnemiesModel", "takesClause", "(I)Z"⟩, 77) := ⟨⟨by decide +kernel, by decide +kernel⟩, List.mem_of_getElem? (i := 1072) (by decide +kernel), List.mem_of_getElem? (i := 1370) (by decide +kernel), List.mem_of_getElem? (i := 1371) (by decide +kernel)⟩
theorem lw_p39 : lw_okq (⟨"WassailEnemiesModel", "takesHead", "(I)Z"⟩, 77) := ⟨⟨by decide +kernel, by decide +kernel⟩, List.mem_of_getElem? (i := 1072) (by decide +kernel), List.mem_of_getElem? (i := 1374) (by decide +kernel), List.mem_of_getElem? (i := 1375) (by decide +kernel)⟩
theorem lw_p40 : lw_okq (⟨"WassailEnemiesModel", "next", "()I"⟩, 77) := ⟨⟨by decide +kernel, by decide +kernel⟩, List.mem_of_getElem? (i := 1072) (by decide +kernel), List.mem_of_getElem? (i := 1378) (by decide +kernel), List.mem_of_getElem? (i := 1379) (by decide +kernel)⟩
theorem lw_p41 : lw_okq (⟨"WassailEnemiesModel", "takesWord", "(II)Z"⟩, 77) := ⟨⟨by decide +kernel, by decide +kernel⟩, List.mem_of_getElem? (i := 1072) (by decide +kernel), List.mem_of_getElem? (i := 1382) (by decide +kernel), List.mem_of_getElem? (i := 1383) (by decide +kernel)⟩
theorem lw_p42 : lw_okq (⟨"WassailEnemiesModel", "takes", "(I)Z"⟩, 77) := ⟨⟨by decide +kernel, by decide +kernel⟩, List.mem_of_getElem? (i := 1072) (by decide +kernel), List.mem_of_getElem? (i := 1386) (by decide +kernel), List.mem_of_getElem? (i := 1387) (by decide +kernel)⟩
theorem lw_p43 : lw_okq (⟨"WassailEnemiesModel", "takesNumber", "()Z"⟩, 77) := ⟨⟨by decide +kernel, by decide +kernel⟩, List.mem_of_getElem? (i := 1072) (by decide +kernel), List.mem_of_getElem? (i := 1390) (by decide +kernel), List.mem_of_getElem? (i := 1391) (by decide +kernel)⟩
theorem lw_p44 : lw_okq (⟨"WassailEnemiesModel", "isDigit", "()Z"⟩, 77) := ⟨⟨by decide +kernel, by decide +kernel⟩, List.mem_of_getElem? (i := 1072) (by decide +kernel), List.mem_of_getElem? (i := 1394) (by decide +kernel), List.mem_of_getElem? (i := 1395) (by decide +kernel)⟩
theorem lw_p45 : lw_okq (⟨"WassailEnemiesModel", "takesE", "(I)Z"⟩, 77) := ⟨⟨by decide +kernel, by decide +kernel⟩, List.mem_of_getElem? (i := 1072) (by decide +kernel), List.mem_of_getElem? (i := 1398) (by decide +kernel), List.mem_of_getElem? (i := 1399) (by decide +kernel)⟩
theorem lw_p46 : lw_okq (⟨"WassailEnemiesModel", "takesTest", "()Z"⟩, 77) := ⟨⟨by decide +kernel, by decide +kernel⟩, List.mem_of_getElem? (i := 1072) (by decide +kernel), List.mem_of_getElem? (i := 1402) (by decide +kernel), List.mem_of_getElem? (i := 1403) (by decide +kernel)⟩
theorem lw_p47 : lw_okq (⟨"WassailEnemiesModel", "place", "(I)I"⟩, 77) := ⟨⟨by decide +kernel, by decide +kernel⟩, List.mem_of_getElem? (i := 1072) (by decide +kernel), List.mem_of_getElem? (i := 1406) (by decide +kernel), List.mem_of_getElem? (i := 1407) (by decide +kernel)⟩
def lw_privs_3 : List (MethodName × Nat) := [(⟨"WassailEnemiesModel", "isHater", "(I)Z"⟩, 77), (⟨"WassailEnemiesModel", "isTree", "(I)Z"⟩, 77), (⟨"WassailEnemiesModel", "leads", "(II)V"⟩, 77), (⟨"WassailEnemiesModel", "has", "(II)Z"⟩, 77), (⟨"WassailEnemiesModel", "goes", "(IZ)V"⟩, 77), (⟨"WassailEnemiesModel", "goesText", "(I)Z"⟩, 77), (⟨"WassailEnemiesModel", "takesClause", "(I)Z"⟩, 77), (⟨"WassailEnemiesModel", "takesHead", "(I)Z"⟩, 77), (⟨"WassailEnemiesModel", "next", "()I"⟩, 77), (⟨"WassailEnemiesModel", "takesWord", "(II)Z"⟩, 77), (⟨"WassailEnemiesModel", "takes", "(I)Z"⟩, 77), (⟨"WassailEnemiesModel", "takesNumber", "()Z"⟩, 77), (⟨"WassailEnemiesModel", "isDigit", "()Z"⟩, 77), (⟨"WassailEnemiesModel", "takesE", "(I)Z"⟩, 77), (⟨"WassailEnemiesModel", "takesTest", "()Z"⟩, 77), (⟨"WassailEnemiesModel", "place", "(I)I"⟩, 77)]
theorem lw_r3 : ∀ q ∈ lw_privs_3, lw_okq q := List.forall_mem_cons.mpr ⟨lw_p32, List.forall_mem_cons.mpr ⟨lw_p33, List.forall_mem_cons.mpr ⟨lw_p34, List.forall_mem_cons.mpr ⟨lw_p35, List.forall_mem_cons.mpr ⟨lw_p36, List.forall_mem_cons.mpr ⟨lw_p37, List.forall_mem_cons.mpr ⟨lw_p38, List.forall_mem_cons.mpr ⟨lw_p39, List.forall_mem_cons.mpr ⟨lw_p40, List.forall_mem_cons.mpr ⟨lw_p41, List.forall_mem_cons.mpr ⟨lw_p42, List.forall_mem_cons.mpr ⟨lw_p43, List.forall_mem_cons.mpr ⟨lw_p44, List.forall_mem_cons.mpr ⟨lw_p45, List.forall_mem_cons.mpr ⟨lw_p46, List.forall_mem_cons.mpr ⟨lw_p47, fun _ h => absurd h List.not_mem_nil⟩⟩⟩⟩⟩⟩⟩⟩⟩⟩⟩⟩⟩⟩⟩⟩
theorem lw_p48 : lw_okq (⟨"WassailEnemiesModel", "emits", "(I)V"⟩, 77) := ⟨⟨by decide +kernel, by decide +kernel⟩, List.mem_of_getElem? (i := 1072) (by decide +kernel), List.mem_of_getElem? (i := 1410) (by decide +kernel), List.mem_of_getElem? (i := 1411) (by decide +kernel)⟩
theorem lw_p49 : lw_okq (⟨"WassailEnemiesModel", "whole", "()V"⟩, 77) := ⟨⟨by decide +kernel, by decide +kernel⟩, List.mem_of_getElem? (i := 1072) (by decide +kernel), List.mem_of_getElem? (i := 1414) (by decide +kernel), List.mem_of_getElem? (i := 1415) (by decide +kernel)⟩
theorem lw_p50 : lw_okq (⟨"WassailEnemiesModel", "settle", "(I)V"⟩, 77) := ⟨⟨by decide +kernel, by decide +kernel⟩, List.mem_of_getElem? (i := 1072) (by decide +kernel), List.mem_of_getElem? (i := 1418) (by decide +kernel), List.mem_of_getElem? (i := 1419) (by decide +kernel)⟩
theorem lw_p51 : lw_okq (⟨"WassailEnemiesModel", "isYears", "(I)Z"⟩, 77) := ⟨⟨by decide +kernel, by decide +kernel⟩, List.mem_of_getElem? (i := 1072) (by decide +kernel), List.mem_of_getElem? (i := 1426) (by decide +kernel), List.mem_of_getElem? (i := 1427) (by decide +kernel)⟩
theorem lw_p52 : lw_okq (⟨"WassailEnemiesModel", "goYears", "(I)V"⟩, 77) := ⟨⟨by decide +kernel, by decide +kernel⟩, List.mem_of_getElem? (i := 1072) (by decide +kernel), List.mem_of_getElem? (i := 1430) (by decide +kernel), List.mem_of_getElem? (i := 1431) (by decide +kernel)⟩
theorem lw_p53 : lw_okq (⟨"WassailEnemiesModel", "goYear", "()V"⟩, 77) := ⟨⟨by decide +kernel, by decide +kernel⟩, List.mem_of_getElem? (i := 1072) (by decide +kernel), List.mem_of_getElem? (i := 1434) (by decide +kernel), List.mem_of_getElem? (i := 1435) (by decide +kernel)⟩
theorem lw_p54 : lw_okq (⟨"WassailEnemiesModel", "bearSet", "()I"⟩, 77) := ⟨⟨by decide +kernel, by decide +kernel⟩, List.mem_of_getElem? (i := 1072) (by decide +kernel), List.mem_of_getElem? (i := 1438) (by decide +kernel), List.mem_of_getElem? (i := 1439) (by decide +kernel)⟩
theorem lw_p55 : lw_okq (⟨"WassailEnemiesModel", "bears", "(II)Z"⟩, 77) := ⟨⟨by decide +kernel, by decide +kernel⟩, List.mem_of_getElem? (i := 1072) (by decide +kernel), List.mem_of_getElem? (i := 1442) (by decide +kernel), List.mem_of_getElem? (i := 1443) (by decide +kernel)⟩
theorem lw_p56 : lw_okq (⟨"WassailEnemiesModel", "force", "(II)I"⟩, 77) := ⟨⟨by decide +kernel, by decide +kernel⟩, List.mem_of_getElem? (i := 1072) (by decide +kernel), List.mem_of_getElem? (i := 1446) (by decide +kernel), List.mem_of_getElem? (i := 1447) (by decide +kernel)⟩
theorem lw_p57 : lw_okq (⟨"WassailEnemiesModel", "sum", "(II)I"⟩, 77) := ⟨⟨by decide +kernel, by decide +kernel⟩, List.mem_of_getElem? (i := 1072) (by decide +kernel), List.mem_of_getElem? (i := 1450) (by decide +kernel), List.mem_of_getElem? (i := 1451) (by decide +kernel)⟩
theorem lw_p58 : lw_okq (⟨"WassailEnemiesModel", "begin", "()I"⟩, 77) := ⟨⟨by decide +kernel, by decide +kernel⟩, List.mem_of_getElem? (i := 1072) (by decide +kernel), List.mem_of_getElem? (i := 1454) (by decide +kernel), List.mem_of_getElem? (i := 1455) (by decide +kernel)⟩
theorem lw_p59 : lw_okq (⟨"WassailEnemiesModel", "behind", "()I"⟩, 77) := ⟨⟨by decide +kernel, by decide +kernel⟩, List.mem_of_getElem? (i := 1072) (by decide +kernel), List.mem_of_getElem? (i := 1458) (by decide +kernel), List.mem_of_getElem? (i := 1459) (by decide +kernel)⟩
theorem lw_p60 : lw_okq (⟨"WassailEnemiesModel", "holds", "(III)Z"⟩, 77) := ⟨⟨by decide +kernel, by decide +kernel⟩, List.mem_of_getElem? (i := 1072) (by decide +kernel), List.mem_of_getElem? (i := 1462) (by decide +kernel), List.mem_of_getElem? (i := 1463) (by decide +kernel)⟩
theorem lw_p61 : lw_okq (⟨"WassailEnemiesModel", "factOf", "(III)I"⟩, 77) := ⟨⟨by decide +kernel, by decide +kernel⟩, List.mem_of_getElem? (i := 1072) (by decide +kernel), List.mem_of_getElem? (i := 1466) (by decide +kernel), List.mem_of_getElem? (i := 1467) (by decide +kernel)⟩
theorem lw_p62 : lw_okq (⟨"WassailEnemiesModel", "need", "()I"⟩, 77) := ⟨⟨by decide +kernel, by decide +kernel⟩, List.mem_of_getElem? (i := 1072) (by decide +kernel), List.mem_of_getElem? (i := 1470) (by decide +kernel), List.mem_of_getElem? (i := 1471) (by decide +kernel)⟩
theorem lw_p63 : lw_okq (⟨"WassailEnemiesModel", "lastOf", "(II)I"⟩, 77) := ⟨⟨by decide +kernel, by decide +kernel⟩, List.mem_of_getElem? (i := 1072) (by decide +kernel), List.mem_of_getElem? (i := 1474) (by decide +kernel), List.mem_of_getElem? (i := 1475) (by decide +kernel)⟩
def lw_privs_4 : List (MethodName × Nat) := [(⟨"WassailEnemiesModel", "emits", "(I)V"⟩, 77), (⟨"WassailEnemiesModel", "whole", "()V"⟩, 77), (⟨"WassailEnemiesModel", "settle", "(I)V"⟩, 77), (⟨"WassailEnemiesModel", "isYears", "(I)Z"⟩, 77), (⟨"WassailEnemiesModel", "goYears", "(I)V"⟩, 77), (⟨"WassailEnemiesModel", "goYear", "()V"⟩, 77), (⟨"WassailEnemiesModel", "bearSet", "()I"⟩, 77), (⟨"WassailEnemiesModel", "bears", "(II)Z"⟩, 77), (⟨"WassailEnemiesModel", "force", "(II)I"⟩, 77), (⟨"WassailEnemiesModel", "sum", "(II)I"⟩, 77), (⟨"WassailEnemiesModel", "begin", "()I"⟩, 77), (⟨"WassailEnemiesModel", "behind", "()I"⟩, 77), (⟨"WassailEnemiesModel", "holds", "(III)Z"⟩, 77), (⟨"WassailEnemiesModel", "factOf", "(III)I"⟩, 77), (⟨"WassailEnemiesModel", "need", "()I"⟩, 77), (⟨"WassailEnemiesModel", "lastOf", "(II)I"⟩, 77)]
theorem lw_r4 : ∀ q ∈ lw_privs_4, lw_okq q := List.forall_mem_cons.mpr ⟨lw_p48, List.forall_mem_cons.mpr ⟨lw_p49, List.forall_mem_cons.mpr ⟨lw_p50, List.forall_mem_cons.mpr ⟨lw_p51, List.forall_mem_cons.mpr ⟨lw_p52, List.forall_mem_cons.mpr ⟨lw_p53, List.forall_mem_cons.mpr ⟨lw_p54, List.forall_mem_cons.mpr ⟨lw_p55, List.forall_mem_cons.mpr ⟨lw_p56, List.forall_mem_cons.mpr ⟨lw_p57, List.forall_mem_cons.mpr ⟨lw_p58, List.forall_mem_cons.mpr ⟨lw_p59, List.forall_mem_cons.mpr ⟨lw_p60, List.forall_mem_cons.mpr ⟨lw_p61, List.forall_mem_cons.mpr ⟨lw_p62, List.forall_mem_cons.mpr ⟨lw_p63, fun _ h => absurd h List.not_mem_nil⟩⟩⟩⟩⟩⟩⟩⟩⟩⟩⟩⟩⟩⟩⟩⟩
theorem lw_p64 : lw_okq (⟨"WassailEnemiesModel", "least", "(II)I"⟩, 77) := ⟨⟨by decide +kernel, by decide +kernel⟩, List.mem_of_getElem? (i := 1072) (by decide +kernel), List.mem_of_getElem? (i := 1478) (by decide +kernel), List.mem_of_getElem? (i := 1479) (by decide +kernel)⟩
theorem lw_p65 : lw_okq (⟨"WassailEnemiesModel", "wears", "(II)V"⟩, 77) := ⟨⟨by decide +kernel, by decide +kernel⟩, List.mem_of_getElem? (i := 1072) (by decide +kernel), List.mem_of_getElem? (i := 1482) (by decide +kernel), List.mem_of_getElem? (i := 1483) (by decide +kernel)⟩
theorem lw_p66 : lw_okq (⟨"WassailEnemiesModel", "wear", "()I"⟩, 77) := ⟨⟨by decide +kernel, by decide +kernel⟩, List.mem_of_getElem? (i := 1072) (by decide +kernel), List.mem_of_getElem? (i := 1486) (by decide +kernel), List.mem_of_getElem? (i := 1487) (by decide +kernel)⟩
theorem lw_p67 : lw_okq (⟨"WassailEnemiesModel", "lasts", "(II)I"⟩, 77) := ⟨⟨by decide +kernel, by decide +kernel⟩, List.mem_of_getElem? (i := 1072) (by decide +kernel), List.mem_of_getElem? (i := 1494) (by decide +kernel), List.mem_of_getElem? (i := 1495) (by decide +kernel)⟩
theorem lw_p68 : lw_okq (⟨"WassailEnemiesModel", "save", "()V"⟩, 77) := ⟨⟨by decide +kernel, by decide +kernel⟩, List.mem_of_getElem? (i := 1072) (by decide +kernel), List.mem_of_getElem? (i := 1498) (by decide +kernel), List.mem_of_getElem? (i := 1499) (by decide +kernel)⟩
theorem lw_p69 : lw_okq (⟨"WassailEnemiesModel", "putBack", "()V"⟩, 77) := ⟨⟨by decide +kernel, by decide +kernel⟩, List.mem_of_getElem? (i := 1072) (by decide +kernel), List.mem_of_getElem? (i := 1503) (by decide +kernel), List.mem_of_getElem? (i := 1504) (by decide +kernel)⟩
theorem lw_p70 : lw_okq (⟨"WassailEnemiesModel", "whereLeads", "(I)I"⟩, 77) := ⟨⟨by decide +kernel, by decide +kernel⟩, List.mem_of_getElem? (i := 1072) (by decide +kernel), List.mem_of_getElem? (i := 1507) (by decide +kernel), List.mem_of_getElem? (i := 1508) (by decide +kernel)⟩
theorem lw_p71 : lw_okq (⟨"WassailEnemiesModel", "layBest", "()V"⟩, 77) := ⟨⟨by decide +kernel, by decide +kernel⟩, List.mem_of_getElem? (i := 1072) (by decide +kernel), List.mem_of_getElem? (i := 1519) (by decide +kernel), List.mem_of_getElem? (i := 1520) (by decide +kernel)⟩
theorem lw_p72 : lw_okq (⟨"WassailEnemiesModel", "layForces", "()V"⟩, 77) := ⟨⟨by decide +kernel, by decide +kernel⟩, List.mem_of_getElem? (i := 1072) (by decide +kernel), List.mem_of_getElem? (i := 1523) (by decide +kernel), List.mem_of_getElem? (i := 1524) (by decide +kernel)⟩
theorem lw_p73 : lw_okq (⟨"WassailEnemiesModel", "layRing", "(I)Z"⟩, 77) := ⟨⟨by decide +kernel, by decide +kernel⟩, List.mem_of_getElem? (i := 1072) (by decide +kernel), List.mem_of_getElem? (i := 1528) (by decide +kernel), List.mem_of_getElem? (i := 1529) (by decide +kernel)⟩
theorem lw_p74 : lw_okq (⟨"WassailEnemiesModel", "allBore", "()I"⟩, 77) := ⟨⟨by decide +kernel, by decide +kernel⟩, List.mem_of_getElem? (i := 1072) (by decide +kernel), List.mem_of_getElem? (i := 1536) (by decide +kernel), List.mem_of_getElem? (i := 1537) (by decide +kernel)⟩
theorem lw_p75 : lw_okq (⟨"WassailEnemiesModel", "worst", "(Z)I"⟩, 77) := ⟨⟨by decide +kernel, by decide +kernel⟩, List.mem_of_getElem? (i := 1072) (by decide +kernel), List.mem_of_getElem? (i := 1540) (by decide +kernel), List.mem_of_getElem? (i := 1541) (by decide +kernel)⟩
theorem lw_p76 : lw_okq (⟨"WassailEnemiesModel", "bearsBy", "(III)I"⟩, 77) := ⟨⟨by decide +kernel, by decide +kernel⟩, List.mem_of_getElem? (i := 1072) (by decide +kernel), List.mem_of_getElem? (i := 1548) (by decide +kernel), List.mem_of_getElem? (i := 1549) (by decide +kernel)⟩
theorem lw_p77 : lw_okq (⟨"WassailEnemiesModel", "leaderAt", "(III)I"⟩, 77) := ⟨⟨by decide +kernel, by decide +kernel⟩, List.mem_of_getElem? (i := 1072) (by decide +kernel), List.mem_of_getElem? (i := 1552) (by decide +kernel), List.mem_of_getElem? (i := 1553) (by decide +kernel)⟩
theorem lw_p78 : lw_okq (⟨"WassailEnemiesModel", "isSeen", "(II)Z"⟩, 77) := ⟨⟨by decide +kernel, by decide +kernel⟩, List.mem_of_getElem? (i := 1072) (by decide +kernel), List.mem_of_getElem? (i := 1564) (by decide +kernel), List.mem_of_getElem? (i := 1565) (by decide +kernel)⟩
theorem lw_p79 : lw_okq (⟨"WassailEnemiesModel", "lowest", "(III)J"⟩, 77) := ⟨⟨by decide +kernel, by decide +kernel⟩, List.mem_of_getElem? (i := 1072) (by decide +kernel), List.mem_of_getElem? (i := 1577) (by decide +kernel), List.mem_of_getElem? (i := 1578) (by decide +kernel)⟩
def lw_privs_5 : List (MethodName × Nat) := [(⟨"WassailEnemiesModel", "least", "(II)I"⟩, 77), (⟨"WassailEnemiesModel", "wears", "(II)V"⟩, 77), (⟨"WassailEnemiesModel", "wear", "()I"⟩, 77), (⟨"WassailEnemiesModel", "lasts", "(II)I"⟩, 77), (⟨"WassailEnemiesModel", "save", "()V"⟩, 77), (⟨"WassailEnemiesModel", "putBack", "()V"⟩, 77), (⟨"WassailEnemiesModel", "whereLeads", "(I)I"⟩, 77), (⟨"WassailEnemiesModel", "layBest", "()V"⟩, 77), (⟨"WassailEnemiesModel", "layForces", "()V"⟩, 77), (⟨"WassailEnemiesModel", "layRing", "(I)Z"⟩, 77), (⟨"WassailEnemiesModel", "allBore", "()I"⟩, 77), (⟨"WassailEnemiesModel", "worst", "(Z)I"⟩, 77), (⟨"WassailEnemiesModel", "bearsBy", "(III)I"⟩, 77), (⟨"WassailEnemiesModel", "leaderAt", "(III)I"⟩, 77), (⟨"WassailEnemiesModel", "isSeen", "(II)Z"⟩, 77), (⟨"WassailEnemiesModel", "lowest", "(III)J"⟩, 77)]
theorem lw_r5 : ∀ q ∈ lw_privs_5, lw_okq q := List.forall_mem_cons.mpr ⟨lw_p64, List.forall_mem_cons.mpr ⟨lw_p65, List.forall_mem_cons.mpr ⟨lw_p66, List.forall_mem_cons.mpr ⟨lw_p67, List.forall_mem_cons.mpr ⟨lw_p68, List.forall_mem_cons.mpr ⟨lw_p69, List.forall_mem_cons.mpr ⟨lw_p70, List.forall_mem_cons.mpr ⟨lw_p71, List.forall_mem_cons.mpr ⟨lw_p72, List.forall_mem_cons.mpr ⟨lw_p73, List.forall_mem_cons.mpr ⟨lw_p74, List.forall_mem_cons.mpr ⟨lw_p75, List.forall_mem_cons.mpr ⟨lw_p76, List.forall_mem_cons.mpr ⟨lw_p77, List.forall_mem_cons.mpr ⟨lw_p78, List.forall_mem_cons.mpr ⟨lw_p79, fun _ h => absurd h List.not_mem_nil⟩⟩⟩⟩⟩⟩⟩⟩⟩⟩⟩⟩⟩⟩⟩⟩
theorem lw_p80 : lw_okq (⟨"WassailEnemiesModel", "divisor", "(II)I"⟩, 77) := ⟨⟨by decide +kernel, by decide +kernel⟩, List.mem_of_getElem? (i := 1072) (by decide +kernel), List.mem_of_getElem? (i := 1581) (by decide +kernel), List.mem_of_getElem? (i := 1582) (by decide +kernel)⟩
theorem lw_p81 : lw_okq (⟨"WassailEnemiesModel", "isLead", "(I)Z"⟩, 77) := ⟨⟨by decide +kernel, by decide +kernel⟩, List.mem_of_getElem? (i := 1072) (by decide +kernel), List.mem_of_getElem? (i := 1593) (by decide +kernel), List.mem_of_getElem? (i := 1594) (by decide +kernel)⟩
theorem lw_p82 : lw_okq (⟨"WassailEnemiesModel", "goPlan", "(II)V"⟩, 77) := ⟨⟨by decide +kernel, by decide +kernel⟩, List.mem_of_getElem? (i := 1072) (by decide +kernel), List.mem_of_getElem? (i := 1601) (by decide +kernel), List.mem_of_getElem? (i := 1602) (by decide +kernel)⟩
theorem lw_p83 : lw_okq (⟨"WassailEnemiesModel", "allHate", "()I"⟩, 77) := ⟨⟨by decide +kernel, by decide +kernel⟩, List.mem_of_getElem? (i := 1072) (by decide +kernel), List.mem_of_getElem? (i := 1605) (by decide +kernel), List.mem_of_getElem? (i := 1606) (by decide +kernel)⟩
theorem lw_p84 : lw_okq (⟨"WassailEnemiesModel", "isTape", "(I)Z"⟩, 77) := ⟨⟨by decide +kernel, by decide +kernel⟩, List.mem_of_getElem? (i := 1072) (by decide +kernel), List.mem_of_getElem? (i := 1621) (by decide +kernel), List.mem_of_getElem? (i := 1622) (by decide +kernel)⟩
theorem lw_p85 : lw_okq (⟨"WassailEnemiesModel", "singsAct", "(II)I"⟩, 77) := ⟨⟨by decide +kernel, by decide +kernel⟩, List.mem_of_getElem? (i := 1072) (by decide +kernel), List.mem_of_getElem? (i := 1637) (by decide +kernel), List.mem_of_getElem? (i := 1638) (by decide +kernel)⟩
theorem lw_p86 : lw_okq (⟨"WassailEnemiesModel", "body", "(I)V"⟩, 77) := ⟨⟨by decide +kernel, by decide +kernel⟩, List.mem_of_getElem? (i := 1072) (by decide +kernel), List.mem_of_getElem? (i := 1641) (by decide +kernel), List.mem_of_getElem? (i := 1642) (by decide +kernel)⟩
theorem lw_p87 : lw_okq (⟨"WassailEnemiesModel", "haterSings", "(II)I"⟩, 77) := ⟨⟨by decide +kernel, by decide +kernel⟩, List.mem_of_getElem? (i := 1072) (by decide +kernel), List.mem_of_getElem? (i := 1645) (by decide +kernel), List.mem_of_getElem? (i := 1646) (by decide +kernel)⟩
theorem lw_p88 : lw_okq (⟨"WassailEnemiesModel", "spitsAct", "(II)I"⟩, 77) := ⟨⟨by decide +kernel, by decide +kernel⟩, List.mem_of_getElem? (i := 1072) (by decide +kernel), List.mem_of_getElem? (i := 1649) (by decide +kernel), List.mem_of_getElem? (i := 1650) (by decide +kernel)⟩
theorem lw_p89 : lw_okq (⟨"WassailEnemiesModel", "uncleSpits", "(II)I"⟩, 77) := ⟨⟨by decide +kernel, by decide +kernel⟩, List.mem_of_getElem? (i := 1072) (by decide +kernel), List.mem_of_getElem? (i := 1653) (by decide +kernel), List.mem_of_getElem? (i := 1654) (by decide +kernel)⟩
theorem lw_p90 : lw_okq (⟨"WassailEnemiesModel", "haterSpits", "(II)I"⟩, 77) := ⟨⟨by decide +kernel, by decide +kernel⟩, List.mem_of_getElem? (i := 1072) (by decide +kernel), List.mem_of_getElem? (i := 1657) (by decide +kernel), List.mem_of_getElem? (i := 1658) (by decide +kernel)⟩
theorem lw_p91 : lw_okq (⟨"WassailEnemiesModel", "tellsAct", "(II)I"⟩, 77) := ⟨⟨by decide +kernel, by decide +kernel⟩, List.mem_of_getElem? (i := 1072) (by decide +kernel), List.mem_of_getElem? (i := 1661) (by decide +kernel), List.mem_of_getElem? (i := 1662) (by decide +kernel)⟩
theorem lw_p92 : lw_okq (⟨"WassailEnemiesModel", "haterTells", "(II)I"⟩, 77) := ⟨⟨by decide +kernel, by decide +kernel⟩, List.mem_of_getElem? (i := 1072) (by decide +kernel), List.mem_of_getElem? (i := 1665) (by decide +kernel), List.mem_of_getElem? (i := 1666) (by decide +kernel)⟩
theorem lw_p93 : lw_okq (⟨"WassailEnemiesModel", "narrow", "(IJ)J"⟩, 77) := ⟨⟨by decide +kernel, by decide +kernel⟩, List.mem_of_getElem? (i := 1072) (by decide +kernel), List.mem_of_getElem? (i := 1689) (by decide +kernel), List.mem_of_getElem? (i := 1690) (by decide +kernel)⟩
def lw_privs_6 : List (MethodName × Nat) := [(⟨"WassailEnemiesModel", "divisor", "(II)I"⟩, 77), (⟨"WassailEnemiesModel", "isLead", "(I)Z"⟩, 77), (⟨"WassailEnemiesModel", "goPlan", "(II)V"⟩, 77), (⟨"WassailEnemiesModel", "allHate", "()I"⟩, 77), (⟨"WassailEnemiesModel", "isTape", "(I)Z"⟩, 77), (⟨"WassailEnemiesModel", "singsAct", "(II)I"⟩, 77), (⟨"WassailEnemiesModel", "body", "(I)V"⟩, 77), (⟨"WassailEnemiesModel", "haterSings", "(II)I"⟩, 77), (⟨"WassailEnemiesModel", "spitsAct", "(II)I"⟩, 77), (⟨"WassailEnemiesModel", "uncleSpits", "(II)I"⟩, 77), (⟨"WassailEnemiesModel", "haterSpits", "(II)I"⟩, 77), (⟨"WassailEnemiesModel", "tellsAct", "(II)I"⟩, 77), (⟨"WassailEnemiesModel", "haterTells", "(II)I"⟩, 77), (⟨"WassailEnemiesModel", "narrow", "(IJ)J"⟩, 77)]
theorem lw_r6 : ∀ q ∈ lw_privs_6, lw_okq q := List.forall_mem_cons.mpr ⟨lw_p80, List.forall_mem_cons.mpr ⟨lw_p81, List.forall_mem_cons.mpr ⟨lw_p82, List.forall_mem_cons.mpr ⟨lw_p83, List.forall_mem_cons.mpr ⟨lw_p84, List.forall_mem_cons.mpr ⟨lw_p85, List.forall_mem_cons.mpr ⟨lw_p86, List.forall_mem_cons.mpr ⟨lw_p87, List.forall_mem_cons.mpr ⟨lw_p88, List.forall_mem_cons.mpr ⟨lw_p89, List.forall_mem_cons.mpr ⟨lw_p90, List.forall_mem_cons.mpr ⟨lw_p91, List.forall_mem_cons.mpr ⟨lw_p92, List.forall_mem_cons.mpr ⟨lw_p93, fun _ h => absurd h List.not_mem_nil⟩⟩⟩⟩⟩⟩⟩⟩⟩⟩⟩⟩⟩⟩
def lw_privs : List (MethodName × Nat) := lw_privs_1 ++ (lw_privs_2 ++ (lw_privs_3 ++ (lw_privs_4 ++ (lw_privs_5 ++ (lw_privs_6)))))
def lw_tbl : List Cond := k2_sels lw_privs ++ tables_1
theorem lw_privs_ok : ∀ q ∈ lw_privs, lw_okq q := by
  show ∀ q ∈ lw_privs_1 ++ (lw_privs_2 ++ (lw_privs_3 ++ (lw_privs_4 ++ (lw_privs_5 ++ (lw_privs_6))))), lw_okq q
  exact List.forall_mem_append.mpr ⟨lw_r1, List.forall_mem_append.mpr ⟨lw_r2, List.forall_mem_append.mpr ⟨lw_r3, List.forall_mem_append.mpr ⟨lw_r4, List.forall_mem_append.mpr ⟨lw_r5, lw_r6⟩⟩⟩⟩⟩
def RX0 : String := "WassailEnemies$Feller"
def TX0 : u_T := fun k => match k with
  | 0 => ("WassailEnemies$Hater", "kind", "I", true)
  | 1 => ("WassailEnemies$Hater", "number", "I", true)
  | 2 => ("WassailEnemies$Hater", "v", "I", true)
  | _ => ("WassailEnemies$Hater", "trace", "Ljava/util/ArrayList;", true)
def tyX0 : Nat → FieldType := fun k => match k with
  | 0 => .int
  | 1 => .int
  | 2 => .int
  | _ => .object "java/util/ArrayList"
theorem nmX0 : ∀ a, a < 4 → ∀ b, b < 4 → a ≠ b → (TX0 a).2.1 ≠ (TX0 b).2.1 := by decide +kernel
theorem tyX0_ok : ∀ k, k < 4 → parseFieldDescriptor (TX0 k).2.2.1 = some (tyX0 k) := by decide +kernel
abbrev cX0_init : ByteArray := prog_2_method_1_code
def yX0_init : MethodName := ⟨RX0, "<init>", "(IIILjava/util/ArrayList;)V"⟩
abbrev cX0_force : ByteArray := prog_2_method_2_code
def yX0_force : MethodName := ⟨RX0, "force", "(LWassailEnemies$World;II)I"⟩
abbrev cX0_tells : ByteArray := prog_2_method_3_code
def yX0_tells : MethodName := ⟨RX0, "tells", "(I)I"⟩
def RX1 : String := "WassailEnemies$Growler"
def TX1 : u_T := fun k => match k with
  | 0 => ("WassailEnemies$Hater", "kind", "I", true)
  | 1 => ("WassailEnemies$Hater", "number", "I", true)
  | 2 => ("WassailEnemies$Hater", "v", "I", true)
  | _ => ("WassailEnemies$Hater", "trace", "Ljava/util/ArrayList;", true)
def tyX1 : Nat → FieldType := fun k => match k with
  | 0 => .int
  | 1 => .int
  | 2 => .int
  | _ => .object "java/util/ArrayList"
theorem nmX1 : ∀ a, a < 4 → ∀ b, b < 4 → a ≠ b → (TX1 a).2.1 ≠ (TX1 b).2.1 := by decide +kernel
theorem tyX1_ok : ∀ k, k < 4 → parseFieldDescriptor (TX1 k).2.2.1 = some (tyX1 k) := by decide +kernel
abbrev cX1_init : ByteArray := prog_3_method_1_code
def yX1_init : MethodName := ⟨RX1, "<init>", "(IIILjava/util/ArrayList;)V"⟩
abbrev cX1_force : ByteArray := prog_3_method_2_code
def yX1_force : MethodName := ⟨RX1, "force", "(LWassailEnemies$World;II)I"⟩
abbrev cX1_sings : ByteArray := prog_3_method_3_code
def yX1_sings : MethodName := ⟨RX1, "sings", "(I)I"⟩
abbrev cX1_spits : ByteArray := prog_3_method_4_code
def yX1_spits : MethodName := ⟨RX1, "spits", "(I)I"⟩
def RX2 : String := "WassailEnemies$Hater"
def TX2 : u_T := fun k => match k with
  | 0 => ("WassailEnemies$Hater", "kind", "I", true)
  | 1 => ("WassailEnemies$Hater", "number", "I", true)
  | 2 => ("WassailEnemies$Hater", "v", "I", true)
  | _ => ("WassailEnemies$Hater", "trace", "Ljava/util/ArrayList;", true)
def tyX2 : Nat → FieldType := fun k => match k with
  | 0 => .int
  | 1 => .int
  | 2 => .int
  | _ => .object "java/util/ArrayList"
theorem nmX2 : ∀ a, a < 4 → ∀ b, b < 4 → a ≠ b → (TX2 a).2.1 ≠ (TX2 b).2.1 := by decide +kernel
theorem tyX2_ok : ∀ k, k < 4 → parseFieldDescriptor (TX2 k).2.2.1 = some (tyX2 k) := by decide +kernel
abbrev cX2_init : ByteArray := prog_4_method_1_code
def yX2_init : MethodName := ⟨RX2, "<init>", "(IIILjava/util/ArrayList;)V"⟩
abbrev cX2_force : ByteArray := prog_4_method_2_code
def yX2_force : MethodName := ⟨RX2, "force", "(LWassailEnemies$World;II)I"⟩
abbrev cX2_sings : ByteArray := prog_4_method_3_code
def yX2_sings : MethodName := ⟨RX2, "sings", "(I)I"⟩
abbrev cX2_spits : ByteArray := prog_4_method_4_code
def yX2_spits : MethodName := ⟨RX2, "spits", "(I)I"⟩
abbrev cX2_tells : ByteArray := prog_4_method_5_code
def yX2_tells : MethodName := ⟨RX2, "tells", "(I)I"⟩
def RX3 : String := "WassailEnemies$Lad"
def TX3 : u_T := fun k => match k with
  | 0 => ("WassailEnemies$Hater", "kind", "I", true)
  | 1 => ("WassailEnemies$Hater", "number", "I", true)
  | 2 => ("WassailEnemies$Hater", "v", "I", true)
  | _ => ("WassailEnemies$Hater", "trace", "Ljava/util/ArrayList;", true)
def tyX3 : Nat → FieldType := fun k => match k with
  | 0 => .int
  | 1 => .int
  | 2 => .int
  | _ => .object "java/util/ArrayList"
theorem nmX3 : ∀ a, a < 4 → ∀ b, b < 4 → a ≠ b → (TX3 a).2.1 ≠ (TX3 b).2.1 := by decide +kernel
theorem tyX3_ok : ∀ k, k < 4 → parseFieldDescriptor (TX3 k).2.2.1 = some (tyX3 k) := by decide +kernel
abbrev cX3_init : ByteArray := prog_5_method_1_code
def yX3_init : MethodName := ⟨RX3, "<init>", "(IIILjava/util/ArrayList;)V"⟩
abbrev cX3_force : ByteArray := prog_5_method_2_code
def yX3_force : MethodName := ⟨RX3, "force", "(LWassailEnemies$World;II)I"⟩
abbrev cX3_sings : ByteArray := prog_5_method_3_code
def yX3_sings : MethodName := ⟨RX3, "sings", "(I)I"⟩
def RX4 : String := "WassailEnemies$Lover"
def TX4 : u_T := fun k => match k with
  | 0 => ("WassailEnemies$Hater", "kind", "I", true)
  | 1 => ("WassailEnemies$Hater", "number", "I", true)
  | 2 => ("WassailEnemies$Hater", "v", "I", true)
  | _ => ("WassailEnemies$Hater", "trace", "Ljava/util/ArrayList;", true)
def tyX4 : Nat → FieldType := fun k => match k with
  | 0 => .int
  | 1 => .int
  | 2 => .int
  | _ => .object "java/util/ArrayList"
theorem nmX4 : ∀ a, a < 4 → ∀ b, b < 4 → a ≠ b → (TX4 a).2.1 ≠ (TX4 b).2.1 := by decide +kernel
theorem tyX4_ok : ∀ k, k < 4 → parseFieldDescriptor (TX4 k).2.2.1 = some (tyX4 k) := by decide +kernel
abbrev cX4_init : ByteArray := prog_6_method_1_code
def yX4_init : MethodName := ⟨RX4, "<init>", "(IIILjava/util/ArrayList;)V"⟩
abbrev cX4_force : ByteArray := prog_6_method_2_code
def yX4_force : MethodName := ⟨RX4, "force", "(LWassailEnemies$World;II)I"⟩
abbrev cX4_tells : ByteArray := prog_6_method_3_code
def yX4_tells : MethodName := ⟨RX4, "tells", "(I)I"⟩
def RX5 : String := "WassailEnemies$Orchard"
def TX5 : u_T := fun k => match k with
  | 0 => ("WassailEnemies$Orchard", "need", "I", false)
  | 1 => ("WassailEnemies$Orchard", "wear", "I", false)
  | 2 => ("WassailEnemies$Orchard", "steps", "[I", true)
  | 3 => ("WassailEnemies$Orchard", "numbers", "[I", true)
  | _ => ("WassailEnemies$Orchard", "stepCount", "I", false)
def tyX5 : Nat → FieldType := fun k => match k with
  | 0 => .int
  | 1 => .int
  | 2 => .array .int
  | 3 => .array .int
  | _ => .int
theorem nmX5 : ∀ a, a < 5 → ∀ b, b < 5 → a ≠ b → (TX5 a).2.1 ≠ (TX5 b).2.1 := by decide +kernel
theorem tyX5_ok : ∀ k, k < 5 → parseFieldDescriptor (TX5 k).2.2.1 = some (tyX5 k) := by decide +kernel
abbrev cX5_init : ByteArray := prog_7_method_1_code
def yX5_init : MethodName := ⟨RX5, "<init>", "()V"⟩
abbrev cX5_clear : ByteArray := prog_7_method_2_code
def yX5_clear : MethodName := ⟨RX5, "clear", "()V"⟩
abbrev cX5_append : ByteArray := prog_7_method_3_code
def yX5_append : MethodName := ⟨RX5, "append", "(II)V"⟩
abbrev cX5_warmth : ByteArray := prog_7_method_4_code
def yX5_warmth : MethodName := ⟨RX5, "warmth", "([I)I"⟩
abbrev cX5_testStep : ByteArray := prog_7_method_5_code
def yX5_testStep : MethodName := ⟨RX5, "testStep", "(II)I"⟩
abbrev cX5_passes : ByteArray := prog_7_method_6_code
def yX5_passes : MethodName := ⟨RX5, "passes", "(II[I)Z"⟩
def RX6 : String := "WassailEnemies$Reader"
def TX6 : u_T := fun k => match k with
  | 0 => ("WassailEnemies$Reader", "text", "[I", true)
  | 1 => ("WassailEnemies$Reader", "length", "I", false)
  | 2 => ("WassailEnemies$Reader", "at", "I", false)
  | _ => ("WassailEnemies$Reader", "number", "I", false)
def tyX6 : Nat → FieldType := fun k => match k with
  | 0 => .array .int
  | 1 => .int
  | 2 => .int
  | _ => .int
theorem nmX6 : ∀ a, a < 4 → ∀ b, b < 4 → a ≠ b → (TX6 a).2.1 ≠ (TX6 b).2.1 := by decide +kernel
theorem tyX6_ok : ∀ k, k < 4 → parseFieldDescriptor (TX6 k).2.2.1 = some (tyX6 k) := by decide +kernel
abbrev cX6_init : ByteArray := prog_8_method_1_code
def yX6_init : MethodName := ⟨RX6, "<init>", "()V"⟩
abbrev cX6_append : ByteArray := prog_8_method_2_code
def yX6_append : MethodName := ⟨RX6, "append", "(I)I"⟩
abbrev cX6_readClauses : ByteArray := prog_8_method_3_code
def yX6_readClauses : MethodName := ⟨RX6, "readClauses", "(LWassailEnemies$Orchard;)Z"⟩
abbrev cX6_readClause : ByteArray := prog_8_method_4_code
def yX6_readClause : MethodName := ⟨RX6, "readClause", "(LWassailEnemies$Orchard;)Z"⟩
abbrev cX6_readWarmth : ByteArray := prog_8_method_5_code
def yX6_readWarmth : MethodName := ⟨RX6, "readWarmth", "(LWassailEnemies$Orchard;I)Z"⟩
abbrev cX6_readAny : ByteArray := prog_8_method_6_code
def yX6_readAny : MethodName := ⟨RX6, "readAny", "(LWassailEnemies$Orchard;I)Z"⟩
abbrev cX6_readOne : ByteArray := prog_8_method_7_code
def yX6_readOne : MethodName := ⟨RX6, "readOne", "(LWassailEnemies$Orchard;I)Z"⟩
abbrev cX6_readTest : ByteArray := prog_8_method_8_code
def yX6_readTest : MethodName := ⟨RX6, "readTest", "(LWassailEnemies$Orchard;)Z"⟩
abbrev cX6_readNumber : ByteArray := prog_8_method_9_code
def yX6_readNumber : MethodName := ⟨RX6, "readNumber", "()Z"⟩
abbrev cX6_take : ByteArray := prog_8_method_10_code
def yX6_take : MethodName := ⟨RX6, "take", "(I)Z"⟩
abbrev cX6_takeWord : ByteArray := prog_8_method_11_code
def yX6_takeWord : MethodName := ⟨RX6, "takeWord", "(Ljava/lang/String;)Z"⟩
abbrev cX6_takeOneOf : ByteArray := prog_8_method_12_code
def yX6_takeOneOf : MethodName := ⟨RX6, "takeOneOf", "(Ljava/lang/String;)I"⟩
def RX7 : String := "WassailEnemies$Rows"
def TX7 : u_T := fun k => match k with
  | 0 => ("WassailEnemies$Rows", "rows", "[[I", true)
  | _ => ("WassailEnemies$Rows", "count", "I", false)
def tyX7 : Nat → FieldType := fun k => match k with
  | 0 => .array (.array .int)
  | _ => .int
theorem nmX7 : ∀ a, a < 2 → ∀ b, b < 2 → a ≠ b → (TX7 a).2.1 ≠ (TX7 b).2.1 := by decide +kernel
theorem tyX7_ok : ∀ k, k < 2 → parseFieldDescriptor (TX7 k).2.2.1 = some (tyX7 k) := by decide +kernel
abbrev cX7_init : ByteArray := prog_9_method_1_code
def yX7_init : MethodName := ⟨RX7, "<init>", "(I)V"⟩
abbrev cX7_append : ByteArray := prog_9_method_2_code
def yX7_append : MethodName := ⟨RX7, "append", "(IIII)I"⟩
abbrev cX7_become : ByteArray := prog_9_method_3_code
def yX7_become : MethodName := ⟨RX7, "become", "(LWassailEnemies$Rows;)V"⟩
def RX8 : String := "WassailEnemies$Told"
def TX8 : u_T := fun k => match k with
  | 0 => ("WassailEnemies$Hater", "kind", "I", true)
  | 1 => ("WassailEnemies$Hater", "number", "I", true)
  | 2 => ("WassailEnemies$Hater", "v", "I", true)
  | _ => ("WassailEnemies$Hater", "trace", "Ljava/util/ArrayList;", true)
def tyX8 : Nat → FieldType := fun k => match k with
  | 0 => .int
  | 1 => .int
  | 2 => .int
  | _ => .object "java/util/ArrayList"
theorem nmX8 : ∀ a, a < 4 → ∀ b, b < 4 → a ≠ b → (TX8 a).2.1 ≠ (TX8 b).2.1 := by decide +kernel
theorem tyX8_ok : ∀ k, k < 4 → parseFieldDescriptor (TX8 k).2.2.1 = some (tyX8 k) := by decide +kernel
abbrev cX8_init : ByteArray := prog_10_method_1_code
def yX8_init : MethodName := ⟨RX8, "<init>", "(IIILjava/util/ArrayList;)V"⟩
abbrev cX8_force : ByteArray := prog_10_method_2_code
def yX8_force : MethodName := ⟨RX8, "force", "(LWassailEnemies$World;II)I"⟩
abbrev cX8_spits : ByteArray := prog_10_method_3_code
def yX8_spits : MethodName := ⟨RX8, "spits", "(I)I"⟩
abbrev cX8_sings : ByteArray := prog_10_method_4_code
def yX8_sings : MethodName := ⟨RX8, "sings", "(I)I"⟩
def RX9 : String := "WassailEnemies$Uncle"
def TX9 : u_T := fun k => match k with
  | 0 => ("WassailEnemies$Hater", "kind", "I", true)
  | 1 => ("WassailEnemies$Hater", "number", "I", true)
  | 2 => ("WassailEnemies$Hater", "v", "I", true)
  | _ => ("WassailEnemies$Hater", "trace", "Ljava/util/ArrayList;", true)
def tyX9 : Nat → FieldType := fun k => match k with
  | 0 => .int
  | 1 => .int
  | 2 => .int
  | _ => .object "java/util/ArrayList"
theorem nmX9 : ∀ a, a < 4 → ∀ b, b < 4 → a ≠ b → (TX9 a).2.1 ≠ (TX9 b).2.1 := by decide +kernel
theorem tyX9_ok : ∀ k, k < 4 → parseFieldDescriptor (TX9 k).2.2.1 = some (tyX9 k) := by decide +kernel
abbrev cX9_init : ByteArray := prog_11_method_1_code
def yX9_init : MethodName := ⟨RX9, "<init>", "(IIILjava/util/ArrayList;)V"⟩
abbrev cX9_force : ByteArray := prog_11_method_2_code
def yX9_force : MethodName := ⟨RX9, "force", "(LWassailEnemies$World;II)I"⟩
abbrev cX9_spits : ByteArray := prog_11_method_3_code
def yX9_spits : MethodName := ⟨RX9, "spits", "(I)I"⟩
def RX10 : String := "WassailEnemies$World"
def TX10 : u_T := fun k => match k with
  | 0 => ("WassailEnemies$World", "haters", "[LWassailEnemies$Hater;", true)
  | 1 => ("WassailEnemies$World", "gone", "[Z", true)
  | 2 => ("WassailEnemies$World", "hate", "[[I", true)
  | 3 => ("WassailEnemies$World", "rows", "[[I", true)
  | 4 => ("WassailEnemies$World", "haterCount", "I", false)
  | 5 => ("WassailEnemies$World", "bore", "[I", true)
  | 6 => ("WassailEnemies$World", "leaders", "[I", true)
  | 7 => ("WassailEnemies$World", "year", "I", false)
  | 8 => ("WassailEnemies$World", "seen", "LWassailEnemies$Rows;", true)
  | 9 => ("WassailEnemies$World", "plan", "LWassailEnemies$Rows;", true)
  | 10 => ("WassailEnemies$World", "book", "LWassailEnemies$Rows;", true)
  | 11 => ("WassailEnemies$World", "orchard", "LWassailEnemies$Orchard;", false)
  | _ => ("WassailEnemies$World", "facts", "[I", true)
def tyX10 : Nat → FieldType := fun k => match k with
  | 0 => .array (.object "WassailEnemies$Hater")
  | 1 => .array .boolean
  | 2 => .array (.array .int)
  | 3 => .array (.array .int)
  | 4 => .int
  | 5 => .array .int
  | 6 => .array .int
  | 7 => .int
  | 8 => .object "WassailEnemies$Rows"
  | 9 => .object "WassailEnemies$Rows"
  | 10 => .object "WassailEnemies$Rows"
  | 11 => .object "WassailEnemies$Orchard"
  | _ => .array .int
theorem nmX10 : ∀ a, a < 13 → ∀ b, b < 13 → a ≠ b → (TX10 a).2.1 ≠ (TX10 b).2.1 := by decide +kernel
theorem tyX10_ok : ∀ k, k < 13 → parseFieldDescriptor (TX10 k).2.2.1 = some (tyX10 k) := by decide +kernel
abbrev cX10_init : ByteArray := prog_12_method_1_code
def yX10_init : MethodName := ⟨RX10, "<init>", "()V"⟩
abbrev cX10_become : ByteArray := prog_12_method_2_code
def yX10_become : MethodName := ⟨RX10, "become", "(LWassailEnemies$World;)V"⟩
abbrev cX10_goFrom : ByteArray := prog_12_method_3_code
def yX10_goFrom : MethodName := ⟨RX10, "goFrom", "(LWassailEnemies$World;)V"⟩
abbrev cX10_has : ByteArray := prog_12_method_4_code
def yX10_has : MethodName := ⟨RX10, "has", "(I)Z"⟩
abbrev cX10_welcome : ByteArray := prog_12_method_5_code
def yX10_welcome : MethodName := ⟨RX10, "welcome", "(LWassailEnemies$Hater;I)I"⟩
abbrev cX10_treeOf : ByteArray := prog_12_method_6_code
def yX10_treeOf : MethodName := ⟨RX10, "treeOf", "(I)I"⟩
abbrev cX10_giveLeader : ByteArray := prog_12_method_7_code
def yX10_giveLeader : MethodName := ⟨RX10, "giveLeader", "(II)V"⟩
abbrev cX10_present : ByteArray := prog_12_method_8_code
def yX10_present : MethodName := ⟨RX10, "present", "()I"⟩
abbrev cX10_need : ByteArray := prog_12_method_9_code
def yX10_need : MethodName := ⟨RX10, "need", "()I"⟩
abbrev cX10_wear : ByteArray := prog_12_method_10_code
def yX10_wear : MethodName := ⟨RX10, "wear", "()I"⟩
abbrev cX10_force : ByteArray := prog_12_method_11_code
def yX10_force : MethodName := ⟨RX10, "force", "(II)I"⟩
abbrev cX10_bears : ByteArray := prog_12_method_12_code
def yX10_bears : MethodName := ⟨RX10, "bears", "(II)Z"⟩
abbrev cX10_bearing : ByteArray := prog_12_method_13_code
def yX10_bearing : MethodName := ⟨RX10, "bearing", "()I"⟩
abbrev cX10_goYears : ByteArray := prog_12_method_14_code
def yX10_goYears : MethodName := ⟨RX10, "goYears", "(I)V"⟩
abbrev cX10_goAt : ByteArray := prog_12_method_15_code
def yX10_goAt : MethodName := ⟨RX10, "goAt", "(II)Z"⟩
abbrev cX10_goPlanned : ByteArray := prog_12_method_16_code
def yX10_goPlanned : MethodName := ⟨RX10, "goPlanned", "(II)V"⟩
abbrev cX10_allBore : ByteArray := prog_12_method_17_code
def yX10_allBore : MethodName := ⟨RX10, "allBore", "()I"⟩
abbrev cX10_allHate : ByteArray := prog_12_method_18_code
def yX10_allHate : MethodName := ⟨RX10, "allHate", "()I"⟩
def RX11 : String := "WassailEnemies"
def TX11 : u_T := fun k => match k with
  | 0 => ("WassailEnemies", "now", "LWassailEnemies$World;", true)
  | 1 => ("WassailEnemies", "image", "LWassailEnemies$World;", true)
  | 2 => ("WassailEnemies", "asked", "LWassailEnemies$World;", true)
  | 3 => ("WassailEnemies", "imaged", "Z", false)
  | 4 => ("WassailEnemies", "reader", "LWassailEnemies$Reader;", true)
  | 5 => ("WassailEnemies", "orchards", "[LWassailEnemies$Orchard;", true)
  | 6 => ("WassailEnemies", "orchardCount", "I", false)
  | 7 => ("WassailEnemies", "trace", "Ljava/util/ArrayList;", true)
  | 8 => ("WassailEnemies", "worth", "[[I", true)
  | 9 => ("WassailEnemies", "best", "[[I", true)
  | 10 => ("WassailEnemies", "sorts", "[I", true)
  | 11 => ("WassailEnemies", "sizes", "[I", true)
  | _ => ("WassailEnemies", "items", "[[J", true)
def tyX11 : Nat → FieldType := fun k => match k with
  | 0 => .object "WassailEnemies$World"
  | 1 => .object "WassailEnemies$World"
  | 2 => .object "WassailEnemies$World"
  | 3 => .boolean
  | 4 => .object "WassailEnemies$Reader"
  | 5 => .array (.object "WassailEnemies$Orchard")
  | 6 => .int
  | 7 => .object "java/util/ArrayList"
  | 8 => .array (.array .int)
  | 9 => .array (.array .int)
  | 10 => .array .int
  | 11 => .array .int
  | _ => .array (.array .long)
theorem nmX11 : ∀ a, a < 13 → ∀ b, b < 13 → a ≠ b → (TX11 a).2.1 ≠ (TX11 b).2.1 := by decide +kernel
theorem tyX11_ok : ∀ k, k < 13 → parseFieldDescriptor (TX11 k).2.2.1 = some (tyX11 k) := by decide +kernel
abbrev cX11_init : ByteArray := prog_1_method_1_code
def yX11_init : MethodName := ⟨RX11, "<init>", "()V"⟩
abbrev cX11_hater : ByteArray := prog_1_method_2_code
def yX11_hater : MethodName := ⟨RX11, "hater", "(III)I"⟩
abbrev cX11_of : ByteArray := prog_1_method_3_code
def yX11_of : MethodName := ⟨RX11, "of", "(II)I"⟩
abbrev cX11_ofTree : ByteArray := prog_1_method_4_code
def yX11_ofTree : MethodName := ⟨RX11, "ofTree", "(III)I"⟩
abbrev cX11_hate : ByteArray := prog_1_method_5_code
def yX11_hate : MethodName := ⟨RX11, "hate", "(III)I"⟩
abbrev cX11_lead : ByteArray := prog_1_method_6_code
def yX11_lead : MethodName := ⟨RX11, "lead", "(II)I"⟩
abbrev cX11_leave : ByteArray := prog_1_method_7_code
def yX11_leave : MethodName := ⟨RX11, "leave", "(IZ)I"⟩
abbrev cX11_row : ByteArray := prog_1_method_8_code
def yX11_row : MethodName := ⟨RX11, "row", "(III)I"⟩
abbrev cX11_feed : ByteArray := prog_1_method_9_code
def yX11_feed : MethodName := ⟨RX11, "feed", "(I)I"⟩
abbrev cX11_orchard : ByteArray := prog_1_method_10_code
def yX11_orchard : MethodName := ⟨RX11, "orchard", "()I"⟩
abbrev cX11_told : ByteArray := prog_1_method_11_code
def yX11_told : MethodName := ⟨RX11, "told", "(I)I"⟩
abbrev cX11_toldOfTree : ByteArray := prog_1_method_12_code
def yX11_toldOfTree : MethodName := ⟨RX11, "toldOfTree", "(II)I"⟩
abbrev cX11_pass : ByteArray := prog_1_method_13_code
def yX11_pass : MethodName := ⟨RX11, "pass", "(I)I"⟩
abbrev cX11_on : ByteArray := prog_1_method_14_code
def yX11_on : MethodName := ⟨RX11, "on", "(II)I"⟩
abbrev cX11_lasts : ByteArray := prog_1_method_15_code
def yX11_lasts : MethodName := ⟨RX11, "lasts", "(II)I"⟩
abbrev cX11_ring : ByteArray := prog_1_method_16_code
def yX11_ring : MethodName := ⟨RX11, "ring", "(I)I"⟩
abbrev cX11_weigh : ByteArray := prog_1_method_17_code
def yX11_weigh : MethodName := ⟨RX11, "weigh", "()V"⟩
abbrev cX11_fillBest : ByteArray := prog_1_method_18_code
def yX11_fillBest : MethodName := ⟨RX11, "fillBest", "(I)I"⟩
abbrev cX11_ringAt : ByteArray := prog_1_method_19_code
def yX11_ringAt : MethodName := ⟨RX11, "ringAt", "(II)I"⟩
abbrev cX11_firstOfBest : ByteArray := prog_1_method_20_code
def yX11_firstOfBest : MethodName := ⟨RX11, "firstOfBest", "(III)I"⟩
abbrev cX11_isFree : ByteArray := prog_1_method_21_code
def yX11_isFree : MethodName := ⟨RX11, "isFree", "(III)Z"⟩
abbrev cX11_worst : ByteArray := prog_1_method_22_code
def yX11_worst : MethodName := ⟨RX11, "worst", "()I"⟩
abbrev cX11_bearingWithout : ByteArray := prog_1_method_23_code
def yX11_bearingWithout : MethodName := ⟨RX11, "bearingWithout", "(I)I"⟩
abbrev cX11_turn : ByteArray := prog_1_method_24_code
def yX11_turn : MethodName := ⟨RX11, "turn", "(III)I"⟩
abbrev cX11_turnAt : ByteArray := prog_1_method_25_code
def yX11_turnAt : MethodName := ⟨RX11, "turnAt", "(III)I"⟩
abbrev cX11_firstOfTurns : ByteArray := prog_1_method_26_code
def yX11_firstOfTurns : MethodName := ⟨RX11, "firstOfTurns", "(II)I"⟩
abbrev cX11_bearingByTurns : ByteArray := prog_1_method_27_code
def yX11_bearingByTurns : MethodName := ⟨RX11, "bearingByTurns", "(III)I"⟩
abbrev cX11_see : ByteArray := prog_1_method_28_code
def yX11_see : MethodName := ⟨RX11, "see", "(IIIZ)I"⟩
abbrev cX11_hates : ByteArray := prog_1_method_29_code
def yX11_hates : MethodName := ⟨RX11, "hates", "(III)I"⟩
abbrev cX11_can : ByteArray := prog_1_method_30_code
def yX11_can : MethodName := ⟨RX11, "can", "(II)I"⟩
abbrev cX11_isAsSeen : ByteArray := prog_1_method_31_code
def yX11_isAsSeen : MethodName := ⟨RX11, "isAsSeen", "(II)Z"⟩
abbrev cX11_odds : ByteArray := prog_1_method_32_code
def yX11_odds : MethodName := ⟨RX11, "odds", "(II)J"⟩
abbrev cX11_mean : ByteArray := prog_1_method_33_code
def yX11_mean : MethodName := ⟨RX11, "mean", "(II)J"⟩
abbrev cX11_ofAll : ByteArray := prog_1_method_34_code
def yX11_ofAll : MethodName := ⟨RX11, "ofAll", "(II)J"⟩
abbrev cX11_plan : ByteArray := prog_1_method_35_code
def yX11_plan : MethodName := ⟨RX11, "plan", "(II)I"⟩
abbrev cX11_canPlan : ByteArray := prog_1_method_36_code
def yX11_canPlan : MethodName := ⟨RX11, "canPlan", "(II)Z"⟩
abbrev cX11_ends : ByteArray := prog_1_method_37_code
def yX11_ends : MethodName := ⟨RX11, "ends", "(I)I"⟩
abbrev cX11_book : ByteArray := prog_1_method_38_code
def yX11_book : MethodName := ⟨RX11, "book", "(II)I"⟩
abbrev cX11_looked : ByteArray := prog_1_method_39_code
def yX11_looked : MethodName := ⟨RX11, "looked", "()I"⟩
abbrev cX11_judge : ByteArray := prog_1_method_40_code
def yX11_judge : MethodName := ⟨RX11, "judge", "(II)I"⟩
abbrev cX11_image : ByteArray := prog_1_method_41_code
def yX11_image : MethodName := ⟨RX11, "image", "()I"⟩
abbrev cX11_undo : ByteArray := prog_1_method_42_code
def yX11_undo : MethodName := ⟨RX11, "undo", "()I"⟩
abbrev cX11_act : ByteArray := prog_1_method_43_code
def yX11_act : MethodName := ⟨RX11, "act", "(III)I"⟩
abbrev cX11_trace : ByteArray := prog_1_method_44_code
def yX11_trace : MethodName := ⟨RX11, "trace", "(I)I"⟩
abbrev cX11_taken : ByteArray := prog_1_method_45_code
def yX11_taken : MethodName := ⟨RX11, "taken", "(II)I"⟩
abbrev cX11_isOfKind : ByteArray := prog_1_method_46_code
def yX11_isOfKind : MethodName := ⟨RX11, "isOfKind", "(LWassailEnemies$Hater;I)Z"⟩
abbrev cX11_count : ByteArray := prog_1_method_47_code
def yX11_count : MethodName := ⟨RX11, "count", "(I)I"⟩
abbrev cX11_tape : ByteArray := prog_1_method_48_code
def yX11_tape : MethodName := ⟨RX11, "tape", "(III)I"⟩
abbrev cX11_item : ByteArray := prog_1_method_49_code
def yX11_item : MethodName := ⟨RX11, "item", "(IIJ)I"⟩
abbrev cX11_asItem : ByteArray := prog_1_method_50_code
def yX11_asItem : MethodName := ⟨RX11, "asItem", "(IJ)J"⟩
abbrev cX11_read : ByteArray := prog_1_method_51_code
def yX11_read : MethodName := ⟨RX11, "read", "(II)J"⟩
abbrev cX11_shift : ByteArray := prog_1_method_52_code
def yX11_shift : MethodName := ⟨RX11, "shift", "(IIIII)I"⟩
abbrev cX11_hasItem : ByteArray := prog_1_method_53_code
def yX11_hasItem : MethodName := ⟨RX11, "hasItem", "(II)Z"⟩
abbrev cX11_hasItems : ByteArray := prog_1_method_54_code
def yX11_hasItems : MethodName := ⟨RX11, "hasItems", "(III)Z"⟩
abbrev cX11_isTape : ByteArray := prog_1_method_55_code
def yX11_isTape : MethodName := ⟨RX11, "isTape", "(I)Z"⟩
abbrev cX11_isTree : ByteArray := prog_1_method_56_code
def yX11_isTree : MethodName := ⟨RX11, "isTree", "(I)Z"⟩
abbrev cX11_isHate : ByteArray := prog_1_method_57_code
def yX11_isHate : MethodName := ⟨RX11, "isHate", "(I)Z"⟩
abbrev cX11_isYears : ByteArray := prog_1_method_58_code
def yX11_isYears : MethodName := ⟨RX11, "isYears", "(I)Z"⟩
abbrev cX11_bit : ByteArray := prog_1_method_59_code
def yX11_bit : MethodName := ⟨RX11, "bit", "(Z)I"⟩
abbrev cX11_newHater : ByteArray := prog_1_method_60_code
def yX11_newHater : MethodName := ⟨RX11, "newHater", "(III)LWassailEnemies$Hater;"⟩
def RX12 : String := "WassailEnemiesModel"
def TX12 : u_T := fun k => match k with
  | 0 => ("WassailEnemiesModel", "haters", "I", false)
  | 1 => ("WassailEnemiesModel", "gone", "I", false)
  | 2 => ("WassailEnemiesModel", "year", "I", false)
  | 3 => ("WassailEnemiesModel", "kind", "[I", true)
  | 4 => ("WassailEnemiesModel", "v", "[I", true)
  | 5 => ("WassailEnemiesModel", "hates0", "[I", true)
  | 6 => ("WassailEnemiesModel", "rows", "[I", true)
  | 7 => ("WassailEnemiesModel", "bore", "[I", true)
  | 8 => ("WassailEnemiesModel", "leader", "[I", true)
  | 9 => ("WassailEnemiesModel", "orchards", "I", false)
  | 10 => ("WassailEnemiesModel", "the", "I", false)
  | 11 => ("WassailEnemiesModel", "fed", "I", false)
  | 12 => ("WassailEnemiesModel", "at", "I", false)
  | 13 => ("WassailEnemiesModel", "digits", "I", false)
  | 14 => ("WassailEnemiesModel", "text", "[I", true)
  | 15 => ("WassailEnemiesModel", "clauses", "[I", true)
  | 16 => ("WassailEnemiesModel", "word", "[I", true)
  | 17 => ("WassailEnemiesModel", "number", "[I", true)
  | 18 => ("WassailEnemiesModel", "from", "[I", true)
  | 19 => ("WassailEnemiesModel", "to", "[I", true)
  | 20 => ("WassailEnemiesModel", "sign", "[I", true)
  | 21 => ("WassailEnemiesModel", "waits", "[I", true)
  | 22 => ("WassailEnemiesModel", "signs", "I", false)
  | 23 => ("WassailEnemiesModel", "waiting", "I", false)
  | 24 => ("WassailEnemiesModel", "open", "I", false)
  | 25 => ("WassailEnemiesModel", "letters", "[I", true)
  | 26 => ("WassailEnemiesModel", "pile", "[Z", true)
  | 27 => ("WassailEnemiesModel", "mostBore", "I", false)
  | 28 => ("WassailEnemiesModel", "keptGone", "I", false)
  | 29 => ("WassailEnemiesModel", "keptYear", "I", false)
  | 30 => ("WassailEnemiesModel", "keptHates", "[I", true)
  | 31 => ("WassailEnemiesModel", "keptBore", "[I", true)
  | 32 => ("WassailEnemiesModel", "keptLeader", "[I", true)
  | 33 => ("WassailEnemiesModel", "laid", "[I", true)
  | 34 => ("WassailEnemiesModel", "tried", "[I", true)
  | 35 => ("WassailEnemiesModel", "bestRing", "[I", true)
  | 36 => ("WassailEnemiesModel", "bestBears", "I", false)
  | 37 => ("WassailEnemiesModel", "bestForce", "I", false)
  | 38 => ("WassailEnemiesModel", "seen", "I", false)
  | 39 => ("WassailEnemiesModel", "seenWho", "[I", true)
  | 40 => ("WassailEnemiesModel", "seenTree", "[I", true)
  | 41 => ("WassailEnemiesModel", "seenWhen", "[I", true)
  | 42 => ("WassailEnemiesModel", "seenBears", "[Z", true)
  | 43 => ("WassailEnemiesModel", "plans", "I", false)
  | 44 => ("WassailEnemiesModel", "books", "I", false)
  | 45 => ("WassailEnemiesModel", "planWhat", "[I", true)
  | 46 => ("WassailEnemiesModel", "planNumber", "[I", true)
  | 47 => ("WassailEnemiesModel", "bookTree", "[I", true)
  | 48 => ("WassailEnemiesModel", "bookBore", "[I", true)
  | 49 => ("WassailEnemiesModel", "hasImage", "Z", false)
  | 50 => ("WassailEnemiesModel", "imageThe", "I", false)
  | 51 => ("WassailEnemiesModel", "imageHaters", "I", false)
  | 52 => ("WassailEnemiesModel", "imageGone", "I", false)
  | 53 => ("WassailEnemiesModel", "imageYear", "I", false)
  | 54 => ("WassailEnemiesModel", "imageSeen", "I", false)
  | 55 => ("WassailEnemiesModel", "imagePlans", "I", false)
  | 56 => ("WassailEnemiesModel", "imageBooks", "I", false)
  | 57 => ("WassailEnemiesModel", "imageKind", "[I", true)
  | 58 => ("WassailEnemiesModel", "imageV", "[I", true)
  | 59 => ("WassailEnemiesModel", "imageHates", "[I", true)
  | 60 => ("WassailEnemiesModel", "imageRows", "[I", true)
  | 61 => ("WassailEnemiesModel", "imageBore", "[I", true)
  | 62 => ("WassailEnemiesModel", "imageLeader", "[I", true)
  | 63 => ("WassailEnemiesModel", "imageWho", "[I", true)
  | 64 => ("WassailEnemiesModel", "imageTree", "[I", true)
  | 65 => ("WassailEnemiesModel", "imageWhen", "[I", true)
  | 66 => ("WassailEnemiesModel", "imageWhat", "[I", true)
  | 67 => ("WassailEnemiesModel", "imageNumber", "[I", true)
  | 68 => ("WassailEnemiesModel", "imageBookTree", "[I", true)
  | 69 => ("WassailEnemiesModel", "imageBookBore", "[I", true)
  | 70 => ("WassailEnemiesModel", "imageBears", "[Z", true)
  | 71 => ("WassailEnemiesModel", "ran", "I", false)
  | 72 => ("WassailEnemiesModel", "bodies", "[I", true)
  | 73 => ("WassailEnemiesModel", "sort", "[I", true)
  | 74 => ("WassailEnemiesModel", "length", "[I", true)
  | 75 => ("WassailEnemiesModel", "item", "[J", true)
  | _ => ("WassailEnemiesModel", "aside", "[J", true)
def tyX12 : Nat → FieldType := fun k => match k with
  | 0 => .int
  | 1 => .int
  | 2 => .int
  | 3 => .array .int
  | 4 => .array .int
  | 5 => .array .int
  | 6 => .array .int
  | 7 => .array .int
  | 8 => .array .int
  | 9 => .int
  | 10 => .int
  | 11 => .int
  | 12 => .int
  | 13 => .int
  | 14 => .array .int
  | 15 => .array .int
  | 16 => .array .int
  | 17 => .array .int
  | 18 => .array .int
  | 19 => .array .int
  | 20 => .array .int
  | 21 => .array .int
  | 22 => .int
  | 23 => .int
  | 24 => .int
  | 25 => .array .int
  | 26 => .array .boolean
  | 27 => .int
  | 28 => .int
  | 29 => .int
  | 30 => .array .int
  | 31 => .array .int
  | 32 => .array .int
  | 33 => .array .int
  | 34 => .array .int
  | 35 => .array .int
  | 36 => .int
  | 37 => .int
  | 38 => .int
  | 39 => .array .int
  | 40 => .array .int
  | 41 => .array .int
  | 42 => .array .boolean
  | 43 => .int
  | 44 => .int
  | 45 => .array .int
  | 46 => .array .int
  | 47 => .array .int
  | 48 => .array .int
  | 49 => .boolean
  | 50 => .int
  | 51 => .int
  | 52 => .int
  | 53 => .int
  | 54 => .int
  | 55 => .int
  | 56 => .int
  | 57 => .array .int
  | 58 => .array .int
  | 59 => .array .int
  | 60 => .array .int
  | 61 => .array .int
  | 62 => .array .int
  | 63 => .array .int
  | 64 => .array .int
  | 65 => .array .int
  | 66 => .array .int
  | 67 => .array .int
  | 68 => .array .int
  | 69 => .array .int
  | 70 => .array .boolean
  | 71 => .int
  | 72 => .array .int
  | 73 => .array .int
  | 74 => .array .int
  | 75 => .array .long
  | _ => .array .long
theorem nmX12 : ∀ a, a < 77 → ∀ b, b < 77 → a ≠ b → (TX12 a).2.1 ≠ (TX12 b).2.1 := by decide +kernel
theorem tyX12_ok : ∀ k, k < 77 → parseFieldDescriptor (TX12 k).2.2.1 = some (tyX12 k) := by decide +kernel
abbrev cX12_init : ByteArray := prog_14_method_1_code
def yX12_init : MethodName := ⟨RX12, "<init>", "()V"⟩
abbrev cX12_in : ByteArray := prog_14_method_2_code
def yX12_in : MethodName := ⟨RX12, "in", "(III)Z"⟩
abbrev cX12_has : ByteArray := prog_14_method_3_code
def yX12_has : MethodName := ⟨RX12, "has", "(II)Z"⟩
abbrev cX12_least : ByteArray := prog_14_method_4_code
def yX12_least : MethodName := ⟨RX12, "least", "(II)I"⟩
abbrev cX12_isHater : ByteArray := prog_14_method_5_code
def yX12_isHater : MethodName := ⟨RX12, "isHater", "(I)Z"⟩
abbrev cX12_isTree : ByteArray := prog_14_method_6_code
def yX12_isTree : MethodName := ⟨RX12, "isTree", "(I)Z"⟩
abbrev cX12_isHate : ByteArray := prog_14_method_7_code
def yX12_isHate : MethodName := ⟨RX12, "isHate", "(I)Z"⟩
abbrev cX12_isYears : ByteArray := prog_14_method_8_code
def yX12_isYears : MethodName := ⟨RX12, "isYears", "(I)Z"⟩
abbrev cX12_hater : ByteArray := prog_14_method_9_code
def yX12_hater : MethodName := ⟨RX12, "hater", "(III)I"⟩
abbrev cX12_hate : ByteArray := prog_14_method_10_code
def yX12_hate : MethodName := ⟨RX12, "hate", "(III)I"⟩
abbrev cX12_leads : ByteArray := prog_14_method_11_code
def yX12_leads : MethodName := ⟨RX12, "leads", "(II)V"⟩
abbrev cX12_lead : ByteArray := prog_14_method_12_code
def yX12_lead : MethodName := ⟨RX12, "lead", "(II)I"⟩
abbrev cX12_goes : ByteArray := prog_14_method_13_code
def yX12_goes : MethodName := ⟨RX12, "goes", "(IZ)V"⟩
abbrev cX12_leave : ByteArray := prog_14_method_14_code
def yX12_leave : MethodName := ⟨RX12, "leave", "(IZ)I"⟩
abbrev cX12_row : ByteArray := prog_14_method_15_code
def yX12_row : MethodName := ⟨RX12, "row", "(III)I"⟩
abbrev cX12_feed : ByteArray := prog_14_method_16_code
def yX12_feed : MethodName := ⟨RX12, "feed", "(I)I"⟩
abbrev cX12_next : ByteArray := prog_14_method_17_code
def yX12_next : MethodName := ⟨RX12, "next", "()I"⟩
abbrev cX12_takes : ByteArray := prog_14_method_18_code
def yX12_takes : MethodName := ⟨RX12, "takes", "(I)Z"⟩
abbrev cX12_takesWord : ByteArray := prog_14_method_19_code
def yX12_takesWord : MethodName := ⟨RX12, "takesWord", "(II)Z"⟩
abbrev cX12_isDigit : ByteArray := prog_14_method_20_code
def yX12_isDigit : MethodName := ⟨RX12, "isDigit", "()Z"⟩
abbrev cX12_takesNumber : ByteArray := prog_14_method_21_code
def yX12_takesNumber : MethodName := ⟨RX12, "takesNumber", "()Z"⟩
abbrev cX12_emits : ByteArray := prog_14_method_22_code
def yX12_emits : MethodName := ⟨RX12, "emits", "(I)V"⟩
abbrev cX12_whole : ByteArray := prog_14_method_23_code
def yX12_whole : MethodName := ⟨RX12, "whole", "()V"⟩
abbrev cX12_settle : ByteArray := prog_14_method_24_code
def yX12_settle : MethodName := ⟨RX12, "settle", "(I)V"⟩
abbrev cX12_place : ByteArray := prog_14_method_25_code
def yX12_place : MethodName := ⟨RX12, "place", "(I)I"⟩
abbrev cX12_takesTest : ByteArray := prog_14_method_26_code
def yX12_takesTest : MethodName := ⟨RX12, "takesTest", "()Z"⟩
abbrev cX12_takesE : ByteArray := prog_14_method_27_code
def yX12_takesE : MethodName := ⟨RX12, "takesE", "(I)Z"⟩
abbrev cX12_takesHead : ByteArray := prog_14_method_28_code
def yX12_takesHead : MethodName := ⟨RX12, "takesHead", "(I)Z"⟩
abbrev cX12_takesClause : ByteArray := prog_14_method_29_code
def yX12_takesClause : MethodName := ⟨RX12, "takesClause", "(I)Z"⟩
abbrev cX12_goesText : ByteArray := prog_14_method_30_code
def yX12_goesText : MethodName := ⟨RX12, "goesText", "(I)Z"⟩
abbrev cX12_orchard : ByteArray := prog_14_method_31_code
def yX12_orchard : MethodName := ⟨RX12, "orchard", "()I"⟩
abbrev cX12_begin : ByteArray := prog_14_method_32_code
def yX12_begin : MethodName := ⟨RX12, "begin", "()I"⟩
abbrev cX12_behind : ByteArray := prog_14_method_33_code
def yX12_behind : MethodName := ⟨RX12, "behind", "()I"⟩
abbrev cX12_lastOf : ByteArray := prog_14_method_34_code
def yX12_lastOf : MethodName := ⟨RX12, "lastOf", "(II)I"⟩
abbrev cX12_need : ByteArray := prog_14_method_35_code
def yX12_need : MethodName := ⟨RX12, "need", "()I"⟩
abbrev cX12_wear : ByteArray := prog_14_method_36_code
def yX12_wear : MethodName := ⟨RX12, "wear", "()I"⟩
abbrev cX12_factOf : ByteArray := prog_14_method_37_code
def yX12_factOf : MethodName := ⟨RX12, "factOf", "(III)I"⟩
abbrev cX12_holds : ByteArray := prog_14_method_38_code
def yX12_holds : MethodName := ⟨RX12, "holds", "(III)Z"⟩
abbrev cX12_sum : ByteArray := prog_14_method_39_code
def yX12_sum : MethodName := ⟨RX12, "sum", "(II)I"⟩
abbrev cX12_force : ByteArray := prog_14_method_40_code
def yX12_force : MethodName := ⟨RX12, "force", "(II)I"⟩
abbrev cX12_bears : ByteArray := prog_14_method_41_code
def yX12_bears : MethodName := ⟨RX12, "bears", "(II)Z"⟩
abbrev cX12_bearSet : ByteArray := prog_14_method_42_code
def yX12_bearSet : MethodName := ⟨RX12, "bearSet", "()I"⟩
abbrev cX12_wears : ByteArray := prog_14_method_43_code
def yX12_wears : MethodName := ⟨RX12, "wears", "(II)V"⟩
abbrev cX12_goYear : ByteArray := prog_14_method_44_code
def yX12_goYear : MethodName := ⟨RX12, "goYear", "()V"⟩
abbrev cX12_goYears : ByteArray := prog_14_method_45_code
def yX12_goYears : MethodName := ⟨RX12, "goYears", "(I)V"⟩
abbrev cX12_pass : ByteArray := prog_14_method_46_code
def yX12_pass : MethodName := ⟨RX12, "pass", "(I)I"⟩
abbrev cX12_save : ByteArray := prog_14_method_47_code
def yX12_save : MethodName := ⟨RX12, "save", "()V"⟩
abbrev cX12_putBack : ByteArray := prog_14_method_48_code
def yX12_putBack : MethodName := ⟨RX12, "putBack", "()V"⟩
abbrev cX12_lasts : ByteArray := prog_14_method_49_code
def yX12_lasts : MethodName := ⟨RX12, "lasts", "(II)I"⟩
abbrev cX12_whereLeads : ByteArray := prog_14_method_50_code
def yX12_whereLeads : MethodName := ⟨RX12, "whereLeads", "(I)I"⟩
abbrev cX12_of : ByteArray := prog_14_method_51_code
def yX12_of : MethodName := ⟨RX12, "of", "(II)I"⟩
abbrev cX12_allBore : ByteArray := prog_14_method_52_code
def yX12_allBore : MethodName := ⟨RX12, "allBore", "()I"⟩
abbrev cX12_allHate : ByteArray := prog_14_method_53_code
def yX12_allHate : MethodName := ⟨RX12, "allHate", "()I"⟩
abbrev cX12_on : ByteArray := prog_14_method_54_code
def yX12_on : MethodName := ⟨RX12, "on", "(II)I"⟩
abbrev cX12_layForces : ByteArray := prog_14_method_55_code
def yX12_layForces : MethodName := ⟨RX12, "layForces", "()V"⟩
abbrev cX12_layRing : ByteArray := prog_14_method_56_code
def yX12_layRing : MethodName := ⟨RX12, "layRing", "(I)Z"⟩
abbrev cX12_layBest : ByteArray := prog_14_method_57_code
def yX12_layBest : MethodName := ⟨RX12, "layBest", "()V"⟩
abbrev cX12_ring : ByteArray := prog_14_method_58_code
def yX12_ring : MethodName := ⟨RX12, "ring", "(I)I"⟩
abbrev cX12_worst : ByteArray := prog_14_method_59_code
def yX12_worst : MethodName := ⟨RX12, "worst", "(Z)I"⟩
abbrev cX12_told : ByteArray := prog_14_method_60_code
def yX12_told : MethodName := ⟨RX12, "told", "(I)I"⟩
abbrev cX12_leaderAt : ByteArray := prog_14_method_61_code
def yX12_leaderAt : MethodName := ⟨RX12, "leaderAt", "(III)I"⟩
abbrev cX12_bearsBy : ByteArray := prog_14_method_62_code
def yX12_bearsBy : MethodName := ⟨RX12, "bearsBy", "(III)I"⟩
abbrev cX12_turn : ByteArray := prog_14_method_63_code
def yX12_turn : MethodName := ⟨RX12, "turn", "(III)I"⟩
abbrev cX12_see : ByteArray := prog_14_method_64_code
def yX12_see : MethodName := ⟨RX12, "see", "(IIIZ)I"⟩
abbrev cX12_isSeen : ByteArray := prog_14_method_65_code
def yX12_isSeen : MethodName := ⟨RX12, "isSeen", "(II)Z"⟩
abbrev cX12_hates : ByteArray := prog_14_method_66_code
def yX12_hates : MethodName := ⟨RX12, "hates", "(III)I"⟩
abbrev cX12_can : ByteArray := prog_14_method_67_code
def yX12_can : MethodName := ⟨RX12, "can", "(II)I"⟩
abbrev cX12_divisor : ByteArray := prog_14_method_68_code
def yX12_divisor : MethodName := ⟨RX12, "divisor", "(II)I"⟩
abbrev cX12_lowest : ByteArray := prog_14_method_69_code
def yX12_lowest : MethodName := ⟨RX12, "lowest", "(III)J"⟩
abbrev cX12_odds : ByteArray := prog_14_method_70_code
def yX12_odds : MethodName := ⟨RX12, "odds", "(II)J"⟩
abbrev cX12_mean : ByteArray := prog_14_method_71_code
def yX12_mean : MethodName := ⟨RX12, "mean", "(II)J"⟩
abbrev cX12_isLead : ByteArray := prog_14_method_72_code
def yX12_isLead : MethodName := ⟨RX12, "isLead", "(I)Z"⟩
abbrev cX12_plan : ByteArray := prog_14_method_73_code
def yX12_plan : MethodName := ⟨RX12, "plan", "(II)I"⟩
abbrev cX12_goPlan : ByteArray := prog_14_method_74_code
def yX12_goPlan : MethodName := ⟨RX12, "goPlan", "(II)V"⟩
abbrev cX12_ends : ByteArray := prog_14_method_75_code
def yX12_ends : MethodName := ⟨RX12, "ends", "(I)I"⟩
abbrev cX12_book : ByteArray := prog_14_method_76_code
def yX12_book : MethodName := ⟨RX12, "book", "(II)I"⟩
abbrev cX12_looked : ByteArray := prog_14_method_77_code
def yX12_looked : MethodName := ⟨RX12, "looked", "()I"⟩
abbrev cX12_judge : ByteArray := prog_14_method_78_code
def yX12_judge : MethodName := ⟨RX12, "judge", "(II)I"⟩
abbrev cX12_image : ByteArray := prog_14_method_79_code
def yX12_image : MethodName := ⟨RX12, "image", "()I"⟩
abbrev cX12_undo : ByteArray := prog_14_method_80_code
def yX12_undo : MethodName := ⟨RX12, "undo", "()I"⟩
abbrev cX12_body : ByteArray := prog_14_method_81_code
def yX12_body : MethodName := ⟨RX12, "body", "(I)V"⟩
abbrev cX12_haterSings : ByteArray := prog_14_method_82_code
def yX12_haterSings : MethodName := ⟨RX12, "haterSings", "(II)I"⟩
abbrev cX12_singsAct : ByteArray := prog_14_method_83_code
def yX12_singsAct : MethodName := ⟨RX12, "singsAct", "(II)I"⟩
abbrev cX12_haterSpits : ByteArray := prog_14_method_84_code
def yX12_haterSpits : MethodName := ⟨RX12, "haterSpits", "(II)I"⟩
abbrev cX12_uncleSpits : ByteArray := prog_14_method_85_code
def yX12_uncleSpits : MethodName := ⟨RX12, "uncleSpits", "(II)I"⟩
abbrev cX12_spitsAct : ByteArray := prog_14_method_86_code
def yX12_spitsAct : MethodName := ⟨RX12, "spitsAct", "(II)I"⟩
abbrev cX12_haterTells : ByteArray := prog_14_method_87_code
def yX12_haterTells : MethodName := ⟨RX12, "haterTells", "(II)I"⟩
abbrev cX12_tellsAct : ByteArray := prog_14_method_88_code
def yX12_tellsAct : MethodName := ⟨RX12, "tellsAct", "(II)I"⟩
abbrev cX12_act : ByteArray := prog_14_method_89_code
def yX12_act : MethodName := ⟨RX12, "act", "(III)I"⟩
abbrev cX12_trace : ByteArray := prog_14_method_90_code
def yX12_trace : MethodName := ⟨RX12, "trace", "(I)I"⟩
abbrev cX12_taken : ByteArray := prog_14_method_91_code
def yX12_taken : MethodName := ⟨RX12, "taken", "(II)I"⟩
abbrev cX12_count : ByteArray := prog_14_method_92_code
def yX12_count : MethodName := ⟨RX12, "count", "(I)I"⟩
abbrev cX12_isTape : ByteArray := prog_14_method_93_code
def yX12_isTape : MethodName := ⟨RX12, "isTape", "(I)Z"⟩
abbrev cX12_tape : ByteArray := prog_14_method_94_code
def yX12_tape : MethodName := ⟨RX12, "tape", "(III)I"⟩
abbrev cX12_narrow : ByteArray := prog_14_method_95_code
def yX12_narrow : MethodName := ⟨RX12, "narrow", "(IJ)J"⟩
abbrev cX12_item : ByteArray := prog_14_method_96_code
def yX12_item : MethodName := ⟨RX12, "item", "(IIJ)I"⟩
abbrev cX12_read : ByteArray := prog_14_method_97_code
def yX12_read : MethodName := ⟨RX12, "read", "(II)J"⟩
abbrev cX12_shift : ByteArray := prog_14_method_98_code
def yX12_shift : MethodName := ⟨RX12, "shift", "(IIIII)I"⟩
def RJx145de : String := "java/io/Serializable"
def TJx145de : u_T := fun k => match k with
  | _ => ("", "", "", false)
def tyJx145de : Nat → FieldType := fun k => match k with
  | _ => .int
theorem nmJx145de : ∀ a, a < 0 → ∀ b, b < 0 → a ≠ b → (TJx145de a).2.1 ≠ (TJx145de b).2.1 := by decide +kernel
theorem tyJx145de_ok : ∀ k, k < 0 → parseFieldDescriptor (TJx145de k).2.2.1 = some (tyJx145de k) := by decide +kernel
def RJx9f9b0 : String := "java/lang/CharSequence"
def TJx9f9b0 : u_T := fun k => match k with
  | _ => ("", "", "", false)
def tyJx9f9b0 : Nat → FieldType := fun k => match k with
  | _ => .int
theorem nmJx9f9b0 : ∀ a, a < 0 → ∀ b, b < 0 → a ≠ b → (TJx9f9b0 a).2.1 ≠ (TJx9f9b0 b).2.1 := by decide +kernel
theorem tyJx9f9b0_ok : ∀ k, k < 0 → parseFieldDescriptor (TJx9f9b0 k).2.2.1 = some (tyJx9f9b0 k) := by decide +kernel
def RJ11 : String := "java/lang/Character"
def TJ11 : u_T := fun k => match k with
  | _ => ("", "", "", false)
def tyJ11 : Nat → FieldType := fun k => match k with
  | _ => .int
theorem nmJ11 : ∀ a, a < 0 → ∀ b, b < 0 → a ≠ b → (TJ11 a).2.1 ≠ (TJ11 b).2.1 := by decide +kernel
theorem tyJ11_ok : ∀ k, k < 0 → parseFieldDescriptor (TJ11 k).2.2.1 = some (tyJ11 k) := by decide +kernel
abbrev cJ11_isValidCodePoint_9a6ad : ByteArray := prog_17_method_11_code
def yJ11_isValidCodePoint_9a6ad : MethodName := ⟨RJ11, "isValidCodePoint", "(I)Z"⟩
abbrev cJ11_highSurrogate_5068e : ByteArray := prog_17_method_28_code
def yJ11_highSurrogate_5068e : MethodName := ⟨RJ11, "highSurrogate", "(I)C"⟩
abbrev cJ11_lowSurrogate_5068e : ByteArray := prog_17_method_29_code
def yJ11_lowSurrogate_5068e : MethodName := ⟨RJ11, "lowSurrogate", "(I)C"⟩
def RJx8e188 : String := "java/lang/Cloneable"
def TJx8e188 : u_T := fun k => match k with
  | _ => ("", "", "", false)
def tyJx8e188 : Nat → FieldType := fun k => match k with
  | _ => .int
theorem nmJx8e188 : ∀ a, a < 0 → ∀ b, b < 0 → a ≠ b → (TJx8e188 a).2.1 ≠ (TJx8e188 b).2.1 := by decide +kernel
theorem tyJx8e188_ok : ∀ k, k < 0 → parseFieldDescriptor (TJx8e188 k).2.2.1 = some (tyJx8e188 k) := by decide +kernel
def RJxb160c : String := "java/lang/Comparable"
def TJxb160c : u_T := fun k => match k with
  | _ => ("", "", "", false)
def tyJxb160c : Nat → FieldType := fun k => match k with
  | _ => .int
theorem nmJxb160c : ∀ a, a < 0 → ∀ b, b < 0 → a ≠ b → (TJxb160c a).2.1 ≠ (TJxb160c b).2.1 := by decide +kernel
theorem tyJxb160c_ok : ∀ k, k < 0 → parseFieldDescriptor (TJxb160c k).2.2.1 = some (tyJxb160c k) := by decide +kernel
def RJxabbfe : String := "java/lang/Integer$IntegerCache"
def TJxabbfe : u_T := fun k => match k with
  | _ => ("", "", "", false)
def tyJxabbfe : Nat → FieldType := fun k => match k with
  | _ => .int
theorem nmJxabbfe : ∀ a, a < 0 → ∀ b, b < 0 → a ≠ b → (TJxabbfe a).2.1 ≠ (TJxabbfe b).2.1 := by decide +kernel
theorem tyJxabbfe_ok : ∀ k, k < 0 → parseFieldDescriptor (TJxabbfe k).2.2.1 = some (tyJxabbfe k) := by decide +kernel
def RJ6 : String := "java/lang/Integer"
def TJ6 : u_T := fun k => match k with
  | _ => ("java/lang/Integer", "value", "I", true)
def tyJ6 : Nat → FieldType := fun k => match k with
  | _ => .int
theorem nmJ6 : ∀ a, a < 1 → ∀ b, b < 1 → a ≠ b → (TJ6 a).2.1 ≠ (TJ6 b).2.1 := by decide +kernel
theorem tyJ6_ok : ∀ k, k < 1 → parseFieldDescriptor (TJ6 k).2.2.1 = some (tyJ6 k) := by decide +kernel
abbrev cJ6_valueOf_2dffe : ByteArray := prog_20_method_22_code
def yJ6_valueOf_2dffe : MethodName := ⟨RJ6, "valueOf", "(I)Ljava/lang/Integer;"⟩
abbrev cJ6_init_d00df : ByteArray := prog_20_method_23_code
def yJ6_init_d00df : MethodName := ⟨RJ6, "<init>", "(I)V"⟩
abbrev cJ6_intValue_8abf5 : ByteArray := prog_20_method_27_code
def yJ6_intValue_8abf5 : MethodName := ⟨RJ6, "intValue", "()I"⟩
def RJxab1ab : String := "java/lang/Iterable"
def TJxab1ab : u_T := fun k => match k with
  | _ => ("", "", "", false)
def tyJxab1ab : Nat → FieldType := fun k => match k with
  | _ => .int
theorem nmJxab1ab : ∀ a, a < 0 → ∀ b, b < 0 → a ≠ b → (TJxab1ab a).2.1 ≠ (TJxab1ab b).2.1 := by decide +kernel
theorem tyJxab1ab_ok : ∀ k, k < 0 → parseFieldDescriptor (TJxab1ab k).2.2.1 = some (tyJxab1ab k) := by decide +kernel
def RJ9 : String := "java/lang/Math"
def TJ9 : u_T := fun k => match k with
  | _ => ("", "", "", false)
def tyJ9 : Nat → FieldType := fun k => match k with
  | _ => .int
theorem nmJ9 : ∀ a, a < 0 → ∀ b, b < 0 → a ≠ b → (TJ9 a).2.1 ≠ (TJ9 b).2.1 := by decide +kernel
theorem tyJ9_ok : ∀ k, k < 0 → parseFieldDescriptor (TJ9 k).2.2.1 = some (tyJ9 k) := by decide +kernel
abbrev cJ9_max_7cf53 : ByteArray := prog_23_method_65_code
def yJ9_max_7cf53 : MethodName := ⟨RJ9, "max", "(II)I"⟩
abbrev cJ9_min_7cf53 : ByteArray := prog_23_method_69_code
def yJ9_min_7cf53 : MethodName := ⟨RJ9, "min", "(II)I"⟩
def RJxd2413 : String := "java/lang/Number"
def TJxd2413 : u_T := fun k => match k with
  | _ => ("", "", "", false)
def tyJxd2413 : Nat → FieldType := fun k => match k with
  | _ => .int
theorem nmJxd2413 : ∀ a, a < 0 → ∀ b, b < 0 → a ≠ b → (TJxd2413 a).2.1 ≠ (TJxd2413 b).2.1 := by decide +kernel
theorem tyJxd2413_ok : ∀ k, k < 0 → parseFieldDescriptor (TJxd2413 k).2.2.1 = some (tyJxd2413 k) := by decide +kernel
abbrev cJxd2413_init_da8c8 : ByteArray := prog_24_method_1_code
def yJxd2413_init_da8c8 : MethodName := ⟨RJxd2413, "<init>", "()V"⟩
def RJ0 : String := "java/lang/String"
def TJ0 : u_T := fun k => match k with
  | _ => ("", "", "", false)
def tyJ0 : Nat → FieldType := fun k => match k with
  | _ => .int
theorem nmJ0 : ∀ a, a < 0 → ∀ b, b < 0 → a ≠ b → (TJ0 a).2.1 ≠ (TJ0 b).2.1 := by decide +kernel
theorem tyJ0_ok : ∀ k, k < 0 → parseFieldDescriptor (TJ0 k).2.2.1 = some (tyJ0 k) := by decide +kernel
abbrev cJ0_length_8abf5 : ByteArray := prog_25_method_54_code
def yJ0_length_8abf5 : MethodName := ⟨RJ0, "length", "()I"⟩
abbrev cJ0_charAt_5068e : ByteArray := prog_25_method_56_code
def yJ0_charAt_5068e : MethodName := ⟨RJ0, "charAt", "(I)C"⟩
abbrev cJ0_indexOf_0f7a4 : ByteArray := prog_25_method_79_code
def yJ0_indexOf_0f7a4 : MethodName := ⟨RJ0, "indexOf", "(I)I"⟩
abbrev cJ0_indexOf_7cf53 : ByteArray := prog_25_method_80_code
def yJ0_indexOf_7cf53 : MethodName := ⟨RJ0, "indexOf", "(II)I"⟩
abbrev cJ0_coder_7d493 : ByteArray := prog_25_method_152_code
def yJ0_coder_7d493 : MethodName := ⟨RJ0, "coder", "()B"⟩
abbrev cJ0_isLatin1_aae02 : ByteArray := prog_25_method_154_code
def yJ0_isLatin1_aae02 : MethodName := ⟨RJ0, "isLatin1", "()Z"⟩
abbrev cJ0_checkIndex_df160 : ByteArray := prog_25_method_155_code
def yJ0_checkIndex_df160 : MethodName := ⟨RJ0, "checkIndex", "(II)V"⟩
abbrev cJ0_checkBoundsBeginEnd_23922 : ByteArray := prog_25_method_158_code
def yJ0_checkBoundsBeginEnd_23922 : MethodName := ⟨RJ0, "checkBoundsBeginEnd", "(III)V"⟩
def RJ1 : String := "java/lang/StringLatin1"
def TJ1 : u_T := fun k => match k with
  | _ => ("", "", "", false)
def tyJ1 : Nat → FieldType := fun k => match k with
  | _ => .int
theorem nmJ1 : ∀ a, a < 0 → ∀ b, b < 0 → a ≠ b → (TJ1 a).2.1 ≠ (TJ1 b).2.1 := by decide +kernel
theorem tyJ1_ok : ∀ k, k < 0 → parseFieldDescriptor (TJ1 k).2.2.1 = some (tyJ1 k) := by decide +kernel
abbrev cJ1_charAt_3b067 : ByteArray := prog_26_method_2_code
def yJ1_charAt_3b067 : MethodName := ⟨RJ1, "charAt", "([BI)C"⟩
abbrev cJ1_canEncode_9a6ad : ByteArray := prog_26_method_4_code
def yJ1_canEncode_9a6ad : MethodName := ⟨RJ1, "canEncode", "(I)Z"⟩
abbrev cJ1_indexOf_4cfef : ByteArray := prog_26_method_22_code
def yJ1_indexOf_4cfef : MethodName := ⟨RJ1, "indexOf", "([BIII)I"⟩
abbrev cJ1_indexOfChar_4cfef : ByteArray := prog_26_method_23_code
def yJ1_indexOfChar_4cfef : MethodName := ⟨RJ1, "indexOfChar", "([BIII)I"⟩
def RJ2 : String := "java/lang/StringUTF16"
def TJ2 : u_T := fun k => match k with
  | _ => ("", "", "", false)
def tyJ2 : Nat → FieldType := fun k => match k with
  | _ => .int
theorem nmJ2 : ∀ a, a < 0 → ∀ b, b < 0 → a ≠ b → (TJ2 a).2.1 ≠ (TJ2 b).2.1 := by decide +kernel
theorem tyJ2_ok : ∀ k, k < 0 → parseFieldDescriptor (TJ2 k).2.2.1 = some (tyJ2 k) := by decide +kernel
abbrev cJ2_getChar_3b067 : ByteArray := prog_27_method_5_code
def yJ2_getChar_3b067 : MethodName := ⟨RJ2, "getChar", "([BI)C"⟩
abbrev cJ2_length_9d52b : ByteArray := prog_27_method_6_code
def yJ2_length_9d52b : MethodName := ⟨RJ2, "length", "([B)I"⟩
abbrev cJ2_indexOf_4cfef : ByteArray := prog_27_method_40_code
def yJ2_indexOf_4cfef : MethodName := ⟨RJ2, "indexOf", "([BIII)I"⟩
abbrev cJ2_indexOfChar_4cfef : ByteArray := prog_27_method_47_code
def yJ2_indexOfChar_4cfef : MethodName := ⟨RJ2, "indexOfChar", "([BIII)I"⟩
abbrev cJ2_indexOfCharUnsafe_4cfef : ByteArray := prog_27_method_48_code
def yJ2_indexOfCharUnsafe_4cfef : MethodName := ⟨RJ2, "indexOfCharUnsafe", "([BIII)I"⟩
abbrev cJ2_indexOfSupplementary_4cfef : ByteArray := prog_27_method_49_code
def yJ2_indexOfSupplementary_4cfef : MethodName := ⟨RJ2, "indexOfSupplementary", "([BIII)I"⟩
abbrev cJ2_charAt_3b067 : ByteArray := prog_27_method_83_code
def yJ2_charAt_3b067 : MethodName := ⟨RJ2, "charAt", "([BI)C"⟩
abbrev cJ2_checkIndex_2214a : ByteArray := prog_27_method_91_code
def yJ2_checkIndex_2214a : MethodName := ⟨RJ2, "checkIndex", "(I[B)V"⟩
abbrev cJ2_checkBoundsBeginEnd_d044e : ByteArray := prog_27_method_93_code
def yJ2_checkBoundsBeginEnd_d044e : MethodName := ⟨RJ2, "checkBoundsBeginEnd", "(II[B)V"⟩
def RJ10 : String := "java/lang/System"
def TJ10 : u_T := fun k => match k with
  | _ => ("", "", "", false)
def tyJ10 : Nat → FieldType := fun k => match k with
  | _ => .int
theorem nmJ10 : ∀ a, a < 0 → ∀ b, b < 0 → a ≠ b → (TJ10 a).2.1 ≠ (TJ10 b).2.1 := by decide +kernel
theorem tyJ10_ok : ∀ k, k < 0 → parseFieldDescriptor (TJ10 k).2.2.1 = some (tyJ10 k) := by decide +kernel
def RJxfd54e : String := "java/lang/constant/Constable"
def TJxfd54e : u_T := fun k => match k with
  | _ => ("", "", "", false)
def tyJxfd54e : Nat → FieldType := fun k => match k with
  | _ => .int
theorem nmJxfd54e : ∀ a, a < 0 → ∀ b, b < 0 → a ≠ b → (TJxfd54e a).2.1 ≠ (TJxfd54e b).2.1 := by decide +kernel
theorem tyJxfd54e_ok : ∀ k, k < 0 → parseFieldDescriptor (TJxfd54e k).2.2.1 = some (tyJxfd54e k) := by decide +kernel
def RJx3cf43 : String := "java/lang/constant/ConstantDesc"
def TJx3cf43 : u_T := fun k => match k with
  | _ => ("", "", "", false)
def tyJx3cf43 : Nat → FieldType := fun k => match k with
  | _ => .int
theorem nmJx3cf43 : ∀ a, a < 0 → ∀ b, b < 0 → a ≠ b → (TJx3cf43 a).2.1 ≠ (TJx3cf43 b).2.1 := by decide +kernel
theorem tyJx3cf43_ok : ∀ k, k < 0 → parseFieldDescriptor (TJx3cf43 k).2.2.1 = some (tyJx3cf43 k) := by decide +kernel
def RJxa1e45 : String := "java/util/AbstractCollection"
def TJxa1e45 : u_T := fun k => match k with
  | _ => ("", "", "", false)
def tyJxa1e45 : Nat → FieldType := fun k => match k with
  | _ => .int
theorem nmJxa1e45 : ∀ a, a < 0 → ∀ b, b < 0 → a ≠ b → (TJxa1e45 a).2.1 ≠ (TJxa1e45 b).2.1 := by decide +kernel
theorem tyJxa1e45_ok : ∀ k, k < 0 → parseFieldDescriptor (TJxa1e45 k).2.2.1 = some (tyJxa1e45 k) := by decide +kernel
abbrev cJxa1e45_init_da8c8 : ByteArray := prog_31_method_1_code
def yJxa1e45_init_da8c8 : MethodName := ⟨RJxa1e45, "<init>", "()V"⟩
def RJxc12de : String := "java/util/AbstractList"
def TJxc12de : u_T := fun k => match k with
  | _ => ("", "", "", false)
def tyJxc12de : Nat → FieldType := fun k => match k with
  | _ => .int
theorem nmJxc12de : ∀ a, a < 0 → ∀ b, b < 0 → a ≠ b → (TJxc12de a).2.1 ≠ (TJxc12de b).2.1 := by decide +kernel
theorem tyJxc12de_ok : ∀ k, k < 0 → parseFieldDescriptor (TJxc12de k).2.2.1 = some (tyJxc12de k) := by decide +kernel
abbrev cJxc12de_init_da8c8 : ByteArray := prog_32_method_1_code
def yJxc12de_init_da8c8 : MethodName := ⟨RJxc12de, "<init>", "()V"⟩
def RJx4a65c : String := "java/util/ArrayList"
def TJx4a65c : u_T := fun k => match k with
  | 0 => ("java/util/AbstractList", "modCount", "I", false)
  | 1 => ("java/util/ArrayList", "elementData", "[Ljava/lang/Object;", false)
  | _ => ("java/util/ArrayList", "size", "I", false)
def tyJx4a65c : Nat → FieldType := fun k => match k with
  | 0 => .int
  | 1 => .array (.object "java/lang/Object")
  | _ => .int
theorem nmJx4a65c : ∀ a, a < 3 → ∀ b, b < 3 → a ≠ b → (TJx4a65c a).2.1 ≠ (TJx4a65c b).2.1 := by decide +kernel
theorem tyJx4a65c_ok : ∀ k, k < 3 → parseFieldDescriptor (TJx4a65c k).2.2.1 = some (tyJx4a65c k) := by decide +kernel
abbrev cJx4a65c_init_da8c8 : ByteArray := prog_33_method_2_code
def yJx4a65c_init_da8c8 : MethodName := ⟨RJx4a65c, "<init>", "()V"⟩
abbrev cJx4a65c_grow_92f84 : ByteArray := prog_33_method_6_code
def yJx4a65c_grow_92f84 : MethodName := ⟨RJx4a65c, "grow", "(I)[Ljava/lang/Object;"⟩
abbrev cJx4a65c_grow_d5877 : ByteArray := prog_33_method_7_code
def yJx4a65c_grow_d5877 : MethodName := ⟨RJx4a65c, "grow", "()[Ljava/lang/Object;"⟩
abbrev cJx4a65c_size_8abf5 : ByteArray := prog_33_method_8_code
def yJx4a65c_size_8abf5 : MethodName := ⟨RJx4a65c, "size", "()I"⟩
abbrev cJx4a65c_elementData_915e3 : ByteArray := prog_33_method_18_code
def yJx4a65c_elementData_915e3 : MethodName := ⟨RJx4a65c, "elementData", "(I)Ljava/lang/Object;"⟩
abbrev cJx4a65c_get_915e3 : ByteArray := prog_33_method_20_code
def yJx4a65c_get_915e3 : MethodName := ⟨RJx4a65c, "get", "(I)Ljava/lang/Object;"⟩
abbrev cJx4a65c_add_72be8 : ByteArray := prog_33_method_24_code
def yJx4a65c_add_72be8 : MethodName := ⟨RJx4a65c, "add", "(Ljava/lang/Object;[Ljava/lang/Object;I)V"⟩
abbrev cJx4a65c_add_9ea2d : ByteArray := prog_33_method_25_code
def yJx4a65c_add_9ea2d : MethodName := ⟨RJx4a65c, "add", "(Ljava/lang/Object;)Z"⟩
abbrev cJx4a65c_clear_da8c8 : ByteArray := prog_33_method_40_code
def yJx4a65c_clear_da8c8 : MethodName := ⟨RJx4a65c, "clear", "()V"⟩
def RJ7 : String := "java/util/Arrays"
def TJ7 : u_T := fun k => match k with
  | _ => ("", "", "", false)
def tyJ7 : Nat → FieldType := fun k => match k with
  | _ => .int
theorem nmJ7 : ∀ a, a < 0 → ∀ b, b < 0 → a ≠ b → (TJ7 a).2.1 ≠ (TJ7 b).2.1 := by decide +kernel
theorem tyJ7_ok : ∀ k, k < 0 → parseFieldDescriptor (TJ7 k).2.2.1 = some (tyJ7 k) := by decide +kernel
abbrev cJ7_fill_d0a16 : ByteArray := prog_34_method_101_code
def yJ7_fill_d0a16 : MethodName := ⟨RJ7, "fill", "([JJ)V"⟩
abbrev cJ7_fill_53178 : ByteArray := prog_34_method_103_code
def yJ7_fill_53178 : MethodName := ⟨RJ7, "fill", "([II)V"⟩
abbrev cJ7_copyOf_1904c : ByteArray := prog_34_method_119_code
def yJ7_copyOf_1904c : MethodName := ⟨RJ7, "copyOf", "([Ljava/lang/Object;I)[Ljava/lang/Object;"⟩
abbrev cJ7_copyOf_6403c : ByteArray := prog_34_method_120_code
def yJ7_copyOf_6403c : MethodName := ⟨RJ7, "copyOf", "([Ljava/lang/Object;ILjava/lang/Class;)[Ljava/lang/Object;"⟩
def RJx5ef63 : String := "java/util/Collection"
def TJx5ef63 : u_T := fun k => match k with
  | _ => ("", "", "", false)
def tyJx5ef63 : Nat → FieldType := fun k => match k with
  | _ => .int
theorem nmJx5ef63 : ∀ a, a < 0 → ∀ b, b < 0 → a ≠ b → (TJx5ef63 a).2.1 ≠ (TJx5ef63 b).2.1 := by decide +kernel
theorem tyJx5ef63_ok : ∀ k, k < 0 → parseFieldDescriptor (TJx5ef63 k).2.2.1 = some (tyJx5ef63 k) := by decide +kernel
def RJxbd725 : String := "java/util/List"
def TJxbd725 : u_T := fun k => match k with
  | _ => ("", "", "", false)
def tyJxbd725 : Nat → FieldType := fun k => match k with
  | _ => .int
theorem nmJxbd725 : ∀ a, a < 0 → ∀ b, b < 0 → a ≠ b → (TJxbd725 a).2.1 ≠ (TJxbd725 b).2.1 := by decide +kernel
theorem tyJxbd725_ok : ∀ k, k < 0 → parseFieldDescriptor (TJxbd725 k).2.2.1 = some (tyJxbd725 k) := by decide +kernel
def RJ15 : String := "java/util/Objects"
def TJ15 : u_T := fun k => match k with
  | _ => ("", "", "", false)
def tyJ15 : Nat → FieldType := fun k => match k with
  | _ => .int
theorem nmJ15 : ∀ a, a < 0 → ∀ b, b < 0 → a ≠ b → (TJ15 a).2.1 ≠ (TJ15 b).2.1 := by decide +kernel
theorem tyJ15_ok : ∀ k, k < 0 → parseFieldDescriptor (TJ15 k).2.2.1 = some (tyJ15 k) := by decide +kernel
abbrev cJ15_checkIndex_7cf53 : ByteArray := prog_37_method_17_code
def yJ15_checkIndex_7cf53 : MethodName := ⟨RJ15, "checkIndex", "(II)I"⟩
def RJxf0a74 : String := "java/util/RandomAccess"
def TJxf0a74 : u_T := fun k => match k with
  | _ => ("", "", "", false)
def tyJxf0a74 : Nat → FieldType := fun k => match k with
  | _ => .int
theorem nmJxf0a74 : ∀ a, a < 0 → ∀ b, b < 0 → a ≠ b → (TJxf0a74 a).2.1 ≠ (TJxf0a74 b).2.1 := by decide +kernel
theorem tyJxf0a74_ok : ∀ k, k < 0 → parseFieldDescriptor (TJxf0a74 k).2.2.1 = some (tyJxf0a74 k) := by decide +kernel
def RJxa66e6 : String := "java/util/SequencedCollection"
def TJxa66e6 : u_T := fun k => match k with
  | _ => ("", "", "", false)
def tyJxa66e6 : Nat → FieldType := fun k => match k with
  | _ => .int
theorem nmJxa66e6 : ∀ a, a < 0 → ∀ b, b < 0 → a ≠ b → (TJxa66e6 a).2.1 ≠ (TJxa66e6 b).2.1 := by decide +kernel
theorem tyJxa66e6_ok : ∀ k, k < 0 → parseFieldDescriptor (TJxa66e6 k).2.2.1 = some (tyJxa66e6 k) := by decide +kernel
def RJ8 : String := "jdk/internal/util/ArraysSupport"
def TJ8 : u_T := fun k => match k with
  | _ => ("", "", "", false)
def tyJ8 : Nat → FieldType := fun k => match k with
  | _ => .int
theorem nmJ8 : ∀ a, a < 0 → ∀ b, b < 0 → a ≠ b → (TJ8 a).2.1 ≠ (TJ8 b).2.1 := by decide +kernel
theorem tyJ8_ok : ∀ k, k < 0 → parseFieldDescriptor (TJ8 k).2.2.1 = some (tyJ8 k) := by decide +kernel
abbrev cJ8_newLength_cabcc : ByteArray := prog_40_method_27_code
def yJ8_newLength_cabcc : MethodName := ⟨RJ8, "newLength", "(III)I"⟩
abbrev cJ8_hugeLength_7cf53 : ByteArray := prog_40_method_28_code
def yJ8_hugeLength_7cf53 : MethodName := ⟨RJ8, "hugeLength", "(II)I"⟩
def RJ3 : String := "jdk/internal/util/Preconditions"
def TJ3 : u_T := fun k => match k with
  | _ => ("", "", "", false)
def tyJ3 : Nat → FieldType := fun k => match k with
  | _ => .int
theorem nmJ3 : ∀ a, a < 0 → ∀ b, b < 0 → a ≠ b → (TJ3 a).2.1 ≠ (TJ3 b).2.1 := by decide +kernel
theorem tyJ3_ok : ∀ k, k < 0 → parseFieldDescriptor (TJ3 k).2.2.1 = some (tyJ3 k) := by decide +kernel
abbrev cJ3_checkIndex_8e157 : ByteArray := prog_41_method_11_code
def yJ3_checkIndex_8e157 : MethodName := ⟨RJ3, "checkIndex", "(IILjava/util/function/BiFunction;)I"⟩
abbrev cJ3_checkFromToIndex_8c36e : ByteArray := prog_41_method_12_code
def yJ3_checkFromToIndex_8c36e : MethodName := ⟨RJ3, "checkFromToIndex", "(IIILjava/util/function/BiFunction;)I"⟩
def RL : String := "WassailEnemiesLaw"
abbrev cL_law : ByteArray := code
theorem dX0_init_0 : decode cX0_init 0 = .ok (.aload_n 0, 1) := by decide +kernel
theorem dX0_init_1 : decode cX0_init 1 = .ok (.iload_n 1, 1) := by decide +kernel
theorem dX0_init_2 : decode cX0_init 2 = .ok (.iload_n 2, 1) := by decide +kernel
theorem dX0_init_3 : decode cX0_init 3 = .ok (.iload_n 3, 1) := by decide +kernel
theorem dX0_init_4 : decode cX0_init 4 = .ok (.aload 4, 2) := by decide +kernel
theorem dX0_init_6 : decode cX0_init 6 = .ok (.invokespecial 1, 3) := by decide +kernel
theorem dX0_init_9 : decode cX0_init 9 = .ok (.return_, 1) := by decide +kernel
theorem dX0_force_0 : decode cX0_force 0 = .ok (.aload_n 0, 1) := by decide +kernel
theorem dX0_force_1 : decode cX0_force 1 = .ok (.aload_n 1, 1) := by decide +kernel
theorem dX0_force_2 : decode cX0_force 2 = .ok (.iload_n 2, 1) := by decide +kernel
theorem dX0_force_3 : decode cX0_force 3 = .ok (.iload_n 3, 1) := by decide +kernel
theorem dX0_force_4 : decode cX0_force 4 = .ok (.invokespecial 7, 3) := by decide +kernel
theorem dX0_force_7 : decode cX0_force 7 = .ok (.aload_n 1, 1) := by decide +kernel
theorem dX0_force_8 : decode cX0_force 8 = .ok (.getfield 11, 3) := by decide +kernel
theorem dX0_force_11 : decode cX0_force 11 = .ok (.bipush 10, 2) := by decide +kernel
theorem dX0_force_13 : decode cX0_force 13 = .ok (.irem, 1) := by decide +kernel
theorem dX0_force_14 : decode cX0_force 14 = .ok (.isub, 1) := by decide +kernel
theorem dX0_force_15 : decode cX0_force 15 = .ok (.ireturn, 1) := by decide +kernel
theorem dX0_tells_0 : decode cX0_tells 0 = .ok (.aload_n 0, 1) := by decide +kernel
theorem dX0_tells_1 : decode cX0_tells 1 = .ok (.getfield 17, 3) := by decide +kernel
theorem dX0_tells_4 : decode cX0_tells 4 = .ok (.bipush 60, 2) := by decide +kernel
theorem dX0_tells_6 : decode cX0_tells 6 = .ok (.invokestatic 23, 3) := by decide +kernel
theorem dX0_tells_9 : decode cX0_tells 9 = .ok (.invokevirtual 29, 3) := by decide +kernel
theorem dX0_tells_12 : decode cX0_tells 12 = .ok (.pop, 1) := by decide +kernel
theorem dX0_tells_13 : decode cX0_tells 13 = .ok (.aload_n 0, 1) := by decide +kernel
theorem dX0_tells_14 : decode cX0_tells 14 = .ok (.iload_n 1, 1) := by decide +kernel
theorem dX0_tells_15 : decode cX0_tells 15 = .ok (.aload_n 0, 1) := by decide +kernel
theorem dX0_tells_16 : decode cX0_tells 16 = .ok (.getfield 35, 3) := by decide +kernel
theorem dX0_tells_19 : decode cX0_tells 19 = .ok (.isub, 1) := by decide +kernel
theorem dX0_tells_20 : decode cX0_tells 20 = .ok (.invokespecial 38, 3) := by decide +kernel
theorem dX0_tells_23 : decode cX0_tells 23 = .ok (.ireturn, 1) := by decide +kernel
theorem dX1_init_0 : decode cX1_init 0 = .ok (.aload_n 0, 1) := by decide +kernel
theorem dX1_init_1 : decode cX1_init 1 = .ok (.iload_n 1, 1) := by decide +kernel
theorem dX1_init_2 : decode cX1_init 2 = .ok (.iload_n 2, 1) := by decide +kernel
theorem dX1_init_3 : decode cX1_init 3 = .ok (.iload_n 3, 1) := by decide +kernel
theorem dX1_init_4 : decode cX1_init 4 = .ok (.aload 4, 2) := by decide +kernel
theorem dX1_init_6 : decode cX1_init 6 = .ok (.invokespecial 1, 3) := by decide +kernel
theorem dX1_init_9 : decode cX1_init 9 = .ok (.return_, 1) := by decide +kernel
theorem dX1_force_0 : decode cX1_force 0 = .ok (.aload_n 0, 1) := by decide +kernel
theorem dX1_force_1 : decode cX1_force 1 = .ok (.aload_n 1, 1) := by decide +kernel
theorem dX1_force_2 : decode cX1_force 2 = .ok (.iload_n 2, 1) := by decide +kernel
theorem dX1_force_3 : decode cX1_force 3 = .ok (.iload_n 3, 1) := by decide +kernel
theorem dX1_force_4 : decode cX1_force 4 = .ok (.invokespecial 7, 3) := by decide +kernel
theorem dX1_force_7 : decode cX1_force 7 = .ok (.istore 4, 2) := by decide +kernel
theorem dX1_force_9 : decode cX1_force 9 = .ok (.aload_n 1, 1) := by decide +kernel
theorem dX1_force_10 : decode cX1_force 10 = .ok (.getfield 11, 3) := by decide +kernel
theorem dX1_force_13 : decode cX1_force 13 = .ok (.iconst 2, 1) := by decide +kernel
theorem dX1_force_14 : decode cX1_force 14 = .ok (.irem, 1) := by decide +kernel
theorem dX1_force_15 : decode cX1_force 15 = .ok (.iconst 1, 1) := by decide +kernel
theorem dX1_force_16 : decode cX1_force 16 = .ok (.if_icmp .ne 10, 3) := by decide +kernel
theorem dX1_force_19 : decode cX1_force 19 = .ok (.iload 4, 2) := by decide +kernel
theorem dX1_force_21 : decode cX1_force 21 = .ok (.iconst 2, 1) := by decide +kernel
theorem dX1_force_22 : decode cX1_force 22 = .ok (.idiv, 1) := by decide +kernel
theorem dX1_force_23 : decode cX1_force 23 = .ok (.goto 5, 3) := by decide +kernel
theorem dX1_force_26 : decode cX1_force 26 = .ok (.iload 4, 2) := by decide +kernel
theorem dX1_force_28 : decode cX1_force 28 = .ok (.ireturn, 1) := by decide +kernel
theorem dX1_sings_0 : decode cX1_sings 0 = .ok (.aload_n 0, 1) := by decide +kernel
theorem dX1_sings_1 : decode cX1_sings 1 = .ok (.getfield 17, 3) := by decide +kernel
theorem dX1_sings_4 : decode cX1_sings 4 = .ok (.bipush 50, 2) := by decide +kernel
theorem dX1_sings_6 : decode cX1_sings 6 = .ok (.invokestatic 23, 3) := by decide +kernel
theorem dX1_sings_9 : decode cX1_sings 9 = .ok (.invokevirtual 29, 3) := by decide +kernel
theorem dX1_sings_12 : decode cX1_sings 12 = .ok (.pop, 1) := by decide +kernel
theorem dX1_sings_13 : decode cX1_sings 13 = .ok (.aload_n 0, 1) := by decide +kernel
theorem dX1_sings_14 : decode cX1_sings 14 = .ok (.iload_n 1, 1) := by decide +kernel
theorem dX1_sings_15 : decode cX1_sings 15 = .ok (.invokespecial 35, 3) := by decide +kernel
theorem dX1_sings_18 : decode cX1_sings 18 = .ok (.ineg, 1) := by decide +kernel
theorem dX1_sings_19 : decode cX1_sings 19 = .ok (.ireturn, 1) := by decide +kernel
theorem dX1_spits_0 : decode cX1_spits 0 = .ok (.aload_n 0, 1) := by decide +kernel
theorem dX1_spits_1 : decode cX1_spits 1 = .ok (.getfield 17, 3) := by decide +kernel
theorem dX1_spits_4 : decode cX1_spits 4 = .ok (.bipush 51, 2) := by decide +kernel
theorem dX1_spits_6 : decode cX1_spits 6 = .ok (.invokestatic 23, 3) := by decide +kernel
theorem dX1_spits_9 : decode cX1_spits 9 = .ok (.invokevirtual 29, 3) := by decide +kernel
theorem dX1_spits_12 : decode cX1_spits 12 = .ok (.pop, 1) := by decide +kernel
theorem dX1_spits_13 : decode cX1_spits 13 = .ok (.aload_n 0, 1) := by decide +kernel
theorem dX1_spits_14 : decode cX1_spits 14 = .ok (.iload_n 1, 1) := by decide +kernel
theorem dX1_spits_15 : decode cX1_spits 15 = .ok (.iconst 1, 1) := by decide +kernel
theorem dX1_spits_16 : decode cX1_spits 16 = .ok (.iadd, 1) := by decide +kernel
theorem dX1_spits_17 : decode cX1_spits 17 = .ok (.invokespecial 39, 3) := by decide +kernel
theorem dX1_spits_20 : decode cX1_spits 20 = .ok (.ireturn, 1) := by decide +kernel
theorem dX2_init_0 : decode cX2_init 0 = .ok (.aload_n 0, 1) := by decide +kernel
theorem dX2_init_1 : decode cX2_init 1 = .ok (.invokespecial 1, 3) := by decide +kernel
theorem dX2_init_4 : decode cX2_init 4 = .ok (.aload_n 0, 1) := by decide +kernel
theorem dX2_init_5 : decode cX2_init 5 = .ok (.iload_n 1, 1) := by decide +kernel
theorem dX2_init_6 : decode cX2_init 6 = .ok (.putfield 7, 3) := by decide +kernel
theorem dX2_init_9 : decode cX2_init 9 = .ok (.aload_n 0, 1) := by decide +kernel
theorem dX2_init_10 : decode cX2_init 10 = .ok (.iload_n 2, 1) := by decide +kernel
theorem dX2_init_11 : decode cX2_init 11 = .ok (.putfield 13, 3) := by decide +kernel
theorem dX2_init_14 : decode cX2_init 14 = .ok (.aload_n 0, 1) := by decide +kernel
theorem dX2_init_15 : decode cX2_init 15 = .ok (.iload_n 3, 1) := by decide +kernel
theorem dX2_init_16 : decode cX2_init 16 = .ok (.putfield 16, 3) := by decide +kernel
theorem dX2_init_19 : decode cX2_init 19 = .ok (.aload_n 0, 1) := by decide +kernel
theorem dX2_init_20 : decode cX2_init 20 = .ok (.aload 4, 2) := by decide +kernel
theorem dX2_init_22 : decode cX2_init 22 = .ok (.putfield 19, 3) := by decide +kernel
theorem dX2_init_25 : decode cX2_init 25 = .ok (.return_, 1) := by decide +kernel
theorem dX2_force_0 : decode cX2_force 0 = .ok (.iload_n 3, 1) := by decide +kernel
theorem dX2_force_1 : decode cX2_force 1 = .ok (.ireturn, 1) := by decide +kernel
theorem dX2_sings_0 : decode cX2_sings 0 = .ok (.aload_n 0, 1) := by decide +kernel
theorem dX2_sings_1 : decode cX2_sings 1 = .ok (.getfield 19, 3) := by decide +kernel
theorem dX2_sings_4 : decode cX2_sings 4 = .ok (.bipush 10, 2) := by decide +kernel
theorem dX2_sings_6 : decode cX2_sings 6 = .ok (.invokestatic 23, 3) := by decide +kernel
theorem dX2_sings_9 : decode cX2_sings 9 = .ok (.invokevirtual 29, 3) := by decide +kernel
theorem dX2_sings_12 : decode cX2_sings 12 = .ok (.pop, 1) := by decide +kernel
theorem dX2_sings_13 : decode cX2_sings 13 = .ok (.iload_n 1, 1) := by decide +kernel
theorem dX2_sings_14 : decode cX2_sings 14 = .ok (.aload_n 0, 1) := by decide +kernel
theorem dX2_sings_15 : decode cX2_sings 15 = .ok (.getfield 13, 3) := by decide +kernel
theorem dX2_sings_18 : decode cX2_sings 18 = .ok (.iadd, 1) := by decide +kernel
theorem dX2_sings_19 : decode cX2_sings 19 = .ok (.ireturn, 1) := by decide +kernel
theorem dX2_spits_0 : decode cX2_spits 0 = .ok (.aload_n 0, 1) := by decide +kernel
theorem dX2_spits_1 : decode cX2_spits 1 = .ok (.getfield 19, 3) := by decide +kernel
theorem dX2_spits_4 : decode cX2_spits 4 = .ok (.bipush 11, 2) := by decide +kernel
theorem dX2_spits_6 : decode cX2_spits 6 = .ok (.invokestatic 23, 3) := by decide +kernel
theorem dX2_spits_9 : decode cX2_spits 9 = .ok (.invokevirtual 29, 3) := by decide +kernel
theorem dX2_spits_12 : decode cX2_spits 12 = .ok (.pop, 1) := by decide +kernel
theorem dX2_spits_13 : decode cX2_spits 13 = .ok (.aload_n 0, 1) := by decide +kernel
theorem dX2_spits_14 : decode cX2_spits 14 = .ok (.iload_n 1, 1) := by decide +kernel
theorem dX2_spits_15 : decode cX2_spits 15 = .ok (.invokevirtual 35, 3) := by decide +kernel
theorem dX2_spits_18 : decode cX2_spits 18 = .ok (.aload_n 0, 1) := by decide +kernel
theorem dX2_spits_19 : decode cX2_spits 19 = .ok (.getfield 16, 3) := by decide +kernel
theorem dX2_spits_22 : decode cX2_spits 22 = .ok (.isub, 1) := by decide +kernel
theorem dX2_spits_23 : decode cX2_spits 23 = .ok (.ireturn, 1) := by decide +kernel
theorem dX2_tells_0 : decode cX2_tells 0 = .ok (.aload_n 0, 1) := by decide +kernel
theorem dX2_tells_1 : decode cX2_tells 1 = .ok (.getfield 19, 3) := by decide +kernel
theorem dX2_tells_4 : decode cX2_tells 4 = .ok (.bipush 12, 2) := by decide +kernel
theorem dX2_tells_6 : decode cX2_tells 6 = .ok (.invokestatic 23, 3) := by decide +kernel
theorem dX2_tells_9 : decode cX2_tells 9 = .ok (.invokevirtual 29, 3) := by decide +kernel
theorem dX2_tells_12 : decode cX2_tells 12 = .ok (.pop, 1) := by decide +kernel
theorem dX2_tells_13 : decode cX2_tells 13 = .ok (.aload_n 0, 1) := by decide +kernel
theorem dX2_tells_14 : decode cX2_tells 14 = .ok (.iload_n 1, 1) := by decide +kernel
theorem dX2_tells_15 : decode cX2_tells 15 = .ok (.invokevirtual 39, 3) := by decide +kernel
theorem dX2_tells_18 : decode cX2_tells 18 = .ok (.iconst 2, 1) := by decide +kernel
theorem dX2_tells_19 : decode cX2_tells 19 = .ok (.imul, 1) := by decide +kernel
theorem dX2_tells_20 : decode cX2_tells 20 = .ok (.ireturn, 1) := by decide +kernel
theorem dX3_init_0 : decode cX3_init 0 = .ok (.aload_n 0, 1) := by decide +kernel
theorem dX3_init_1 : decode cX3_init 1 = .ok (.iload_n 1, 1) := by decide +kernel
theorem dX3_init_2 : decode cX3_init 2 = .ok (.iload_n 2, 1) := by decide +kernel
theorem dX3_init_3 : decode cX3_init 3 = .ok (.iload_n 3, 1) := by decide +kernel
theorem dX3_init_4 : decode cX3_init 4 = .ok (.aload 4, 2) := by decide +kernel
theorem dX3_init_6 : decode cX3_init 6 = .ok (.invokespecial 1, 3) := by decide +kernel
theorem dX3_init_9 : decode cX3_init 9 = .ok (.return_, 1) := by decide +kernel
theorem dX3_force_0 : decode cX3_force 0 = .ok (.aload_n 1, 1) := by decide +kernel
theorem dX3_force_1 : decode cX3_force 1 = .ok (.getfield 7, 3) := by decide +kernel
theorem dX3_force_4 : decode cX3_force 4 = .ok (.aload_n 0, 1) := by decide +kernel
theorem dX3_force_5 : decode cX3_force 5 = .ok (.getfield 13, 3) := by decide +kernel
theorem dX3_force_8 : decode cX3_force 8 = .ok (.aaload, 1) := by decide +kernel
theorem dX3_force_9 : decode cX3_force 9 = .ok (.iload_n 2, 1) := by decide +kernel
theorem dX3_force_10 : decode cX3_force 10 = .ok (.iaload, 1) := by decide +kernel
theorem dX3_force_11 : decode cX3_force 11 = .ok (.bipush 50, 2) := by decide +kernel
theorem dX3_force_13 : decode cX3_force 13 = .ok (.if_icmp .lt 9, 3) := by decide +kernel
theorem dX3_force_16 : decode cX3_force 16 = .ok (.iload_n 3, 1) := by decide +kernel
theorem dX3_force_17 : decode cX3_force 17 = .ok (.iconst 2, 1) := by decide +kernel
theorem dX3_force_18 : decode cX3_force 18 = .ok (.imul, 1) := by decide +kernel
theorem dX3_force_19 : decode cX3_force 19 = .ok (.goto 4, 3) := by decide +kernel
theorem dX3_force_22 : decode cX3_force 22 = .ok (.iload_n 3, 1) := by decide +kernel
theorem dX3_force_23 : decode cX3_force 23 = .ok (.ireturn, 1) := by decide +kernel
theorem dX3_sings_0 : decode cX3_sings 0 = .ok (.aload_n 0, 1) := by decide +kernel
theorem dX3_sings_1 : decode cX3_sings 1 = .ok (.getfield 19, 3) := by decide +kernel
theorem dX3_sings_4 : decode cX3_sings 4 = .ok (.bipush 30, 2) := by decide +kernel
theorem dX3_sings_6 : decode cX3_sings 6 = .ok (.invokestatic 23, 3) := by decide +kernel
theorem dX3_sings_9 : decode cX3_sings 9 = .ok (.invokevirtual 29, 3) := by decide +kernel
theorem dX3_sings_12 : decode cX3_sings 12 = .ok (.pop, 1) := by decide +kernel
theorem dX3_sings_13 : decode cX3_sings 13 = .ok (.aload_n 0, 1) := by decide +kernel
theorem dX3_sings_14 : decode cX3_sings 14 = .ok (.iload_n 1, 1) := by decide +kernel
theorem dX3_sings_15 : decode cX3_sings 15 = .ok (.iconst 3, 1) := by decide +kernel
theorem dX3_sings_16 : decode cX3_sings 16 = .ok (.imul, 1) := by decide +kernel
theorem dX3_sings_17 : decode cX3_sings 17 = .ok (.invokespecial 35, 3) := by decide +kernel
theorem dX3_sings_20 : decode cX3_sings 20 = .ok (.ireturn, 1) := by decide +kernel
theorem dX4_init_0 : decode cX4_init 0 = .ok (.aload_n 0, 1) := by decide +kernel
theorem dX4_init_1 : decode cX4_init 1 = .ok (.iload_n 1, 1) := by decide +kernel
theorem dX4_init_2 : decode cX4_init 2 = .ok (.iload_n 2, 1) := by decide +kernel
theorem dX4_init_3 : decode cX4_init 3 = .ok (.iload_n 3, 1) := by decide +kernel
theorem dX4_init_4 : decode cX4_init 4 = .ok (.aload 4, 2) := by decide +kernel
theorem dX4_init_6 : decode cX4_init 6 = .ok (.invokespecial 1, 3) := by decide +kernel
theorem dX4_init_9 : decode cX4_init 9 = .ok (.return_, 1) := by decide +kernel
theorem dX4_force_0 : decode cX4_force 0 = .ok (.bipush 50, 2) := by decide +kernel
theorem dX4_force_2 : decode cX4_force 2 = .ok (.iload_n 3, 1) := by decide +kernel
theorem dX4_force_3 : decode cX4_force 3 = .ok (.isub, 1) := by decide +kernel
theorem dX4_force_4 : decode cX4_force 4 = .ok (.ireturn, 1) := by decide +kernel
theorem dX4_tells_0 : decode cX4_tells 0 = .ok (.aload_n 0, 1) := by decide +kernel
theorem dX4_tells_1 : decode cX4_tells 1 = .ok (.getfield 7, 3) := by decide +kernel
theorem dX4_tells_4 : decode cX4_tells 4 = .ok (.bipush 40, 2) := by decide +kernel
theorem dX4_tells_6 : decode cX4_tells 6 = .ok (.invokestatic 13, 3) := by decide +kernel
theorem dX4_tells_9 : decode cX4_tells 9 = .ok (.invokevirtual 19, 3) := by decide +kernel
theorem dX4_tells_12 : decode cX4_tells 12 = .ok (.pop, 1) := by decide +kernel
theorem dX4_tells_13 : decode cX4_tells 13 = .ok (.aload_n 0, 1) := by decide +kernel
theorem dX4_tells_14 : decode cX4_tells 14 = .ok (.iload_n 1, 1) := by decide +kernel
theorem dX4_tells_15 : decode cX4_tells 15 = .ok (.invokespecial 25, 3) := by decide +kernel
theorem dX4_tells_18 : decode cX4_tells 18 = .ok (.aload_n 0, 1) := by decide +kernel
theorem dX4_tells_19 : decode cX4_tells 19 = .ok (.iconst 1, 1) := by decide +kernel
theorem dX4_tells_20 : decode cX4_tells 20 = .ok (.invokevirtual 29, 3) := by decide +kernel
theorem dX4_tells_23 : decode cX4_tells 23 = .ok (.iadd, 1) := by decide +kernel
theorem dX4_tells_24 : decode cX4_tells 24 = .ok (.ireturn, 1) := by decide +kernel
theorem dX5_init_0 : decode cX5_init 0 = .ok (.aload_n 0, 1) := by decide +kernel
theorem dX5_init_1 : decode cX5_init 1 = .ok (.invokespecial 3, 3) := by decide +kernel
theorem dX5_init_4 : decode cX5_init 4 = .ok (.aload_n 0, 1) := by decide +kernel
theorem dX5_init_5 : decode cX5_init 5 = .ok (.bipush 100, 2) := by decide +kernel
theorem dX5_init_7 : decode cX5_init 7 = .ok (.newarray .int, 2) := by decide +kernel
theorem dX5_init_9 : decode cX5_init 9 = .ok (.putfield 9, 3) := by decide +kernel
theorem dX5_init_12 : decode cX5_init 12 = .ok (.aload_n 0, 1) := by decide +kernel
theorem dX5_init_13 : decode cX5_init 13 = .ok (.bipush 100, 2) := by decide +kernel
theorem dX5_init_15 : decode cX5_init 15 = .ok (.newarray .int, 2) := by decide +kernel
theorem dX5_init_17 : decode cX5_init 17 = .ok (.putfield 15, 3) := by decide +kernel
theorem dX5_init_20 : decode cX5_init 20 = .ok (.return_, 1) := by decide +kernel
theorem dX5_clear_0 : decode cX5_clear 0 = .ok (.aload_n 0, 1) := by decide +kernel
theorem dX5_clear_1 : decode cX5_clear 1 = .ok (.bipush 20, 2) := by decide +kernel
theorem dX5_clear_3 : decode cX5_clear 3 = .ok (.putfield 18, 3) := by decide +kernel
theorem dX5_clear_6 : decode cX5_clear 6 = .ok (.aload_n 0, 1) := by decide +kernel
theorem dX5_clear_7 : decode cX5_clear 7 = .ok (.iconst 3, 1) := by decide +kernel
theorem dX5_clear_8 : decode cX5_clear 8 = .ok (.putfield 22, 3) := by decide +kernel
theorem dX5_clear_11 : decode cX5_clear 11 = .ok (.aload_n 0, 1) := by decide +kernel
theorem dX5_clear_12 : decode cX5_clear 12 = .ok (.iconst 0, 1) := by decide +kernel
theorem dX5_clear_13 : decode cX5_clear 13 = .ok (.putfield 25, 3) := by decide +kernel
theorem dX5_clear_16 : decode cX5_clear 16 = .ok (.return_, 1) := by decide +kernel
theorem dX5_append_0 : decode cX5_append 0 = .ok (.aload_n 0, 1) := by decide +kernel
theorem dX5_append_1 : decode cX5_append 1 = .ok (.getfield 25, 3) := by decide +kernel
theorem dX5_append_4 : decode cX5_append 4 = .ok (.bipush 100, 2) := by decide +kernel
theorem dX5_append_6 : decode cX5_append 6 = .ok (.if_icmp .ge 33, 3) := by decide +kernel
theorem dX5_append_9 : decode cX5_append 9 = .ok (.aload_n 0, 1) := by decide +kernel
theorem dX5_append_10 : decode cX5_append 10 = .ok (.getfield 9, 3) := by decide +kernel
theorem dX5_append_13 : decode cX5_append 13 = .ok (.aload_n 0, 1) := by decide +kernel
theorem dX5_append_14 : decode cX5_append 14 = .ok (.getfield 25, 3) := by decide +kernel
theorem dX5_append_17 : decode cX5_append 17 = .ok (.iload_n 1, 1) := by decide +kernel
theorem dX5_append_18 : decode cX5_append 18 = .ok (.iastore, 1) := by decide +kernel
theorem dX5_append_19 : decode cX5_append 19 = .ok (.aload_n 0, 1) := by decide +kernel
theorem dX5_append_20 : decode cX5_append 20 = .ok (.getfield 15, 3) := by decide +kernel
theorem dX5_append_23 : decode cX5_append 23 = .ok (.aload_n 0, 1) := by decide +kernel
theorem dX5_append_24 : decode cX5_append 24 = .ok (.getfield 25, 3) := by decide +kernel
theorem dX5_append_27 : decode cX5_append 27 = .ok (.iload_n 2, 1) := by decide +kernel
theorem dX5_append_28 : decode cX5_append 28 = .ok (.iastore, 1) := by decide +kernel
theorem dX5_append_29 : decode cX5_append 29 = .ok (.aload_n 0, 1) := by decide +kernel
theorem dX5_append_30 : decode cX5_append 30 = .ok (.dup, 1) := by decide +kernel
theorem dX5_append_31 : decode cX5_append 31 = .ok (.getfield 25, 3) := by decide +kernel
theorem dX5_append_34 : decode cX5_append 34 = .ok (.iconst 1, 1) := by decide +kernel
theorem dX5_append_35 : decode cX5_append 35 = .ok (.iadd, 1) := by decide +kernel
theorem dX5_append_36 : decode cX5_append 36 = .ok (.putfield 25, 3) := by decide +kernel
theorem dX5_append_39 : decode cX5_append 39 = .ok (.return_, 1) := by decide +kernel
theorem dX5_warmth_0 : decode cX5_warmth 0 = .ok (.iconst 0, 1) := by decide +kernel
theorem dX5_warmth_1 : decode cX5_warmth 1 = .ok (.istore_n 2, 1) := by decide +kernel
theorem dX5_warmth_2 : decode cX5_warmth 2 = .ok (.iconst 0, 1) := by decide +kernel
theorem dX5_warmth_3 : decode cX5_warmth 3 = .ok (.istore_n 3, 1) := by decide +kernel
theorem dX5_warmth_4 : decode cX5_warmth 4 = .ok (.iconst 0, 1) := by decide +kernel
theorem dX5_warmth_5 : decode cX5_warmth 5 = .ok (.istore 4, 2) := by decide +kernel
theorem dX5_warmth_7 : decode cX5_warmth 7 = .ok (.iload 4, 2) := by decide +kernel
theorem dX5_warmth_9 : decode cX5_warmth 9 = .ok (.aload_n 0, 1) := by decide +kernel
theorem dX5_warmth_10 : decode cX5_warmth 10 = .ok (.getfield 25, 3) := by decide +kernel
theorem dX5_warmth_13 : decode cX5_warmth 13 = .ok (.if_icmp .ge 153, 3) := by decide +kernel
theorem dX5_warmth_16 : decode cX5_warmth 16 = .ok (.iload_n 3, 1) := by decide +kernel
theorem dX5_warmth_17 : decode cX5_warmth 17 = .ok (.iconst 1, 1) := by decide +kernel
theorem dX5_warmth_18 : decode cX5_warmth 18 = .ok (.iand, 1) := by decide +kernel
theorem dX5_warmth_19 : decode cX5_warmth 19 = .ok (.istore 5, 2) := by decide +kernel
theorem dX5_warmth_21 : decode cX5_warmth 21 = .ok (.aload_n 0, 1) := by decide +kernel
theorem dX5_warmth_22 : decode cX5_warmth 22 = .ok (.getfield 9, 3) := by decide +kernel
theorem dX5_warmth_25 : decode cX5_warmth 25 = .ok (.iload 4, 2) := by decide +kernel
theorem dX5_warmth_27 : decode cX5_warmth 27 = .ok (.iaload, 1) := by decide +kernel
theorem dX5_warmth_28 : decode cX5_warmth 28 = .ok (.tableswitch 106 (-5) (-1) #[86, 66, 56, 43, 36], 36) := by decide +kernel
theorem dX5_warmth_64 : decode cX5_warmth 64 = .ok (.iload_n 3, 1) := by decide +kernel
theorem dX5_warmth_65 : decode cX5_warmth 65 = .ok (.iconst 1, 1) := by decide +kernel
theorem dX5_warmth_66 : decode cX5_warmth 66 = .ok (.ixor, 1) := by decide +kernel
theorem dX5_warmth_67 : decode cX5_warmth 67 = .ok (.istore_n 3, 1) := by decide +kernel
theorem dX5_warmth_68 : decode cX5_warmth 68 = .ok (.goto 92, 3) := by decide +kernel
theorem dX5_warmth_71 : decode cX5_warmth 71 = .ok (.iload_n 3, 1) := by decide +kernel
theorem dX5_warmth_72 : decode cX5_warmth 72 = .ok (.iconst 1, 1) := by decide +kernel
theorem dX5_warmth_73 : decode cX5_warmth 73 = .ok (.ishr, 1) := by decide +kernel
theorem dX5_warmth_74 : decode cX5_warmth 74 = .ok (.iload 5, 2) := by decide +kernel
theorem dX5_warmth_76 : decode cX5_warmth 76 = .ok (.bipush (-2), 2) := by decide +kernel
theorem dX5_warmth_78 : decode cX5_warmth 78 = .ok (.ior, 1) := by decide +kernel
theorem dX5_warmth_79 : decode cX5_warmth 79 = .ok (.iand, 1) := by decide +kernel
theorem dX5_warmth_80 : decode cX5_warmth 80 = .ok (.istore_n 3, 1) := by decide +kernel
theorem dX5_warmth_81 : decode cX5_warmth 81 = .ok (.goto 79, 3) := by decide +kernel
theorem dX5_warmth_84 : decode cX5_warmth 84 = .ok (.iload_n 3, 1) := by decide +kernel
theorem dX5_warmth_85 : decode cX5_warmth 85 = .ok (.iconst 1, 1) := by decide +kernel
theorem dX5_warmth_86 : decode cX5_warmth 86 = .ok (.ishr, 1) := by decide +kernel
theorem dX5_warmth_87 : decode cX5_warmth 87 = .ok (.iload 5, 2) := by decide +kernel
theorem dX5_warmth_89 : decode cX5_warmth 89 = .ok (.ior, 1) := by decide +kernel
theorem dX5_warmth_90 : decode cX5_warmth 90 = .ok (.istore_n 3, 1) := by decide +kernel
theorem dX5_warmth_91 : decode cX5_warmth 91 = .ok (.goto 69, 3) := by decide +kernel
theorem dX5_warmth_94 : decode cX5_warmth 94 = .ok (.iload_n 2, 1) := by decide +kernel
theorem dX5_warmth_95 : decode cX5_warmth 95 = .ok (.iload 5, 2) := by decide +kernel
theorem dX5_warmth_97 : decode cX5_warmth 97 = .ok (.aload_n 0, 1) := by decide +kernel
theorem dX5_warmth_98 : decode cX5_warmth 98 = .ok (.getfield 15, 3) := by decide +kernel
theorem dX5_warmth_101 : decode cX5_warmth 101 = .ok (.iload 4, 2) := by decide +kernel
theorem dX5_warmth_103 : decode cX5_warmth 103 = .ok (.iaload, 1) := by decide +kernel
theorem dX5_warmth_104 : decode cX5_warmth 104 = .ok (.imul, 1) := by decide +kernel
theorem dX5_warmth_105 : decode cX5_warmth 105 = .ok (.iadd, 1) := by decide +kernel
theorem dX5_warmth_106 : decode cX5_warmth 106 = .ok (.istore_n 2, 1) := by decide +kernel
theorem dX5_warmth_107 : decode cX5_warmth 107 = .ok (.iload_n 3, 1) := by decide +kernel
theorem dX5_warmth_108 : decode cX5_warmth 108 = .ok (.iconst 1, 1) := by decide +kernel
theorem dX5_warmth_109 : decode cX5_warmth 109 = .ok (.ishr, 1) := by decide +kernel
theorem dX5_warmth_110 : decode cX5_warmth 110 = .ok (.istore_n 3, 1) := by decide +kernel
theorem dX5_warmth_111 : decode cX5_warmth 111 = .ok (.goto 49, 3) := by decide +kernel
theorem dX5_warmth_114 : decode cX5_warmth 114 = .ok (.iload_n 2, 1) := by decide +kernel
theorem dX5_warmth_115 : decode cX5_warmth 115 = .ok (.iload 5, 2) := by decide +kernel
theorem dX5_warmth_117 : decode cX5_warmth 117 = .ok (.aload_n 0, 1) := by decide +kernel
theorem dX5_warmth_118 : decode cX5_warmth 118 = .ok (.getfield 15, 3) := by decide +kernel
theorem dX5_warmth_121 : decode cX5_warmth 121 = .ok (.iload 4, 2) := by decide +kernel
theorem dX5_warmth_123 : decode cX5_warmth 123 = .ok (.iaload, 1) := by decide +kernel
theorem dX5_warmth_124 : decode cX5_warmth 124 = .ok (.imul, 1) := by decide +kernel
theorem dX5_warmth_125 : decode cX5_warmth 125 = .ok (.isub, 1) := by decide +kernel
theorem dX5_warmth_126 : decode cX5_warmth 126 = .ok (.istore_n 2, 1) := by decide +kernel
theorem dX5_warmth_127 : decode cX5_warmth 127 = .ok (.iload_n 3, 1) := by decide +kernel
theorem dX5_warmth_128 : decode cX5_warmth 128 = .ok (.iconst 1, 1) := by decide +kernel
theorem dX5_warmth_129 : decode cX5_warmth 129 = .ok (.ishr, 1) := by decide +kernel
theorem dX5_warmth_130 : decode cX5_warmth 130 = .ok (.istore_n 3, 1) := by decide +kernel
theorem dX5_warmth_131 : decode cX5_warmth 131 = .ok (.goto 29, 3) := by decide +kernel
theorem dX5_warmth_134 : decode cX5_warmth 134 = .ok (.iload_n 3, 1) := by decide +kernel
theorem dX5_warmth_135 : decode cX5_warmth 135 = .ok (.iconst 1, 1) := by decide +kernel
theorem dX5_warmth_136 : decode cX5_warmth 136 = .ok (.ishl, 1) := by decide +kernel
theorem dX5_warmth_137 : decode cX5_warmth 137 = .ok (.aload_n 0, 1) := by decide +kernel
theorem dX5_warmth_138 : decode cX5_warmth 138 = .ok (.getfield 9, 3) := by decide +kernel
theorem dX5_warmth_141 : decode cX5_warmth 141 = .ok (.iload 4, 2) := by decide +kernel
theorem dX5_warmth_143 : decode cX5_warmth 143 = .ok (.iaload, 1) := by decide +kernel
theorem dX5_warmth_144 : decode cX5_warmth 144 = .ok (.aload_n 0, 1) := by decide +kernel
theorem dX5_warmth_145 : decode cX5_warmth 145 = .ok (.getfield 15, 3) := by decide +kernel
theorem dX5_warmth_148 : decode cX5_warmth 148 = .ok (.iload 4, 2) := by decide +kernel
theorem dX5_warmth_150 : decode cX5_warmth 150 = .ok (.iaload, 1) := by decide +kernel
theorem dX5_warmth_151 : decode cX5_warmth 151 = .ok (.aload_n 1, 1) := by decide +kernel
theorem dX5_warmth_152 : decode cX5_warmth 152 = .ok (.invokestatic 28, 3) := by decide +kernel
theorem dX5_warmth_155 : decode cX5_warmth 155 = .ok (.invokestatic 32, 3) := by decide +kernel
theorem dX5_warmth_158 : decode cX5_warmth 158 = .ok (.ior, 1) := by decide +kernel
theorem dX5_warmth_159 : decode cX5_warmth 159 = .ok (.istore_n 3, 1) := by decide +kernel
theorem dX5_warmth_160 : decode cX5_warmth 160 = .ok (.iinc 4 1, 3) := by decide +kernel
theorem dX5_warmth_163 : decode cX5_warmth 163 = .ok (.goto (-156), 3) := by decide +kernel
theorem dX5_warmth_166 : decode cX5_warmth 166 = .ok (.iload_n 2, 1) := by decide +kernel
theorem dX5_warmth_167 : decode cX5_warmth 167 = .ok (.ireturn, 1) := by decide +kernel
theorem dX5_testStep_0 : decode cX5_testStep 0 = .ok (.iload_n 0, 1) := by decide +kernel
theorem dX5_testStep_1 : decode cX5_testStep 1 = .ok (.ldc 36, 2) := by decide +kernel
theorem dX5_testStep_3 : decode cX5_testStep 3 = .ok (.invokevirtual 38, 3) := by decide +kernel
theorem dX5_testStep_6 : decode cX5_testStep 6 = .ok (.imul, 1) := by decide +kernel
theorem dX5_testStep_7 : decode cX5_testStep 7 = .ok (.iload_n 1, 1) := by decide +kernel
theorem dX5_testStep_8 : decode cX5_testStep 8 = .ok (.iadd, 1) := by decide +kernel
theorem dX5_testStep_9 : decode cX5_testStep 9 = .ok (.ireturn, 1) := by decide +kernel
theorem dX5_passes_0 : decode cX5_passes 0 = .ok (.iload_n 0, 1) := by decide +kernel
theorem dX5_passes_1 : decode cX5_passes 1 = .ok (.ldc 36, 2) := by decide +kernel
theorem dX5_passes_3 : decode cX5_passes 3 = .ok (.invokevirtual 38, 3) := by decide +kernel
theorem dX5_passes_6 : decode cX5_passes 6 = .ok (.idiv, 1) := by decide +kernel
theorem dX5_passes_7 : decode cX5_passes 7 = .ok (.istore_n 3, 1) := by decide +kernel
theorem dX5_passes_8 : decode cX5_passes 8 = .ok (.iload_n 3, 1) := by decide +kernel
theorem dX5_passes_9 : decode cX5_passes 9 = .ok (.ifCond .lt 9, 3) := by decide +kernel
theorem dX5_passes_12 : decode cX5_passes 12 = .ok (.iload_n 3, 1) := by decide +kernel
theorem dX5_passes_13 : decode cX5_passes 13 = .ok (.aload_n 2, 1) := by decide +kernel
theorem dX5_passes_14 : decode cX5_passes 14 = .ok (.arraylength, 1) := by decide +kernel
theorem dX5_passes_15 : decode cX5_passes 15 = .ok (.if_icmp .lt 5, 3) := by decide +kernel
theorem dX5_passes_18 : decode cX5_passes 18 = .ok (.iconst 0, 1) := by decide +kernel
theorem dX5_passes_19 : decode cX5_passes 19 = .ok (.ireturn, 1) := by decide +kernel
theorem dX5_passes_20 : decode cX5_passes 20 = .ok (.iload_n 0, 1) := by decide +kernel
theorem dX5_passes_21 : decode cX5_passes 21 = .ok (.ldc 36, 2) := by decide +kernel
theorem dX5_passes_23 : decode cX5_passes 23 = .ok (.invokevirtual 38, 3) := by decide +kernel
theorem dX5_passes_26 : decode cX5_passes 26 = .ok (.irem, 1) := by decide +kernel
theorem dX5_passes_27 : decode cX5_passes 27 = .ok (.lookupswitch 51 #[(0, 25), (1, 38)], 25) := by decide +kernel
theorem dX5_passes_52 : decode cX5_passes 52 = .ok (.aload_n 2, 1) := by decide +kernel
theorem dX5_passes_53 : decode cX5_passes 53 = .ok (.iload_n 3, 1) := by decide +kernel
theorem dX5_passes_54 : decode cX5_passes 54 = .ok (.iaload, 1) := by decide +kernel
theorem dX5_passes_55 : decode cX5_passes 55 = .ok (.iload_n 1, 1) := by decide +kernel
theorem dX5_passes_56 : decode cX5_passes 56 = .ok (.if_icmp .ge 7, 3) := by decide +kernel
theorem dX5_passes_59 : decode cX5_passes 59 = .ok (.iconst 1, 1) := by decide +kernel
theorem dX5_passes_60 : decode cX5_passes 60 = .ok (.goto 4, 3) := by decide +kernel
theorem dX5_passes_63 : decode cX5_passes 63 = .ok (.iconst 0, 1) := by decide +kernel
theorem dX5_passes_64 : decode cX5_passes 64 = .ok (.ireturn, 1) := by decide +kernel
theorem dX5_passes_65 : decode cX5_passes 65 = .ok (.aload_n 2, 1) := by decide +kernel
theorem dX5_passes_66 : decode cX5_passes 66 = .ok (.iload_n 3, 1) := by decide +kernel
theorem dX5_passes_67 : decode cX5_passes 67 = .ok (.iaload, 1) := by decide +kernel
theorem dX5_passes_68 : decode cX5_passes 68 = .ok (.iload_n 1, 1) := by decide +kernel
theorem dX5_passes_69 : decode cX5_passes 69 = .ok (.if_icmp .ne 7, 3) := by decide +kernel
theorem dX5_passes_72 : decode cX5_passes 72 = .ok (.iconst 1, 1) := by decide +kernel
theorem dX5_passes_73 : decode cX5_passes 73 = .ok (.goto 4, 3) := by decide +kernel
theorem dX5_passes_76 : decode cX5_passes 76 = .ok (.iconst 0, 1) := by decide +kernel
theorem dX5_passes_77 : decode cX5_passes 77 = .ok (.ireturn, 1) := by decide +kernel
theorem dX5_passes_78 : decode cX5_passes 78 = .ok (.aload_n 2, 1) := by decide +kernel
theorem dX5_passes_79 : decode cX5_passes 79 = .ok (.iload_n 3, 1) := by decide +kernel
theorem dX5_passes_80 : decode cX5_passes 80 = .ok (.iaload, 1) := by decide +kernel
theorem dX5_passes_81 : decode cX5_passes 81 = .ok (.iload_n 1, 1) := by decide +kernel
theorem dX5_passes_82 : decode cX5_passes 82 = .ok (.if_icmp .le 7, 3) := by decide +kernel
theorem dX5_passes_85 : decode cX5_passes 85 = .ok (.iconst 1, 1) := by decide +kernel
theorem dX5_passes_86 : decode cX5_passes 86 = .ok (.goto 4, 3) := by decide +kernel
theorem dX5_passes_89 : decode cX5_passes 89 = .ok (.iconst 0, 1) := by decide +kernel
theorem dX5_passes_90 : decode cX5_passes 90 = .ok (.ireturn, 1) := by decide +kernel
theorem dX6_init_0 : decode cX6_init 0 = .ok (.aload_n 0, 1) := by decide +kernel
theorem dX6_init_1 : decode cX6_init 1 = .ok (.invokespecial 3, 3) := by decide +kernel
theorem dX6_init_4 : decode cX6_init 4 = .ok (.aload_n 0, 1) := by decide +kernel
theorem dX6_init_5 : decode cX6_init 5 = .ok (.bipush 100, 2) := by decide +kernel
theorem dX6_init_7 : decode cX6_init 7 = .ok (.newarray .int, 2) := by decide +kernel
theorem dX6_init_9 : decode cX6_init 9 = .ok (.putfield 9, 3) := by decide +kernel
theorem dX6_init_12 : decode cX6_init 12 = .ok (.return_, 1) := by decide +kernel
theorem dX6_append_0 : decode cX6_append 0 = .ok (.aload_n 0, 1) := by decide +kernel
theorem dX6_append_1 : decode cX6_append 1 = .ok (.getfield 15, 3) := by decide +kernel
theorem dX6_append_4 : decode cX6_append 4 = .ok (.bipush 100, 2) := by decide +kernel
theorem dX6_append_6 : decode cX6_append 6 = .ok (.if_icmp .lt 6, 3) := by decide +kernel
theorem dX6_append_9 : decode cX6_append 9 = .ok (.bipush (-4), 2) := by decide +kernel
theorem dX6_append_11 : decode cX6_append 11 = .ok (.ireturn, 1) := by decide +kernel
theorem dX6_append_12 : decode cX6_append 12 = .ok (.aload_n 0, 1) := by decide +kernel
theorem dX6_append_13 : decode cX6_append 13 = .ok (.getfield 9, 3) := by decide +kernel
theorem dX6_append_16 : decode cX6_append 16 = .ok (.aload_n 0, 1) := by decide +kernel
theorem dX6_append_17 : decode cX6_append 17 = .ok (.getfield 15, 3) := by decide +kernel
theorem dX6_append_20 : decode cX6_append 20 = .ok (.iload_n 1, 1) := by decide +kernel
theorem dX6_append_21 : decode cX6_append 21 = .ok (.iastore, 1) := by decide +kernel
theorem dX6_append_22 : decode cX6_append 22 = .ok (.aload_n 0, 1) := by decide +kernel
theorem dX6_append_23 : decode cX6_append 23 = .ok (.dup, 1) := by decide +kernel
theorem dX6_append_24 : decode cX6_append 24 = .ok (.getfield 15, 3) := by decide +kernel
theorem dX6_append_27 : decode cX6_append 27 = .ok (.iconst 1, 1) := by decide +kernel
theorem dX6_append_28 : decode cX6_append 28 = .ok (.iadd, 1) := by decide +kernel
theorem dX6_append_29 : decode cX6_append 29 = .ok (.putfield 15, 3) := by decide +kernel
theorem dX6_append_32 : decode cX6_append 32 = .ok (.aload_n 0, 1) := by decide +kernel
theorem dX6_append_33 : decode cX6_append 33 = .ok (.getfield 15, 3) := by decide +kernel
theorem dX6_append_36 : decode cX6_append 36 = .ok (.ireturn, 1) := by decide +kernel
theorem dX6_readClauses_0 : decode cX6_readClauses 0 = .ok (.aload_n 1, 1) := by decide +kernel
theorem dX6_readClauses_1 : decode cX6_readClauses 1 = .ok (.invokevirtual 19, 3) := by decide +kernel
theorem dX6_readClauses_4 : decode cX6_readClauses 4 = .ok (.aload_n 0, 1) := by decide +kernel
theorem dX6_readClauses_5 : decode cX6_readClauses 5 = .ok (.iconst 0, 1) := by decide +kernel
theorem dX6_readClauses_6 : decode cX6_readClauses 6 = .ok (.putfield 24, 3) := by decide +kernel
theorem dX6_readClauses_9 : decode cX6_readClauses 9 = .ok (.iconst 0, 1) := by decide +kernel
theorem dX6_readClauses_10 : decode cX6_readClauses 10 = .ok (.istore_n 2, 1) := by decide +kernel
theorem dX6_readClauses_11 : decode cX6_readClauses 11 = .ok (.iload_n 2, 1) := by decide +kernel
theorem dX6_readClauses_12 : decode cX6_readClauses 12 = .ok (.bipush 10, 2) := by decide +kernel
theorem dX6_readClauses_14 : decode cX6_readClauses 14 = .ok (.if_icmp .ge 45, 3) := by decide +kernel
theorem dX6_readClauses_17 : decode cX6_readClauses 17 = .ok (.iload_n 2, 1) := by decide +kernel
theorem dX6_readClauses_18 : decode cX6_readClauses 18 = .ok (.ifCond .le 12, 3) := by decide +kernel
theorem dX6_readClauses_21 : decode cX6_readClauses 21 = .ok (.aload_n 0, 1) := by decide +kernel
theorem dX6_readClauses_22 : decode cX6_readClauses 22 = .ok (.bipush 59, 2) := by decide +kernel
theorem dX6_readClauses_24 : decode cX6_readClauses 24 = .ok (.invokevirtual 27, 3) := by decide +kernel
theorem dX6_readClauses_27 : decode cX6_readClauses 27 = .ok (.ifCond .eq 11, 3) := by decide +kernel
theorem dX6_readClauses_30 : decode cX6_readClauses 30 = .ok (.aload_n 0, 1) := by decide +kernel
theorem dX6_readClauses_31 : decode cX6_readClauses 31 = .ok (.aload_n 1, 1) := by decide +kernel
theorem dX6_readClauses_32 : decode cX6_readClauses 32 = .ok (.invokevirtual 31, 3) := by decide +kernel
theorem dX6_readClauses_35 : decode cX6_readClauses 35 = .ok (.ifCond .ne 5, 3) := by decide +kernel
theorem dX6_readClauses_38 : decode cX6_readClauses 38 = .ok (.iconst 0, 1) := by decide +kernel
theorem dX6_readClauses_39 : decode cX6_readClauses 39 = .ok (.ireturn, 1) := by decide +kernel
theorem dX6_readClauses_40 : decode cX6_readClauses 40 = .ok (.aload_n 0, 1) := by decide +kernel
theorem dX6_readClauses_41 : decode cX6_readClauses 41 = .ok (.getfield 24, 3) := by decide +kernel
theorem dX6_readClauses_44 : decode cX6_readClauses 44 = .ok (.aload_n 0, 1) := by decide +kernel
theorem dX6_readClauses_45 : decode cX6_readClauses 45 = .ok (.getfield 15, 3) := by decide +kernel
theorem dX6_readClauses_48 : decode cX6_readClauses 48 = .ok (.if_icmp .ne 5, 3) := by decide +kernel
theorem dX6_readClauses_51 : decode cX6_readClauses 51 = .ok (.iconst 1, 1) := by decide +kernel
theorem dX6_readClauses_52 : decode cX6_readClauses 52 = .ok (.ireturn, 1) := by decide +kernel
theorem dX6_readClauses_53 : decode cX6_readClauses 53 = .ok (.iinc 2 1, 3) := by decide +kernel
theorem dX6_readClauses_56 : decode cX6_readClauses 56 = .ok (.goto (-45), 3) := by decide +kernel
theorem dX6_readClauses_59 : decode cX6_readClauses 59 = .ok (.iconst 0, 1) := by decide +kernel
theorem dX6_readClauses_60 : decode cX6_readClauses 60 = .ok (.ireturn, 1) := by decide +kernel
theorem dX6_readClause_0 : decode cX6_readClause 0 = .ok (.aload_n 0, 1) := by decide +kernel
theorem dX6_readClause_1 : decode cX6_readClause 1 = .ok (.getfield 24, 3) := by decide +kernel
theorem dX6_readClause_4 : decode cX6_readClause 4 = .ok (.aload_n 0, 1) := by decide +kernel
theorem dX6_readClause_5 : decode cX6_readClause 5 = .ok (.getfield 15, 3) := by decide +kernel
theorem dX6_readClause_8 : decode cX6_readClause 8 = .ok (.if_icmp .ge 15, 3) := by decide +kernel
theorem dX6_readClause_11 : decode cX6_readClause 11 = .ok (.aload_n 0, 1) := by decide +kernel
theorem dX6_readClause_12 : decode cX6_readClause 12 = .ok (.getfield 9, 3) := by decide +kernel
theorem dX6_readClause_15 : decode cX6_readClause 15 = .ok (.aload_n 0, 1) := by decide +kernel
theorem dX6_readClause_16 : decode cX6_readClause 16 = .ok (.getfield 24, 3) := by decide +kernel
theorem dX6_readClause_19 : decode cX6_readClause 19 = .ok (.iaload, 1) := by decide +kernel
theorem dX6_readClause_20 : decode cX6_readClause 20 = .ok (.goto 4, 3) := by decide +kernel
theorem dX6_readClause_23 : decode cX6_readClause 23 = .ok (.iconst (-1), 1) := by decide +kernel
theorem dX6_readClause_24 : decode cX6_readClause 24 = .ok (.lookupswitch 150 #[(99, 69), (104, 44), (110, 94), (119, 122)], 44) := by decide +kernel
theorem dX6_readClause_68 : decode cX6_readClause 68 = .ok (.aload_n 0, 1) := by decide +kernel
theorem dX6_readClause_69 : decode cX6_readClause 69 = .ok (.ldc 35, 2) := by decide +kernel
theorem dX6_readClause_71 : decode cX6_readClause 71 = .ok (.invokevirtual 37, 3) := by decide +kernel
theorem dX6_readClause_74 : decode cX6_readClause 74 = .ok (.ifCond .eq 17, 3) := by decide +kernel
theorem dX6_readClause_77 : decode cX6_readClause 77 = .ok (.aload_n 0, 1) := by decide +kernel
theorem dX6_readClause_78 : decode cX6_readClause 78 = .ok (.aload_n 1, 1) := by decide +kernel
theorem dX6_readClause_79 : decode cX6_readClause 79 = .ok (.bipush (-4), 2) := by decide +kernel
theorem dX6_readClause_81 : decode cX6_readClause 81 = .ok (.invokevirtual 41, 3) := by decide +kernel
theorem dX6_readClause_84 : decode cX6_readClause 84 = .ok (.ifCond .eq 7, 3) := by decide +kernel
theorem dX6_readClause_87 : decode cX6_readClause 87 = .ok (.iconst 1, 1) := by decide +kernel
theorem dX6_readClause_88 : decode cX6_readClause 88 = .ok (.goto 4, 3) := by decide +kernel
theorem dX6_readClause_91 : decode cX6_readClause 91 = .ok (.iconst 0, 1) := by decide +kernel
theorem dX6_readClause_92 : decode cX6_readClause 92 = .ok (.ireturn, 1) := by decide +kernel
theorem dX6_readClause_93 : decode cX6_readClause 93 = .ok (.aload_n 0, 1) := by decide +kernel
theorem dX6_readClause_94 : decode cX6_readClause 94 = .ok (.ldc 45, 2) := by decide +kernel
theorem dX6_readClause_96 : decode cX6_readClause 96 = .ok (.invokevirtual 37, 3) := by decide +kernel
theorem dX6_readClause_99 : decode cX6_readClause 99 = .ok (.ifCond .eq 17, 3) := by decide +kernel
theorem dX6_readClause_102 : decode cX6_readClause 102 = .ok (.aload_n 0, 1) := by decide +kernel
theorem dX6_readClause_103 : decode cX6_readClause 103 = .ok (.aload_n 1, 1) := by decide +kernel
theorem dX6_readClause_104 : decode cX6_readClause 104 = .ok (.bipush (-5), 2) := by decide +kernel
theorem dX6_readClause_106 : decode cX6_readClause 106 = .ok (.invokevirtual 41, 3) := by decide +kernel
theorem dX6_readClause_109 : decode cX6_readClause 109 = .ok (.ifCond .eq 7, 3) := by decide +kernel
theorem dX6_readClause_112 : decode cX6_readClause 112 = .ok (.iconst 1, 1) := by decide +kernel
theorem dX6_readClause_113 : decode cX6_readClause 113 = .ok (.goto 4, 3) := by decide +kernel
theorem dX6_readClause_116 : decode cX6_readClause 116 = .ok (.iconst 0, 1) := by decide +kernel
theorem dX6_readClause_117 : decode cX6_readClause 117 = .ok (.ireturn, 1) := by decide +kernel
theorem dX6_readClause_118 : decode cX6_readClause 118 = .ok (.aload_n 0, 1) := by decide +kernel
theorem dX6_readClause_119 : decode cX6_readClause 119 = .ok (.ldc 47, 2) := by decide +kernel
theorem dX6_readClause_121 : decode cX6_readClause 121 = .ok (.invokevirtual 37, 3) := by decide +kernel
theorem dX6_readClause_124 : decode cX6_readClause 124 = .ok (.ifCond .eq 10, 3) := by decide +kernel
theorem dX6_readClause_127 : decode cX6_readClause 127 = .ok (.aload_n 0, 1) := by decide +kernel
theorem dX6_readClause_128 : decode cX6_readClause 128 = .ok (.invokevirtual 49, 3) := by decide +kernel
theorem dX6_readClause_131 : decode cX6_readClause 131 = .ok (.ifCond .ne 5, 3) := by decide +kernel
theorem dX6_readClause_134 : decode cX6_readClause 134 = .ok (.iconst 0, 1) := by decide +kernel
theorem dX6_readClause_135 : decode cX6_readClause 135 = .ok (.ireturn, 1) := by decide +kernel
theorem dX6_readClause_136 : decode cX6_readClause 136 = .ok (.aload_n 1, 1) := by decide +kernel
theorem dX6_readClause_137 : decode cX6_readClause 137 = .ok (.aload_n 0, 1) := by decide +kernel
theorem dX6_readClause_138 : decode cX6_readClause 138 = .ok (.getfield 53, 3) := by decide +kernel
theorem dX6_readClause_141 : decode cX6_readClause 141 = .ok (.putfield 56, 3) := by decide +kernel
theorem dX6_readClause_144 : decode cX6_readClause 144 = .ok (.iconst 1, 1) := by decide +kernel
theorem dX6_readClause_145 : decode cX6_readClause 145 = .ok (.ireturn, 1) := by decide +kernel
theorem dX6_readClause_146 : decode cX6_readClause 146 = .ok (.aload_n 0, 1) := by decide +kernel
theorem dX6_readClause_147 : decode cX6_readClause 147 = .ok (.ldc 59, 2) := by decide +kernel
theorem dX6_readClause_149 : decode cX6_readClause 149 = .ok (.invokevirtual 37, 3) := by decide +kernel
theorem dX6_readClause_152 : decode cX6_readClause 152 = .ok (.ifCond .eq 10, 3) := by decide +kernel
theorem dX6_readClause_155 : decode cX6_readClause 155 = .ok (.aload_n 0, 1) := by decide +kernel
theorem dX6_readClause_156 : decode cX6_readClause 156 = .ok (.invokevirtual 49, 3) := by decide +kernel
theorem dX6_readClause_159 : decode cX6_readClause 159 = .ok (.ifCond .ne 5, 3) := by decide +kernel
theorem dX6_readClause_162 : decode cX6_readClause 162 = .ok (.iconst 0, 1) := by decide +kernel
theorem dX6_readClause_163 : decode cX6_readClause 163 = .ok (.ireturn, 1) := by decide +kernel
theorem dX6_readClause_164 : decode cX6_readClause 164 = .ok (.aload_n 1, 1) := by decide +kernel
theorem dX6_readClause_165 : decode cX6_readClause 165 = .ok (.aload_n 0, 1) := by decide +kernel
theorem dX6_readClause_166 : decode cX6_readClause 166 = .ok (.getfield 53, 3) := by decide +kernel
theorem dX6_readClause_169 : decode cX6_readClause 169 = .ok (.putfield 61, 3) := by decide +kernel
theorem dX6_readClause_172 : decode cX6_readClause 172 = .ok (.iconst 1, 1) := by decide +kernel
theorem dX6_readClause_173 : decode cX6_readClause 173 = .ok (.ireturn, 1) := by decide +kernel
theorem dX6_readClause_174 : decode cX6_readClause 174 = .ok (.iconst 0, 1) := by decide +kernel
theorem dX6_readClause_175 : decode cX6_readClause 175 = .ok (.ireturn, 1) := by decide +kernel
theorem dX6_readWarmth_0 : decode cX6_readWarmth 0 = .ok (.aload_n 0, 1) := by decide +kernel
theorem dX6_readWarmth_1 : decode cX6_readWarmth 1 = .ok (.invokevirtual 49, 3) := by decide +kernel
theorem dX6_readWarmth_4 : decode cX6_readWarmth 4 = .ok (.ifCond .ne 5, 3) := by decide +kernel
theorem dX6_readWarmth_7 : decode cX6_readWarmth 7 = .ok (.iconst 0, 1) := by decide +kernel
theorem dX6_readWarmth_8 : decode cX6_readWarmth 8 = .ok (.ireturn, 1) := by decide +kernel
theorem dX6_readWarmth_9 : decode cX6_readWarmth 9 = .ok (.aload_n 0, 1) := by decide +kernel
theorem dX6_readWarmth_10 : decode cX6_readWarmth 10 = .ok (.getfield 53, 3) := by decide +kernel
theorem dX6_readWarmth_13 : decode cX6_readWarmth 13 = .ok (.istore_n 3, 1) := by decide +kernel
theorem dX6_readWarmth_14 : decode cX6_readWarmth 14 = .ok (.aload_n 0, 1) := by decide +kernel
theorem dX6_readWarmth_15 : decode cX6_readWarmth 15 = .ok (.bipush 32, 2) := by decide +kernel
theorem dX6_readWarmth_17 : decode cX6_readWarmth 17 = .ok (.invokevirtual 27, 3) := by decide +kernel
theorem dX6_readWarmth_20 : decode cX6_readWarmth 20 = .ok (.ifCond .eq 12, 3) := by decide +kernel
theorem dX6_readWarmth_23 : decode cX6_readWarmth 23 = .ok (.aload_n 0, 1) := by decide +kernel
theorem dX6_readWarmth_24 : decode cX6_readWarmth 24 = .ok (.aload_n 1, 1) := by decide +kernel
theorem dX6_readWarmth_25 : decode cX6_readWarmth 25 = .ok (.iconst 0, 1) := by decide +kernel
theorem dX6_readWarmth_26 : decode cX6_readWarmth 26 = .ok (.invokevirtual 64, 3) := by decide +kernel
theorem dX6_readWarmth_29 : decode cX6_readWarmth 29 = .ok (.ifCond .ne 5, 3) := by decide +kernel
theorem dX6_readWarmth_32 : decode cX6_readWarmth 32 = .ok (.iconst 0, 1) := by decide +kernel
theorem dX6_readWarmth_33 : decode cX6_readWarmth 33 = .ok (.ireturn, 1) := by decide +kernel
theorem dX6_readWarmth_34 : decode cX6_readWarmth 34 = .ok (.aload_n 1, 1) := by decide +kernel
theorem dX6_readWarmth_35 : decode cX6_readWarmth 35 = .ok (.iload_n 2, 1) := by decide +kernel
theorem dX6_readWarmth_36 : decode cX6_readWarmth 36 = .ok (.iload_n 3, 1) := by decide +kernel
theorem dX6_readWarmth_37 : decode cX6_readWarmth 37 = .ok (.invokevirtual 67, 3) := by decide +kernel
theorem dX6_readWarmth_40 : decode cX6_readWarmth 40 = .ok (.iconst 1, 1) := by decide +kernel
theorem dX6_readWarmth_41 : decode cX6_readWarmth 41 = .ok (.ireturn, 1) := by decide +kernel
theorem dX6_readAny_0 : decode cX6_readAny 0 = .ok (.iconst 0, 1) := by decide +kernel
theorem dX6_readAny_1 : decode cX6_readAny 1 = .ok (.istore_n 3, 1) := by decide +kernel
theorem dX6_readAny_2 : decode cX6_readAny 2 = .ok (.iload_n 3, 1) := by decide +kernel
theorem dX6_readAny_3 : decode cX6_readAny 3 = .ok (.bipush 100, 2) := by decide +kernel
theorem dX6_readAny_5 : decode cX6_readAny 5 = .ok (.if_icmp .ge 86, 3) := by decide +kernel
theorem dX6_readAny_8 : decode cX6_readAny 8 = .ok (.iload_n 3, 1) := by decide +kernel
theorem dX6_readAny_9 : decode cX6_readAny 9 = .ok (.ifCond .eq 12, 3) := by decide +kernel
theorem dX6_readAny_12 : decode cX6_readAny 12 = .ok (.aload_n 0, 1) := by decide +kernel
theorem dX6_readAny_13 : decode cX6_readAny 13 = .ok (.bipush 124, 2) := by decide +kernel
theorem dX6_readAny_15 : decode cX6_readAny 15 = .ok (.invokevirtual 27, 3) := by decide +kernel
theorem dX6_readAny_18 : decode cX6_readAny 18 = .ok (.ifCond .eq 73, 3) := by decide +kernel
theorem dX6_readAny_21 : decode cX6_readAny 21 = .ok (.iconst 0, 1) := by decide +kernel
theorem dX6_readAny_22 : decode cX6_readAny 22 = .ok (.istore 4, 2) := by decide +kernel
theorem dX6_readAny_24 : decode cX6_readAny 24 = .ok (.iload 4, 2) := by decide +kernel
theorem dX6_readAny_26 : decode cX6_readAny 26 = .ok (.bipush 100, 2) := by decide +kernel
theorem dX6_readAny_28 : decode cX6_readAny 28 = .ok (.if_icmp .ge 46, 3) := by decide +kernel
theorem dX6_readAny_31 : decode cX6_readAny 31 = .ok (.iload 4, 2) := by decide +kernel
theorem dX6_readAny_33 : decode cX6_readAny 33 = .ok (.ifCond .eq 12, 3) := by decide +kernel
theorem dX6_readAny_36 : decode cX6_readAny 36 = .ok (.aload_n 0, 1) := by decide +kernel
theorem dX6_readAny_37 : decode cX6_readAny 37 = .ok (.bipush 38, 2) := by decide +kernel
theorem dX6_readAny_39 : decode cX6_readAny 39 = .ok (.invokevirtual 27, 3) := by decide +kernel
theorem dX6_readAny_42 : decode cX6_readAny 42 = .ok (.ifCond .eq 32, 3) := by decide +kernel
theorem dX6_readAny_45 : decode cX6_readAny 45 = .ok (.aload_n 0, 1) := by decide +kernel
theorem dX6_readAny_46 : decode cX6_readAny 46 = .ok (.aload_n 1, 1) := by decide +kernel
theorem dX6_readAny_47 : decode cX6_readAny 47 = .ok (.iload_n 2, 1) := by decide +kernel
theorem dX6_readAny_48 : decode cX6_readAny 48 = .ok (.invokevirtual 71, 3) := by decide +kernel
theorem dX6_readAny_51 : decode cX6_readAny 51 = .ok (.ifCond .ne 5, 3) := by decide +kernel
theorem dX6_readAny_54 : decode cX6_readAny 54 = .ok (.iconst 0, 1) := by decide +kernel
theorem dX6_readAny_55 : decode cX6_readAny 55 = .ok (.ireturn, 1) := by decide +kernel
theorem dX6_readAny_56 : decode cX6_readAny 56 = .ok (.iload 4, 2) := by decide +kernel
theorem dX6_readAny_58 : decode cX6_readAny 58 = .ok (.ifCond .le 10, 3) := by decide +kernel
theorem dX6_readAny_61 : decode cX6_readAny 61 = .ok (.aload_n 1, 1) := by decide +kernel
theorem dX6_readAny_62 : decode cX6_readAny 62 = .ok (.bipush (-2), 2) := by decide +kernel
theorem dX6_readAny_64 : decode cX6_readAny 64 = .ok (.iconst 0, 1) := by decide +kernel
theorem dX6_readAny_65 : decode cX6_readAny 65 = .ok (.invokevirtual 67, 3) := by decide +kernel
theorem dX6_readAny_68 : decode cX6_readAny 68 = .ok (.iinc 4 1, 3) := by decide +kernel
theorem dX6_readAny_71 : decode cX6_readAny 71 = .ok (.goto (-47), 3) := by decide +kernel
theorem dX6_readAny_74 : decode cX6_readAny 74 = .ok (.iload_n 3, 1) := by decide +kernel
theorem dX6_readAny_75 : decode cX6_readAny 75 = .ok (.ifCond .le 10, 3) := by decide +kernel
theorem dX6_readAny_78 : decode cX6_readAny 78 = .ok (.aload_n 1, 1) := by decide +kernel
theorem dX6_readAny_79 : decode cX6_readAny 79 = .ok (.bipush (-3), 2) := by decide +kernel
theorem dX6_readAny_81 : decode cX6_readAny 81 = .ok (.iconst 0, 1) := by decide +kernel
theorem dX6_readAny_82 : decode cX6_readAny 82 = .ok (.invokevirtual 67, 3) := by decide +kernel
theorem dX6_readAny_85 : decode cX6_readAny 85 = .ok (.iinc 3 1, 3) := by decide +kernel
theorem dX6_readAny_88 : decode cX6_readAny 88 = .ok (.goto (-86), 3) := by decide +kernel
theorem dX6_readAny_91 : decode cX6_readAny 91 = .ok (.iconst 1, 1) := by decide +kernel
theorem dX6_readAny_92 : decode cX6_readAny 92 = .ok (.ireturn, 1) := by decide +kernel
theorem dX6_readOne_0 : decode cX6_readOne 0 = .ok (.iload_n 2, 1) := by decide +kernel
theorem dX6_readOne_1 : decode cX6_readOne 1 = .ok (.iconst 4, 1) := by decide +kernel
theorem dX6_readOne_2 : decode cX6_readOne 2 = .ok (.if_icmp .ge 33, 3) := by decide +kernel
theorem dX6_readOne_5 : decode cX6_readOne 5 = .ok (.aload_n 0, 1) := by decide +kernel
theorem dX6_readOne_6 : decode cX6_readOne 6 = .ok (.bipush 33, 2) := by decide +kernel
theorem dX6_readOne_8 : decode cX6_readOne 8 = .ok (.invokevirtual 27, 3) := by decide +kernel
theorem dX6_readOne_11 : decode cX6_readOne 11 = .ok (.ifCond .eq 24, 3) := by decide +kernel
theorem dX6_readOne_14 : decode cX6_readOne 14 = .ok (.aload_n 0, 1) := by decide +kernel
theorem dX6_readOne_15 : decode cX6_readOne 15 = .ok (.aload_n 1, 1) := by decide +kernel
theorem dX6_readOne_16 : decode cX6_readOne 16 = .ok (.iload_n 2, 1) := by decide +kernel
theorem dX6_readOne_17 : decode cX6_readOne 17 = .ok (.iconst 1, 1) := by decide +kernel
theorem dX6_readOne_18 : decode cX6_readOne 18 = .ok (.iadd, 1) := by decide +kernel
theorem dX6_readOne_19 : decode cX6_readOne 19 = .ok (.invokevirtual 71, 3) := by decide +kernel
theorem dX6_readOne_22 : decode cX6_readOne 22 = .ok (.ifCond .ne 5, 3) := by decide +kernel
theorem dX6_readOne_25 : decode cX6_readOne 25 = .ok (.iconst 0, 1) := by decide +kernel
theorem dX6_readOne_26 : decode cX6_readOne 26 = .ok (.ireturn, 1) := by decide +kernel
theorem dX6_readOne_27 : decode cX6_readOne 27 = .ok (.aload_n 1, 1) := by decide +kernel
theorem dX6_readOne_28 : decode cX6_readOne 28 = .ok (.iconst (-1), 1) := by decide +kernel
theorem dX6_readOne_29 : decode cX6_readOne 29 = .ok (.iconst 0, 1) := by decide +kernel
theorem dX6_readOne_30 : decode cX6_readOne 30 = .ok (.invokevirtual 67, 3) := by decide +kernel
theorem dX6_readOne_33 : decode cX6_readOne 33 = .ok (.iconst 1, 1) := by decide +kernel
theorem dX6_readOne_34 : decode cX6_readOne 34 = .ok (.ireturn, 1) := by decide +kernel
theorem dX6_readOne_35 : decode cX6_readOne 35 = .ok (.iload_n 2, 1) := by decide +kernel
theorem dX6_readOne_36 : decode cX6_readOne 36 = .ok (.iconst 4, 1) := by decide +kernel
theorem dX6_readOne_37 : decode cX6_readOne 37 = .ok (.if_icmp .ge 38, 3) := by decide +kernel
theorem dX6_readOne_40 : decode cX6_readOne 40 = .ok (.aload_n 0, 1) := by decide +kernel
theorem dX6_readOne_41 : decode cX6_readOne 41 = .ok (.bipush 40, 2) := by decide +kernel
theorem dX6_readOne_43 : decode cX6_readOne 43 = .ok (.invokevirtual 27, 3) := by decide +kernel
theorem dX6_readOne_46 : decode cX6_readOne 46 = .ok (.ifCond .eq 29, 3) := by decide +kernel
theorem dX6_readOne_49 : decode cX6_readOne 49 = .ok (.aload_n 0, 1) := by decide +kernel
theorem dX6_readOne_50 : decode cX6_readOne 50 = .ok (.aload_n 1, 1) := by decide +kernel
theorem dX6_readOne_51 : decode cX6_readOne 51 = .ok (.iload_n 2, 1) := by decide +kernel
theorem dX6_readOne_52 : decode cX6_readOne 52 = .ok (.iconst 1, 1) := by decide +kernel
theorem dX6_readOne_53 : decode cX6_readOne 53 = .ok (.iadd, 1) := by decide +kernel
theorem dX6_readOne_54 : decode cX6_readOne 54 = .ok (.invokevirtual 64, 3) := by decide +kernel
theorem dX6_readOne_57 : decode cX6_readOne 57 = .ok (.ifCond .eq 16, 3) := by decide +kernel
theorem dX6_readOne_60 : decode cX6_readOne 60 = .ok (.aload_n 0, 1) := by decide +kernel
theorem dX6_readOne_61 : decode cX6_readOne 61 = .ok (.bipush 41, 2) := by decide +kernel
theorem dX6_readOne_63 : decode cX6_readOne 63 = .ok (.invokevirtual 27, 3) := by decide +kernel
theorem dX6_readOne_66 : decode cX6_readOne 66 = .ok (.ifCond .eq 7, 3) := by decide +kernel
theorem dX6_readOne_69 : decode cX6_readOne 69 = .ok (.iconst 1, 1) := by decide +kernel
theorem dX6_readOne_70 : decode cX6_readOne 70 = .ok (.goto 4, 3) := by decide +kernel
theorem dX6_readOne_73 : decode cX6_readOne 73 = .ok (.iconst 0, 1) := by decide +kernel
theorem dX6_readOne_74 : decode cX6_readOne 74 = .ok (.ireturn, 1) := by decide +kernel
theorem dX6_readOne_75 : decode cX6_readOne 75 = .ok (.aload_n 0, 1) := by decide +kernel
theorem dX6_readOne_76 : decode cX6_readOne 76 = .ok (.aload_n 1, 1) := by decide +kernel
theorem dX6_readOne_77 : decode cX6_readOne 77 = .ok (.invokevirtual 74, 3) := by decide +kernel
theorem dX6_readOne_80 : decode cX6_readOne 80 = .ok (.ireturn, 1) := by decide +kernel
theorem dX6_readTest_0 : decode cX6_readTest 0 = .ok (.aload_n 0, 1) := by decide +kernel
theorem dX6_readTest_1 : decode cX6_readTest 1 = .ok (.ldc 77, 2) := by decide +kernel
theorem dX6_readTest_3 : decode cX6_readTest 3 = .ok (.invokevirtual 79, 3) := by decide +kernel
theorem dX6_readTest_6 : decode cX6_readTest 6 = .ok (.istore_n 2, 1) := by decide +kernel
theorem dX6_readTest_7 : decode cX6_readTest 7 = .ok (.iload_n 2, 1) := by decide +kernel
theorem dX6_readTest_8 : decode cX6_readTest 8 = .ok (.ifCond .ge 7, 3) := by decide +kernel
theorem dX6_readTest_11 : decode cX6_readTest 11 = .ok (.iconst (-1), 1) := by decide +kernel
theorem dX6_readTest_12 : decode cX6_readTest 12 = .ok (.goto 9, 3) := by decide +kernel
theorem dX6_readTest_15 : decode cX6_readTest 15 = .ok (.aload_n 0, 1) := by decide +kernel
theorem dX6_readTest_16 : decode cX6_readTest 16 = .ok (.ldc 83, 2) := by decide +kernel
theorem dX6_readTest_18 : decode cX6_readTest 18 = .ok (.invokevirtual 79, 3) := by decide +kernel
theorem dX6_readTest_21 : decode cX6_readTest 21 = .ok (.istore_n 3, 1) := by decide +kernel
theorem dX6_readTest_22 : decode cX6_readTest 22 = .ok (.iload_n 3, 1) := by decide +kernel
theorem dX6_readTest_23 : decode cX6_readTest 23 = .ok (.ifCond .lt 10, 3) := by decide +kernel
theorem dX6_readTest_26 : decode cX6_readTest 26 = .ok (.aload_n 0, 1) := by decide +kernel
theorem dX6_readTest_27 : decode cX6_readTest 27 = .ok (.invokevirtual 49, 3) := by decide +kernel
theorem dX6_readTest_30 : decode cX6_readTest 30 = .ok (.ifCond .ne 5, 3) := by decide +kernel
theorem dX6_readTest_33 : decode cX6_readTest 33 = .ok (.iconst 0, 1) := by decide +kernel
theorem dX6_readTest_34 : decode cX6_readTest 34 = .ok (.ireturn, 1) := by decide +kernel
theorem dX6_readTest_35 : decode cX6_readTest 35 = .ok (.aload_n 1, 1) := by decide +kernel
theorem dX6_readTest_36 : decode cX6_readTest 36 = .ok (.iload_n 2, 1) := by decide +kernel
theorem dX6_readTest_37 : decode cX6_readTest 37 = .ok (.iload_n 3, 1) := by decide +kernel
theorem dX6_readTest_38 : decode cX6_readTest 38 = .ok (.invokestatic 85, 3) := by decide +kernel
theorem dX6_readTest_41 : decode cX6_readTest 41 = .ok (.aload_n 0, 1) := by decide +kernel
theorem dX6_readTest_42 : decode cX6_readTest 42 = .ok (.getfield 53, 3) := by decide +kernel
theorem dX6_readTest_45 : decode cX6_readTest 45 = .ok (.invokevirtual 67, 3) := by decide +kernel
theorem dX6_readTest_48 : decode cX6_readTest 48 = .ok (.iconst 1, 1) := by decide +kernel
theorem dX6_readTest_49 : decode cX6_readTest 49 = .ok (.ireturn, 1) := by decide +kernel
theorem dX6_readNumber_0 : decode cX6_readNumber 0 = .ok (.iconst 0, 1) := by decide +kernel
theorem dX6_readNumber_1 : decode cX6_readNumber 1 = .ok (.istore_n 1, 1) := by decide +kernel
theorem dX6_readNumber_2 : decode cX6_readNumber 2 = .ok (.aload_n 0, 1) := by decide +kernel
theorem dX6_readNumber_3 : decode cX6_readNumber 3 = .ok (.iconst 0, 1) := by decide +kernel
theorem dX6_readNumber_4 : decode cX6_readNumber 4 = .ok (.putfield 53, 3) := by decide +kernel
theorem dX6_readNumber_7 : decode cX6_readNumber 7 = .ok (.iload_n 1, 1) := by decide +kernel
theorem dX6_readNumber_8 : decode cX6_readNumber 8 = .ok (.iconst 2, 1) := by decide +kernel
theorem dX6_readNumber_9 : decode cX6_readNumber 9 = .ok (.if_icmp .ge 82, 3) := by decide +kernel
theorem dX6_readNumber_12 : decode cX6_readNumber 12 = .ok (.aload_n 0, 1) := by decide +kernel
theorem dX6_readNumber_13 : decode cX6_readNumber 13 = .ok (.getfield 24, 3) := by decide +kernel
theorem dX6_readNumber_16 : decode cX6_readNumber 16 = .ok (.aload_n 0, 1) := by decide +kernel
theorem dX6_readNumber_17 : decode cX6_readNumber 17 = .ok (.getfield 15, 3) := by decide +kernel
theorem dX6_readNumber_20 : decode cX6_readNumber 20 = .ok (.if_icmp .ge 71, 3) := by decide +kernel
theorem dX6_readNumber_23 : decode cX6_readNumber 23 = .ok (.aload_n 0, 1) := by decide +kernel
theorem dX6_readNumber_24 : decode cX6_readNumber 24 = .ok (.getfield 9, 3) := by decide +kernel
theorem dX6_readNumber_27 : decode cX6_readNumber 27 = .ok (.aload_n 0, 1) := by decide +kernel
theorem dX6_readNumber_28 : decode cX6_readNumber 28 = .ok (.getfield 24, 3) := by decide +kernel
theorem dX6_readNumber_31 : decode cX6_readNumber 31 = .ok (.iaload, 1) := by decide +kernel
theorem dX6_readNumber_32 : decode cX6_readNumber 32 = .ok (.bipush 48, 2) := by decide +kernel
theorem dX6_readNumber_34 : decode cX6_readNumber 34 = .ok (.if_icmp .lt 57, 3) := by decide +kernel
theorem dX6_readNumber_37 : decode cX6_readNumber 37 = .ok (.aload_n 0, 1) := by decide +kernel
theorem dX6_readNumber_38 : decode cX6_readNumber 38 = .ok (.getfield 9, 3) := by decide +kernel
theorem dX6_readNumber_41 : decode cX6_readNumber 41 = .ok (.aload_n 0, 1) := by decide +kernel
theorem dX6_readNumber_42 : decode cX6_readNumber 42 = .ok (.getfield 24, 3) := by decide +kernel
theorem dX6_readNumber_45 : decode cX6_readNumber 45 = .ok (.iaload, 1) := by decide +kernel
theorem dX6_readNumber_46 : decode cX6_readNumber 46 = .ok (.bipush 57, 2) := by decide +kernel
theorem dX6_readNumber_48 : decode cX6_readNumber 48 = .ok (.if_icmp .gt 43, 3) := by decide +kernel
theorem dX6_readNumber_51 : decode cX6_readNumber 51 = .ok (.aload_n 0, 1) := by decide +kernel
theorem dX6_readNumber_52 : decode cX6_readNumber 52 = .ok (.aload_n 0, 1) := by decide +kernel
theorem dX6_readNumber_53 : decode cX6_readNumber 53 = .ok (.getfield 53, 3) := by decide +kernel
theorem dX6_readNumber_56 : decode cX6_readNumber 56 = .ok (.bipush 10, 2) := by decide +kernel
theorem dX6_readNumber_58 : decode cX6_readNumber 58 = .ok (.imul, 1) := by decide +kernel
theorem dX6_readNumber_59 : decode cX6_readNumber 59 = .ok (.aload_n 0, 1) := by decide +kernel
theorem dX6_readNumber_60 : decode cX6_readNumber 60 = .ok (.getfield 9, 3) := by decide +kernel
theorem dX6_readNumber_63 : decode cX6_readNumber 63 = .ok (.aload_n 0, 1) := by decide +kernel
theorem dX6_readNumber_64 : decode cX6_readNumber 64 = .ok (.getfield 24, 3) := by decide +kernel
theorem dX6_readNumber_67 : decode cX6_readNumber 67 = .ok (.iaload, 1) := by decide +kernel
theorem dX6_readNumber_68 : decode cX6_readNumber 68 = .ok (.iadd, 1) := by decide +kernel
theorem dX6_readNumber_69 : decode cX6_readNumber 69 = .ok (.bipush 48, 2) := by decide +kernel
theorem dX6_readNumber_71 : decode cX6_readNumber 71 = .ok (.isub, 1) := by decide +kernel
theorem dX6_readNumber_72 : decode cX6_readNumber 72 = .ok (.putfield 53, 3) := by decide +kernel
theorem dX6_readNumber_75 : decode cX6_readNumber 75 = .ok (.aload_n 0, 1) := by decide +kernel
theorem dX6_readNumber_76 : decode cX6_readNumber 76 = .ok (.dup, 1) := by decide +kernel
theorem dX6_readNumber_77 : decode cX6_readNumber 77 = .ok (.getfield 24, 3) := by decide +kernel
theorem dX6_readNumber_80 : decode cX6_readNumber 80 = .ok (.iconst 1, 1) := by decide +kernel
theorem dX6_readNumber_81 : decode cX6_readNumber 81 = .ok (.iadd, 1) := by decide +kernel
theorem dX6_readNumber_82 : decode cX6_readNumber 82 = .ok (.putfield 24, 3) := by decide +kernel
theorem dX6_readNumber_85 : decode cX6_readNumber 85 = .ok (.iinc 1 1, 3) := by decide +kernel
theorem dX6_readNumber_88 : decode cX6_readNumber 88 = .ok (.goto (-81), 3) := by decide +kernel
theorem dX6_readNumber_91 : decode cX6_readNumber 91 = .ok (.iload_n 1, 1) := by decide +kernel
theorem dX6_readNumber_92 : decode cX6_readNumber 92 = .ok (.ifCond .le 7, 3) := by decide +kernel
theorem dX6_readNumber_95 : decode cX6_readNumber 95 = .ok (.iconst 1, 1) := by decide +kernel
theorem dX6_readNumber_96 : decode cX6_readNumber 96 = .ok (.goto 4, 3) := by decide +kernel
theorem dX6_readNumber_99 : decode cX6_readNumber 99 = .ok (.iconst 0, 1) := by decide +kernel
theorem dX6_readNumber_100 : decode cX6_readNumber 100 = .ok (.ireturn, 1) := by decide +kernel
theorem dX6_take_0 : decode cX6_take 0 = .ok (.aload_n 0, 1) := by decide +kernel
theorem dX6_take_1 : decode cX6_take 1 = .ok (.getfield 24, 3) := by decide +kernel
theorem dX6_take_4 : decode cX6_take 4 = .ok (.aload_n 0, 1) := by decide +kernel
theorem dX6_take_5 : decode cX6_take 5 = .ok (.getfield 15, 3) := by decide +kernel
theorem dX6_take_8 : decode cX6_take 8 = .ok (.if_icmp .ge 16, 3) := by decide +kernel
theorem dX6_take_11 : decode cX6_take 11 = .ok (.aload_n 0, 1) := by decide +kernel
theorem dX6_take_12 : decode cX6_take 12 = .ok (.getfield 9, 3) := by decide +kernel
theorem dX6_take_15 : decode cX6_take 15 = .ok (.aload_n 0, 1) := by decide +kernel
theorem dX6_take_16 : decode cX6_take 16 = .ok (.getfield 24, 3) := by decide +kernel
theorem dX6_take_19 : decode cX6_take 19 = .ok (.iaload, 1) := by decide +kernel
theorem dX6_take_20 : decode cX6_take 20 = .ok (.iload_n 1, 1) := by decide +kernel
theorem dX6_take_21 : decode cX6_take 21 = .ok (.if_icmp .eq 5, 3) := by decide +kernel
theorem dX6_take_24 : decode cX6_take 24 = .ok (.iconst 0, 1) := by decide +kernel
theorem dX6_take_25 : decode cX6_take 25 = .ok (.ireturn, 1) := by decide +kernel
theorem dX6_take_26 : decode cX6_take 26 = .ok (.aload_n 0, 1) := by decide +kernel
theorem dX6_take_27 : decode cX6_take 27 = .ok (.dup, 1) := by decide +kernel
theorem dX6_take_28 : decode cX6_take 28 = .ok (.getfield 24, 3) := by decide +kernel
theorem dX6_take_31 : decode cX6_take 31 = .ok (.iconst 1, 1) := by decide +kernel
theorem dX6_take_32 : decode cX6_take 32 = .ok (.iadd, 1) := by decide +kernel
theorem dX6_take_33 : decode cX6_take 33 = .ok (.putfield 24, 3) := by decide +kernel
theorem dX6_take_36 : decode cX6_take 36 = .ok (.iconst 1, 1) := by decide +kernel
theorem dX6_take_37 : decode cX6_take 37 = .ok (.ireturn, 1) := by decide +kernel
theorem dX6_takeWord_0 : decode cX6_takeWord 0 = .ok (.iconst 0, 1) := by decide +kernel
theorem dX6_takeWord_1 : decode cX6_takeWord 1 = .ok (.istore_n 2, 1) := by decide +kernel
theorem dX6_takeWord_2 : decode cX6_takeWord 2 = .ok (.iload_n 2, 1) := by decide +kernel
theorem dX6_takeWord_3 : decode cX6_takeWord 3 = .ok (.aload_n 1, 1) := by decide +kernel
theorem dX6_takeWord_4 : decode cX6_takeWord 4 = .ok (.invokevirtual 89, 3) := by decide +kernel
theorem dX6_takeWord_7 : decode cX6_takeWord 7 = .ok (.if_icmp .ge 23, 3) := by decide +kernel
theorem dX6_takeWord_10 : decode cX6_takeWord 10 = .ok (.aload_n 0, 1) := by decide +kernel
theorem dX6_takeWord_11 : decode cX6_takeWord 11 = .ok (.aload_n 1, 1) := by decide +kernel
theorem dX6_takeWord_12 : decode cX6_takeWord 12 = .ok (.iload_n 2, 1) := by decide +kernel
theorem dX6_takeWord_13 : decode cX6_takeWord 13 = .ok (.invokevirtual 94, 3) := by decide +kernel
theorem dX6_takeWord_16 : decode cX6_takeWord 16 = .ok (.invokevirtual 27, 3) := by decide +kernel
theorem dX6_takeWord_19 : decode cX6_takeWord 19 = .ok (.ifCond .ne 5, 3) := by decide +kernel
theorem dX6_takeWord_22 : decode cX6_takeWord 22 = .ok (.iconst 0, 1) := by decide +kernel
theorem dX6_takeWord_23 : decode cX6_takeWord 23 = .ok (.ireturn, 1) := by decide +kernel
theorem dX6_takeWord_24 : decode cX6_takeWord 24 = .ok (.iinc 2 1, 3) := by decide +kernel
theorem dX6_takeWord_27 : decode cX6_takeWord 27 = .ok (.goto (-25), 3) := by decide +kernel
theorem dX6_takeWord_30 : decode cX6_takeWord 30 = .ok (.iconst 1, 1) := by decide +kernel
theorem dX6_takeWord_31 : decode cX6_takeWord 31 = .ok (.ireturn, 1) := by decide +kernel
theorem dX6_takeOneOf_0 : decode cX6_takeOneOf 0 = .ok (.aload_n 0, 1) := by decide +kernel
theorem dX6_takeOneOf_1 : decode cX6_takeOneOf 1 = .ok (.getfield 24, 3) := by decide +kernel
theorem dX6_takeOneOf_4 : decode cX6_takeOneOf 4 = .ok (.aload_n 0, 1) := by decide +kernel
theorem dX6_takeOneOf_5 : decode cX6_takeOneOf 5 = .ok (.getfield 15, 3) := by decide +kernel
theorem dX6_takeOneOf_8 : decode cX6_takeOneOf 8 = .ok (.if_icmp .ge 20, 3) := by decide +kernel
theorem dX6_takeOneOf_11 : decode cX6_takeOneOf 11 = .ok (.aload_n 1, 1) := by decide +kernel
theorem dX6_takeOneOf_12 : decode cX6_takeOneOf 12 = .ok (.aload_n 0, 1) := by decide +kernel
theorem dX6_takeOneOf_13 : decode cX6_takeOneOf 13 = .ok (.getfield 9, 3) := by decide +kernel
theorem dX6_takeOneOf_16 : decode cX6_takeOneOf 16 = .ok (.aload_n 0, 1) := by decide +kernel
theorem dX6_takeOneOf_17 : decode cX6_takeOneOf 17 = .ok (.getfield 24, 3) := by decide +kernel
theorem dX6_takeOneOf_20 : decode cX6_takeOneOf 20 = .ok (.iaload, 1) := by decide +kernel
theorem dX6_takeOneOf_21 : decode cX6_takeOneOf 21 = .ok (.i2c, 1) := by decide +kernel
theorem dX6_takeOneOf_22 : decode cX6_takeOneOf 22 = .ok (.invokevirtual 98, 3) := by decide +kernel
theorem dX6_takeOneOf_25 : decode cX6_takeOneOf 25 = .ok (.goto 4, 3) := by decide +kernel
theorem dX6_takeOneOf_28 : decode cX6_takeOneOf 28 = .ok (.iconst (-1), 1) := by decide +kernel
theorem dX6_takeOneOf_29 : decode cX6_takeOneOf 29 = .ok (.istore_n 2, 1) := by decide +kernel
theorem dX6_takeOneOf_30 : decode cX6_takeOneOf 30 = .ok (.iload_n 2, 1) := by decide +kernel
theorem dX6_takeOneOf_31 : decode cX6_takeOneOf 31 = .ok (.ifCond .lt 13, 3) := by decide +kernel
theorem dX6_takeOneOf_34 : decode cX6_takeOneOf 34 = .ok (.aload_n 0, 1) := by decide +kernel
theorem dX6_takeOneOf_35 : decode cX6_takeOneOf 35 = .ok (.dup, 1) := by decide +kernel
theorem dX6_takeOneOf_36 : decode cX6_takeOneOf 36 = .ok (.getfield 24, 3) := by decide +kernel
theorem dX6_takeOneOf_39 : decode cX6_takeOneOf 39 = .ok (.iconst 1, 1) := by decide +kernel
theorem dX6_takeOneOf_40 : decode cX6_takeOneOf 40 = .ok (.iadd, 1) := by decide +kernel
theorem dX6_takeOneOf_41 : decode cX6_takeOneOf 41 = .ok (.putfield 24, 3) := by decide +kernel
theorem dX6_takeOneOf_44 : decode cX6_takeOneOf 44 = .ok (.iload_n 2, 1) := by decide +kernel
theorem dX6_takeOneOf_45 : decode cX6_takeOneOf 45 = .ok (.ireturn, 1) := by decide +kernel
theorem dX7_init_0 : decode cX7_init 0 = .ok (.aload_n 0, 1) := by decide +kernel
theorem dX7_init_1 : decode cX7_init 1 = .ok (.invokespecial 3, 3) := by decide +kernel
theorem dX7_init_4 : decode cX7_init 4 = .ok (.aload_n 0, 1) := by decide +kernel
theorem dX7_init_5 : decode cX7_init 5 = .ok (.iload_n 1, 1) := by decide +kernel
theorem dX7_init_6 : decode cX7_init 6 = .ok (.iconst 4, 1) := by decide +kernel
theorem dX7_init_7 : decode cX7_init 7 = .ok (.multianewarray 9 2, 4) := by decide +kernel
theorem dX7_init_11 : decode cX7_init 11 = .ok (.putfield 11, 3) := by decide +kernel
theorem dX7_init_14 : decode cX7_init 14 = .ok (.return_, 1) := by decide +kernel
theorem dX7_append_0 : decode cX7_append 0 = .ok (.aload_n 0, 1) := by decide +kernel
theorem dX7_append_1 : decode cX7_append 1 = .ok (.getfield 16, 3) := by decide +kernel
theorem dX7_append_4 : decode cX7_append 4 = .ok (.aload_n 0, 1) := by decide +kernel
theorem dX7_append_5 : decode cX7_append 5 = .ok (.getfield 11, 3) := by decide +kernel
theorem dX7_append_8 : decode cX7_append 8 = .ok (.arraylength, 1) := by decide +kernel
theorem dX7_append_9 : decode cX7_append 9 = .ok (.if_icmp .lt 6, 3) := by decide +kernel
theorem dX7_append_12 : decode cX7_append 12 = .ok (.bipush (-4), 2) := by decide +kernel
theorem dX7_append_14 : decode cX7_append 14 = .ok (.ireturn, 1) := by decide +kernel
theorem dX7_append_15 : decode cX7_append 15 = .ok (.aload_n 0, 1) := by decide +kernel
theorem dX7_append_16 : decode cX7_append 16 = .ok (.getfield 11, 3) := by decide +kernel
theorem dX7_append_19 : decode cX7_append 19 = .ok (.aload_n 0, 1) := by decide +kernel
theorem dX7_append_20 : decode cX7_append 20 = .ok (.getfield 16, 3) := by decide +kernel
theorem dX7_append_23 : decode cX7_append 23 = .ok (.aaload, 1) := by decide +kernel
theorem dX7_append_24 : decode cX7_append 24 = .ok (.astore 5, 2) := by decide +kernel
theorem dX7_append_26 : decode cX7_append 26 = .ok (.aload 5, 2) := by decide +kernel
theorem dX7_append_28 : decode cX7_append 28 = .ok (.iconst 0, 1) := by decide +kernel
theorem dX7_append_29 : decode cX7_append 29 = .ok (.iload_n 1, 1) := by decide +kernel
theorem dX7_append_30 : decode cX7_append 30 = .ok (.iastore, 1) := by decide +kernel
theorem dX7_append_31 : decode cX7_append 31 = .ok (.aload 5, 2) := by decide +kernel
theorem dX7_append_33 : decode cX7_append 33 = .ok (.iconst 1, 1) := by decide +kernel
theorem dX7_append_34 : decode cX7_append 34 = .ok (.iload_n 2, 1) := by decide +kernel
theorem dX7_append_35 : decode cX7_append 35 = .ok (.iastore, 1) := by decide +kernel
theorem dX7_append_36 : decode cX7_append 36 = .ok (.aload 5, 2) := by decide +kernel
theorem dX7_append_38 : decode cX7_append 38 = .ok (.iconst 2, 1) := by decide +kernel
theorem dX7_append_39 : decode cX7_append 39 = .ok (.iload_n 3, 1) := by decide +kernel
theorem dX7_append_40 : decode cX7_append 40 = .ok (.iastore, 1) := by decide +kernel
theorem dX7_append_41 : decode cX7_append 41 = .ok (.aload 5, 2) := by decide +kernel
theorem dX7_append_43 : decode cX7_append 43 = .ok (.iconst 3, 1) := by decide +kernel
theorem dX7_append_44 : decode cX7_append 44 = .ok (.iload 4, 2) := by decide +kernel
theorem dX7_append_46 : decode cX7_append 46 = .ok (.iastore, 1) := by decide +kernel
theorem dX7_append_47 : decode cX7_append 47 = .ok (.aload_n 0, 1) := by decide +kernel
theorem dX7_append_48 : decode cX7_append 48 = .ok (.dup, 1) := by decide +kernel
theorem dX7_append_49 : decode cX7_append 49 = .ok (.getfield 16, 3) := by decide +kernel
theorem dX7_append_52 : decode cX7_append 52 = .ok (.iconst 1, 1) := by decide +kernel
theorem dX7_append_53 : decode cX7_append 53 = .ok (.iadd, 1) := by decide +kernel
theorem dX7_append_54 : decode cX7_append 54 = .ok (.putfield 16, 3) := by decide +kernel
theorem dX7_append_57 : decode cX7_append 57 = .ok (.aload_n 0, 1) := by decide +kernel
theorem dX7_append_58 : decode cX7_append 58 = .ok (.getfield 16, 3) := by decide +kernel
theorem dX7_append_61 : decode cX7_append 61 = .ok (.ireturn, 1) := by decide +kernel
theorem dX7_become_0 : decode cX7_become 0 = .ok (.iconst 0, 1) := by decide +kernel
theorem dX7_become_1 : decode cX7_become 1 = .ok (.istore_n 2, 1) := by decide +kernel
theorem dX7_become_2 : decode cX7_become 2 = .ok (.iload_n 2, 1) := by decide +kernel
theorem dX7_become_3 : decode cX7_become 3 = .ok (.aload_n 0, 1) := by decide +kernel
theorem dX7_become_4 : decode cX7_become 4 = .ok (.getfield 11, 3) := by decide +kernel
theorem dX7_become_7 : decode cX7_become 7 = .ok (.arraylength, 1) := by decide +kernel
theorem dX7_become_8 : decode cX7_become 8 = .ok (.if_icmp .ge 36, 3) := by decide +kernel
theorem dX7_become_11 : decode cX7_become 11 = .ok (.iload_n 2, 1) := by decide +kernel
theorem dX7_become_12 : decode cX7_become 12 = .ok (.aload_n 1, 1) := by decide +kernel
theorem dX7_become_13 : decode cX7_become 13 = .ok (.getfield 11, 3) := by decide +kernel
theorem dX7_become_16 : decode cX7_become 16 = .ok (.arraylength, 1) := by decide +kernel
theorem dX7_become_17 : decode cX7_become 17 = .ok (.if_icmp .ge 27, 3) := by decide +kernel
theorem dX7_become_20 : decode cX7_become 20 = .ok (.aload_n 1, 1) := by decide +kernel
theorem dX7_become_21 : decode cX7_become 21 = .ok (.getfield 11, 3) := by decide +kernel
theorem dX7_become_24 : decode cX7_become 24 = .ok (.iload_n 2, 1) := by decide +kernel
theorem dX7_become_25 : decode cX7_become 25 = .ok (.aaload, 1) := by decide +kernel
theorem dX7_become_26 : decode cX7_become 26 = .ok (.iconst 0, 1) := by decide +kernel
theorem dX7_become_27 : decode cX7_become 27 = .ok (.aload_n 0, 1) := by decide +kernel
theorem dX7_become_28 : decode cX7_become 28 = .ok (.getfield 11, 3) := by decide +kernel
theorem dX7_become_31 : decode cX7_become 31 = .ok (.iload_n 2, 1) := by decide +kernel
theorem dX7_become_32 : decode cX7_become 32 = .ok (.aaload, 1) := by decide +kernel
theorem dX7_become_33 : decode cX7_become 33 = .ok (.iconst 0, 1) := by decide +kernel
theorem dX7_become_34 : decode cX7_become 34 = .ok (.iconst 4, 1) := by decide +kernel
theorem dX7_become_35 : decode cX7_become 35 = .ok (.invokestatic 20, 3) := by decide +kernel
theorem dX7_become_38 : decode cX7_become 38 = .ok (.iinc 2 1, 3) := by decide +kernel
theorem dX7_become_41 : decode cX7_become 41 = .ok (.goto (-39), 3) := by decide +kernel
theorem dX7_become_44 : decode cX7_become 44 = .ok (.aload_n 0, 1) := by decide +kernel
theorem dX7_become_45 : decode cX7_become 45 = .ok (.aload_n 1, 1) := by decide +kernel
theorem dX7_become_46 : decode cX7_become 46 = .ok (.getfield 16, 3) := by decide +kernel
theorem dX7_become_49 : decode cX7_become 49 = .ok (.putfield 16, 3) := by decide +kernel
theorem dX7_become_52 : decode cX7_become 52 = .ok (.return_, 1) := by decide +kernel
theorem dX8_init_0 : decode cX8_init 0 = .ok (.aload_n 0, 1) := by decide +kernel
theorem dX8_init_1 : decode cX8_init 1 = .ok (.iload_n 1, 1) := by decide +kernel
theorem dX8_init_2 : decode cX8_init 2 = .ok (.iload_n 2, 1) := by decide +kernel
theorem dX8_init_3 : decode cX8_init 3 = .ok (.iload_n 3, 1) := by decide +kernel
theorem dX8_init_4 : decode cX8_init 4 = .ok (.aload 4, 2) := by decide +kernel
theorem dX8_init_6 : decode cX8_init 6 = .ok (.invokespecial 3, 3) := by decide +kernel
theorem dX8_init_9 : decode cX8_init 9 = .ok (.return_, 1) := by decide +kernel
theorem dX8_force_0 : decode cX8_force 0 = .ok (.aload_n 0, 1) := by decide +kernel
theorem dX8_force_1 : decode cX8_force 1 = .ok (.aload_n 1, 1) := by decide +kernel
theorem dX8_force_2 : decode cX8_force 2 = .ok (.iload_n 2, 1) := by decide +kernel
theorem dX8_force_3 : decode cX8_force 3 = .ok (.iload_n 3, 1) := by decide +kernel
theorem dX8_force_4 : decode cX8_force 4 = .ok (.invokespecial 9, 3) := by decide +kernel
theorem dX8_force_7 : decode cX8_force 7 = .ok (.aload_n 1, 1) := by decide +kernel
theorem dX8_force_8 : decode cX8_force 8 = .ok (.getfield 13, 3) := by decide +kernel
theorem dX8_force_11 : decode cX8_force 11 = .ok (.aload_n 0, 1) := by decide +kernel
theorem dX8_force_12 : decode cX8_force 12 = .ok (.getfield 19, 3) := by decide +kernel
theorem dX8_force_15 : decode cX8_force 15 = .ok (.aaload, 1) := by decide +kernel
theorem dX8_force_16 : decode cX8_force 16 = .ok (.aload_n 1, 1) := by decide +kernel
theorem dX8_force_17 : decode cX8_force 17 = .ok (.getfield 25, 3) := by decide +kernel
theorem dX8_force_20 : decode cX8_force 20 = .ok (.iconst 4, 1) := by decide +kernel
theorem dX8_force_21 : decode cX8_force 21 = .ok (.irem, 1) := by decide +kernel
theorem dX8_force_22 : decode cX8_force 22 = .ok (.iaload, 1) := by decide +kernel
theorem dX8_force_23 : decode cX8_force 23 = .ok (.iadd, 1) := by decide +kernel
theorem dX8_force_24 : decode cX8_force 24 = .ok (.ireturn, 1) := by decide +kernel
theorem dX8_spits_0 : decode cX8_spits 0 = .ok (.aload_n 0, 1) := by decide +kernel
theorem dX8_spits_1 : decode cX8_spits 1 = .ok (.getfield 28, 3) := by decide +kernel
theorem dX8_spits_4 : decode cX8_spits 4 = .ok (.bipush 70, 2) := by decide +kernel
theorem dX8_spits_6 : decode cX8_spits 6 = .ok (.invokestatic 32, 3) := by decide +kernel
theorem dX8_spits_9 : decode cX8_spits 9 = .ok (.invokevirtual 38, 3) := by decide +kernel
theorem dX8_spits_12 : decode cX8_spits 12 = .ok (.pop, 1) := by decide +kernel
theorem dX8_spits_13 : decode cX8_spits 13 = .ok (.aload_n 0, 1) := by decide +kernel
theorem dX8_spits_14 : decode cX8_spits 14 = .ok (.iload_n 1, 1) := by decide +kernel
theorem dX8_spits_15 : decode cX8_spits 15 = .ok (.invokespecial 44, 3) := by decide +kernel
theorem dX8_spits_18 : decode cX8_spits 18 = .ok (.aload_n 0, 1) := by decide +kernel
theorem dX8_spits_19 : decode cX8_spits 19 = .ok (.iconst 2, 1) := by decide +kernel
theorem dX8_spits_20 : decode cX8_spits 20 = .ok (.invokespecial 48, 3) := by decide +kernel
theorem dX8_spits_23 : decode cX8_spits 23 = .ok (.iadd, 1) := by decide +kernel
theorem dX8_spits_24 : decode cX8_spits 24 = .ok (.ireturn, 1) := by decide +kernel
theorem dX8_sings_0 : decode cX8_sings 0 = .ok (.aload_n 0, 1) := by decide +kernel
theorem dX8_sings_1 : decode cX8_sings 1 = .ok (.getfield 28, 3) := by decide +kernel
theorem dX8_sings_4 : decode cX8_sings 4 = .ok (.bipush 71, 2) := by decide +kernel
theorem dX8_sings_6 : decode cX8_sings 6 = .ok (.invokestatic 32, 3) := by decide +kernel
theorem dX8_sings_9 : decode cX8_sings 9 = .ok (.invokevirtual 38, 3) := by decide +kernel
theorem dX8_sings_12 : decode cX8_sings 12 = .ok (.pop, 1) := by decide +kernel
theorem dX8_sings_13 : decode cX8_sings 13 = .ok (.aload_n 0, 1) := by decide +kernel
theorem dX8_sings_14 : decode cX8_sings 14 = .ok (.iload_n 1, 1) := by decide +kernel
theorem dX8_sings_15 : decode cX8_sings 15 = .ok (.invokespecial 48, 3) := by decide +kernel
theorem dX8_sings_18 : decode cX8_sings 18 = .ok (.aload_n 0, 1) := by decide +kernel
theorem dX8_sings_19 : decode cX8_sings 19 = .ok (.getfield 51, 3) := by decide +kernel
theorem dX8_sings_22 : decode cX8_sings 22 = .ok (.ixor, 1) := by decide +kernel
theorem dX8_sings_23 : decode cX8_sings 23 = .ok (.ireturn, 1) := by decide +kernel
theorem dX9_init_0 : decode cX9_init 0 = .ok (.aload_n 0, 1) := by decide +kernel
theorem dX9_init_1 : decode cX9_init 1 = .ok (.iload_n 1, 1) := by decide +kernel
theorem dX9_init_2 : decode cX9_init 2 = .ok (.iload_n 2, 1) := by decide +kernel
theorem dX9_init_3 : decode cX9_init 3 = .ok (.iload_n 3, 1) := by decide +kernel
theorem dX9_init_4 : decode cX9_init 4 = .ok (.aload 4, 2) := by decide +kernel
theorem dX9_init_6 : decode cX9_init 6 = .ok (.invokespecial 1, 3) := by decide +kernel
theorem dX9_init_9 : decode cX9_init 9 = .ok (.return_, 1) := by decide +kernel
theorem dX9_force_0 : decode cX9_force 0 = .ok (.iload_n 3, 1) := by decide +kernel
theorem dX9_force_1 : decode cX9_force 1 = .ok (.iload_n 2, 1) := by decide +kernel
theorem dX9_force_2 : decode cX9_force 2 = .ok (.iconst 2, 1) := by decide +kernel
theorem dX9_force_3 : decode cX9_force 3 = .ok (.irem, 1) := by decide +kernel
theorem dX9_force_4 : decode cX9_force 4 = .ok (.iconst 1, 1) := by decide +kernel
theorem dX9_force_5 : decode cX9_force 5 = .ok (.if_icmp .ne 10, 3) := by decide +kernel
theorem dX9_force_8 : decode cX9_force 8 = .ok (.aload_n 0, 1) := by decide +kernel
theorem dX9_force_9 : decode cX9_force 9 = .ok (.getfield 7, 3) := by decide +kernel
theorem dX9_force_12 : decode cX9_force 12 = .ok (.goto 4, 3) := by decide +kernel
theorem dX9_force_15 : decode cX9_force 15 = .ok (.iconst 0, 1) := by decide +kernel
theorem dX9_force_16 : decode cX9_force 16 = .ok (.iadd, 1) := by decide +kernel
theorem dX9_force_17 : decode cX9_force 17 = .ok (.ireturn, 1) := by decide +kernel
theorem dX9_spits_0 : decode cX9_spits 0 = .ok (.aload_n 0, 1) := by decide +kernel
theorem dX9_spits_1 : decode cX9_spits 1 = .ok (.getfield 13, 3) := by decide +kernel
theorem dX9_spits_4 : decode cX9_spits 4 = .ok (.bipush 20, 2) := by decide +kernel
theorem dX9_spits_6 : decode cX9_spits 6 = .ok (.invokestatic 17, 3) := by decide +kernel
theorem dX9_spits_9 : decode cX9_spits 9 = .ok (.invokevirtual 23, 3) := by decide +kernel
theorem dX9_spits_12 : decode cX9_spits 12 = .ok (.pop, 1) := by decide +kernel
theorem dX9_spits_13 : decode cX9_spits 13 = .ok (.aload_n 0, 1) := by decide +kernel
theorem dX9_spits_14 : decode cX9_spits 14 = .ok (.iload_n 1, 1) := by decide +kernel
theorem dX9_spits_15 : decode cX9_spits 15 = .ok (.invokespecial 29, 3) := by decide +kernel
theorem dX9_spits_18 : decode cX9_spits 18 = .ok (.bipush 6, 2) := by decide +kernel
theorem dX9_spits_20 : decode cX9_spits 20 = .ok (.ixor, 1) := by decide +kernel
theorem dX9_spits_21 : decode cX9_spits 21 = .ok (.ireturn, 1) := by decide +kernel
theorem dX10_init_0 : decode cX10_init 0 = .ok (.aload_n 0, 1) := by decide +kernel
theorem dX10_init_1 : decode cX10_init 1 = .ok (.invokespecial 3, 3) := by decide +kernel
theorem dX10_init_4 : decode cX10_init 4 = .ok (.aload_n 0, 1) := by decide +kernel
theorem dX10_init_5 : decode cX10_init 5 = .ok (.bipush 6, 2) := by decide +kernel
theorem dX10_init_7 : decode cX10_init 7 = .ok (.anewarray 9, 3) := by decide +kernel
theorem dX10_init_10 : decode cX10_init 10 = .ok (.putfield 11, 3) := by decide +kernel
theorem dX10_init_13 : decode cX10_init 13 = .ok (.aload_n 0, 1) := by decide +kernel
theorem dX10_init_14 : decode cX10_init 14 = .ok (.bipush 6, 2) := by decide +kernel
theorem dX10_init_16 : decode cX10_init 16 = .ok (.newarray .boolean, 2) := by decide +kernel
theorem dX10_init_18 : decode cX10_init 18 = .ok (.putfield 17, 3) := by decide +kernel
theorem dX10_init_21 : decode cX10_init 21 = .ok (.aload_n 0, 1) := by decide +kernel
theorem dX10_init_22 : decode cX10_init 22 = .ok (.bipush 6, 2) := by decide +kernel
theorem dX10_init_24 : decode cX10_init 24 = .ok (.iconst 5, 1) := by decide +kernel
theorem dX10_init_25 : decode cX10_init 25 = .ok (.multianewarray 21 2, 4) := by decide +kernel
theorem dX10_init_29 : decode cX10_init 29 = .ok (.putfield 23, 3) := by decide +kernel
theorem dX10_init_32 : decode cX10_init 32 = .ok (.aload_n 0, 1) := by decide +kernel
theorem dX10_init_33 : decode cX10_init 33 = .ok (.bipush 6, 2) := by decide +kernel
theorem dX10_init_35 : decode cX10_init 35 = .ok (.iconst 4, 1) := by decide +kernel
theorem dX10_init_36 : decode cX10_init 36 = .ok (.multianewarray 21 2, 4) := by decide +kernel
theorem dX10_init_40 : decode cX10_init 40 = .ok (.putfield 26, 3) := by decide +kernel
theorem dX10_init_43 : decode cX10_init 43 = .ok (.aload_n 0, 1) := by decide +kernel
theorem dX10_init_44 : decode cX10_init 44 = .ok (.iconst 5, 1) := by decide +kernel
theorem dX10_init_45 : decode cX10_init 45 = .ok (.newarray .int, 2) := by decide +kernel
theorem dX10_init_47 : decode cX10_init 47 = .ok (.putfield 29, 3) := by decide +kernel
theorem dX10_init_50 : decode cX10_init 50 = .ok (.aload_n 0, 1) := by decide +kernel
theorem dX10_init_51 : decode cX10_init 51 = .ok (.iconst 5, 1) := by decide +kernel
theorem dX10_init_52 : decode cX10_init 52 = .ok (.newarray .int, 2) := by decide +kernel
theorem dX10_init_54 : decode cX10_init 54 = .ok (.putfield 33, 3) := by decide +kernel
theorem dX10_init_57 : decode cX10_init 57 = .ok (.aload_n 0, 1) := by decide +kernel
theorem dX10_init_58 : decode cX10_init 58 = .ok (.new 36, 3) := by decide +kernel
theorem dX10_init_61 : decode cX10_init 61 = .ok (.dup, 1) := by decide +kernel
theorem dX10_init_62 : decode cX10_init 62 = .ok (.iconst 5, 1) := by decide +kernel
theorem dX10_init_63 : decode cX10_init 63 = .ok (.invokespecial 38, 3) := by decide +kernel
theorem dX10_init_66 : decode cX10_init 66 = .ok (.putfield 41, 3) := by decide +kernel
theorem dX10_init_69 : decode cX10_init 69 = .ok (.aload_n 0, 1) := by decide +kernel
theorem dX10_init_70 : decode cX10_init 70 = .ok (.new 36, 3) := by decide +kernel
theorem dX10_init_73 : decode cX10_init 73 = .ok (.dup, 1) := by decide +kernel
theorem dX10_init_74 : decode cX10_init 74 = .ok (.bipush 10, 2) := by decide +kernel
theorem dX10_init_76 : decode cX10_init 76 = .ok (.invokespecial 38, 3) := by decide +kernel
theorem dX10_init_79 : decode cX10_init 79 = .ok (.putfield 45, 3) := by decide +kernel
theorem dX10_init_82 : decode cX10_init 82 = .ok (.aload_n 0, 1) := by decide +kernel
theorem dX10_init_83 : decode cX10_init 83 = .ok (.new 36, 3) := by decide +kernel
theorem dX10_init_86 : decode cX10_init 86 = .ok (.dup, 1) := by decide +kernel
theorem dX10_init_87 : decode cX10_init 87 = .ok (.bipush 8, 2) := by decide +kernel
theorem dX10_init_89 : decode cX10_init 89 = .ok (.invokespecial 38, 3) := by decide +kernel
theorem dX10_init_92 : decode cX10_init 92 = .ok (.putfield 48, 3) := by decide +kernel
theorem dX10_init_95 : decode cX10_init 95 = .ok (.aload_n 0, 1) := by decide +kernel
theorem dX10_init_96 : decode cX10_init 96 = .ok (.ldc 51, 2) := by decide +kernel
theorem dX10_init_98 : decode cX10_init 98 = .ok (.invokevirtual 53, 3) := by decide +kernel
theorem dX10_init_101 : decode cX10_init 101 = .ok (.newarray .int, 2) := by decide +kernel
theorem dX10_init_103 : decode cX10_init 103 = .ok (.putfield 59, 3) := by decide +kernel
theorem dX10_init_106 : decode cX10_init 106 = .ok (.aload_n 0, 1) := by decide +kernel
theorem dX10_init_107 : decode cX10_init 107 = .ok (.getfield 33, 3) := by decide +kernel
theorem dX10_init_110 : decode cX10_init 110 = .ok (.bipush (-5), 2) := by decide +kernel
theorem dX10_init_112 : decode cX10_init 112 = .ok (.invokestatic 62, 3) := by decide +kernel
theorem dX10_init_115 : decode cX10_init 115 = .ok (.return_, 1) := by decide +kernel
theorem dX10_become_0 : decode cX10_become 0 = .ok (.aload_n 0, 1) := by decide +kernel
theorem dX10_become_1 : decode cX10_become 1 = .ok (.aload_n 1, 1) := by decide +kernel
theorem dX10_become_2 : decode cX10_become 2 = .ok (.invokevirtual 68, 3) := by decide +kernel
theorem dX10_become_5 : decode cX10_become 5 = .ok (.aload_n 0, 1) := by decide +kernel
theorem dX10_become_6 : decode cX10_become 6 = .ok (.getfield 41, 3) := by decide +kernel
theorem dX10_become_9 : decode cX10_become 9 = .ok (.aload_n 1, 1) := by decide +kernel
theorem dX10_become_10 : decode cX10_become 10 = .ok (.getfield 41, 3) := by decide +kernel
theorem dX10_become_13 : decode cX10_become 13 = .ok (.invokevirtual 72, 3) := by decide +kernel
theorem dX10_become_16 : decode cX10_become 16 = .ok (.aload_n 0, 1) := by decide +kernel
theorem dX10_become_17 : decode cX10_become 17 = .ok (.getfield 45, 3) := by decide +kernel
theorem dX10_become_20 : decode cX10_become 20 = .ok (.aload_n 1, 1) := by decide +kernel
theorem dX10_become_21 : decode cX10_become 21 = .ok (.getfield 45, 3) := by decide +kernel
theorem dX10_become_24 : decode cX10_become 24 = .ok (.invokevirtual 72, 3) := by decide +kernel
theorem dX10_become_27 : decode cX10_become 27 = .ok (.aload_n 0, 1) := by decide +kernel
theorem dX10_become_28 : decode cX10_become 28 = .ok (.getfield 48, 3) := by decide +kernel
theorem dX10_become_31 : decode cX10_become 31 = .ok (.aload_n 1, 1) := by decide +kernel
theorem dX10_become_32 : decode cX10_become 32 = .ok (.getfield 48, 3) := by decide +kernel
theorem dX10_become_35 : decode cX10_become 35 = .ok (.invokevirtual 72, 3) := by decide +kernel
theorem dX10_become_38 : decode cX10_become 38 = .ok (.return_, 1) := by decide +kernel
theorem dX10_goFrom_0 : decode cX10_goFrom 0 = .ok (.iconst 0, 1) := by decide +kernel
theorem dX10_goFrom_1 : decode cX10_goFrom 1 = .ok (.istore_n 2, 1) := by decide +kernel
theorem dX10_goFrom_2 : decode cX10_goFrom 2 = .ok (.iload_n 2, 1) := by decide +kernel
theorem dX10_goFrom_3 : decode cX10_goFrom 3 = .ok (.bipush 6, 2) := by decide +kernel
theorem dX10_goFrom_5 : decode cX10_goFrom 5 = .ok (.if_icmp .ge 69, 3) := by decide +kernel
theorem dX10_goFrom_8 : decode cX10_goFrom 8 = .ok (.aload_n 0, 1) := by decide +kernel
theorem dX10_goFrom_9 : decode cX10_goFrom 9 = .ok (.getfield 11, 3) := by decide +kernel
theorem dX10_goFrom_12 : decode cX10_goFrom 12 = .ok (.iload_n 2, 1) := by decide +kernel
theorem dX10_goFrom_13 : decode cX10_goFrom 13 = .ok (.aload_n 1, 1) := by decide +kernel
theorem dX10_goFrom_14 : decode cX10_goFrom 14 = .ok (.getfield 11, 3) := by decide +kernel
theorem dX10_goFrom_17 : decode cX10_goFrom 17 = .ok (.iload_n 2, 1) := by decide +kernel
theorem dX10_goFrom_18 : decode cX10_goFrom 18 = .ok (.aaload, 1) := by decide +kernel
theorem dX10_goFrom_19 : decode cX10_goFrom 19 = .ok (.aastore, 1) := by decide +kernel
theorem dX10_goFrom_20 : decode cX10_goFrom 20 = .ok (.aload_n 0, 1) := by decide +kernel
theorem dX10_goFrom_21 : decode cX10_goFrom 21 = .ok (.getfield 17, 3) := by decide +kernel
theorem dX10_goFrom_24 : decode cX10_goFrom 24 = .ok (.iload_n 2, 1) := by decide +kernel
theorem dX10_goFrom_25 : decode cX10_goFrom 25 = .ok (.aload_n 1, 1) := by decide +kernel
theorem dX10_goFrom_26 : decode cX10_goFrom 26 = .ok (.getfield 17, 3) := by decide +kernel
theorem dX10_goFrom_29 : decode cX10_goFrom 29 = .ok (.iload_n 2, 1) := by decide +kernel
theorem dX10_goFrom_30 : decode cX10_goFrom 30 = .ok (.baload, 1) := by decide +kernel
theorem dX10_goFrom_31 : decode cX10_goFrom 31 = .ok (.bastore, 1) := by decide +kernel
theorem dX10_goFrom_32 : decode cX10_goFrom 32 = .ok (.aload_n 1, 1) := by decide +kernel
theorem dX10_goFrom_33 : decode cX10_goFrom 33 = .ok (.getfield 23, 3) := by decide +kernel
theorem dX10_goFrom_36 : decode cX10_goFrom 36 = .ok (.iload_n 2, 1) := by decide +kernel
theorem dX10_goFrom_37 : decode cX10_goFrom 37 = .ok (.aaload, 1) := by decide +kernel
theorem dX10_goFrom_38 : decode cX10_goFrom 38 = .ok (.iconst 0, 1) := by decide +kernel
theorem dX10_goFrom_39 : decode cX10_goFrom 39 = .ok (.aload_n 0, 1) := by decide +kernel
theorem dX10_goFrom_40 : decode cX10_goFrom 40 = .ok (.getfield 23, 3) := by decide +kernel
theorem dX10_goFrom_43 : decode cX10_goFrom 43 = .ok (.iload_n 2, 1) := by decide +kernel
theorem dX10_goFrom_44 : decode cX10_goFrom 44 = .ok (.aaload, 1) := by decide +kernel
theorem dX10_goFrom_45 : decode cX10_goFrom 45 = .ok (.iconst 0, 1) := by decide +kernel
theorem dX10_goFrom_46 : decode cX10_goFrom 46 = .ok (.iconst 5, 1) := by decide +kernel
theorem dX10_goFrom_47 : decode cX10_goFrom 47 = .ok (.invokestatic 76, 3) := by decide +kernel
theorem dX10_goFrom_50 : decode cX10_goFrom 50 = .ok (.aload_n 1, 1) := by decide +kernel
theorem dX10_goFrom_51 : decode cX10_goFrom 51 = .ok (.getfield 26, 3) := by decide +kernel
theorem dX10_goFrom_54 : decode cX10_goFrom 54 = .ok (.iload_n 2, 1) := by decide +kernel
theorem dX10_goFrom_55 : decode cX10_goFrom 55 = .ok (.aaload, 1) := by decide +kernel
theorem dX10_goFrom_56 : decode cX10_goFrom 56 = .ok (.iconst 0, 1) := by decide +kernel
theorem dX10_goFrom_57 : decode cX10_goFrom 57 = .ok (.aload_n 0, 1) := by decide +kernel
theorem dX10_goFrom_58 : decode cX10_goFrom 58 = .ok (.getfield 26, 3) := by decide +kernel
theorem dX10_goFrom_61 : decode cX10_goFrom 61 = .ok (.iload_n 2, 1) := by decide +kernel
theorem dX10_goFrom_62 : decode cX10_goFrom 62 = .ok (.aaload, 1) := by decide +kernel
theorem dX10_goFrom_63 : decode cX10_goFrom 63 = .ok (.iconst 0, 1) := by decide +kernel
theorem dX10_goFrom_64 : decode cX10_goFrom 64 = .ok (.iconst 4, 1) := by decide +kernel
theorem dX10_goFrom_65 : decode cX10_goFrom 65 = .ok (.invokestatic 76, 3) := by decide +kernel
theorem dX10_goFrom_68 : decode cX10_goFrom 68 = .ok (.iinc 2 1, 3) := by decide +kernel
theorem dX10_goFrom_71 : decode cX10_goFrom 71 = .ok (.goto (-69), 3) := by decide +kernel
theorem dX10_goFrom_74 : decode cX10_goFrom 74 = .ok (.aload_n 0, 1) := by decide +kernel
theorem dX10_goFrom_75 : decode cX10_goFrom 75 = .ok (.aload_n 1, 1) := by decide +kernel
theorem dX10_goFrom_76 : decode cX10_goFrom 76 = .ok (.getfield 82, 3) := by decide +kernel
theorem dX10_goFrom_79 : decode cX10_goFrom 79 = .ok (.putfield 82, 3) := by decide +kernel
theorem dX10_goFrom_82 : decode cX10_goFrom 82 = .ok (.aload_n 1, 1) := by decide +kernel
theorem dX10_goFrom_83 : decode cX10_goFrom 83 = .ok (.getfield 29, 3) := by decide +kernel
theorem dX10_goFrom_86 : decode cX10_goFrom 86 = .ok (.iconst 0, 1) := by decide +kernel
theorem dX10_goFrom_87 : decode cX10_goFrom 87 = .ok (.aload_n 0, 1) := by decide +kernel
theorem dX10_goFrom_88 : decode cX10_goFrom 88 = .ok (.getfield 29, 3) := by decide +kernel
theorem dX10_goFrom_91 : decode cX10_goFrom 91 = .ok (.iconst 0, 1) := by decide +kernel
theorem dX10_goFrom_92 : decode cX10_goFrom 92 = .ok (.iconst 5, 1) := by decide +kernel
theorem dX10_goFrom_93 : decode cX10_goFrom 93 = .ok (.invokestatic 76, 3) := by decide +kernel
theorem dX10_goFrom_96 : decode cX10_goFrom 96 = .ok (.aload_n 1, 1) := by decide +kernel
theorem dX10_goFrom_97 : decode cX10_goFrom 97 = .ok (.getfield 33, 3) := by decide +kernel
theorem dX10_goFrom_100 : decode cX10_goFrom 100 = .ok (.iconst 0, 1) := by decide +kernel
theorem dX10_goFrom_101 : decode cX10_goFrom 101 = .ok (.aload_n 0, 1) := by decide +kernel
theorem dX10_goFrom_102 : decode cX10_goFrom 102 = .ok (.getfield 33, 3) := by decide +kernel
theorem dX10_goFrom_105 : decode cX10_goFrom 105 = .ok (.iconst 0, 1) := by decide +kernel
theorem dX10_goFrom_106 : decode cX10_goFrom 106 = .ok (.iconst 5, 1) := by decide +kernel
theorem dX10_goFrom_107 : decode cX10_goFrom 107 = .ok (.invokestatic 76, 3) := by decide +kernel
theorem dX10_goFrom_110 : decode cX10_goFrom 110 = .ok (.aload_n 0, 1) := by decide +kernel
theorem dX10_goFrom_111 : decode cX10_goFrom 111 = .ok (.aload_n 1, 1) := by decide +kernel
theorem dX10_goFrom_112 : decode cX10_goFrom 112 = .ok (.getfield 86, 3) := by decide +kernel
theorem dX10_goFrom_115 : decode cX10_goFrom 115 = .ok (.putfield 86, 3) := by decide +kernel
theorem dX10_goFrom_118 : decode cX10_goFrom 118 = .ok (.aload_n 0, 1) := by decide +kernel
theorem dX10_goFrom_119 : decode cX10_goFrom 119 = .ok (.aload_n 1, 1) := by decide +kernel
theorem dX10_goFrom_120 : decode cX10_goFrom 120 = .ok (.getfield 89, 3) := by decide +kernel
theorem dX10_goFrom_123 : decode cX10_goFrom 123 = .ok (.putfield 89, 3) := by decide +kernel
theorem dX10_goFrom_126 : decode cX10_goFrom 126 = .ok (.return_, 1) := by decide +kernel
theorem dX10_has_0 : decode cX10_has 0 = .ok (.iload_n 1, 1) := by decide +kernel
theorem dX10_has_1 : decode cX10_has 1 = .ok (.ifCond .lt 15, 3) := by decide +kernel
theorem dX10_has_4 : decode cX10_has 4 = .ok (.iload_n 1, 1) := by decide +kernel
theorem dX10_has_5 : decode cX10_has 5 = .ok (.aload_n 0, 1) := by decide +kernel
theorem dX10_has_6 : decode cX10_has 6 = .ok (.getfield 82, 3) := by decide +kernel
theorem dX10_has_9 : decode cX10_has 9 = .ok (.if_icmp .ge 7, 3) := by decide +kernel
theorem dX10_has_12 : decode cX10_has 12 = .ok (.iconst 1, 1) := by decide +kernel
theorem dX10_has_13 : decode cX10_has 13 = .ok (.goto 4, 3) := by decide +kernel
theorem dX10_has_16 : decode cX10_has 16 = .ok (.iconst 0, 1) := by decide +kernel
theorem dX10_has_17 : decode cX10_has 17 = .ok (.ireturn, 1) := by decide +kernel
theorem dX10_welcome_0 : decode cX10_welcome 0 = .ok (.aload_n 0, 1) := by decide +kernel
theorem dX10_welcome_1 : decode cX10_welcome 1 = .ok (.getfield 82, 3) := by decide +kernel
theorem dX10_welcome_4 : decode cX10_welcome 4 = .ok (.istore_n 3, 1) := by decide +kernel
theorem dX10_welcome_5 : decode cX10_welcome 5 = .ok (.aload_n 0, 1) := by decide +kernel
theorem dX10_welcome_6 : decode cX10_welcome 6 = .ok (.getfield 11, 3) := by decide +kernel
theorem dX10_welcome_9 : decode cX10_welcome 9 = .ok (.iload_n 3, 1) := by decide +kernel
theorem dX10_welcome_10 : decode cX10_welcome 10 = .ok (.aload_n 1, 1) := by decide +kernel
theorem dX10_welcome_11 : decode cX10_welcome 11 = .ok (.aastore, 1) := by decide +kernel
theorem dX10_welcome_12 : decode cX10_welcome 12 = .ok (.aload_n 0, 1) := by decide +kernel
theorem dX10_welcome_13 : decode cX10_welcome 13 = .ok (.getfield 17, 3) := by decide +kernel
theorem dX10_welcome_16 : decode cX10_welcome 16 = .ok (.iload_n 3, 1) := by decide +kernel
theorem dX10_welcome_17 : decode cX10_welcome 17 = .ok (.iconst 0, 1) := by decide +kernel
theorem dX10_welcome_18 : decode cX10_welcome 18 = .ok (.bastore, 1) := by decide +kernel
theorem dX10_welcome_19 : decode cX10_welcome 19 = .ok (.aload_n 0, 1) := by decide +kernel
theorem dX10_welcome_20 : decode cX10_welcome 20 = .ok (.getfield 23, 3) := by decide +kernel
theorem dX10_welcome_23 : decode cX10_welcome 23 = .ok (.iload_n 3, 1) := by decide +kernel
theorem dX10_welcome_24 : decode cX10_welcome 24 = .ok (.aaload, 1) := by decide +kernel
theorem dX10_welcome_25 : decode cX10_welcome 25 = .ok (.iload_n 2, 1) := by decide +kernel
theorem dX10_welcome_26 : decode cX10_welcome 26 = .ok (.invokestatic 62, 3) := by decide +kernel
theorem dX10_welcome_29 : decode cX10_welcome 29 = .ok (.aload_n 0, 1) := by decide +kernel
theorem dX10_welcome_30 : decode cX10_welcome 30 = .ok (.getfield 26, 3) := by decide +kernel
theorem dX10_welcome_33 : decode cX10_welcome 33 = .ok (.iload_n 3, 1) := by decide +kernel
theorem dX10_welcome_34 : decode cX10_welcome 34 = .ok (.aaload, 1) := by decide +kernel
theorem dX10_welcome_35 : decode cX10_welcome 35 = .ok (.iconst 0, 1) := by decide +kernel
theorem dX10_welcome_36 : decode cX10_welcome 36 = .ok (.invokestatic 62, 3) := by decide +kernel
theorem dX10_welcome_39 : decode cX10_welcome 39 = .ok (.aload_n 0, 1) := by decide +kernel
theorem dX10_welcome_40 : decode cX10_welcome 40 = .ok (.dup, 1) := by decide +kernel
theorem dX10_welcome_41 : decode cX10_welcome 41 = .ok (.getfield 82, 3) := by decide +kernel
theorem dX10_welcome_44 : decode cX10_welcome 44 = .ok (.iconst 1, 1) := by decide +kernel
theorem dX10_welcome_45 : decode cX10_welcome 45 = .ok (.iadd, 1) := by decide +kernel
theorem dX10_welcome_46 : decode cX10_welcome 46 = .ok (.putfield 82, 3) := by decide +kernel
theorem dX10_welcome_49 : decode cX10_welcome 49 = .ok (.iload_n 3, 1) := by decide +kernel
theorem dX10_welcome_50 : decode cX10_welcome 50 = .ok (.ireturn, 1) := by decide +kernel
theorem dX10_treeOf_0 : decode cX10_treeOf 0 = .ok (.iconst 0, 1) := by decide +kernel
theorem dX10_treeOf_1 : decode cX10_treeOf 1 = .ok (.istore_n 2, 1) := by decide +kernel
theorem dX10_treeOf_2 : decode cX10_treeOf 2 = .ok (.iload_n 2, 1) := by decide +kernel
theorem dX10_treeOf_3 : decode cX10_treeOf 3 = .ok (.iconst 5, 1) := by decide +kernel
theorem dX10_treeOf_4 : decode cX10_treeOf 4 = .ok (.if_icmp .ge 21, 3) := by decide +kernel
theorem dX10_treeOf_7 : decode cX10_treeOf 7 = .ok (.aload_n 0, 1) := by decide +kernel
theorem dX10_treeOf_8 : decode cX10_treeOf 8 = .ok (.getfield 33, 3) := by decide +kernel
theorem dX10_treeOf_11 : decode cX10_treeOf 11 = .ok (.iload_n 2, 1) := by decide +kernel
theorem dX10_treeOf_12 : decode cX10_treeOf 12 = .ok (.iaload, 1) := by decide +kernel
theorem dX10_treeOf_13 : decode cX10_treeOf 13 = .ok (.iload_n 1, 1) := by decide +kernel
theorem dX10_treeOf_14 : decode cX10_treeOf 14 = .ok (.if_icmp .ne 5, 3) := by decide +kernel
theorem dX10_treeOf_17 : decode cX10_treeOf 17 = .ok (.iload_n 2, 1) := by decide +kernel
theorem dX10_treeOf_18 : decode cX10_treeOf 18 = .ok (.ireturn, 1) := by decide +kernel
theorem dX10_treeOf_19 : decode cX10_treeOf 19 = .ok (.iinc 2 1, 3) := by decide +kernel
theorem dX10_treeOf_22 : decode cX10_treeOf 22 = .ok (.goto (-20), 3) := by decide +kernel
theorem dX10_treeOf_25 : decode cX10_treeOf 25 = .ok (.bipush (-5), 2) := by decide +kernel
theorem dX10_treeOf_27 : decode cX10_treeOf 27 = .ok (.ireturn, 1) := by decide +kernel
theorem dX10_giveLeader_0 : decode cX10_giveLeader 0 = .ok (.aload_n 0, 1) := by decide +kernel
theorem dX10_giveLeader_1 : decode cX10_giveLeader 1 = .ok (.iload_n 2, 1) := by decide +kernel
theorem dX10_giveLeader_2 : decode cX10_giveLeader 2 = .ok (.invokevirtual 93, 3) := by decide +kernel
theorem dX10_giveLeader_5 : decode cX10_giveLeader 5 = .ok (.istore_n 3, 1) := by decide +kernel
theorem dX10_giveLeader_6 : decode cX10_giveLeader 6 = .ok (.iload_n 2, 1) := by decide +kernel
theorem dX10_giveLeader_7 : decode cX10_giveLeader 7 = .ok (.bipush (-5), 2) := by decide +kernel
theorem dX10_giveLeader_9 : decode cX10_giveLeader 9 = .ok (.if_icmp .eq 17, 3) := by decide +kernel
theorem dX10_giveLeader_12 : decode cX10_giveLeader 12 = .ok (.iload_n 3, 1) := by decide +kernel
theorem dX10_giveLeader_13 : decode cX10_giveLeader 13 = .ok (.bipush (-5), 2) := by decide +kernel
theorem dX10_giveLeader_15 : decode cX10_giveLeader 15 = .ok (.if_icmp .eq 11, 3) := by decide +kernel
theorem dX10_giveLeader_18 : decode cX10_giveLeader 18 = .ok (.aload_n 0, 1) := by decide +kernel
theorem dX10_giveLeader_19 : decode cX10_giveLeader 19 = .ok (.getfield 33, 3) := by decide +kernel
theorem dX10_giveLeader_22 : decode cX10_giveLeader 22 = .ok (.iload_n 3, 1) := by decide +kernel
theorem dX10_giveLeader_23 : decode cX10_giveLeader 23 = .ok (.bipush (-5), 2) := by decide +kernel
theorem dX10_giveLeader_25 : decode cX10_giveLeader 25 = .ok (.iastore, 1) := by decide +kernel
theorem dX10_giveLeader_26 : decode cX10_giveLeader 26 = .ok (.aload_n 0, 1) := by decide +kernel
theorem dX10_giveLeader_27 : decode cX10_giveLeader 27 = .ok (.getfield 33, 3) := by decide +kernel
theorem dX10_giveLeader_30 : decode cX10_giveLeader 30 = .ok (.iload_n 1, 1) := by decide +kernel
theorem dX10_giveLeader_31 : decode cX10_giveLeader 31 = .ok (.iload_n 2, 1) := by decide +kernel
theorem dX10_giveLeader_32 : decode cX10_giveLeader 32 = .ok (.iastore, 1) := by decide +kernel
theorem dX10_giveLeader_33 : decode cX10_giveLeader 33 = .ok (.return_, 1) := by decide +kernel
theorem dX10_present_0 : decode cX10_present 0 = .ok (.iconst 0, 1) := by decide +kernel
theorem dX10_present_1 : decode cX10_present 1 = .ok (.istore_n 1, 1) := by decide +kernel
theorem dX10_present_2 : decode cX10_present 2 = .ok (.iconst 0, 1) := by decide +kernel
theorem dX10_present_3 : decode cX10_present 3 = .ok (.istore_n 2, 1) := by decide +kernel
theorem dX10_present_4 : decode cX10_present 4 = .ok (.iload_n 2, 1) := by decide +kernel
theorem dX10_present_5 : decode cX10_present 5 = .ok (.aload_n 0, 1) := by decide +kernel
theorem dX10_present_6 : decode cX10_present 6 = .ok (.getfield 82, 3) := by decide +kernel
theorem dX10_present_9 : decode cX10_present 9 = .ok (.if_icmp .ge 28, 3) := by decide +kernel
theorem dX10_present_12 : decode cX10_present 12 = .ok (.iload_n 1, 1) := by decide +kernel
theorem dX10_present_13 : decode cX10_present 13 = .ok (.aload_n 0, 1) := by decide +kernel
theorem dX10_present_14 : decode cX10_present 14 = .ok (.getfield 17, 3) := by decide +kernel
theorem dX10_present_17 : decode cX10_present 17 = .ok (.iload_n 2, 1) := by decide +kernel
theorem dX10_present_18 : decode cX10_present 18 = .ok (.baload, 1) := by decide +kernel
theorem dX10_present_19 : decode cX10_present 19 = .ok (.ifCond .eq 7, 3) := by decide +kernel
theorem dX10_present_22 : decode cX10_present 22 = .ok (.iconst 0, 1) := by decide +kernel
theorem dX10_present_23 : decode cX10_present 23 = .ok (.goto 6, 3) := by decide +kernel
theorem dX10_present_26 : decode cX10_present 26 = .ok (.iconst 1, 1) := by decide +kernel
theorem dX10_present_27 : decode cX10_present 27 = .ok (.iload_n 2, 1) := by decide +kernel
theorem dX10_present_28 : decode cX10_present 28 = .ok (.ishl, 1) := by decide +kernel
theorem dX10_present_29 : decode cX10_present 29 = .ok (.ior, 1) := by decide +kernel
theorem dX10_present_30 : decode cX10_present 30 = .ok (.istore_n 1, 1) := by decide +kernel
theorem dX10_present_31 : decode cX10_present 31 = .ok (.iinc 2 1, 3) := by decide +kernel
theorem dX10_present_34 : decode cX10_present 34 = .ok (.goto (-30), 3) := by decide +kernel
theorem dX10_present_37 : decode cX10_present 37 = .ok (.iload_n 1, 1) := by decide +kernel
theorem dX10_present_38 : decode cX10_present 38 = .ok (.ireturn, 1) := by decide +kernel
theorem dX10_need_0 : decode cX10_need 0 = .ok (.aload_n 0, 1) := by decide +kernel
theorem dX10_need_1 : decode cX10_need 1 = .ok (.getfield 89, 3) := by decide +kernel
theorem dX10_need_4 : decode cX10_need 4 = .ok (.ifnonnull 8, 3) := by decide +kernel
theorem dX10_need_7 : decode cX10_need 7 = .ok (.bipush 20, 2) := by decide +kernel
theorem dX10_need_9 : decode cX10_need 9 = .ok (.goto 10, 3) := by decide +kernel
theorem dX10_need_12 : decode cX10_need 12 = .ok (.aload_n 0, 1) := by decide +kernel
theorem dX10_need_13 : decode cX10_need 13 = .ok (.getfield 89, 3) := by decide +kernel
theorem dX10_need_16 : decode cX10_need 16 = .ok (.getfield 97, 3) := by decide +kernel
theorem dX10_need_19 : decode cX10_need 19 = .ok (.ireturn, 1) := by decide +kernel
theorem dX10_wear_0 : decode cX10_wear 0 = .ok (.aload_n 0, 1) := by decide +kernel
theorem dX10_wear_1 : decode cX10_wear 1 = .ok (.getfield 89, 3) := by decide +kernel
theorem dX10_wear_4 : decode cX10_wear 4 = .ok (.ifnonnull 7, 3) := by decide +kernel
theorem dX10_wear_7 : decode cX10_wear 7 = .ok (.iconst 3, 1) := by decide +kernel
theorem dX10_wear_8 : decode cX10_wear 8 = .ok (.goto 10, 3) := by decide +kernel
theorem dX10_wear_11 : decode cX10_wear 11 = .ok (.aload_n 0, 1) := by decide +kernel
theorem dX10_wear_12 : decode cX10_wear 12 = .ok (.getfield 89, 3) := by decide +kernel
theorem dX10_wear_15 : decode cX10_wear 15 = .ok (.getfield 102, 3) := by decide +kernel
theorem dX10_wear_18 : decode cX10_wear 18 = .ok (.ireturn, 1) := by decide +kernel
theorem dX10_force_0 : decode cX10_force 0 = .ok (.aload_n 0, 1) := by decide +kernel
theorem dX10_force_1 : decode cX10_force 1 = .ok (.getfield 11, 3) := by decide +kernel
theorem dX10_force_4 : decode cX10_force 4 = .ok (.iload_n 1, 1) := by decide +kernel
theorem dX10_force_5 : decode cX10_force 5 = .ok (.aaload, 1) := by decide +kernel
theorem dX10_force_6 : decode cX10_force 6 = .ok (.astore_n 3, 1) := by decide +kernel
theorem dX10_force_7 : decode cX10_force 7 = .ok (.aload_n 0, 1) := by decide +kernel
theorem dX10_force_8 : decode cX10_force 8 = .ok (.getfield 23, 3) := by decide +kernel
theorem dX10_force_11 : decode cX10_force 11 = .ok (.iload_n 1, 1) := by decide +kernel
theorem dX10_force_12 : decode cX10_force 12 = .ok (.aaload, 1) := by decide +kernel
theorem dX10_force_13 : decode cX10_force 13 = .ok (.iload_n 2, 1) := by decide +kernel
theorem dX10_force_14 : decode cX10_force 14 = .ok (.iaload, 1) := by decide +kernel
theorem dX10_force_15 : decode cX10_force 15 = .ok (.istore 4, 2) := by decide +kernel
theorem dX10_force_17 : decode cX10_force 17 = .ok (.aload_n 0, 1) := by decide +kernel
theorem dX10_force_18 : decode cX10_force 18 = .ok (.getfield 89, 3) := by decide +kernel
theorem dX10_force_21 : decode cX10_force 21 = .ok (.ifnull 83, 3) := by decide +kernel
theorem dX10_force_24 : decode cX10_force 24 = .ok (.aload_n 0, 1) := by decide +kernel
theorem dX10_force_25 : decode cX10_force 25 = .ok (.getfield 59, 3) := by decide +kernel
theorem dX10_force_28 : decode cX10_force 28 = .ok (.iconst 0, 1) := by decide +kernel
theorem dX10_force_29 : decode cX10_force 29 = .ok (.iload_n 1, 1) := by decide +kernel
theorem dX10_force_30 : decode cX10_force 30 = .ok (.iastore, 1) := by decide +kernel
theorem dX10_force_31 : decode cX10_force 31 = .ok (.aload_n 0, 1) := by decide +kernel
theorem dX10_force_32 : decode cX10_force 32 = .ok (.getfield 59, 3) := by decide +kernel
theorem dX10_force_35 : decode cX10_force 35 = .ok (.iconst 1, 1) := by decide +kernel
theorem dX10_force_36 : decode cX10_force 36 = .ok (.iload_n 2, 1) := by decide +kernel
theorem dX10_force_37 : decode cX10_force 37 = .ok (.iastore, 1) := by decide +kernel
theorem dX10_force_38 : decode cX10_force 38 = .ok (.aload_n 0, 1) := by decide +kernel
theorem dX10_force_39 : decode cX10_force 39 = .ok (.getfield 59, 3) := by decide +kernel
theorem dX10_force_42 : decode cX10_force 42 = .ok (.iconst 2, 1) := by decide +kernel
theorem dX10_force_43 : decode cX10_force 43 = .ok (.aload_n 3, 1) := by decide +kernel
theorem dX10_force_44 : decode cX10_force 44 = .ok (.getfield 105, 3) := by decide +kernel
theorem dX10_force_47 : decode cX10_force 47 = .ok (.iastore, 1) := by decide +kernel
theorem dX10_force_48 : decode cX10_force 48 = .ok (.aload_n 0, 1) := by decide +kernel
theorem dX10_force_49 : decode cX10_force 49 = .ok (.getfield 59, 3) := by decide +kernel
theorem dX10_force_52 : decode cX10_force 52 = .ok (.iconst 3, 1) := by decide +kernel
theorem dX10_force_53 : decode cX10_force 53 = .ok (.aload_n 3, 1) := by decide +kernel
theorem dX10_force_54 : decode cX10_force 54 = .ok (.getfield 108, 3) := by decide +kernel
theorem dX10_force_57 : decode cX10_force 57 = .ok (.iastore, 1) := by decide +kernel
theorem dX10_force_58 : decode cX10_force 58 = .ok (.aload_n 0, 1) := by decide +kernel
theorem dX10_force_59 : decode cX10_force 59 = .ok (.getfield 59, 3) := by decide +kernel
theorem dX10_force_62 : decode cX10_force 62 = .ok (.iconst 4, 1) := by decide +kernel
theorem dX10_force_63 : decode cX10_force 63 = .ok (.aload_n 0, 1) := by decide +kernel
theorem dX10_force_64 : decode cX10_force 64 = .ok (.getfield 23, 3) := by decide +kernel
theorem dX10_force_67 : decode cX10_force 67 = .ok (.iload_n 1, 1) := by decide +kernel
theorem dX10_force_68 : decode cX10_force 68 = .ok (.aaload, 1) := by decide +kernel
theorem dX10_force_69 : decode cX10_force 69 = .ok (.iload_n 2, 1) := by decide +kernel
theorem dX10_force_70 : decode cX10_force 70 = .ok (.iaload, 1) := by decide +kernel
theorem dX10_force_71 : decode cX10_force 71 = .ok (.bipush 10, 2) := by decide +kernel
theorem dX10_force_73 : decode cX10_force 73 = .ok (.idiv, 1) := by decide +kernel
theorem dX10_force_74 : decode cX10_force 74 = .ok (.iastore, 1) := by decide +kernel
theorem dX10_force_75 : decode cX10_force 75 = .ok (.aload_n 0, 1) := by decide +kernel
theorem dX10_force_76 : decode cX10_force 76 = .ok (.getfield 59, 3) := by decide +kernel
theorem dX10_force_79 : decode cX10_force 79 = .ok (.iconst 5, 1) := by decide +kernel
theorem dX10_force_80 : decode cX10_force 80 = .ok (.aload_n 0, 1) := by decide +kernel
theorem dX10_force_81 : decode cX10_force 81 = .ok (.getfield 86, 3) := by decide +kernel
theorem dX10_force_84 : decode cX10_force 84 = .ok (.bipush 10, 2) := by decide +kernel
theorem dX10_force_86 : decode cX10_force 86 = .ok (.irem, 1) := by decide +kernel
theorem dX10_force_87 : decode cX10_force 87 = .ok (.iastore, 1) := by decide +kernel
theorem dX10_force_88 : decode cX10_force 88 = .ok (.iload 4, 2) := by decide +kernel
theorem dX10_force_90 : decode cX10_force 90 = .ok (.aload_n 0, 1) := by decide +kernel
theorem dX10_force_91 : decode cX10_force 91 = .ok (.getfield 89, 3) := by decide +kernel
theorem dX10_force_94 : decode cX10_force 94 = .ok (.aload_n 0, 1) := by decide +kernel
theorem dX10_force_95 : decode cX10_force 95 = .ok (.getfield 59, 3) := by decide +kernel
theorem dX10_force_98 : decode cX10_force 98 = .ok (.invokevirtual 111, 3) := by decide +kernel
theorem dX10_force_101 : decode cX10_force 101 = .ok (.iadd, 1) := by decide +kernel
theorem dX10_force_102 : decode cX10_force 102 = .ok (.istore 4, 2) := by decide +kernel
theorem dX10_force_104 : decode cX10_force 104 = .ok (.aload_n 3, 1) := by decide +kernel
theorem dX10_force_105 : decode cX10_force 105 = .ok (.aload_n 0, 1) := by decide +kernel
theorem dX10_force_106 : decode cX10_force 106 = .ok (.iload_n 2, 1) := by decide +kernel
theorem dX10_force_107 : decode cX10_force 107 = .ok (.iload 4, 2) := by decide +kernel
theorem dX10_force_109 : decode cX10_force 109 = .ok (.invokevirtual 115, 3) := by decide +kernel
theorem dX10_force_112 : decode cX10_force 112 = .ok (.ireturn, 1) := by decide +kernel
theorem dX10_bears_0 : decode cX10_bears 0 = .ok (.aload_n 0, 1) := by decide +kernel
theorem dX10_bears_1 : decode cX10_bears 1 = .ok (.getfield 17, 3) := by decide +kernel
theorem dX10_bears_4 : decode cX10_bears 4 = .ok (.iload_n 1, 1) := by decide +kernel
theorem dX10_bears_5 : decode cX10_bears 5 = .ok (.baload, 1) := by decide +kernel
theorem dX10_bears_6 : decode cX10_bears 6 = .ok (.ifCond .ne 20, 3) := by decide +kernel
theorem dX10_bears_9 : decode cX10_bears 9 = .ok (.aload_n 0, 1) := by decide +kernel
theorem dX10_bears_10 : decode cX10_bears 10 = .ok (.iload_n 1, 1) := by decide +kernel
theorem dX10_bears_11 : decode cX10_bears 11 = .ok (.iload_n 2, 1) := by decide +kernel
theorem dX10_bears_12 : decode cX10_bears 12 = .ok (.invokevirtual 119, 3) := by decide +kernel
theorem dX10_bears_15 : decode cX10_bears 15 = .ok (.aload_n 0, 1) := by decide +kernel
theorem dX10_bears_16 : decode cX10_bears 16 = .ok (.invokevirtual 122, 3) := by decide +kernel
theorem dX10_bears_19 : decode cX10_bears 19 = .ok (.if_icmp .lt 7, 3) := by decide +kernel
theorem dX10_bears_22 : decode cX10_bears 22 = .ok (.iconst 1, 1) := by decide +kernel
theorem dX10_bears_23 : decode cX10_bears 23 = .ok (.goto 4, 3) := by decide +kernel
theorem dX10_bears_26 : decode cX10_bears 26 = .ok (.iconst 0, 1) := by decide +kernel
theorem dX10_bears_27 : decode cX10_bears 27 = .ok (.ireturn, 1) := by decide +kernel
theorem dX10_bearing_0 : decode cX10_bearing 0 = .ok (.iconst 0, 1) := by decide +kernel
theorem dX10_bearing_1 : decode cX10_bearing 1 = .ok (.istore_n 1, 1) := by decide +kernel
theorem dX10_bearing_2 : decode cX10_bearing 2 = .ok (.iconst 0, 1) := by decide +kernel
theorem dX10_bearing_3 : decode cX10_bearing 3 = .ok (.istore_n 2, 1) := by decide +kernel
theorem dX10_bearing_4 : decode cX10_bearing 4 = .ok (.iload_n 2, 1) := by decide +kernel
theorem dX10_bearing_5 : decode cX10_bearing 5 = .ok (.iconst 5, 1) := by decide +kernel
theorem dX10_bearing_6 : decode cX10_bearing 6 = .ok (.if_icmp .ge 42, 3) := by decide +kernel
theorem dX10_bearing_9 : decode cX10_bearing 9 = .ok (.aload_n 0, 1) := by decide +kernel
theorem dX10_bearing_10 : decode cX10_bearing 10 = .ok (.aload_n 0, 1) := by decide +kernel
theorem dX10_bearing_11 : decode cX10_bearing 11 = .ok (.getfield 33, 3) := by decide +kernel
theorem dX10_bearing_14 : decode cX10_bearing 14 = .ok (.iload_n 2, 1) := by decide +kernel
theorem dX10_bearing_15 : decode cX10_bearing 15 = .ok (.iaload, 1) := by decide +kernel
theorem dX10_bearing_16 : decode cX10_bearing 16 = .ok (.invokevirtual 124, 3) := by decide +kernel
theorem dX10_bearing_19 : decode cX10_bearing 19 = .ok (.ifCond .eq 23, 3) := by decide +kernel
theorem dX10_bearing_22 : decode cX10_bearing 22 = .ok (.aload_n 0, 1) := by decide +kernel
theorem dX10_bearing_23 : decode cX10_bearing 23 = .ok (.aload_n 0, 1) := by decide +kernel
theorem dX10_bearing_24 : decode cX10_bearing 24 = .ok (.getfield 33, 3) := by decide +kernel
theorem dX10_bearing_27 : decode cX10_bearing 27 = .ok (.iload_n 2, 1) := by decide +kernel
theorem dX10_bearing_28 : decode cX10_bearing 28 = .ok (.iaload, 1) := by decide +kernel
theorem dX10_bearing_29 : decode cX10_bearing 29 = .ok (.iload_n 2, 1) := by decide +kernel
theorem dX10_bearing_30 : decode cX10_bearing 30 = .ok (.invokevirtual 128, 3) := by decide +kernel
theorem dX10_bearing_33 : decode cX10_bearing 33 = .ok (.ifCond .eq 9, 3) := by decide +kernel
theorem dX10_bearing_36 : decode cX10_bearing 36 = .ok (.iload_n 1, 1) := by decide +kernel
theorem dX10_bearing_37 : decode cX10_bearing 37 = .ok (.iconst 1, 1) := by decide +kernel
theorem dX10_bearing_38 : decode cX10_bearing 38 = .ok (.iload_n 2, 1) := by decide +kernel
theorem dX10_bearing_39 : decode cX10_bearing 39 = .ok (.ishl, 1) := by decide +kernel
theorem dX10_bearing_40 : decode cX10_bearing 40 = .ok (.ior, 1) := by decide +kernel
theorem dX10_bearing_41 : decode cX10_bearing 41 = .ok (.istore_n 1, 1) := by decide +kernel
theorem dX10_bearing_42 : decode cX10_bearing 42 = .ok (.iinc 2 1, 3) := by decide +kernel
theorem dX10_bearing_45 : decode cX10_bearing 45 = .ok (.goto (-41), 3) := by decide +kernel
theorem dX10_bearing_48 : decode cX10_bearing 48 = .ok (.iload_n 1, 1) := by decide +kernel
theorem dX10_bearing_49 : decode cX10_bearing 49 = .ok (.ireturn, 1) := by decide +kernel
theorem dX10_goYears_0 : decode cX10_goYears 0 = .ok (.iconst 0, 1) := by decide +kernel
theorem dX10_goYears_1 : decode cX10_goYears 1 = .ok (.istore_n 2, 1) := by decide +kernel
theorem dX10_goYears_2 : decode cX10_goYears 2 = .ok (.iload_n 2, 1) := by decide +kernel
theorem dX10_goYears_3 : decode cX10_goYears 3 = .ok (.iload_n 1, 1) := by decide +kernel
theorem dX10_goYears_4 : decode cX10_goYears 4 = .ok (.if_icmp .ge 57, 3) := by decide +kernel
theorem dX10_goYears_7 : decode cX10_goYears 7 = .ok (.iconst 0, 1) := by decide +kernel
theorem dX10_goYears_8 : decode cX10_goYears 8 = .ok (.istore_n 3, 1) := by decide +kernel
theorem dX10_goYears_9 : decode cX10_goYears 9 = .ok (.iload_n 3, 1) := by decide +kernel
theorem dX10_goYears_10 : decode cX10_goYears 10 = .ok (.iconst 5, 1) := by decide +kernel
theorem dX10_goYears_11 : decode cX10_goYears 11 = .ok (.if_icmp .ge 34, 3) := by decide +kernel
theorem dX10_goYears_14 : decode cX10_goYears 14 = .ok (.aload_n 0, 1) := by decide +kernel
theorem dX10_goYears_15 : decode cX10_goYears 15 = .ok (.aload_n 0, 1) := by decide +kernel
theorem dX10_goYears_16 : decode cX10_goYears 16 = .ok (.getfield 33, 3) := by decide +kernel
theorem dX10_goYears_19 : decode cX10_goYears 19 = .ok (.iload_n 3, 1) := by decide +kernel
theorem dX10_goYears_20 : decode cX10_goYears 20 = .ok (.iaload, 1) := by decide +kernel
theorem dX10_goYears_21 : decode cX10_goYears 21 = .ok (.invokevirtual 124, 3) := by decide +kernel
theorem dX10_goYears_24 : decode cX10_goYears 24 = .ok (.ifCond .eq 15, 3) := by decide +kernel
theorem dX10_goYears_27 : decode cX10_goYears 27 = .ok (.aload_n 0, 1) := by decide +kernel
theorem dX10_goYears_28 : decode cX10_goYears 28 = .ok (.iload_n 3, 1) := by decide +kernel
theorem dX10_goYears_29 : decode cX10_goYears 29 = .ok (.aload_n 0, 1) := by decide +kernel
theorem dX10_goYears_30 : decode cX10_goYears 30 = .ok (.getfield 33, 3) := by decide +kernel
theorem dX10_goYears_33 : decode cX10_goYears 33 = .ok (.iload_n 3, 1) := by decide +kernel
theorem dX10_goYears_34 : decode cX10_goYears 34 = .ok (.iaload, 1) := by decide +kernel
theorem dX10_goYears_35 : decode cX10_goYears 35 = .ok (.invokevirtual 132, 3) := by decide +kernel
theorem dX10_goYears_38 : decode cX10_goYears 38 = .ok (.pop, 1) := by decide +kernel
theorem dX10_goYears_39 : decode cX10_goYears 39 = .ok (.iinc 3 1, 3) := by decide +kernel
theorem dX10_goYears_42 : decode cX10_goYears 42 = .ok (.goto (-33), 3) := by decide +kernel
theorem dX10_goYears_45 : decode cX10_goYears 45 = .ok (.aload_n 0, 1) := by decide +kernel
theorem dX10_goYears_46 : decode cX10_goYears 46 = .ok (.dup, 1) := by decide +kernel
theorem dX10_goYears_47 : decode cX10_goYears 47 = .ok (.getfield 86, 3) := by decide +kernel
theorem dX10_goYears_50 : decode cX10_goYears 50 = .ok (.iconst 1, 1) := by decide +kernel
theorem dX10_goYears_51 : decode cX10_goYears 51 = .ok (.iadd, 1) := by decide +kernel
theorem dX10_goYears_52 : decode cX10_goYears 52 = .ok (.putfield 86, 3) := by decide +kernel
theorem dX10_goYears_55 : decode cX10_goYears 55 = .ok (.iinc 2 1, 3) := by decide +kernel
theorem dX10_goYears_58 : decode cX10_goYears 58 = .ok (.goto (-56), 3) := by decide +kernel
theorem dX10_goYears_61 : decode cX10_goYears 61 = .ok (.return_, 1) := by decide +kernel
theorem dX10_goAt_0 : decode cX10_goAt 0 = .ok (.aload_n 0, 1) := by decide +kernel
theorem dX10_goAt_1 : decode cX10_goAt 1 = .ok (.iload_n 2, 1) := by decide +kernel
theorem dX10_goAt_2 : decode cX10_goAt 2 = .ok (.iload_n 1, 1) := by decide +kernel
theorem dX10_goAt_3 : decode cX10_goAt 3 = .ok (.invokevirtual 128, 3) := by decide +kernel
theorem dX10_goAt_6 : decode cX10_goAt 6 = .ok (.ifCond .ne 5, 3) := by decide +kernel
theorem dX10_goAt_9 : decode cX10_goAt 9 = .ok (.iconst 0, 1) := by decide +kernel
theorem dX10_goAt_10 : decode cX10_goAt 10 = .ok (.ireturn, 1) := by decide +kernel
theorem dX10_goAt_11 : decode cX10_goAt 11 = .ok (.aload_n 0, 1) := by decide +kernel
theorem dX10_goAt_12 : decode cX10_goAt 12 = .ok (.getfield 29, 3) := by decide +kernel
theorem dX10_goAt_15 : decode cX10_goAt 15 = .ok (.iload_n 1, 1) := by decide +kernel
theorem dX10_goAt_16 : decode cX10_goAt 16 = .ok (.dup2, 1) := by decide +kernel
theorem dX10_goAt_17 : decode cX10_goAt 17 = .ok (.iaload, 1) := by decide +kernel
theorem dX10_goAt_18 : decode cX10_goAt 18 = .ok (.iconst 1, 1) := by decide +kernel
theorem dX10_goAt_19 : decode cX10_goAt 19 = .ok (.iadd, 1) := by decide +kernel
theorem dX10_goAt_20 : decode cX10_goAt 20 = .ok (.iastore, 1) := by decide +kernel
theorem dX10_goAt_21 : decode cX10_goAt 21 = .ok (.aload_n 0, 1) := by decide +kernel
theorem dX10_goAt_22 : decode cX10_goAt 22 = .ok (.getfield 23, 3) := by decide +kernel
theorem dX10_goAt_25 : decode cX10_goAt 25 = .ok (.iload_n 2, 1) := by decide +kernel
theorem dX10_goAt_26 : decode cX10_goAt 26 = .ok (.aaload, 1) := by decide +kernel
theorem dX10_goAt_27 : decode cX10_goAt 27 = .ok (.iload_n 1, 1) := by decide +kernel
theorem dX10_goAt_28 : decode cX10_goAt 28 = .ok (.iconst 0, 1) := by decide +kernel
theorem dX10_goAt_29 : decode cX10_goAt 29 = .ok (.aload_n 0, 1) := by decide +kernel
theorem dX10_goAt_30 : decode cX10_goAt 30 = .ok (.getfield 23, 3) := by decide +kernel
theorem dX10_goAt_33 : decode cX10_goAt 33 = .ok (.iload_n 2, 1) := by decide +kernel
theorem dX10_goAt_34 : decode cX10_goAt 34 = .ok (.aaload, 1) := by decide +kernel
theorem dX10_goAt_35 : decode cX10_goAt 35 = .ok (.iload_n 1, 1) := by decide +kernel
theorem dX10_goAt_36 : decode cX10_goAt 36 = .ok (.iaload, 1) := by decide +kernel
theorem dX10_goAt_37 : decode cX10_goAt 37 = .ok (.aload_n 0, 1) := by decide +kernel
theorem dX10_goAt_38 : decode cX10_goAt 38 = .ok (.invokevirtual 135, 3) := by decide +kernel
theorem dX10_goAt_41 : decode cX10_goAt 41 = .ok (.isub, 1) := by decide +kernel
theorem dX10_goAt_42 : decode cX10_goAt 42 = .ok (.invokestatic 137, 3) := by decide +kernel
theorem dX10_goAt_45 : decode cX10_goAt 45 = .ok (.iastore, 1) := by decide +kernel
theorem dX10_goAt_46 : decode cX10_goAt 46 = .ok (.iconst 1, 1) := by decide +kernel
theorem dX10_goAt_47 : decode cX10_goAt 47 = .ok (.ireturn, 1) := by decide +kernel
theorem dX10_goPlanned_0 : decode cX10_goPlanned 0 = .ok (.iload_n 1, 1) := by decide +kernel
theorem dX10_goPlanned_1 : decode cX10_goPlanned 1 = .ok (.tableswitch 76 1 3 #[27, 37, 47], 27) := by decide +kernel
theorem dX10_goPlanned_28 : decode cX10_goPlanned 28 = .ok (.aload_n 0, 1) := by decide +kernel
theorem dX10_goPlanned_29 : decode cX10_goPlanned 29 = .ok (.getfield 17, 3) := by decide +kernel
theorem dX10_goPlanned_32 : decode cX10_goPlanned 32 = .ok (.iload_n 2, 1) := by decide +kernel
theorem dX10_goPlanned_33 : decode cX10_goPlanned 33 = .ok (.iconst 1, 1) := by decide +kernel
theorem dX10_goPlanned_34 : decode cX10_goPlanned 34 = .ok (.bastore, 1) := by decide +kernel
theorem dX10_goPlanned_35 : decode cX10_goPlanned 35 = .ok (.goto 47, 3) := by decide +kernel
theorem dX10_goPlanned_38 : decode cX10_goPlanned 38 = .ok (.aload_n 0, 1) := by decide +kernel
theorem dX10_goPlanned_39 : decode cX10_goPlanned 39 = .ok (.getfield 17, 3) := by decide +kernel
theorem dX10_goPlanned_42 : decode cX10_goPlanned 42 = .ok (.iload_n 2, 1) := by decide +kernel
theorem dX10_goPlanned_43 : decode cX10_goPlanned 43 = .ok (.iconst 0, 1) := by decide +kernel
theorem dX10_goPlanned_44 : decode cX10_goPlanned 44 = .ok (.bastore, 1) := by decide +kernel
theorem dX10_goPlanned_45 : decode cX10_goPlanned 45 = .ok (.goto 37, 3) := by decide +kernel
theorem dX10_goPlanned_48 : decode cX10_goPlanned 48 = .ok (.aload_n 0, 1) := by decide +kernel
theorem dX10_goPlanned_49 : decode cX10_goPlanned 49 = .ok (.iload_n 2, 1) := by decide +kernel
theorem dX10_goPlanned_50 : decode cX10_goPlanned 50 = .ok (.bipush 10, 2) := by decide +kernel
theorem dX10_goPlanned_52 : decode cX10_goPlanned 52 = .ok (.idiv, 1) := by decide +kernel
theorem dX10_goPlanned_53 : decode cX10_goPlanned 53 = .ok (.iload_n 2, 1) := by decide +kernel
theorem dX10_goPlanned_54 : decode cX10_goPlanned 54 = .ok (.bipush 10, 2) := by decide +kernel
theorem dX10_goPlanned_56 : decode cX10_goPlanned 56 = .ok (.irem, 1) := by decide +kernel
theorem dX10_goPlanned_57 : decode cX10_goPlanned 57 = .ok (.bipush 9, 2) := by decide +kernel
theorem dX10_goPlanned_59 : decode cX10_goPlanned 59 = .ok (.if_icmp .ne 8, 3) := by decide +kernel
theorem dX10_goPlanned_62 : decode cX10_goPlanned 62 = .ok (.bipush (-5), 2) := by decide +kernel
theorem dX10_goPlanned_64 : decode cX10_goPlanned 64 = .ok (.goto 7, 3) := by decide +kernel
theorem dX10_goPlanned_67 : decode cX10_goPlanned 67 = .ok (.iload_n 2, 1) := by decide +kernel
theorem dX10_goPlanned_68 : decode cX10_goPlanned 68 = .ok (.bipush 10, 2) := by decide +kernel
theorem dX10_goPlanned_70 : decode cX10_goPlanned 70 = .ok (.irem, 1) := by decide +kernel
theorem dX10_goPlanned_71 : decode cX10_goPlanned 71 = .ok (.invokevirtual 142, 3) := by decide +kernel
theorem dX10_goPlanned_74 : decode cX10_goPlanned 74 = .ok (.goto 8, 3) := by decide +kernel
theorem dX10_goPlanned_77 : decode cX10_goPlanned 77 = .ok (.aload_n 0, 1) := by decide +kernel
theorem dX10_goPlanned_78 : decode cX10_goPlanned 78 = .ok (.iconst 1, 1) := by decide +kernel
theorem dX10_goPlanned_79 : decode cX10_goPlanned 79 = .ok (.invokevirtual 146, 3) := by decide +kernel
theorem dX10_goPlanned_82 : decode cX10_goPlanned 82 = .ok (.return_, 1) := by decide +kernel
theorem dX10_allBore_0 : decode cX10_allBore 0 = .ok (.iconst 0, 1) := by decide +kernel
theorem dX10_allBore_1 : decode cX10_allBore 1 = .ok (.istore_n 1, 1) := by decide +kernel
theorem dX10_allBore_2 : decode cX10_allBore 2 = .ok (.iconst 0, 1) := by decide +kernel
theorem dX10_allBore_3 : decode cX10_allBore 3 = .ok (.istore_n 2, 1) := by decide +kernel
theorem dX10_allBore_4 : decode cX10_allBore 4 = .ok (.iload_n 2, 1) := by decide +kernel
theorem dX10_allBore_5 : decode cX10_allBore 5 = .ok (.iconst 5, 1) := by decide +kernel
theorem dX10_allBore_6 : decode cX10_allBore 6 = .ok (.if_icmp .ge 18, 3) := by decide +kernel
theorem dX10_allBore_9 : decode cX10_allBore 9 = .ok (.iload_n 1, 1) := by decide +kernel
theorem dX10_allBore_10 : decode cX10_allBore 10 = .ok (.aload_n 0, 1) := by decide +kernel
theorem dX10_allBore_11 : decode cX10_allBore 11 = .ok (.getfield 29, 3) := by decide +kernel
theorem dX10_allBore_14 : decode cX10_allBore 14 = .ok (.iload_n 2, 1) := by decide +kernel
theorem dX10_allBore_15 : decode cX10_allBore 15 = .ok (.iaload, 1) := by decide +kernel
theorem dX10_allBore_16 : decode cX10_allBore 16 = .ok (.iadd, 1) := by decide +kernel
theorem dX10_allBore_17 : decode cX10_allBore 17 = .ok (.istore_n 1, 1) := by decide +kernel
theorem dX10_allBore_18 : decode cX10_allBore 18 = .ok (.iinc 2 1, 3) := by decide +kernel
theorem dX10_allBore_21 : decode cX10_allBore 21 = .ok (.goto (-17), 3) := by decide +kernel
theorem dX10_allBore_24 : decode cX10_allBore 24 = .ok (.iload_n 1, 1) := by decide +kernel
theorem dX10_allBore_25 : decode cX10_allBore 25 = .ok (.ireturn, 1) := by decide +kernel
theorem dX10_allHate_0 : decode cX10_allHate 0 = .ok (.iconst 0, 1) := by decide +kernel
theorem dX10_allHate_1 : decode cX10_allHate 1 = .ok (.istore_n 1, 1) := by decide +kernel
theorem dX10_allHate_2 : decode cX10_allHate 2 = .ok (.iconst 0, 1) := by decide +kernel
theorem dX10_allHate_3 : decode cX10_allHate 3 = .ok (.istore_n 2, 1) := by decide +kernel
theorem dX10_allHate_4 : decode cX10_allHate 4 = .ok (.iload_n 2, 1) := by decide +kernel
theorem dX10_allHate_5 : decode cX10_allHate 5 = .ok (.aload_n 0, 1) := by decide +kernel
theorem dX10_allHate_6 : decode cX10_allHate 6 = .ok (.getfield 82, 3) := by decide +kernel
theorem dX10_allHate_9 : decode cX10_allHate 9 = .ok (.if_icmp .ge 33, 3) := by decide +kernel
theorem dX10_allHate_12 : decode cX10_allHate 12 = .ok (.iconst 0, 1) := by decide +kernel
theorem dX10_allHate_13 : decode cX10_allHate 13 = .ok (.istore_n 3, 1) := by decide +kernel
theorem dX10_allHate_14 : decode cX10_allHate 14 = .ok (.iload_n 3, 1) := by decide +kernel
theorem dX10_allHate_15 : decode cX10_allHate 15 = .ok (.iconst 5, 1) := by decide +kernel
theorem dX10_allHate_16 : decode cX10_allHate 16 = .ok (.if_icmp .ge 20, 3) := by decide +kernel
theorem dX10_allHate_19 : decode cX10_allHate 19 = .ok (.iload_n 1, 1) := by decide +kernel
theorem dX10_allHate_20 : decode cX10_allHate 20 = .ok (.aload_n 0, 1) := by decide +kernel
theorem dX10_allHate_21 : decode cX10_allHate 21 = .ok (.getfield 23, 3) := by decide +kernel
theorem dX10_allHate_24 : decode cX10_allHate 24 = .ok (.iload_n 2, 1) := by decide +kernel
theorem dX10_allHate_25 : decode cX10_allHate 25 = .ok (.aaload, 1) := by decide +kernel
theorem dX10_allHate_26 : decode cX10_allHate 26 = .ok (.iload_n 3, 1) := by decide +kernel
theorem dX10_allHate_27 : decode cX10_allHate 27 = .ok (.iaload, 1) := by decide +kernel
theorem dX10_allHate_28 : decode cX10_allHate 28 = .ok (.iadd, 1) := by decide +kernel
theorem dX10_allHate_29 : decode cX10_allHate 29 = .ok (.istore_n 1, 1) := by decide +kernel
theorem dX10_allHate_30 : decode cX10_allHate 30 = .ok (.iinc 3 1, 3) := by decide +kernel
theorem dX10_allHate_33 : decode cX10_allHate 33 = .ok (.goto (-19), 3) := by decide +kernel
theorem dX10_allHate_36 : decode cX10_allHate 36 = .ok (.iinc 2 1, 3) := by decide +kernel
theorem dX10_allHate_39 : decode cX10_allHate 39 = .ok (.goto (-35), 3) := by decide +kernel
theorem dX10_allHate_42 : decode cX10_allHate 42 = .ok (.iload_n 1, 1) := by decide +kernel
theorem dX10_allHate_43 : decode cX10_allHate 43 = .ok (.ireturn, 1) := by decide +kernel
theorem dX11_init_0 : decode cX11_init 0 = .ok (.aload_n 0, 1) := by decide +kernel
theorem dX11_init_1 : decode cX11_init 1 = .ok (.invokespecial 3, 3) := by decide +kernel
theorem dX11_init_4 : decode cX11_init 4 = .ok (.aload_n 0, 1) := by decide +kernel
theorem dX11_init_5 : decode cX11_init 5 = .ok (.new 9, 3) := by decide +kernel
theorem dX11_init_8 : decode cX11_init 8 = .ok (.dup, 1) := by decide +kernel
theorem dX11_init_9 : decode cX11_init 9 = .ok (.invokespecial 11, 3) := by decide +kernel
theorem dX11_init_12 : decode cX11_init 12 = .ok (.putfield 12, 3) := by decide +kernel
theorem dX11_init_15 : decode cX11_init 15 = .ok (.aload_n 0, 1) := by decide +kernel
theorem dX11_init_16 : decode cX11_init 16 = .ok (.new 9, 3) := by decide +kernel
theorem dX11_init_19 : decode cX11_init 19 = .ok (.dup, 1) := by decide +kernel
theorem dX11_init_20 : decode cX11_init 20 = .ok (.invokespecial 11, 3) := by decide +kernel
theorem dX11_init_23 : decode cX11_init 23 = .ok (.putfield 18, 3) := by decide +kernel
theorem dX11_init_26 : decode cX11_init 26 = .ok (.aload_n 0, 1) := by decide +kernel
theorem dX11_init_27 : decode cX11_init 27 = .ok (.new 9, 3) := by decide +kernel
theorem dX11_init_30 : decode cX11_init 30 = .ok (.dup, 1) := by decide +kernel
theorem dX11_init_31 : decode cX11_init 31 = .ok (.invokespecial 11, 3) := by decide +kernel
theorem dX11_init_34 : decode cX11_init 34 = .ok (.putfield 21, 3) := by decide +kernel
theorem dX11_init_37 : decode cX11_init 37 = .ok (.aload_n 0, 1) := by decide +kernel
theorem dX11_init_38 : decode cX11_init 38 = .ok (.new 24, 3) := by decide +kernel
theorem dX11_init_41 : decode cX11_init 41 = .ok (.dup, 1) := by decide +kernel
theorem dX11_init_42 : decode cX11_init 42 = .ok (.invokespecial 26, 3) := by decide +kernel
theorem dX11_init_45 : decode cX11_init 45 = .ok (.putfield 27, 3) := by decide +kernel
theorem dX11_init_48 : decode cX11_init 48 = .ok (.aload_n 0, 1) := by decide +kernel
theorem dX11_init_49 : decode cX11_init 49 = .ok (.bipush 6, 2) := by decide +kernel
theorem dX11_init_51 : decode cX11_init 51 = .ok (.anewarray 31, 3) := by decide +kernel
theorem dX11_init_54 : decode cX11_init 54 = .ok (.putfield 33, 3) := by decide +kernel
theorem dX11_init_57 : decode cX11_init 57 = .ok (.aload_n 0, 1) := by decide +kernel
theorem dX11_init_58 : decode cX11_init 58 = .ok (.new 37, 3) := by decide +kernel
theorem dX11_init_61 : decode cX11_init 61 = .ok (.dup, 1) := by decide +kernel
theorem dX11_init_62 : decode cX11_init 62 = .ok (.invokespecial 39, 3) := by decide +kernel
theorem dX11_init_65 : decode cX11_init 65 = .ok (.putfield 40, 3) := by decide +kernel
theorem dX11_init_68 : decode cX11_init 68 = .ok (.aload_n 0, 1) := by decide +kernel
theorem dX11_init_69 : decode cX11_init 69 = .ok (.bipush 6, 2) := by decide +kernel
theorem dX11_init_71 : decode cX11_init 71 = .ok (.iconst 5, 1) := by decide +kernel
theorem dX11_init_72 : decode cX11_init 72 = .ok (.multianewarray 44 2, 4) := by decide +kernel
theorem dX11_init_76 : decode cX11_init 76 = .ok (.putfield 46, 3) := by decide +kernel
theorem dX11_init_79 : decode cX11_init 79 = .ok (.aload_n 0, 1) := by decide +kernel
theorem dX11_init_80 : decode cX11_init 80 = .ok (.bipush 6, 2) := by decide +kernel
theorem dX11_init_82 : decode cX11_init 82 = .ok (.bipush 64, 2) := by decide +kernel
theorem dX11_init_84 : decode cX11_init 84 = .ok (.multianewarray 44 2, 4) := by decide +kernel
theorem dX11_init_88 : decode cX11_init 88 = .ok (.putfield 49, 3) := by decide +kernel
theorem dX11_init_91 : decode cX11_init 91 = .ok (.aload_n 0, 1) := by decide +kernel
theorem dX11_init_92 : decode cX11_init 92 = .ok (.bipush 6, 2) := by decide +kernel
theorem dX11_init_94 : decode cX11_init 94 = .ok (.newarray .int, 2) := by decide +kernel
theorem dX11_init_96 : decode cX11_init 96 = .ok (.putfield 52, 3) := by decide +kernel
theorem dX11_init_99 : decode cX11_init 99 = .ok (.aload_n 0, 1) := by decide +kernel
theorem dX11_init_100 : decode cX11_init 100 = .ok (.bipush 6, 2) := by decide +kernel
theorem dX11_init_102 : decode cX11_init 102 = .ok (.newarray .int, 2) := by decide +kernel
theorem dX11_init_104 : decode cX11_init 104 = .ok (.putfield 56, 3) := by decide +kernel
theorem dX11_init_107 : decode cX11_init 107 = .ok (.aload_n 0, 1) := by decide +kernel
theorem dX11_init_108 : decode cX11_init 108 = .ok (.bipush 6, 2) := by decide +kernel
theorem dX11_init_110 : decode cX11_init 110 = .ok (.bipush 60, 2) := by decide +kernel
theorem dX11_init_112 : decode cX11_init 112 = .ok (.multianewarray 59 2, 4) := by decide +kernel
theorem dX11_init_116 : decode cX11_init 116 = .ok (.putfield 61, 3) := by decide +kernel
theorem dX11_init_119 : decode cX11_init 119 = .ok (.iconst 0, 1) := by decide +kernel
theorem dX11_init_120 : decode cX11_init 120 = .ok (.istore_n 1, 1) := by decide +kernel
theorem dX11_init_121 : decode cX11_init 121 = .ok (.iload_n 1, 1) := by decide +kernel
theorem dX11_init_122 : decode cX11_init 122 = .ok (.bipush 6, 2) := by decide +kernel
theorem dX11_init_124 : decode cX11_init 124 = .ok (.if_icmp .ge 22, 3) := by decide +kernel
theorem dX11_init_127 : decode cX11_init 127 = .ok (.aload_n 0, 1) := by decide +kernel
theorem dX11_init_128 : decode cX11_init 128 = .ok (.getfield 33, 3) := by decide +kernel
theorem dX11_init_131 : decode cX11_init 131 = .ok (.iload_n 1, 1) := by decide +kernel
theorem dX11_init_132 : decode cX11_init 132 = .ok (.new 31, 3) := by decide +kernel
theorem dX11_init_135 : decode cX11_init 135 = .ok (.dup, 1) := by decide +kernel
theorem dX11_init_136 : decode cX11_init 136 = .ok (.invokespecial 64, 3) := by decide +kernel
theorem dX11_init_139 : decode cX11_init 139 = .ok (.aastore, 1) := by decide +kernel
theorem dX11_init_140 : decode cX11_init 140 = .ok (.iinc 1 1, 3) := by decide +kernel
theorem dX11_init_143 : decode cX11_init 143 = .ok (.goto (-22), 3) := by decide +kernel
theorem dX11_init_146 : decode cX11_init 146 = .ok (.aload_n 0, 1) := by decide +kernel
theorem dX11_init_147 : decode cX11_init 147 = .ok (.getfield 52, 3) := by decide +kernel
theorem dX11_init_150 : decode cX11_init 150 = .ok (.bipush (-5), 2) := by decide +kernel
theorem dX11_init_152 : decode cX11_init 152 = .ok (.invokestatic 65, 3) := by decide +kernel
theorem dX11_init_155 : decode cX11_init 155 = .ok (.return_, 1) := by decide +kernel
theorem dX11_hater_0 : decode cX11_hater 0 = .ok (.iload_n 1, 1) := by decide +kernel
theorem dX11_hater_1 : decode cX11_hater 1 = .ok (.ifCond .lt 9, 3) := by decide +kernel
theorem dX11_hater_4 : decode cX11_hater 4 = .ok (.iload_n 1, 1) := by decide +kernel
theorem dX11_hater_5 : decode cX11_hater 5 = .ok (.bipush 7, 2) := by decide +kernel
theorem dX11_hater_7 : decode cX11_hater 7 = .ok (.if_icmp .lt 5, 3) := by decide +kernel
theorem dX11_hater_10 : decode cX11_hater 10 = .ok (.iconst (-1), 1) := by decide +kernel
theorem dX11_hater_11 : decode cX11_hater 11 = .ok (.ireturn, 1) := by decide +kernel
theorem dX11_hater_12 : decode cX11_hater 12 = .ok (.iload_n 2, 1) := by decide +kernel
theorem dX11_hater_13 : decode cX11_hater 13 = .ok (.ifCond .lt 16, 3) := by decide +kernel
theorem dX11_hater_16 : decode cX11_hater 16 = .ok (.iload_n 2, 1) := by decide +kernel
theorem dX11_hater_17 : decode cX11_hater 17 = .ok (.bipush 9, 2) := by decide +kernel
theorem dX11_hater_19 : decode cX11_hater 19 = .ok (.if_icmp .gt 10, 3) := by decide +kernel
theorem dX11_hater_22 : decode cX11_hater 22 = .ok (.iload_n 3, 1) := by decide +kernel
theorem dX11_hater_23 : decode cX11_hater 23 = .ok (.invokestatic 71, 3) := by decide +kernel
theorem dX11_hater_26 : decode cX11_hater 26 = .ok (.ifCond .ne 6, 3) := by decide +kernel
theorem dX11_hater_29 : decode cX11_hater 29 = .ok (.bipush (-2), 2) := by decide +kernel
theorem dX11_hater_31 : decode cX11_hater 31 = .ok (.ireturn, 1) := by decide +kernel
theorem dX11_hater_32 : decode cX11_hater 32 = .ok (.aload_n 0, 1) := by decide +kernel
theorem dX11_hater_33 : decode cX11_hater 33 = .ok (.getfield 12, 3) := by decide +kernel
theorem dX11_hater_36 : decode cX11_hater 36 = .ok (.getfield 75, 3) := by decide +kernel
theorem dX11_hater_39 : decode cX11_hater 39 = .ok (.bipush 6, 2) := by decide +kernel
theorem dX11_hater_41 : decode cX11_hater 41 = .ok (.if_icmp .lt 6, 3) := by decide +kernel
theorem dX11_hater_44 : decode cX11_hater 44 = .ok (.bipush (-4), 2) := by decide +kernel
theorem dX11_hater_46 : decode cX11_hater 46 = .ok (.ireturn, 1) := by decide +kernel
theorem dX11_hater_47 : decode cX11_hater 47 = .ok (.aload_n 0, 1) := by decide +kernel
theorem dX11_hater_48 : decode cX11_hater 48 = .ok (.getfield 12, 3) := by decide +kernel
theorem dX11_hater_51 : decode cX11_hater 51 = .ok (.aload_n 0, 1) := by decide +kernel
theorem dX11_hater_52 : decode cX11_hater 52 = .ok (.iload_n 1, 1) := by decide +kernel
theorem dX11_hater_53 : decode cX11_hater 53 = .ok (.aload_n 0, 1) := by decide +kernel
theorem dX11_hater_54 : decode cX11_hater 54 = .ok (.getfield 12, 3) := by decide +kernel
theorem dX11_hater_57 : decode cX11_hater 57 = .ok (.getfield 75, 3) := by decide +kernel
theorem dX11_hater_60 : decode cX11_hater 60 = .ok (.iload_n 2, 1) := by decide +kernel
theorem dX11_hater_61 : decode cX11_hater 61 = .ok (.invokevirtual 79, 3) := by decide +kernel
theorem dX11_hater_64 : decode cX11_hater 64 = .ok (.iload_n 3, 1) := by decide +kernel
theorem dX11_hater_65 : decode cX11_hater 65 = .ok (.invokevirtual 83, 3) := by decide +kernel
theorem dX11_hater_68 : decode cX11_hater 68 = .ok (.ireturn, 1) := by decide +kernel
theorem dX11_of_0 : decode cX11_of 0 = .ok (.aload_n 0, 1) := by decide +kernel
theorem dX11_of_1 : decode cX11_of 1 = .ok (.getfield 12, 3) := by decide +kernel
theorem dX11_of_4 : decode cX11_of 4 = .ok (.iload_n 1, 1) := by decide +kernel
theorem dX11_of_5 : decode cX11_of 5 = .ok (.invokevirtual 87, 3) := by decide +kernel
theorem dX11_of_8 : decode cX11_of 8 = .ok (.ifCond .ne 7, 3) := by decide +kernel
theorem dX11_of_11 : decode cX11_of 11 = .ok (.sipush (-10001), 3) := by decide +kernel
theorem dX11_of_14 : decode cX11_of 14 = .ok (.ireturn, 1) := by decide +kernel
theorem dX11_of_15 : decode cX11_of 15 = .ok (.iload_n 2, 1) := by decide +kernel
theorem dX11_of_16 : decode cX11_of 16 = .ok (.tableswitch 80 0 3 #[32, 45, 58, 71], 32) := by decide +kernel
theorem dX11_of_48 : decode cX11_of 48 = .ok (.aload_n 0, 1) := by decide +kernel
theorem dX11_of_49 : decode cX11_of 49 = .ok (.getfield 12, 3) := by decide +kernel
theorem dX11_of_52 : decode cX11_of 52 = .ok (.getfield 90, 3) := by decide +kernel
theorem dX11_of_55 : decode cX11_of 55 = .ok (.iload_n 1, 1) := by decide +kernel
theorem dX11_of_56 : decode cX11_of 56 = .ok (.aaload, 1) := by decide +kernel
theorem dX11_of_57 : decode cX11_of 57 = .ok (.getfield 94, 3) := by decide +kernel
theorem dX11_of_60 : decode cX11_of 60 = .ok (.ireturn, 1) := by decide +kernel
theorem dX11_of_61 : decode cX11_of 61 = .ok (.aload_n 0, 1) := by decide +kernel
theorem dX11_of_62 : decode cX11_of 62 = .ok (.getfield 12, 3) := by decide +kernel
theorem dX11_of_65 : decode cX11_of 65 = .ok (.getfield 90, 3) := by decide +kernel
theorem dX11_of_68 : decode cX11_of 68 = .ok (.iload_n 1, 1) := by decide +kernel
theorem dX11_of_69 : decode cX11_of 69 = .ok (.aaload, 1) := by decide +kernel
theorem dX11_of_70 : decode cX11_of 70 = .ok (.getfield 99, 3) := by decide +kernel
theorem dX11_of_73 : decode cX11_of 73 = .ok (.ireturn, 1) := by decide +kernel
theorem dX11_of_74 : decode cX11_of 74 = .ok (.aload_n 0, 1) := by decide +kernel
theorem dX11_of_75 : decode cX11_of 75 = .ok (.getfield 12, 3) := by decide +kernel
theorem dX11_of_78 : decode cX11_of 78 = .ok (.getfield 102, 3) := by decide +kernel
theorem dX11_of_81 : decode cX11_of 81 = .ok (.iload_n 1, 1) := by decide +kernel
theorem dX11_of_82 : decode cX11_of 82 = .ok (.baload, 1) := by decide +kernel
theorem dX11_of_83 : decode cX11_of 83 = .ok (.invokestatic 106, 3) := by decide +kernel
theorem dX11_of_86 : decode cX11_of 86 = .ok (.ireturn, 1) := by decide +kernel
theorem dX11_of_87 : decode cX11_of 87 = .ok (.aload_n 0, 1) := by decide +kernel
theorem dX11_of_88 : decode cX11_of 88 = .ok (.getfield 12, 3) := by decide +kernel
theorem dX11_of_91 : decode cX11_of 91 = .ok (.iload_n 1, 1) := by decide +kernel
theorem dX11_of_92 : decode cX11_of 92 = .ok (.invokevirtual 110, 3) := by decide +kernel
theorem dX11_of_95 : decode cX11_of 95 = .ok (.ireturn, 1) := by decide +kernel
theorem dX11_of_96 : decode cX11_of 96 = .ok (.aload_n 0, 1) := by decide +kernel
theorem dX11_of_97 : decode cX11_of 97 = .ok (.iload_n 1, 1) := by decide +kernel
theorem dX11_of_98 : decode cX11_of 98 = .ok (.iload_n 2, 1) := by decide +kernel
theorem dX11_of_99 : decode cX11_of 99 = .ok (.bipush 10, 2) := by decide +kernel
theorem dX11_of_101 : decode cX11_of 101 = .ok (.idiv, 1) := by decide +kernel
theorem dX11_of_102 : decode cX11_of 102 = .ok (.iload_n 2, 1) := by decide +kernel
theorem dX11_of_103 : decode cX11_of 103 = .ok (.bipush 10, 2) := by decide +kernel
theorem dX11_of_105 : decode cX11_of 105 = .ok (.irem, 1) := by decide +kernel
theorem dX11_of_106 : decode cX11_of 106 = .ok (.invokevirtual 114, 3) := by decide +kernel
theorem dX11_of_109 : decode cX11_of 109 = .ok (.ireturn, 1) := by decide +kernel
theorem dX11_ofTree_0 : decode cX11_ofTree 0 = .ok (.iload_n 3, 1) := by decide +kernel
theorem dX11_ofTree_1 : decode cX11_ofTree 1 = .ok (.invokestatic 118, 3) := by decide +kernel
theorem dX11_ofTree_4 : decode cX11_ofTree 4 = .ok (.ifCond .ne 7, 3) := by decide +kernel
theorem dX11_ofTree_7 : decode cX11_ofTree 7 = .ok (.sipush (-10001), 3) := by decide +kernel
theorem dX11_ofTree_10 : decode cX11_ofTree 10 = .ok (.ireturn, 1) := by decide +kernel
theorem dX11_ofTree_11 : decode cX11_ofTree 11 = .ok (.iload_n 2, 1) := by decide +kernel
theorem dX11_ofTree_12 : decode cX11_ofTree 12 = .ok (.tableswitch 57 1 3 #[28, 40, 50], 28) := by decide +kernel
theorem dX11_ofTree_40 : decode cX11_ofTree 40 = .ok (.aload_n 0, 1) := by decide +kernel
theorem dX11_ofTree_41 : decode cX11_ofTree 41 = .ok (.getfield 12, 3) := by decide +kernel
theorem dX11_ofTree_44 : decode cX11_ofTree 44 = .ok (.getfield 121, 3) := by decide +kernel
theorem dX11_ofTree_47 : decode cX11_ofTree 47 = .ok (.iload_n 1, 1) := by decide +kernel
theorem dX11_ofTree_48 : decode cX11_ofTree 48 = .ok (.aaload, 1) := by decide +kernel
theorem dX11_ofTree_49 : decode cX11_ofTree 49 = .ok (.iload_n 3, 1) := by decide +kernel
theorem dX11_ofTree_50 : decode cX11_ofTree 50 = .ok (.iaload, 1) := by decide +kernel
theorem dX11_ofTree_51 : decode cX11_ofTree 51 = .ok (.ireturn, 1) := by decide +kernel
theorem dX11_ofTree_52 : decode cX11_ofTree 52 = .ok (.aload_n 0, 1) := by decide +kernel
theorem dX11_ofTree_53 : decode cX11_ofTree 53 = .ok (.getfield 12, 3) := by decide +kernel
theorem dX11_ofTree_56 : decode cX11_ofTree 56 = .ok (.iload_n 1, 1) := by decide +kernel
theorem dX11_ofTree_57 : decode cX11_ofTree 57 = .ok (.iload_n 3, 1) := by decide +kernel
theorem dX11_ofTree_58 : decode cX11_ofTree 58 = .ok (.invokevirtual 124, 3) := by decide +kernel
theorem dX11_ofTree_61 : decode cX11_ofTree 61 = .ok (.ireturn, 1) := by decide +kernel
theorem dX11_ofTree_62 : decode cX11_ofTree 62 = .ok (.aload_n 0, 1) := by decide +kernel
theorem dX11_ofTree_63 : decode cX11_ofTree 63 = .ok (.iload_n 1, 1) := by decide +kernel
theorem dX11_ofTree_64 : decode cX11_ofTree 64 = .ok (.iload_n 3, 1) := by decide +kernel
theorem dX11_ofTree_65 : decode cX11_ofTree 65 = .ok (.invokevirtual 128, 3) := by decide +kernel
theorem dX11_ofTree_68 : decode cX11_ofTree 68 = .ok (.ireturn, 1) := by decide +kernel
theorem dX11_ofTree_69 : decode cX11_ofTree 69 = .ok (.sipush (-10001), 3) := by decide +kernel
theorem dX11_ofTree_72 : decode cX11_ofTree 72 = .ok (.ireturn, 1) := by decide +kernel
theorem dX11_hate_0 : decode cX11_hate 0 = .ok (.aload_n 0, 1) := by decide +kernel
theorem dX11_hate_1 : decode cX11_hate 1 = .ok (.getfield 12, 3) := by decide +kernel
theorem dX11_hate_4 : decode cX11_hate 4 = .ok (.iload_n 1, 1) := by decide +kernel
theorem dX11_hate_5 : decode cX11_hate 5 = .ok (.invokevirtual 87, 3) := by decide +kernel
theorem dX11_hate_8 : decode cX11_hate 8 = .ok (.ifCond .eq 10, 3) := by decide +kernel
theorem dX11_hate_11 : decode cX11_hate 11 = .ok (.iload_n 2, 1) := by decide +kernel
theorem dX11_hate_12 : decode cX11_hate 12 = .ok (.invokestatic 118, 3) := by decide +kernel
theorem dX11_hate_15 : decode cX11_hate 15 = .ok (.ifCond .ne 5, 3) := by decide +kernel
theorem dX11_hate_18 : decode cX11_hate 18 = .ok (.iconst (-1), 1) := by decide +kernel
theorem dX11_hate_19 : decode cX11_hate 19 = .ok (.ireturn, 1) := by decide +kernel
theorem dX11_hate_20 : decode cX11_hate 20 = .ok (.iload_n 3, 1) := by decide +kernel
theorem dX11_hate_21 : decode cX11_hate 21 = .ok (.invokestatic 71, 3) := by decide +kernel
theorem dX11_hate_24 : decode cX11_hate 24 = .ok (.ifCond .ne 6, 3) := by decide +kernel
theorem dX11_hate_27 : decode cX11_hate 27 = .ok (.bipush (-2), 2) := by decide +kernel
theorem dX11_hate_29 : decode cX11_hate 29 = .ok (.ireturn, 1) := by decide +kernel
theorem dX11_hate_30 : decode cX11_hate 30 = .ok (.aload_n 0, 1) := by decide +kernel
theorem dX11_hate_31 : decode cX11_hate 31 = .ok (.getfield 12, 3) := by decide +kernel
theorem dX11_hate_34 : decode cX11_hate 34 = .ok (.getfield 121, 3) := by decide +kernel
theorem dX11_hate_37 : decode cX11_hate 37 = .ok (.iload_n 1, 1) := by decide +kernel
theorem dX11_hate_38 : decode cX11_hate 38 = .ok (.aaload, 1) := by decide +kernel
theorem dX11_hate_39 : decode cX11_hate 39 = .ok (.iload_n 2, 1) := by decide +kernel
theorem dX11_hate_40 : decode cX11_hate 40 = .ok (.iaload, 1) := by decide +kernel
theorem dX11_hate_41 : decode cX11_hate 41 = .ok (.istore 4, 2) := by decide +kernel
theorem dX11_hate_43 : decode cX11_hate 43 = .ok (.aload_n 0, 1) := by decide +kernel
theorem dX11_hate_44 : decode cX11_hate 44 = .ok (.getfield 12, 3) := by decide +kernel
theorem dX11_hate_47 : decode cX11_hate 47 = .ok (.getfield 121, 3) := by decide +kernel
theorem dX11_hate_50 : decode cX11_hate 50 = .ok (.iload_n 1, 1) := by decide +kernel
theorem dX11_hate_51 : decode cX11_hate 51 = .ok (.aaload, 1) := by decide +kernel
theorem dX11_hate_52 : decode cX11_hate 52 = .ok (.iload_n 2, 1) := by decide +kernel
theorem dX11_hate_53 : decode cX11_hate 53 = .ok (.iload_n 3, 1) := by decide +kernel
theorem dX11_hate_54 : decode cX11_hate 54 = .ok (.iastore, 1) := by decide +kernel
theorem dX11_hate_55 : decode cX11_hate 55 = .ok (.iload 4, 2) := by decide +kernel
theorem dX11_hate_57 : decode cX11_hate 57 = .ok (.ireturn, 1) := by decide +kernel
theorem dX11_lead_0 : decode cX11_lead 0 = .ok (.iload_n 1, 1) := by decide +kernel
theorem dX11_lead_1 : decode cX11_lead 1 = .ok (.invokestatic 118, 3) := by decide +kernel
theorem dX11_lead_4 : decode cX11_lead 4 = .ok (.ifCond .eq 19, 3) := by decide +kernel
theorem dX11_lead_7 : decode cX11_lead 7 = .ok (.iload_n 2, 1) := by decide +kernel
theorem dX11_lead_8 : decode cX11_lead 8 = .ok (.iconst (-1), 1) := by decide +kernel
theorem dX11_lead_9 : decode cX11_lead 9 = .ok (.if_icmp .eq 16, 3) := by decide +kernel
theorem dX11_lead_12 : decode cX11_lead 12 = .ok (.aload_n 0, 1) := by decide +kernel
theorem dX11_lead_13 : decode cX11_lead 13 = .ok (.getfield 12, 3) := by decide +kernel
theorem dX11_lead_16 : decode cX11_lead 16 = .ok (.iload_n 2, 1) := by decide +kernel
theorem dX11_lead_17 : decode cX11_lead 17 = .ok (.invokevirtual 87, 3) := by decide +kernel
theorem dX11_lead_20 : decode cX11_lead 20 = .ok (.ifCond .ne 5, 3) := by decide +kernel
theorem dX11_lead_23 : decode cX11_lead 23 = .ok (.iconst (-1), 1) := by decide +kernel
theorem dX11_lead_24 : decode cX11_lead 24 = .ok (.ireturn, 1) := by decide +kernel
theorem dX11_lead_25 : decode cX11_lead 25 = .ok (.aload_n 0, 1) := by decide +kernel
theorem dX11_lead_26 : decode cX11_lead 26 = .ok (.getfield 12, 3) := by decide +kernel
theorem dX11_lead_29 : decode cX11_lead 29 = .ok (.getfield 131, 3) := by decide +kernel
theorem dX11_lead_32 : decode cX11_lead 32 = .ok (.iload_n 1, 1) := by decide +kernel
theorem dX11_lead_33 : decode cX11_lead 33 = .ok (.iaload, 1) := by decide +kernel
theorem dX11_lead_34 : decode cX11_lead 34 = .ok (.istore_n 3, 1) := by decide +kernel
theorem dX11_lead_35 : decode cX11_lead 35 = .ok (.aload_n 0, 1) := by decide +kernel
theorem dX11_lead_36 : decode cX11_lead 36 = .ok (.getfield 12, 3) := by decide +kernel
theorem dX11_lead_39 : decode cX11_lead 39 = .ok (.iload_n 1, 1) := by decide +kernel
theorem dX11_lead_40 : decode cX11_lead 40 = .ok (.iload_n 2, 1) := by decide +kernel
theorem dX11_lead_41 : decode cX11_lead 41 = .ok (.iconst (-1), 1) := by decide +kernel
theorem dX11_lead_42 : decode cX11_lead 42 = .ok (.if_icmp .ne 8, 3) := by decide +kernel
theorem dX11_lead_45 : decode cX11_lead 45 = .ok (.bipush (-5), 2) := by decide +kernel
theorem dX11_lead_47 : decode cX11_lead 47 = .ok (.goto 4, 3) := by decide +kernel
theorem dX11_lead_50 : decode cX11_lead 50 = .ok (.iload_n 2, 1) := by decide +kernel
theorem dX11_lead_51 : decode cX11_lead 51 = .ok (.invokevirtual 134, 3) := by decide +kernel
theorem dX11_lead_54 : decode cX11_lead 54 = .ok (.iload_n 3, 1) := by decide +kernel
theorem dX11_lead_55 : decode cX11_lead 55 = .ok (.ireturn, 1) := by decide +kernel
theorem dX11_leave_0 : decode cX11_leave 0 = .ok (.aload_n 0, 1) := by decide +kernel
theorem dX11_leave_1 : decode cX11_leave 1 = .ok (.getfield 12, 3) := by decide +kernel
theorem dX11_leave_4 : decode cX11_leave 4 = .ok (.iload_n 1, 1) := by decide +kernel
theorem dX11_leave_5 : decode cX11_leave 5 = .ok (.invokevirtual 87, 3) := by decide +kernel
theorem dX11_leave_8 : decode cX11_leave 8 = .ok (.ifCond .ne 5, 3) := by decide +kernel
theorem dX11_leave_11 : decode cX11_leave 11 = .ok (.iconst (-1), 1) := by decide +kernel
theorem dX11_leave_12 : decode cX11_leave 12 = .ok (.ireturn, 1) := by decide +kernel
theorem dX11_leave_13 : decode cX11_leave 13 = .ok (.aload_n 0, 1) := by decide +kernel
theorem dX11_leave_14 : decode cX11_leave 14 = .ok (.getfield 12, 3) := by decide +kernel
theorem dX11_leave_17 : decode cX11_leave 17 = .ok (.getfield 102, 3) := by decide +kernel
theorem dX11_leave_20 : decode cX11_leave 20 = .ok (.iload_n 1, 1) := by decide +kernel
theorem dX11_leave_21 : decode cX11_leave 21 = .ok (.baload, 1) := by decide +kernel
theorem dX11_leave_22 : decode cX11_leave 22 = .ok (.istore_n 3, 1) := by decide +kernel
theorem dX11_leave_23 : decode cX11_leave 23 = .ok (.aload_n 0, 1) := by decide +kernel
theorem dX11_leave_24 : decode cX11_leave 24 = .ok (.getfield 12, 3) := by decide +kernel
theorem dX11_leave_27 : decode cX11_leave 27 = .ok (.getfield 102, 3) := by decide +kernel
theorem dX11_leave_30 : decode cX11_leave 30 = .ok (.iload_n 1, 1) := by decide +kernel
theorem dX11_leave_31 : decode cX11_leave 31 = .ok (.iload_n 2, 1) := by decide +kernel
theorem dX11_leave_32 : decode cX11_leave 32 = .ok (.bastore, 1) := by decide +kernel
theorem dX11_leave_33 : decode cX11_leave 33 = .ok (.iload_n 3, 1) := by decide +kernel
theorem dX11_leave_34 : decode cX11_leave 34 = .ok (.invokestatic 106, 3) := by decide +kernel
theorem dX11_leave_37 : decode cX11_leave 37 = .ok (.ireturn, 1) := by decide +kernel
theorem dX11_row_0 : decode cX11_row 0 = .ok (.aload_n 0, 1) := by decide +kernel
theorem dX11_row_1 : decode cX11_row 1 = .ok (.getfield 12, 3) := by decide +kernel
theorem dX11_row_4 : decode cX11_row 4 = .ok (.iload_n 1, 1) := by decide +kernel
theorem dX11_row_5 : decode cX11_row 5 = .ok (.invokevirtual 87, 3) := by decide +kernel
theorem dX11_row_8 : decode cX11_row 8 = .ok (.ifCond .eq 12, 3) := by decide +kernel
theorem dX11_row_11 : decode cX11_row 11 = .ok (.iload_n 2, 1) := by decide +kernel
theorem dX11_row_12 : decode cX11_row 12 = .ok (.ifCond .lt 8, 3) := by decide +kernel
theorem dX11_row_15 : decode cX11_row 15 = .ok (.iload_n 2, 1) := by decide +kernel
theorem dX11_row_16 : decode cX11_row 16 = .ok (.iconst 4, 1) := by decide +kernel
theorem dX11_row_17 : decode cX11_row 17 = .ok (.if_icmp .lt 5, 3) := by decide +kernel
theorem dX11_row_20 : decode cX11_row 20 = .ok (.iconst (-1), 1) := by decide +kernel
theorem dX11_row_21 : decode cX11_row 21 = .ok (.ireturn, 1) := by decide +kernel
theorem dX11_row_22 : decode cX11_row 22 = .ok (.iload_n 3, 1) := by decide +kernel
theorem dX11_row_23 : decode cX11_row 23 = .ok (.ifCond .lt 9, 3) := by decide +kernel
theorem dX11_row_26 : decode cX11_row 26 = .ok (.iload_n 3, 1) := by decide +kernel
theorem dX11_row_27 : decode cX11_row 27 = .ok (.bipush 9, 2) := by decide +kernel
theorem dX11_row_29 : decode cX11_row 29 = .ok (.if_icmp .le 6, 3) := by decide +kernel
theorem dX11_row_32 : decode cX11_row 32 = .ok (.bipush (-2), 2) := by decide +kernel
theorem dX11_row_34 : decode cX11_row 34 = .ok (.ireturn, 1) := by decide +kernel
theorem dX11_row_35 : decode cX11_row 35 = .ok (.aload_n 0, 1) := by decide +kernel
theorem dX11_row_36 : decode cX11_row 36 = .ok (.getfield 12, 3) := by decide +kernel
theorem dX11_row_39 : decode cX11_row 39 = .ok (.getfield 90, 3) := by decide +kernel
theorem dX11_row_42 : decode cX11_row 42 = .ok (.iload_n 1, 1) := by decide +kernel
theorem dX11_row_43 : decode cX11_row 43 = .ok (.aaload, 1) := by decide +kernel
theorem dX11_row_44 : decode cX11_row 44 = .ok (.instanceof 138, 3) := by decide +kernel
theorem dX11_row_47 : decode cX11_row 47 = .ok (.ifCond .ne 6, 3) := by decide +kernel
theorem dX11_row_50 : decode cX11_row 50 = .ok (.bipush (-3), 2) := by decide +kernel
theorem dX11_row_52 : decode cX11_row 52 = .ok (.ireturn, 1) := by decide +kernel
theorem dX11_row_53 : decode cX11_row 53 = .ok (.aload_n 0, 1) := by decide +kernel
theorem dX11_row_54 : decode cX11_row 54 = .ok (.getfield 12, 3) := by decide +kernel
theorem dX11_row_57 : decode cX11_row 57 = .ok (.getfield 140, 3) := by decide +kernel
theorem dX11_row_60 : decode cX11_row 60 = .ok (.iload_n 1, 1) := by decide +kernel
theorem dX11_row_61 : decode cX11_row 61 = .ok (.aaload, 1) := by decide +kernel
theorem dX11_row_62 : decode cX11_row 62 = .ok (.iload_n 2, 1) := by decide +kernel
theorem dX11_row_63 : decode cX11_row 63 = .ok (.iaload, 1) := by decide +kernel
theorem dX11_row_64 : decode cX11_row 64 = .ok (.istore 4, 2) := by decide +kernel
theorem dX11_row_66 : decode cX11_row 66 = .ok (.aload_n 0, 1) := by decide +kernel
theorem dX11_row_67 : decode cX11_row 67 = .ok (.getfield 12, 3) := by decide +kernel
theorem dX11_row_70 : decode cX11_row 70 = .ok (.getfield 140, 3) := by decide +kernel
theorem dX11_row_73 : decode cX11_row 73 = .ok (.iload_n 1, 1) := by decide +kernel
theorem dX11_row_74 : decode cX11_row 74 = .ok (.aaload, 1) := by decide +kernel
theorem dX11_row_75 : decode cX11_row 75 = .ok (.iload_n 2, 1) := by decide +kernel
theorem dX11_row_76 : decode cX11_row 76 = .ok (.iload_n 3, 1) := by decide +kernel
theorem dX11_row_77 : decode cX11_row 77 = .ok (.iastore, 1) := by decide +kernel
theorem dX11_row_78 : decode cX11_row 78 = .ok (.iload 4, 2) := by decide +kernel
theorem dX11_row_80 : decode cX11_row 80 = .ok (.ireturn, 1) := by decide +kernel
theorem dX11_feed_0 : decode cX11_feed 0 = .ok (.iload_n 1, 1) := by decide +kernel
theorem dX11_feed_1 : decode cX11_feed 1 = .ok (.ifCond .lt 9, 3) := by decide +kernel
theorem dX11_feed_4 : decode cX11_feed 4 = .ok (.iload_n 1, 1) := by decide +kernel
theorem dX11_feed_5 : decode cX11_feed 5 = .ok (.bipush 127, 2) := by decide +kernel
theorem dX11_feed_7 : decode cX11_feed 7 = .ok (.if_icmp .le 6, 3) := by decide +kernel
theorem dX11_feed_10 : decode cX11_feed 10 = .ok (.bipush (-2), 2) := by decide +kernel
theorem dX11_feed_12 : decode cX11_feed 12 = .ok (.ireturn, 1) := by decide +kernel
theorem dX11_feed_13 : decode cX11_feed 13 = .ok (.aload_n 0, 1) := by decide +kernel
theorem dX11_feed_14 : decode cX11_feed 14 = .ok (.getfield 27, 3) := by decide +kernel
theorem dX11_feed_17 : decode cX11_feed 17 = .ok (.iload_n 1, 1) := by decide +kernel
theorem dX11_feed_18 : decode cX11_feed 18 = .ok (.invokevirtual 143, 3) := by decide +kernel
theorem dX11_feed_21 : decode cX11_feed 21 = .ok (.ireturn, 1) := by decide +kernel
theorem dX11_orchard_0 : decode cX11_orchard 0 = .ok (.aload_n 0, 1) := by decide +kernel
theorem dX11_orchard_1 : decode cX11_orchard 1 = .ok (.getfield 146, 3) := by decide +kernel
theorem dX11_orchard_4 : decode cX11_orchard 4 = .ok (.bipush 6, 2) := by decide +kernel
theorem dX11_orchard_6 : decode cX11_orchard 6 = .ok (.if_icmp .lt 6, 3) := by decide +kernel
theorem dX11_orchard_9 : decode cX11_orchard 9 = .ok (.bipush (-4), 2) := by decide +kernel
theorem dX11_orchard_11 : decode cX11_orchard 11 = .ok (.ireturn, 1) := by decide +kernel
theorem dX11_orchard_12 : decode cX11_orchard 12 = .ok (.aload_n 0, 1) := by decide +kernel
theorem dX11_orchard_13 : decode cX11_orchard 13 = .ok (.getfield 33, 3) := by decide +kernel
theorem dX11_orchard_16 : decode cX11_orchard 16 = .ok (.aload_n 0, 1) := by decide +kernel
theorem dX11_orchard_17 : decode cX11_orchard 17 = .ok (.getfield 146, 3) := by decide +kernel
theorem dX11_orchard_20 : decode cX11_orchard 20 = .ok (.aaload, 1) := by decide +kernel
theorem dX11_orchard_21 : decode cX11_orchard 21 = .ok (.astore_n 1, 1) := by decide +kernel
theorem dX11_orchard_22 : decode cX11_orchard 22 = .ok (.aload_n 0, 1) := by decide +kernel
theorem dX11_orchard_23 : decode cX11_orchard 23 = .ok (.getfield 27, 3) := by decide +kernel
theorem dX11_orchard_26 : decode cX11_orchard 26 = .ok (.aload_n 1, 1) := by decide +kernel
theorem dX11_orchard_27 : decode cX11_orchard 27 = .ok (.invokevirtual 149, 3) := by decide +kernel
theorem dX11_orchard_30 : decode cX11_orchard 30 = .ok (.istore_n 2, 1) := by decide +kernel
theorem dX11_orchard_31 : decode cX11_orchard 31 = .ok (.aload_n 0, 1) := by decide +kernel
theorem dX11_orchard_32 : decode cX11_orchard 32 = .ok (.getfield 27, 3) := by decide +kernel
theorem dX11_orchard_35 : decode cX11_orchard 35 = .ok (.iconst 0, 1) := by decide +kernel
theorem dX11_orchard_36 : decode cX11_orchard 36 = .ok (.putfield 153, 3) := by decide +kernel
theorem dX11_orchard_39 : decode cX11_orchard 39 = .ok (.iload_n 2, 1) := by decide +kernel
theorem dX11_orchard_40 : decode cX11_orchard 40 = .ok (.ifCond .ne 14, 3) := by decide +kernel
theorem dX11_orchard_43 : decode cX11_orchard 43 = .ok (.bipush (-10), 2) := by decide +kernel
theorem dX11_orchard_45 : decode cX11_orchard 45 = .ok (.aload_n 0, 1) := by decide +kernel
theorem dX11_orchard_46 : decode cX11_orchard 46 = .ok (.getfield 27, 3) := by decide +kernel
theorem dX11_orchard_49 : decode cX11_orchard 49 = .ok (.getfield 156, 3) := by decide +kernel
theorem dX11_orchard_52 : decode cX11_orchard 52 = .ok (.isub, 1) := by decide +kernel
theorem dX11_orchard_53 : decode cX11_orchard 53 = .ok (.ireturn, 1) := by decide +kernel
theorem dX11_orchard_54 : decode cX11_orchard 54 = .ok (.aload_n 0, 1) := by decide +kernel
theorem dX11_orchard_55 : decode cX11_orchard 55 = .ok (.getfield 12, 3) := by decide +kernel
theorem dX11_orchard_58 : decode cX11_orchard 58 = .ok (.aload_n 1, 1) := by decide +kernel
theorem dX11_orchard_59 : decode cX11_orchard 59 = .ok (.putfield 159, 3) := by decide +kernel
theorem dX11_orchard_62 : decode cX11_orchard 62 = .ok (.aload_n 0, 1) := by decide +kernel
theorem dX11_orchard_63 : decode cX11_orchard 63 = .ok (.dup, 1) := by decide +kernel
theorem dX11_orchard_64 : decode cX11_orchard 64 = .ok (.getfield 146, 3) := by decide +kernel
theorem dX11_orchard_67 : decode cX11_orchard 67 = .ok (.iconst 1, 1) := by decide +kernel
theorem dX11_orchard_68 : decode cX11_orchard 68 = .ok (.iadd, 1) := by decide +kernel
theorem dX11_orchard_69 : decode cX11_orchard 69 = .ok (.putfield 146, 3) := by decide +kernel
theorem dX11_orchard_72 : decode cX11_orchard 72 = .ok (.aload_n 0, 1) := by decide +kernel
theorem dX11_orchard_73 : decode cX11_orchard 73 = .ok (.getfield 146, 3) := by decide +kernel
theorem dX11_orchard_76 : decode cX11_orchard 76 = .ok (.iconst 1, 1) := by decide +kernel
theorem dX11_orchard_77 : decode cX11_orchard 77 = .ok (.isub, 1) := by decide +kernel
theorem dX11_orchard_78 : decode cX11_orchard 78 = .ok (.ireturn, 1) := by decide +kernel
theorem dX11_told_0 : decode cX11_told 0 = .ok (.iload_n 1, 1) := by decide +kernel
theorem dX11_told_1 : decode cX11_told 1 = .ok (.tableswitch 97 0 6 #[43, 51, 59, 67, 75, 83, 88], 43) := by decide +kernel
theorem dX11_told_44 : decode cX11_told 44 = .ok (.aload_n 0, 1) := by decide +kernel
theorem dX11_told_45 : decode cX11_told 45 = .ok (.getfield 12, 3) := by decide +kernel
theorem dX11_told_48 : decode cX11_told 48 = .ok (.getfield 163, 3) := by decide +kernel
theorem dX11_told_51 : decode cX11_told 51 = .ok (.ireturn, 1) := by decide +kernel
theorem dX11_told_52 : decode cX11_told 52 = .ok (.aload_n 0, 1) := by decide +kernel
theorem dX11_told_53 : decode cX11_told 53 = .ok (.getfield 12, 3) := by decide +kernel
theorem dX11_told_56 : decode cX11_told 56 = .ok (.invokevirtual 166, 3) := by decide +kernel
theorem dX11_told_59 : decode cX11_told 59 = .ok (.ireturn, 1) := by decide +kernel
theorem dX11_told_60 : decode cX11_told 60 = .ok (.aload_n 0, 1) := by decide +kernel
theorem dX11_told_61 : decode cX11_told 61 = .ok (.getfield 12, 3) := by decide +kernel
theorem dX11_told_64 : decode cX11_told 64 = .ok (.invokevirtual 170, 3) := by decide +kernel
theorem dX11_told_67 : decode cX11_told 67 = .ok (.ireturn, 1) := by decide +kernel
theorem dX11_told_68 : decode cX11_told 68 = .ok (.aload_n 0, 1) := by decide +kernel
theorem dX11_told_69 : decode cX11_told 69 = .ok (.getfield 12, 3) := by decide +kernel
theorem dX11_told_72 : decode cX11_told 72 = .ok (.invokevirtual 173, 3) := by decide +kernel
theorem dX11_told_75 : decode cX11_told 75 = .ok (.ireturn, 1) := by decide +kernel
theorem dX11_told_76 : decode cX11_told 76 = .ok (.aload_n 0, 1) := by decide +kernel
theorem dX11_told_77 : decode cX11_told 77 = .ok (.getfield 12, 3) := by decide +kernel
theorem dX11_told_80 : decode cX11_told 80 = .ok (.invokevirtual 176, 3) := by decide +kernel
theorem dX11_told_83 : decode cX11_told 83 = .ok (.ireturn, 1) := by decide +kernel
theorem dX11_told_84 : decode cX11_told 84 = .ok (.aload_n 0, 1) := by decide +kernel
theorem dX11_told_85 : decode cX11_told 85 = .ok (.invokevirtual 179, 3) := by decide +kernel
theorem dX11_told_88 : decode cX11_told 88 = .ok (.ireturn, 1) := by decide +kernel
theorem dX11_told_89 : decode cX11_told 89 = .ok (.aload_n 0, 1) := by decide +kernel
theorem dX11_told_90 : decode cX11_told 90 = .ok (.aload_n 0, 1) := by decide +kernel
theorem dX11_told_91 : decode cX11_told 91 = .ok (.invokevirtual 179, 3) := by decide +kernel
theorem dX11_told_94 : decode cX11_told 94 = .ok (.invokevirtual 182, 3) := by decide +kernel
theorem dX11_told_97 : decode cX11_told 97 = .ok (.ireturn, 1) := by decide +kernel
theorem dX11_told_98 : decode cX11_told 98 = .ok (.aload_n 0, 1) := by decide +kernel
theorem dX11_told_99 : decode cX11_told 99 = .ok (.iload_n 1, 1) := by decide +kernel
theorem dX11_told_100 : decode cX11_told 100 = .ok (.bipush 10, 2) := by decide +kernel
theorem dX11_told_102 : decode cX11_told 102 = .ok (.idiv, 1) := by decide +kernel
theorem dX11_told_103 : decode cX11_told 103 = .ok (.iload_n 1, 1) := by decide +kernel
theorem dX11_told_104 : decode cX11_told 104 = .ok (.bipush 10, 2) := by decide +kernel
theorem dX11_told_106 : decode cX11_told 106 = .ok (.irem, 1) := by decide +kernel
theorem dX11_told_107 : decode cX11_told 107 = .ok (.invokevirtual 185, 3) := by decide +kernel
theorem dX11_told_110 : decode cX11_told 110 = .ok (.ireturn, 1) := by decide +kernel
theorem dX11_toldOfTree_0 : decode cX11_toldOfTree 0 = .ok (.iload_n 2, 1) := by decide +kernel
theorem dX11_toldOfTree_1 : decode cX11_toldOfTree 1 = .ok (.invokestatic 118, 3) := by decide +kernel
theorem dX11_toldOfTree_4 : decode cX11_toldOfTree 4 = .ok (.ifCond .ne 5, 3) := by decide +kernel
theorem dX11_toldOfTree_7 : decode cX11_toldOfTree 7 = .ok (.iconst (-1), 1) := by decide +kernel
theorem dX11_toldOfTree_8 : decode cX11_toldOfTree 8 = .ok (.ireturn, 1) := by decide +kernel
theorem dX11_toldOfTree_9 : decode cX11_toldOfTree 9 = .ok (.iload_n 1, 1) := by decide +kernel
theorem dX11_toldOfTree_10 : decode cX11_toldOfTree 10 = .ok (.lookupswitch 46 #[(1, 26), (2, 36)], 26) := by decide +kernel
theorem dX11_toldOfTree_36 : decode cX11_toldOfTree 36 = .ok (.aload_n 0, 1) := by decide +kernel
theorem dX11_toldOfTree_37 : decode cX11_toldOfTree 37 = .ok (.getfield 12, 3) := by decide +kernel
theorem dX11_toldOfTree_40 : decode cX11_toldOfTree 40 = .ok (.getfield 188, 3) := by decide +kernel
theorem dX11_toldOfTree_43 : decode cX11_toldOfTree 43 = .ok (.iload_n 2, 1) := by decide +kernel
theorem dX11_toldOfTree_44 : decode cX11_toldOfTree 44 = .ok (.iaload, 1) := by decide +kernel
theorem dX11_toldOfTree_45 : decode cX11_toldOfTree 45 = .ok (.ireturn, 1) := by decide +kernel
theorem dX11_toldOfTree_46 : decode cX11_toldOfTree 46 = .ok (.aload_n 0, 1) := by decide +kernel
theorem dX11_toldOfTree_47 : decode cX11_toldOfTree 47 = .ok (.getfield 12, 3) := by decide +kernel
theorem dX11_toldOfTree_50 : decode cX11_toldOfTree 50 = .ok (.getfield 131, 3) := by decide +kernel
theorem dX11_toldOfTree_53 : decode cX11_toldOfTree 53 = .ok (.iload_n 2, 1) := by decide +kernel
theorem dX11_toldOfTree_54 : decode cX11_toldOfTree 54 = .ok (.iaload, 1) := by decide +kernel
theorem dX11_toldOfTree_55 : decode cX11_toldOfTree 55 = .ok (.ireturn, 1) := by decide +kernel
theorem dX11_toldOfTree_56 : decode cX11_toldOfTree 56 = .ok (.iconst (-1), 1) := by decide +kernel
theorem dX11_toldOfTree_57 : decode cX11_toldOfTree 57 = .ok (.ireturn, 1) := by decide +kernel
theorem dX11_pass_0 : decode cX11_pass 0 = .ok (.iload_n 1, 1) := by decide +kernel
theorem dX11_pass_1 : decode cX11_pass 1 = .ok (.invokestatic 191, 3) := by decide +kernel
theorem dX11_pass_4 : decode cX11_pass 4 = .ok (.ifCond .ne 6, 3) := by decide +kernel
theorem dX11_pass_7 : decode cX11_pass 7 = .ok (.bipush (-2), 2) := by decide +kernel
theorem dX11_pass_9 : decode cX11_pass 9 = .ok (.ireturn, 1) := by decide +kernel
theorem dX11_pass_10 : decode cX11_pass 10 = .ok (.aload_n 0, 1) := by decide +kernel
theorem dX11_pass_11 : decode cX11_pass 11 = .ok (.getfield 12, 3) := by decide +kernel
theorem dX11_pass_14 : decode cX11_pass 14 = .ok (.getfield 163, 3) := by decide +kernel
theorem dX11_pass_17 : decode cX11_pass 17 = .ok (.iload_n 1, 1) := by decide +kernel
theorem dX11_pass_18 : decode cX11_pass 18 = .ok (.iadd, 1) := by decide +kernel
theorem dX11_pass_19 : decode cX11_pass 19 = .ok (.sipush 9999, 3) := by decide +kernel
theorem dX11_pass_22 : decode cX11_pass 22 = .ok (.if_icmp .le 6, 3) := by decide +kernel
theorem dX11_pass_25 : decode cX11_pass 25 = .ok (.bipush (-3), 2) := by decide +kernel
theorem dX11_pass_27 : decode cX11_pass 27 = .ok (.ireturn, 1) := by decide +kernel
theorem dX11_pass_28 : decode cX11_pass 28 = .ok (.aload_n 0, 1) := by decide +kernel
theorem dX11_pass_29 : decode cX11_pass 29 = .ok (.getfield 12, 3) := by decide +kernel
theorem dX11_pass_32 : decode cX11_pass 32 = .ok (.iload_n 1, 1) := by decide +kernel
theorem dX11_pass_33 : decode cX11_pass 33 = .ok (.invokevirtual 194, 3) := by decide +kernel
theorem dX11_pass_36 : decode cX11_pass 36 = .ok (.aload_n 0, 1) := by decide +kernel
theorem dX11_pass_37 : decode cX11_pass 37 = .ok (.getfield 12, 3) := by decide +kernel
theorem dX11_pass_40 : decode cX11_pass 40 = .ok (.getfield 163, 3) := by decide +kernel
theorem dX11_pass_43 : decode cX11_pass 43 = .ok (.ireturn, 1) := by decide +kernel
theorem dX11_on_0 : decode cX11_on 0 = .ok (.iload_n 2, 1) := by decide +kernel
theorem dX11_on_1 : decode cX11_on 1 = .ok (.bipush 10, 2) := by decide +kernel
theorem dX11_on_3 : decode cX11_on 3 = .ok (.irem, 1) := by decide +kernel
theorem dX11_on_4 : decode cX11_on 4 = .ok (.istore_n 3, 1) := by decide +kernel
theorem dX11_on_5 : decode cX11_on 5 = .ok (.iload_n 2, 1) := by decide +kernel
theorem dX11_on_6 : decode cX11_on 6 = .ok (.bipush 10, 2) := by decide +kernel
theorem dX11_on_8 : decode cX11_on 8 = .ok (.idiv, 1) := by decide +kernel
theorem dX11_on_9 : decode cX11_on 9 = .ok (.iconst 1, 1) := by decide +kernel
theorem dX11_on_10 : decode cX11_on 10 = .ok (.if_icmp .ne 14, 3) := by decide +kernel
theorem dX11_on_13 : decode cX11_on 13 = .ok (.iload_n 3, 1) := by decide +kernel
theorem dX11_on_14 : decode cX11_on 14 = .ok (.invokestatic 118, 3) := by decide +kernel
theorem dX11_on_17 : decode cX11_on 17 = .ok (.ifCond .eq 7, 3) := by decide +kernel
theorem dX11_on_20 : decode cX11_on 20 = .ok (.iconst 1, 1) := by decide +kernel
theorem dX11_on_21 : decode cX11_on 21 = .ok (.goto 4, 3) := by decide +kernel
theorem dX11_on_24 : decode cX11_on 24 = .ok (.iconst 0, 1) := by decide +kernel
theorem dX11_on_25 : decode cX11_on 25 = .ok (.istore 4, 2) := by decide +kernel
theorem dX11_on_27 : decode cX11_on 27 = .ok (.iload_n 2, 1) := by decide +kernel
theorem dX11_on_28 : decode cX11_on 28 = .ok (.bipush 20, 2) := by decide +kernel
theorem dX11_on_30 : decode cX11_on 30 = .ok (.isub, 1) := by decide +kernel
theorem dX11_on_31 : decode cX11_on 31 = .ok (.istore 5, 2) := by decide +kernel
theorem dX11_on_33 : decode cX11_on 33 = .ok (.iload_n 2, 1) := by decide +kernel
theorem dX11_on_34 : decode cX11_on 34 = .ok (.bipush 20, 2) := by decide +kernel
theorem dX11_on_36 : decode cX11_on 36 = .ok (.if_icmp .lt 21, 3) := by decide +kernel
theorem dX11_on_39 : decode cX11_on 39 = .ok (.aload_n 0, 1) := by decide +kernel
theorem dX11_on_40 : decode cX11_on 40 = .ok (.getfield 12, 3) := by decide +kernel
theorem dX11_on_43 : decode cX11_on 43 = .ok (.iload 5, 2) := by decide +kernel
theorem dX11_on_45 : decode cX11_on 45 = .ok (.iconst 5, 1) := by decide +kernel
theorem dX11_on_46 : decode cX11_on 46 = .ok (.idiv, 1) := by decide +kernel
theorem dX11_on_47 : decode cX11_on 47 = .ok (.invokevirtual 87, 3) := by decide +kernel
theorem dX11_on_50 : decode cX11_on 50 = .ok (.ifCond .eq 7, 3) := by decide +kernel
theorem dX11_on_53 : decode cX11_on 53 = .ok (.iconst 1, 1) := by decide +kernel
theorem dX11_on_54 : decode cX11_on 54 = .ok (.goto 4, 3) := by decide +kernel
theorem dX11_on_57 : decode cX11_on 57 = .ok (.iconst 0, 1) := by decide +kernel
theorem dX11_on_58 : decode cX11_on 58 = .ok (.istore 6, 2) := by decide +kernel
theorem dX11_on_60 : decode cX11_on 60 = .ok (.iload_n 2, 1) := by decide +kernel
theorem dX11_on_61 : decode cX11_on 61 = .ok (.ifCond .eq 15, 3) := by decide +kernel
theorem dX11_on_64 : decode cX11_on 64 = .ok (.iload 4, 2) := by decide +kernel
theorem dX11_on_66 : decode cX11_on 66 = .ok (.ifCond .ne 10, 3) := by decide +kernel
theorem dX11_on_69 : decode cX11_on 69 = .ok (.iload 6, 2) := by decide +kernel
theorem dX11_on_71 : decode cX11_on 71 = .ok (.ifCond .ne 5, 3) := by decide +kernel
theorem dX11_on_74 : decode cX11_on 74 = .ok (.iconst (-1), 1) := by decide +kernel
theorem dX11_on_75 : decode cX11_on 75 = .ok (.ireturn, 1) := by decide +kernel
theorem dX11_on_76 : decode cX11_on 76 = .ok (.iload_n 1, 1) := by decide +kernel
theorem dX11_on_77 : decode cX11_on 77 = .ok (.invokestatic 191, 3) := by decide +kernel
theorem dX11_on_80 : decode cX11_on 80 = .ok (.ifCond .ne 6, 3) := by decide +kernel
theorem dX11_on_83 : decode cX11_on 83 = .ok (.bipush (-2), 2) := by decide +kernel
theorem dX11_on_85 : decode cX11_on 85 = .ok (.ireturn, 1) := by decide +kernel
theorem dX11_on_86 : decode cX11_on 86 = .ok (.aload_n 0, 1) := by decide +kernel
theorem dX11_on_87 : decode cX11_on 87 = .ok (.getfield 21, 3) := by decide +kernel
theorem dX11_on_90 : decode cX11_on 90 = .ok (.aload_n 0, 1) := by decide +kernel
theorem dX11_on_91 : decode cX11_on 91 = .ok (.getfield 12, 3) := by decide +kernel
theorem dX11_on_94 : decode cX11_on 94 = .ok (.invokevirtual 198, 3) := by decide +kernel
theorem dX11_on_97 : decode cX11_on 97 = .ok (.aload_n 0, 1) := by decide +kernel
theorem dX11_on_98 : decode cX11_on 98 = .ok (.getfield 21, 3) := by decide +kernel
theorem dX11_on_101 : decode cX11_on 101 = .ok (.iload_n 1, 1) := by decide +kernel
theorem dX11_on_102 : decode cX11_on 102 = .ok (.invokevirtual 194, 3) := by decide +kernel
theorem dX11_on_105 : decode cX11_on 105 = .ok (.iload 4, 2) := by decide +kernel
theorem dX11_on_107 : decode cX11_on 107 = .ok (.ifCond .eq 13, 3) := by decide +kernel
theorem dX11_on_110 : decode cX11_on 110 = .ok (.aload_n 0, 1) := by decide +kernel
theorem dX11_on_111 : decode cX11_on 111 = .ok (.getfield 21, 3) := by decide +kernel
theorem dX11_on_114 : decode cX11_on 114 = .ok (.getfield 188, 3) := by decide +kernel
theorem dX11_on_117 : decode cX11_on 117 = .ok (.iload_n 3, 1) := by decide +kernel
theorem dX11_on_118 : decode cX11_on 118 = .ok (.iaload, 1) := by decide +kernel
theorem dX11_on_119 : decode cX11_on 119 = .ok (.ireturn, 1) := by decide +kernel
theorem dX11_on_120 : decode cX11_on 120 = .ok (.iload 6, 2) := by decide +kernel
theorem dX11_on_122 : decode cX11_on 122 = .ok (.ifCond .eq 23, 3) := by decide +kernel
theorem dX11_on_125 : decode cX11_on 125 = .ok (.aload_n 0, 1) := by decide +kernel
theorem dX11_on_126 : decode cX11_on 126 = .ok (.getfield 21, 3) := by decide +kernel
theorem dX11_on_129 : decode cX11_on 129 = .ok (.getfield 121, 3) := by decide +kernel
theorem dX11_on_132 : decode cX11_on 132 = .ok (.iload 5, 2) := by decide +kernel
theorem dX11_on_134 : decode cX11_on 134 = .ok (.iconst 5, 1) := by decide +kernel
theorem dX11_on_135 : decode cX11_on 135 = .ok (.idiv, 1) := by decide +kernel
theorem dX11_on_136 : decode cX11_on 136 = .ok (.aaload, 1) := by decide +kernel
theorem dX11_on_137 : decode cX11_on 137 = .ok (.iload 5, 2) := by decide +kernel
theorem dX11_on_139 : decode cX11_on 139 = .ok (.iconst 5, 1) := by decide +kernel
theorem dX11_on_140 : decode cX11_on 140 = .ok (.irem, 1) := by decide +kernel
theorem dX11_on_141 : decode cX11_on 141 = .ok (.iaload, 1) := by decide +kernel
theorem dX11_on_142 : decode cX11_on 142 = .ok (.goto 10, 3) := by decide +kernel
theorem dX11_on_145 : decode cX11_on 145 = .ok (.aload_n 0, 1) := by decide +kernel
theorem dX11_on_146 : decode cX11_on 146 = .ok (.getfield 21, 3) := by decide +kernel
theorem dX11_on_149 : decode cX11_on 149 = .ok (.invokevirtual 173, 3) := by decide +kernel
theorem dX11_on_152 : decode cX11_on 152 = .ok (.ireturn, 1) := by decide +kernel
theorem dX11_lasts_0 : decode cX11_lasts 0 = .ok (.aload_n 0, 1) := by decide +kernel
theorem dX11_lasts_1 : decode cX11_lasts 1 = .ok (.getfield 21, 3) := by decide +kernel
theorem dX11_lasts_4 : decode cX11_lasts 4 = .ok (.aload_n 0, 1) := by decide +kernel
theorem dX11_lasts_5 : decode cX11_lasts 5 = .ok (.getfield 12, 3) := by decide +kernel
theorem dX11_lasts_8 : decode cX11_lasts 8 = .ok (.invokevirtual 198, 3) := by decide +kernel
theorem dX11_lasts_11 : decode cX11_lasts 11 = .ok (.iconst 0, 1) := by decide +kernel
theorem dX11_lasts_12 : decode cX11_lasts 12 = .ok (.istore_n 3, 1) := by decide +kernel
theorem dX11_lasts_13 : decode cX11_lasts 13 = .ok (.iload_n 3, 1) := by decide +kernel
theorem dX11_lasts_14 : decode cX11_lasts 14 = .ok (.bipush 60, 2) := by decide +kernel
theorem dX11_lasts_16 : decode cX11_lasts 16 = .ok (.if_icmp .ge 34, 3) := by decide +kernel
theorem dX11_lasts_19 : decode cX11_lasts 19 = .ok (.aload_n 0, 1) := by decide +kernel
theorem dX11_lasts_20 : decode cX11_lasts 20 = .ok (.getfield 21, 3) := by decide +kernel
theorem dX11_lasts_23 : decode cX11_lasts 23 = .ok (.iload_n 2, 1) := by decide +kernel
theorem dX11_lasts_24 : decode cX11_lasts 24 = .ok (.iload_n 1, 1) := by decide +kernel
theorem dX11_lasts_25 : decode cX11_lasts 25 = .ok (.invokevirtual 202, 3) := by decide +kernel
theorem dX11_lasts_28 : decode cX11_lasts 28 = .ok (.ifCond .eq 22, 3) := by decide +kernel
theorem dX11_lasts_31 : decode cX11_lasts 31 = .ok (.aload_n 0, 1) := by decide +kernel
theorem dX11_lasts_32 : decode cX11_lasts 32 = .ok (.getfield 21, 3) := by decide +kernel
theorem dX11_lasts_35 : decode cX11_lasts 35 = .ok (.dup, 1) := by decide +kernel
theorem dX11_lasts_36 : decode cX11_lasts 36 = .ok (.getfield 163, 3) := by decide +kernel
theorem dX11_lasts_39 : decode cX11_lasts 39 = .ok (.iconst 1, 1) := by decide +kernel
theorem dX11_lasts_40 : decode cX11_lasts 40 = .ok (.iadd, 1) := by decide +kernel
theorem dX11_lasts_41 : decode cX11_lasts 41 = .ok (.putfield 163, 3) := by decide +kernel
theorem dX11_lasts_44 : decode cX11_lasts 44 = .ok (.iinc 3 1, 3) := by decide +kernel
theorem dX11_lasts_47 : decode cX11_lasts 47 = .ok (.goto (-34), 3) := by decide +kernel
theorem dX11_lasts_50 : decode cX11_lasts 50 = .ok (.iload_n 3, 1) := by decide +kernel
theorem dX11_lasts_51 : decode cX11_lasts 51 = .ok (.ireturn, 1) := by decide +kernel
theorem dX11_ring_0 : decode cX11_ring 0 = .ok (.iload_n 1, 1) := by decide +kernel
theorem dX11_ring_1 : decode cX11_ring 1 = .ok (.bipush 10, 2) := by decide +kernel
theorem dX11_ring_3 : decode cX11_ring 3 = .ok (.isub, 1) := by decide +kernel
theorem dX11_ring_4 : decode cX11_ring 4 = .ok (.istore_n 2, 1) := by decide +kernel
theorem dX11_ring_5 : decode cX11_ring 5 = .ok (.iload_n 1, 1) := by decide +kernel
theorem dX11_ring_6 : decode cX11_ring 6 = .ok (.ifCond .eq 25, 3) := by decide +kernel
theorem dX11_ring_9 : decode cX11_ring 9 = .ok (.iload_n 1, 1) := by decide +kernel
theorem dX11_ring_10 : decode cX11_ring 10 = .ok (.iconst 1, 1) := by decide +kernel
theorem dX11_ring_11 : decode cX11_ring 11 = .ok (.if_icmp .eq 20, 3) := by decide +kernel
theorem dX11_ring_14 : decode cX11_ring 14 = .ok (.iload_n 1, 1) := by decide +kernel
theorem dX11_ring_15 : decode cX11_ring 15 = .ok (.bipush 10, 2) := by decide +kernel
theorem dX11_ring_17 : decode cX11_ring 17 = .ok (.if_icmp .lt 10, 3) := by decide +kernel
theorem dX11_ring_20 : decode cX11_ring 20 = .ok (.iload_n 2, 1) := by decide +kernel
theorem dX11_ring_21 : decode cX11_ring 21 = .ok (.invokestatic 118, 3) := by decide +kernel
theorem dX11_ring_24 : decode cX11_ring 24 = .ok (.ifCond .ne 7, 3) := by decide +kernel
theorem dX11_ring_27 : decode cX11_ring 27 = .ok (.sipush (-10001), 3) := by decide +kernel
theorem dX11_ring_30 : decode cX11_ring 30 = .ok (.ireturn, 1) := by decide +kernel
theorem dX11_ring_31 : decode cX11_ring 31 = .ok (.aload_n 0, 1) := by decide +kernel
theorem dX11_ring_32 : decode cX11_ring 32 = .ok (.invokevirtual 206, 3) := by decide +kernel
theorem dX11_ring_35 : decode cX11_ring 35 = .ok (.aload_n 0, 1) := by decide +kernel
theorem dX11_ring_36 : decode cX11_ring 36 = .ok (.getfield 12, 3) := by decide +kernel
theorem dX11_ring_39 : decode cX11_ring 39 = .ok (.invokevirtual 209, 3) := by decide +kernel
theorem dX11_ring_42 : decode cX11_ring 42 = .ok (.istore_n 3, 1) := by decide +kernel
theorem dX11_ring_43 : decode cX11_ring 43 = .ok (.aload_n 0, 1) := by decide +kernel
theorem dX11_ring_44 : decode cX11_ring 44 = .ok (.iload_n 3, 1) := by decide +kernel
theorem dX11_ring_45 : decode cX11_ring 45 = .ok (.invokevirtual 212, 3) := by decide +kernel
theorem dX11_ring_48 : decode cX11_ring 48 = .ok (.istore 4, 2) := by decide +kernel
theorem dX11_ring_50 : decode cX11_ring 50 = .ok (.iload_n 1, 1) := by decide +kernel
theorem dX11_ring_51 : decode cX11_ring 51 = .ok (.ifCond .ne 9, 3) := by decide +kernel
theorem dX11_ring_54 : decode cX11_ring 54 = .ok (.iload 4, 2) := by decide +kernel
theorem dX11_ring_56 : decode cX11_ring 56 = .ok (.ldc 215, 2) := by decide +kernel
theorem dX11_ring_58 : decode cX11_ring 58 = .ok (.idiv, 1) := by decide +kernel
theorem dX11_ring_59 : decode cX11_ring 59 = .ok (.ireturn, 1) := by decide +kernel
theorem dX11_ring_60 : decode cX11_ring 60 = .ok (.iload_n 1, 1) := by decide +kernel
theorem dX11_ring_61 : decode cX11_ring 61 = .ok (.iconst 1, 1) := by decide +kernel
theorem dX11_ring_62 : decode cX11_ring 62 = .ok (.if_icmp .ne 11, 3) := by decide +kernel
theorem dX11_ring_65 : decode cX11_ring 65 = .ok (.iload 4, 2) := by decide +kernel
theorem dX11_ring_67 : decode cX11_ring 67 = .ok (.ldc 215, 2) := by decide +kernel
theorem dX11_ring_69 : decode cX11_ring 69 = .ok (.irem, 1) := by decide +kernel
theorem dX11_ring_70 : decode cX11_ring 70 = .ok (.goto 9, 3) := by decide +kernel
theorem dX11_ring_73 : decode cX11_ring 73 = .ok (.aload_n 0, 1) := by decide +kernel
theorem dX11_ring_74 : decode cX11_ring 74 = .ok (.iload_n 3, 1) := by decide +kernel
theorem dX11_ring_75 : decode cX11_ring 75 = .ok (.iload_n 2, 1) := by decide +kernel
theorem dX11_ring_76 : decode cX11_ring 76 = .ok (.invokevirtual 216, 3) := by decide +kernel
theorem dX11_ring_79 : decode cX11_ring 79 = .ok (.ireturn, 1) := by decide +kernel
theorem dX11_weigh_0 : decode cX11_weigh 0 = .ok (.aload_n 0, 1) := by decide +kernel
theorem dX11_weigh_1 : decode cX11_weigh 1 = .ok (.getfield 12, 3) := by decide +kernel
theorem dX11_weigh_4 : decode cX11_weigh 4 = .ok (.invokevirtual 166, 3) := by decide +kernel
theorem dX11_weigh_7 : decode cX11_weigh 7 = .ok (.istore_n 1, 1) := by decide +kernel
theorem dX11_weigh_8 : decode cX11_weigh 8 = .ok (.iconst 0, 1) := by decide +kernel
theorem dX11_weigh_9 : decode cX11_weigh 9 = .ok (.istore_n 2, 1) := by decide +kernel
theorem dX11_weigh_10 : decode cX11_weigh 10 = .ok (.iload_n 2, 1) := by decide +kernel
theorem dX11_weigh_11 : decode cX11_weigh 11 = .ok (.aload_n 0, 1) := by decide +kernel
theorem dX11_weigh_12 : decode cX11_weigh 12 = .ok (.getfield 12, 3) := by decide +kernel
theorem dX11_weigh_15 : decode cX11_weigh 15 = .ok (.getfield 75, 3) := by decide +kernel
theorem dX11_weigh_18 : decode cX11_weigh 18 = .ok (.if_icmp .ge 68, 3) := by decide +kernel
theorem dX11_weigh_21 : decode cX11_weigh 21 = .ok (.iconst 0, 1) := by decide +kernel
theorem dX11_weigh_22 : decode cX11_weigh 22 = .ok (.istore_n 3, 1) := by decide +kernel
theorem dX11_weigh_23 : decode cX11_weigh 23 = .ok (.iload_n 3, 1) := by decide +kernel
theorem dX11_weigh_24 : decode cX11_weigh 24 = .ok (.iconst 5, 1) := by decide +kernel
theorem dX11_weigh_25 : decode cX11_weigh 25 = .ok (.if_icmp .ge 55, 3) := by decide +kernel
theorem dX11_weigh_28 : decode cX11_weigh 28 = .ok (.aload_n 0, 1) := by decide +kernel
theorem dX11_weigh_29 : decode cX11_weigh 29 = .ok (.getfield 12, 3) := by decide +kernel
theorem dX11_weigh_32 : decode cX11_weigh 32 = .ok (.iload_n 2, 1) := by decide +kernel
theorem dX11_weigh_33 : decode cX11_weigh 33 = .ok (.iload_n 3, 1) := by decide +kernel
theorem dX11_weigh_34 : decode cX11_weigh 34 = .ok (.invokevirtual 124, 3) := by decide +kernel
theorem dX11_weigh_37 : decode cX11_weigh 37 = .ok (.istore 4, 2) := by decide +kernel
theorem dX11_weigh_39 : decode cX11_weigh 39 = .ok (.aload_n 0, 1) := by decide +kernel
theorem dX11_weigh_40 : decode cX11_weigh 40 = .ok (.getfield 46, 3) := by decide +kernel
theorem dX11_weigh_43 : decode cX11_weigh 43 = .ok (.iload_n 2, 1) := by decide +kernel
theorem dX11_weigh_44 : decode cX11_weigh 44 = .ok (.aaload, 1) := by decide +kernel
theorem dX11_weigh_45 : decode cX11_weigh 45 = .ok (.iload_n 3, 1) := by decide +kernel
theorem dX11_weigh_46 : decode cX11_weigh 46 = .ok (.aload_n 0, 1) := by decide +kernel
theorem dX11_weigh_47 : decode cX11_weigh 47 = .ok (.getfield 12, 3) := by decide +kernel
theorem dX11_weigh_50 : decode cX11_weigh 50 = .ok (.getfield 102, 3) := by decide +kernel
theorem dX11_weigh_53 : decode cX11_weigh 53 = .ok (.iload_n 2, 1) := by decide +kernel
theorem dX11_weigh_54 : decode cX11_weigh 54 = .ok (.baload, 1) := by decide +kernel
theorem dX11_weigh_55 : decode cX11_weigh 55 = .ok (.ifCond .ne 17, 3) := by decide +kernel
theorem dX11_weigh_58 : decode cX11_weigh 58 = .ok (.iload 4, 2) := by decide +kernel
theorem dX11_weigh_60 : decode cX11_weigh 60 = .ok (.iload_n 1, 1) := by decide +kernel
theorem dX11_weigh_61 : decode cX11_weigh 61 = .ok (.if_icmp .lt 11, 3) := by decide +kernel
theorem dX11_weigh_64 : decode cX11_weigh 64 = .ok (.ldc 215, 2) := by decide +kernel
theorem dX11_weigh_66 : decode cX11_weigh 66 = .ok (.iload 4, 2) := by decide +kernel
theorem dX11_weigh_68 : decode cX11_weigh 68 = .ok (.iadd, 1) := by decide +kernel
theorem dX11_weigh_69 : decode cX11_weigh 69 = .ok (.goto 4, 3) := by decide +kernel
theorem dX11_weigh_72 : decode cX11_weigh 72 = .ok (.iconst 0, 1) := by decide +kernel
theorem dX11_weigh_73 : decode cX11_weigh 73 = .ok (.iastore, 1) := by decide +kernel
theorem dX11_weigh_74 : decode cX11_weigh 74 = .ok (.iinc 3 1, 3) := by decide +kernel
theorem dX11_weigh_77 : decode cX11_weigh 77 = .ok (.goto (-54), 3) := by decide +kernel
theorem dX11_weigh_80 : decode cX11_weigh 80 = .ok (.iinc 2 1, 3) := by decide +kernel
theorem dX11_weigh_83 : decode cX11_weigh 83 = .ok (.goto (-73), 3) := by decide +kernel
theorem dX11_weigh_86 : decode cX11_weigh 86 = .ok (.return_, 1) := by decide +kernel
theorem dX11_fillBest_0 : decode cX11_fillBest 0 = .ok (.iconst 4, 1) := by decide +kernel
theorem dX11_fillBest_1 : decode cX11_fillBest 1 = .ok (.istore_n 2, 1) := by decide +kernel
theorem dX11_fillBest_2 : decode cX11_fillBest 2 = .ok (.iload_n 2, 1) := by decide +kernel
theorem dX11_fillBest_3 : decode cX11_fillBest 3 = .ok (.ifCond .lt 103, 3) := by decide +kernel
theorem dX11_fillBest_6 : decode cX11_fillBest 6 = .ok (.iconst 0, 1) := by decide +kernel
theorem dX11_fillBest_7 : decode cX11_fillBest 7 = .ok (.istore_n 3, 1) := by decide +kernel
theorem dX11_fillBest_8 : decode cX11_fillBest 8 = .ok (.iload_n 3, 1) := by decide +kernel
theorem dX11_fillBest_9 : decode cX11_fillBest 9 = .ok (.bipush 64, 2) := by decide +kernel
theorem dX11_fillBest_11 : decode cX11_fillBest 11 = .ok (.if_icmp .ge 89, 3) := by decide +kernel
theorem dX11_fillBest_14 : decode cX11_fillBest 14 = .ok (.aload_n 0, 1) := by decide +kernel
theorem dX11_fillBest_15 : decode cX11_fillBest 15 = .ok (.getfield 49, 3) := by decide +kernel
theorem dX11_fillBest_18 : decode cX11_fillBest 18 = .ok (.iload_n 2, 1) := by decide +kernel
theorem dX11_fillBest_19 : decode cX11_fillBest 19 = .ok (.iconst 1, 1) := by decide +kernel
theorem dX11_fillBest_20 : decode cX11_fillBest 20 = .ok (.iadd, 1) := by decide +kernel
theorem dX11_fillBest_21 : decode cX11_fillBest 21 = .ok (.aaload, 1) := by decide +kernel
theorem dX11_fillBest_22 : decode cX11_fillBest 22 = .ok (.iload_n 3, 1) := by decide +kernel
theorem dX11_fillBest_23 : decode cX11_fillBest 23 = .ok (.iaload, 1) := by decide +kernel
theorem dX11_fillBest_24 : decode cX11_fillBest 24 = .ok (.istore 4, 2) := by decide +kernel
theorem dX11_fillBest_26 : decode cX11_fillBest 26 = .ok (.iconst 0, 1) := by decide +kernel
theorem dX11_fillBest_27 : decode cX11_fillBest 27 = .ok (.istore 5, 2) := by decide +kernel
theorem dX11_fillBest_29 : decode cX11_fillBest 29 = .ok (.iload 5, 2) := by decide +kernel
theorem dX11_fillBest_31 : decode cX11_fillBest 31 = .ok (.bipush 6, 2) := by decide +kernel
theorem dX11_fillBest_33 : decode cX11_fillBest 33 = .ok (.if_icmp .ge 51, 3) := by decide +kernel
theorem dX11_fillBest_36 : decode cX11_fillBest 36 = .ok (.iload 5, 2) := by decide +kernel
theorem dX11_fillBest_38 : decode cX11_fillBest 38 = .ok (.iload_n 1, 1) := by decide +kernel
theorem dX11_fillBest_39 : decode cX11_fillBest 39 = .ok (.iload_n 3, 1) := by decide +kernel
theorem dX11_fillBest_40 : decode cX11_fillBest 40 = .ok (.invokestatic 219, 3) := by decide +kernel
theorem dX11_fillBest_43 : decode cX11_fillBest 43 = .ok (.ifCond .eq 35, 3) := by decide +kernel
theorem dX11_fillBest_46 : decode cX11_fillBest 46 = .ok (.iload 4, 2) := by decide +kernel
theorem dX11_fillBest_48 : decode cX11_fillBest 48 = .ok (.aload_n 0, 1) := by decide +kernel
theorem dX11_fillBest_49 : decode cX11_fillBest 49 = .ok (.getfield 46, 3) := by decide +kernel
theorem dX11_fillBest_52 : decode cX11_fillBest 52 = .ok (.iload 5, 2) := by decide +kernel
theorem dX11_fillBest_54 : decode cX11_fillBest 54 = .ok (.aaload, 1) := by decide +kernel
theorem dX11_fillBest_55 : decode cX11_fillBest 55 = .ok (.iload_n 2, 1) := by decide +kernel
theorem dX11_fillBest_56 : decode cX11_fillBest 56 = .ok (.iaload, 1) := by decide +kernel
theorem dX11_fillBest_57 : decode cX11_fillBest 57 = .ok (.aload_n 0, 1) := by decide +kernel
theorem dX11_fillBest_58 : decode cX11_fillBest 58 = .ok (.getfield 49, 3) := by decide +kernel
theorem dX11_fillBest_61 : decode cX11_fillBest 61 = .ok (.iload_n 2, 1) := by decide +kernel
theorem dX11_fillBest_62 : decode cX11_fillBest 62 = .ok (.iconst 1, 1) := by decide +kernel
theorem dX11_fillBest_63 : decode cX11_fillBest 63 = .ok (.iadd, 1) := by decide +kernel
theorem dX11_fillBest_64 : decode cX11_fillBest 64 = .ok (.aaload, 1) := by decide +kernel
theorem dX11_fillBest_65 : decode cX11_fillBest 65 = .ok (.iload_n 3, 1) := by decide +kernel
theorem dX11_fillBest_66 : decode cX11_fillBest 66 = .ok (.iconst 1, 1) := by decide +kernel
theorem dX11_fillBest_67 : decode cX11_fillBest 67 = .ok (.iload 5, 2) := by decide +kernel
theorem dX11_fillBest_69 : decode cX11_fillBest 69 = .ok (.ishl, 1) := by decide +kernel
theorem dX11_fillBest_70 : decode cX11_fillBest 70 = .ok (.ior, 1) := by decide +kernel
theorem dX11_fillBest_71 : decode cX11_fillBest 71 = .ok (.iaload, 1) := by decide +kernel
theorem dX11_fillBest_72 : decode cX11_fillBest 72 = .ok (.iadd, 1) := by decide +kernel
theorem dX11_fillBest_73 : decode cX11_fillBest 73 = .ok (.invokestatic 223, 3) := by decide +kernel
theorem dX11_fillBest_76 : decode cX11_fillBest 76 = .ok (.istore 4, 2) := by decide +kernel
theorem dX11_fillBest_78 : decode cX11_fillBest 78 = .ok (.iinc 5 1, 3) := by decide +kernel
theorem dX11_fillBest_81 : decode cX11_fillBest 81 = .ok (.goto (-52), 3) := by decide +kernel
theorem dX11_fillBest_84 : decode cX11_fillBest 84 = .ok (.aload_n 0, 1) := by decide +kernel
theorem dX11_fillBest_85 : decode cX11_fillBest 85 = .ok (.getfield 49, 3) := by decide +kernel
theorem dX11_fillBest_88 : decode cX11_fillBest 88 = .ok (.iload_n 2, 1) := by decide +kernel
theorem dX11_fillBest_89 : decode cX11_fillBest 89 = .ok (.aaload, 1) := by decide +kernel
theorem dX11_fillBest_90 : decode cX11_fillBest 90 = .ok (.iload_n 3, 1) := by decide +kernel
theorem dX11_fillBest_91 : decode cX11_fillBest 91 = .ok (.iload 4, 2) := by decide +kernel
theorem dX11_fillBest_93 : decode cX11_fillBest 93 = .ok (.iastore, 1) := by decide +kernel
theorem dX11_fillBest_94 : decode cX11_fillBest 94 = .ok (.iinc 3 1, 3) := by decide +kernel
theorem dX11_fillBest_97 : decode cX11_fillBest 97 = .ok (.goto (-89), 3) := by decide +kernel
theorem dX11_fillBest_100 : decode cX11_fillBest 100 = .ok (.iinc 2 (-1), 3) := by decide +kernel
theorem dX11_fillBest_103 : decode cX11_fillBest 103 = .ok (.goto (-101), 3) := by decide +kernel
theorem dX11_fillBest_106 : decode cX11_fillBest 106 = .ok (.aload_n 0, 1) := by decide +kernel
theorem dX11_fillBest_107 : decode cX11_fillBest 107 = .ok (.getfield 49, 3) := by decide +kernel
theorem dX11_fillBest_110 : decode cX11_fillBest 110 = .ok (.iconst 0, 1) := by decide +kernel
theorem dX11_fillBest_111 : decode cX11_fillBest 111 = .ok (.aaload, 1) := by decide +kernel
theorem dX11_fillBest_112 : decode cX11_fillBest 112 = .ok (.iconst 0, 1) := by decide +kernel
theorem dX11_fillBest_113 : decode cX11_fillBest 113 = .ok (.iaload, 1) := by decide +kernel
theorem dX11_fillBest_114 : decode cX11_fillBest 114 = .ok (.ireturn, 1) := by decide +kernel
theorem dX11_ringAt_0 : decode cX11_ringAt 0 = .ok (.iconst 0, 1) := by decide +kernel
theorem dX11_ringAt_1 : decode cX11_ringAt 1 = .ok (.istore_n 3, 1) := by decide +kernel
theorem dX11_ringAt_2 : decode cX11_ringAt 2 = .ok (.bipush (-5), 2) := by decide +kernel
theorem dX11_ringAt_4 : decode cX11_ringAt 4 = .ok (.istore 4, 2) := by decide +kernel
theorem dX11_ringAt_6 : decode cX11_ringAt 6 = .ok (.iconst 0, 1) := by decide +kernel
theorem dX11_ringAt_7 : decode cX11_ringAt 7 = .ok (.istore 5, 2) := by decide +kernel
theorem dX11_ringAt_9 : decode cX11_ringAt 9 = .ok (.iload 5, 2) := by decide +kernel
theorem dX11_ringAt_11 : decode cX11_ringAt 11 = .ok (.iload_n 2, 1) := by decide +kernel
theorem dX11_ringAt_12 : decode cX11_ringAt 12 = .ok (.if_icmp .gt 33, 3) := by decide +kernel
theorem dX11_ringAt_15 : decode cX11_ringAt 15 = .ok (.aload_n 0, 1) := by decide +kernel
theorem dX11_ringAt_16 : decode cX11_ringAt 16 = .ok (.iload 5, 2) := by decide +kernel
theorem dX11_ringAt_18 : decode cX11_ringAt 18 = .ok (.iload_n 1, 1) := by decide +kernel
theorem dX11_ringAt_19 : decode cX11_ringAt 19 = .ok (.iload_n 3, 1) := by decide +kernel
theorem dX11_ringAt_20 : decode cX11_ringAt 20 = .ok (.invokevirtual 228, 3) := by decide +kernel
theorem dX11_ringAt_23 : decode cX11_ringAt 23 = .ok (.istore 4, 2) := by decide +kernel
theorem dX11_ringAt_25 : decode cX11_ringAt 25 = .ok (.iload 4, 2) := by decide +kernel
theorem dX11_ringAt_27 : decode cX11_ringAt 27 = .ok (.bipush (-5), 2) := by decide +kernel
theorem dX11_ringAt_29 : decode cX11_ringAt 29 = .ok (.if_icmp .eq 10, 3) := by decide +kernel
theorem dX11_ringAt_32 : decode cX11_ringAt 32 = .ok (.iload_n 3, 1) := by decide +kernel
theorem dX11_ringAt_33 : decode cX11_ringAt 33 = .ok (.iconst 1, 1) := by decide +kernel
theorem dX11_ringAt_34 : decode cX11_ringAt 34 = .ok (.iload 4, 2) := by decide +kernel
theorem dX11_ringAt_36 : decode cX11_ringAt 36 = .ok (.ishl, 1) := by decide +kernel
theorem dX11_ringAt_37 : decode cX11_ringAt 37 = .ok (.ior, 1) := by decide +kernel
theorem dX11_ringAt_38 : decode cX11_ringAt 38 = .ok (.istore_n 3, 1) := by decide +kernel
theorem dX11_ringAt_39 : decode cX11_ringAt 39 = .ok (.iinc 5 1, 3) := by decide +kernel
theorem dX11_ringAt_42 : decode cX11_ringAt 42 = .ok (.goto (-33), 3) := by decide +kernel
theorem dX11_ringAt_45 : decode cX11_ringAt 45 = .ok (.iload 4, 2) := by decide +kernel
theorem dX11_ringAt_47 : decode cX11_ringAt 47 = .ok (.ireturn, 1) := by decide +kernel
theorem dX11_firstOfBest_0 : decode cX11_firstOfBest 0 = .ok (.iconst 0, 1) := by decide +kernel
theorem dX11_firstOfBest_1 : decode cX11_firstOfBest 1 = .ok (.istore 4, 2) := by decide +kernel
theorem dX11_firstOfBest_3 : decode cX11_firstOfBest 3 = .ok (.iload 4, 2) := by decide +kernel
theorem dX11_firstOfBest_5 : decode cX11_firstOfBest 5 = .ok (.bipush 6, 2) := by decide +kernel
theorem dX11_firstOfBest_7 : decode cX11_firstOfBest 7 = .ok (.if_icmp .ge 58, 3) := by decide +kernel
theorem dX11_firstOfBest_10 : decode cX11_firstOfBest 10 = .ok (.iload 4, 2) := by decide +kernel
theorem dX11_firstOfBest_12 : decode cX11_firstOfBest 12 = .ok (.iload_n 2, 1) := by decide +kernel
theorem dX11_firstOfBest_13 : decode cX11_firstOfBest 13 = .ok (.iload_n 3, 1) := by decide +kernel
theorem dX11_firstOfBest_14 : decode cX11_firstOfBest 14 = .ok (.invokestatic 219, 3) := by decide +kernel
theorem dX11_firstOfBest_17 : decode cX11_firstOfBest 17 = .ok (.ifCond .eq 42, 3) := by decide +kernel
theorem dX11_firstOfBest_20 : decode cX11_firstOfBest 20 = .ok (.aload_n 0, 1) := by decide +kernel
theorem dX11_firstOfBest_21 : decode cX11_firstOfBest 21 = .ok (.getfield 46, 3) := by decide +kernel
theorem dX11_firstOfBest_24 : decode cX11_firstOfBest 24 = .ok (.iload 4, 2) := by decide +kernel
theorem dX11_firstOfBest_26 : decode cX11_firstOfBest 26 = .ok (.aaload, 1) := by decide +kernel
theorem dX11_firstOfBest_27 : decode cX11_firstOfBest 27 = .ok (.iload_n 1, 1) := by decide +kernel
theorem dX11_firstOfBest_28 : decode cX11_firstOfBest 28 = .ok (.iaload, 1) := by decide +kernel
theorem dX11_firstOfBest_29 : decode cX11_firstOfBest 29 = .ok (.aload_n 0, 1) := by decide +kernel
theorem dX11_firstOfBest_30 : decode cX11_firstOfBest 30 = .ok (.getfield 49, 3) := by decide +kernel
theorem dX11_firstOfBest_33 : decode cX11_firstOfBest 33 = .ok (.iload_n 1, 1) := by decide +kernel
theorem dX11_firstOfBest_34 : decode cX11_firstOfBest 34 = .ok (.iconst 1, 1) := by decide +kernel
theorem dX11_firstOfBest_35 : decode cX11_firstOfBest 35 = .ok (.iadd, 1) := by decide +kernel
theorem dX11_firstOfBest_36 : decode cX11_firstOfBest 36 = .ok (.aaload, 1) := by decide +kernel
theorem dX11_firstOfBest_37 : decode cX11_firstOfBest 37 = .ok (.iload_n 3, 1) := by decide +kernel
theorem dX11_firstOfBest_38 : decode cX11_firstOfBest 38 = .ok (.iconst 1, 1) := by decide +kernel
theorem dX11_firstOfBest_39 : decode cX11_firstOfBest 39 = .ok (.iload 4, 2) := by decide +kernel
theorem dX11_firstOfBest_41 : decode cX11_firstOfBest 41 = .ok (.ishl, 1) := by decide +kernel
theorem dX11_firstOfBest_42 : decode cX11_firstOfBest 42 = .ok (.ior, 1) := by decide +kernel
theorem dX11_firstOfBest_43 : decode cX11_firstOfBest 43 = .ok (.iaload, 1) := by decide +kernel
theorem dX11_firstOfBest_44 : decode cX11_firstOfBest 44 = .ok (.iadd, 1) := by decide +kernel
theorem dX11_firstOfBest_45 : decode cX11_firstOfBest 45 = .ok (.aload_n 0, 1) := by decide +kernel
theorem dX11_firstOfBest_46 : decode cX11_firstOfBest 46 = .ok (.getfield 49, 3) := by decide +kernel
theorem dX11_firstOfBest_49 : decode cX11_firstOfBest 49 = .ok (.iload_n 1, 1) := by decide +kernel
theorem dX11_firstOfBest_50 : decode cX11_firstOfBest 50 = .ok (.aaload, 1) := by decide +kernel
theorem dX11_firstOfBest_51 : decode cX11_firstOfBest 51 = .ok (.iload_n 3, 1) := by decide +kernel
theorem dX11_firstOfBest_52 : decode cX11_firstOfBest 52 = .ok (.iaload, 1) := by decide +kernel
theorem dX11_firstOfBest_53 : decode cX11_firstOfBest 53 = .ok (.if_icmp .ne 6, 3) := by decide +kernel
theorem dX11_firstOfBest_56 : decode cX11_firstOfBest 56 = .ok (.iload 4, 2) := by decide +kernel
theorem dX11_firstOfBest_58 : decode cX11_firstOfBest 58 = .ok (.ireturn, 1) := by decide +kernel
theorem dX11_firstOfBest_59 : decode cX11_firstOfBest 59 = .ok (.iinc 4 1, 3) := by decide +kernel
theorem dX11_firstOfBest_62 : decode cX11_firstOfBest 62 = .ok (.goto (-59), 3) := by decide +kernel
theorem dX11_firstOfBest_65 : decode cX11_firstOfBest 65 = .ok (.bipush (-5), 2) := by decide +kernel
theorem dX11_firstOfBest_67 : decode cX11_firstOfBest 67 = .ok (.ireturn, 1) := by decide +kernel
theorem dX11_isFree_0 : decode cX11_isFree 0 = .ok (.iload_n 1, 1) := by decide +kernel
theorem dX11_isFree_1 : decode cX11_isFree 1 = .ok (.iload_n 2, 1) := by decide +kernel
theorem dX11_isFree_2 : decode cX11_isFree 2 = .ok (.iconst (-1), 1) := by decide +kernel
theorem dX11_isFree_3 : decode cX11_isFree 3 = .ok (.ixor, 1) := by decide +kernel
theorem dX11_isFree_4 : decode cX11_isFree 4 = .ok (.iand, 1) := by decide +kernel
theorem dX11_isFree_5 : decode cX11_isFree 5 = .ok (.iconst 1, 1) := by decide +kernel
theorem dX11_isFree_6 : decode cX11_isFree 6 = .ok (.iload_n 0, 1) := by decide +kernel
theorem dX11_isFree_7 : decode cX11_isFree 7 = .ok (.ishl, 1) := by decide +kernel
theorem dX11_isFree_8 : decode cX11_isFree 8 = .ok (.iand, 1) := by decide +kernel
theorem dX11_isFree_9 : decode cX11_isFree 9 = .ok (.ifCond .eq 7, 3) := by decide +kernel
theorem dX11_isFree_12 : decode cX11_isFree 12 = .ok (.iconst 1, 1) := by decide +kernel
theorem dX11_isFree_13 : decode cX11_isFree 13 = .ok (.goto 4, 3) := by decide +kernel
theorem dX11_isFree_16 : decode cX11_isFree 16 = .ok (.iconst 0, 1) := by decide +kernel
theorem dX11_isFree_17 : decode cX11_isFree 17 = .ok (.ireturn, 1) := by decide +kernel
theorem dX11_worst_0 : decode cX11_worst 0 = .ok (.aload_n 0, 1) := by decide +kernel
theorem dX11_worst_1 : decode cX11_worst 1 = .ok (.invokevirtual 206, 3) := by decide +kernel
theorem dX11_worst_4 : decode cX11_worst 4 = .ok (.bipush (-5), 2) := by decide +kernel
theorem dX11_worst_6 : decode cX11_worst 6 = .ok (.istore_n 1, 1) := by decide +kernel
theorem dX11_worst_7 : decode cX11_worst 7 = .ok (.bipush 6, 2) := by decide +kernel
theorem dX11_worst_9 : decode cX11_worst 9 = .ok (.istore_n 2, 1) := by decide +kernel
theorem dX11_worst_10 : decode cX11_worst 10 = .ok (.iconst 0, 1) := by decide +kernel
theorem dX11_worst_11 : decode cX11_worst 11 = .ok (.istore_n 3, 1) := by decide +kernel
theorem dX11_worst_12 : decode cX11_worst 12 = .ok (.iload_n 3, 1) := by decide +kernel
theorem dX11_worst_13 : decode cX11_worst 13 = .ok (.aload_n 0, 1) := by decide +kernel
theorem dX11_worst_14 : decode cX11_worst 14 = .ok (.getfield 12, 3) := by decide +kernel
theorem dX11_worst_17 : decode cX11_worst 17 = .ok (.getfield 75, 3) := by decide +kernel
theorem dX11_worst_20 : decode cX11_worst 20 = .ok (.if_icmp .ge 44, 3) := by decide +kernel
theorem dX11_worst_23 : decode cX11_worst 23 = .ok (.aload_n 0, 1) := by decide +kernel
theorem dX11_worst_24 : decode cX11_worst 24 = .ok (.getfield 12, 3) := by decide +kernel
theorem dX11_worst_27 : decode cX11_worst 27 = .ok (.getfield 102, 3) := by decide +kernel
theorem dX11_worst_30 : decode cX11_worst 30 = .ok (.iload_n 3, 1) := by decide +kernel
theorem dX11_worst_31 : decode cX11_worst 31 = .ok (.baload, 1) := by decide +kernel
theorem dX11_worst_32 : decode cX11_worst 32 = .ok (.ifCond .eq 8, 3) := by decide +kernel
theorem dX11_worst_35 : decode cX11_worst 35 = .ok (.bipush 6, 2) := by decide +kernel
theorem dX11_worst_37 : decode cX11_worst 37 = .ok (.goto 8, 3) := by decide +kernel
theorem dX11_worst_40 : decode cX11_worst 40 = .ok (.aload_n 0, 1) := by decide +kernel
theorem dX11_worst_41 : decode cX11_worst 41 = .ok (.iload_n 3, 1) := by decide +kernel
theorem dX11_worst_42 : decode cX11_worst 42 = .ok (.invokevirtual 182, 3) := by decide +kernel
theorem dX11_worst_45 : decode cX11_worst 45 = .ok (.istore 4, 2) := by decide +kernel
theorem dX11_worst_47 : decode cX11_worst 47 = .ok (.iload 4, 2) := by decide +kernel
theorem dX11_worst_49 : decode cX11_worst 49 = .ok (.iload_n 2, 1) := by decide +kernel
theorem dX11_worst_50 : decode cX11_worst 50 = .ok (.if_icmp .ge 8, 3) := by decide +kernel
theorem dX11_worst_53 : decode cX11_worst 53 = .ok (.iload 4, 2) := by decide +kernel
theorem dX11_worst_55 : decode cX11_worst 55 = .ok (.istore_n 2, 1) := by decide +kernel
theorem dX11_worst_56 : decode cX11_worst 56 = .ok (.iload_n 3, 1) := by decide +kernel
theorem dX11_worst_57 : decode cX11_worst 57 = .ok (.istore_n 1, 1) := by decide +kernel
theorem dX11_worst_58 : decode cX11_worst 58 = .ok (.iinc 3 1, 3) := by decide +kernel
theorem dX11_worst_61 : decode cX11_worst 61 = .ok (.goto (-49), 3) := by decide +kernel
theorem dX11_worst_64 : decode cX11_worst 64 = .ok (.iload_n 1, 1) := by decide +kernel
theorem dX11_worst_65 : decode cX11_worst 65 = .ok (.ireturn, 1) := by decide +kernel
theorem dX11_bearingWithout_0 : decode cX11_bearingWithout 0 = .ok (.aload_n 0, 1) := by decide +kernel
theorem dX11_bearingWithout_1 : decode cX11_bearingWithout 1 = .ok (.getfield 12, 3) := by decide +kernel
theorem dX11_bearingWithout_4 : decode cX11_bearingWithout 4 = .ok (.iload_n 1, 1) := by decide +kernel
theorem dX11_bearingWithout_5 : decode cX11_bearingWithout 5 = .ok (.invokevirtual 87, 3) := by decide +kernel
theorem dX11_bearingWithout_8 : decode cX11_bearingWithout 8 = .ok (.ifCond .ne 6, 3) := by decide +kernel
theorem dX11_bearingWithout_11 : decode cX11_bearingWithout 11 = .ok (.bipush (-5), 2) := by decide +kernel
theorem dX11_bearingWithout_13 : decode cX11_bearingWithout 13 = .ok (.ireturn, 1) := by decide +kernel
theorem dX11_bearingWithout_14 : decode cX11_bearingWithout 14 = .ok (.aload_n 0, 1) := by decide +kernel
theorem dX11_bearingWithout_15 : decode cX11_bearingWithout 15 = .ok (.aload_n 0, 1) := by decide +kernel
theorem dX11_bearingWithout_16 : decode cX11_bearingWithout 16 = .ok (.getfield 12, 3) := by decide +kernel
theorem dX11_bearingWithout_19 : decode cX11_bearingWithout 19 = .ok (.invokevirtual 209, 3) := by decide +kernel
theorem dX11_bearingWithout_22 : decode cX11_bearingWithout 22 = .ok (.iconst 1, 1) := by decide +kernel
theorem dX11_bearingWithout_23 : decode cX11_bearingWithout 23 = .ok (.iload_n 1, 1) := by decide +kernel
theorem dX11_bearingWithout_24 : decode cX11_bearingWithout 24 = .ok (.ishl, 1) := by decide +kernel
theorem dX11_bearingWithout_25 : decode cX11_bearingWithout 25 = .ok (.iconst (-1), 1) := by decide +kernel
theorem dX11_bearingWithout_26 : decode cX11_bearingWithout 26 = .ok (.ixor, 1) := by decide +kernel
theorem dX11_bearingWithout_27 : decode cX11_bearingWithout 27 = .ok (.iand, 1) := by decide +kernel
theorem dX11_bearingWithout_28 : decode cX11_bearingWithout 28 = .ok (.invokevirtual 212, 3) := by decide +kernel
theorem dX11_bearingWithout_31 : decode cX11_bearingWithout 31 = .ok (.ldc 215, 2) := by decide +kernel
theorem dX11_bearingWithout_33 : decode cX11_bearingWithout 33 = .ok (.idiv, 1) := by decide +kernel
theorem dX11_bearingWithout_34 : decode cX11_bearingWithout 34 = .ok (.ireturn, 1) := by decide +kernel
theorem dX11_turn_0 : decode cX11_turn 0 = .ok (.iload_n 1, 1) := by decide +kernel
theorem dX11_turn_1 : decode cX11_turn 1 = .ok (.invokestatic 118, 3) := by decide +kernel
theorem dX11_turn_4 : decode cX11_turn 4 = .ok (.ifCond .eq 13, 3) := by decide +kernel
theorem dX11_turn_7 : decode cX11_turn 7 = .ok (.iload_n 3, 1) := by decide +kernel
theorem dX11_turn_8 : decode cX11_turn 8 = .ok (.iconst (-1), 1) := by decide +kernel
theorem dX11_turn_9 : decode cX11_turn 9 = .ok (.if_icmp .lt 8, 3) := by decide +kernel
theorem dX11_turn_12 : decode cX11_turn 12 = .ok (.iload_n 3, 1) := by decide +kernel
theorem dX11_turn_13 : decode cX11_turn 13 = .ok (.iconst 3, 1) := by decide +kernel
theorem dX11_turn_14 : decode cX11_turn 14 = .ok (.if_icmp .lt 5, 3) := by decide +kernel
theorem dX11_turn_17 : decode cX11_turn 17 = .ok (.iconst (-1), 1) := by decide +kernel
theorem dX11_turn_18 : decode cX11_turn 18 = .ok (.ireturn, 1) := by decide +kernel
theorem dX11_turn_19 : decode cX11_turn 19 = .ok (.iload_n 2, 1) := by decide +kernel
theorem dX11_turn_20 : decode cX11_turn 20 = .ok (.iconst 1, 1) := by decide +kernel
theorem dX11_turn_21 : decode cX11_turn 21 = .ok (.if_icmp .lt 8, 3) := by decide +kernel
theorem dX11_turn_24 : decode cX11_turn 24 = .ok (.iload_n 2, 1) := by decide +kernel
theorem dX11_turn_25 : decode cX11_turn 25 = .ok (.iconst 3, 1) := by decide +kernel
theorem dX11_turn_26 : decode cX11_turn 26 = .ok (.if_icmp .le 6, 3) := by decide +kernel
theorem dX11_turn_29 : decode cX11_turn 29 = .ok (.bipush (-2), 2) := by decide +kernel
theorem dX11_turn_31 : decode cX11_turn 31 = .ok (.ireturn, 1) := by decide +kernel
theorem dX11_turn_32 : decode cX11_turn 32 = .ok (.aload_n 0, 1) := by decide +kernel
theorem dX11_turn_33 : decode cX11_turn 33 = .ok (.getfield 12, 3) := by decide +kernel
theorem dX11_turn_36 : decode cX11_turn 36 = .ok (.getfield 75, 3) := by decide +kernel
theorem dX11_turn_39 : decode cX11_turn 39 = .ok (.ifCond .eq 8, 3) := by decide +kernel
theorem dX11_turn_42 : decode cX11_turn 42 = .ok (.iload_n 3, 1) := by decide +kernel
theorem dX11_turn_43 : decode cX11_turn 43 = .ok (.iload_n 2, 1) := by decide +kernel
theorem dX11_turn_44 : decode cX11_turn 44 = .ok (.if_icmp .lt 6, 3) := by decide +kernel
theorem dX11_turn_47 : decode cX11_turn 47 = .ok (.bipush (-5), 2) := by decide +kernel
theorem dX11_turn_49 : decode cX11_turn 49 = .ok (.ireturn, 1) := by decide +kernel
theorem dX11_turn_50 : decode cX11_turn 50 = .ok (.aload_n 0, 1) := by decide +kernel
theorem dX11_turn_51 : decode cX11_turn 51 = .ok (.iload_n 1, 1) := by decide +kernel
theorem dX11_turn_52 : decode cX11_turn 52 = .ok (.iload_n 2, 1) := by decide +kernel
theorem dX11_turn_53 : decode cX11_turn 53 = .ok (.invokevirtual 231, 3) := by decide +kernel
theorem dX11_turn_56 : decode cX11_turn 56 = .ok (.istore 4, 2) := by decide +kernel
theorem dX11_turn_58 : decode cX11_turn 58 = .ok (.iload_n 3, 1) := by decide +kernel
theorem dX11_turn_59 : decode cX11_turn 59 = .ok (.iconst (-1), 1) := by decide +kernel
theorem dX11_turn_60 : decode cX11_turn 60 = .ok (.if_icmp .ne 14, 3) := by decide +kernel
theorem dX11_turn_63 : decode cX11_turn 63 = .ok (.aload_n 0, 1) := by decide +kernel
theorem dX11_turn_64 : decode cX11_turn 64 = .ok (.iload_n 1, 1) := by decide +kernel
theorem dX11_turn_65 : decode cX11_turn 65 = .ok (.iload_n 2, 1) := by decide +kernel
theorem dX11_turn_66 : decode cX11_turn 66 = .ok (.iload 4, 2) := by decide +kernel
theorem dX11_turn_68 : decode cX11_turn 68 = .ok (.invokevirtual 234, 3) := by decide +kernel
theorem dX11_turn_71 : decode cX11_turn 71 = .ok (.goto 11, 3) := by decide +kernel
theorem dX11_turn_74 : decode cX11_turn 74 = .ok (.aload_n 0, 1) := by decide +kernel
theorem dX11_turn_75 : decode cX11_turn 75 = .ok (.iload 4, 2) := by decide +kernel
theorem dX11_turn_77 : decode cX11_turn 77 = .ok (.iload_n 2, 1) := by decide +kernel
theorem dX11_turn_78 : decode cX11_turn 78 = .ok (.iload_n 3, 1) := by decide +kernel
theorem dX11_turn_79 : decode cX11_turn 79 = .ok (.invokevirtual 237, 3) := by decide +kernel
theorem dX11_turn_82 : decode cX11_turn 82 = .ok (.ireturn, 1) := by decide +kernel
theorem dX11_turnAt_0 : decode cX11_turnAt 0 = .ok (.iload_n 1, 1) := by decide +kernel
theorem dX11_turnAt_1 : decode cX11_turnAt 1 = .ok (.istore 4, 2) := by decide +kernel
theorem dX11_turnAt_3 : decode cX11_turnAt 3 = .ok (.iload_n 2, 1) := by decide +kernel
theorem dX11_turnAt_4 : decode cX11_turnAt 4 = .ok (.iconst 1, 1) := by decide +kernel
theorem dX11_turnAt_5 : decode cX11_turnAt 5 = .ok (.isub, 1) := by decide +kernel
theorem dX11_turnAt_6 : decode cX11_turnAt 6 = .ok (.istore 5, 2) := by decide +kernel
theorem dX11_turnAt_8 : decode cX11_turnAt 8 = .ok (.iload 5, 2) := by decide +kernel
theorem dX11_turnAt_10 : decode cX11_turnAt 10 = .ok (.iload_n 3, 1) := by decide +kernel
theorem dX11_turnAt_11 : decode cX11_turnAt 11 = .ok (.if_icmp .le 25, 3) := by decide +kernel
theorem dX11_turnAt_14 : decode cX11_turnAt 14 = .ok (.iload 4, 2) := by decide +kernel
theorem dX11_turnAt_16 : decode cX11_turnAt 16 = .ok (.iconst 1, 1) := by decide +kernel
theorem dX11_turnAt_17 : decode cX11_turnAt 17 = .ok (.aload_n 0, 1) := by decide +kernel
theorem dX11_turnAt_18 : decode cX11_turnAt 18 = .ok (.getfield 12, 3) := by decide +kernel
theorem dX11_turnAt_21 : decode cX11_turnAt 21 = .ok (.getfield 75, 3) := by decide +kernel
theorem dX11_turnAt_24 : decode cX11_turnAt 24 = .ok (.invokestatic 223, 3) := by decide +kernel
theorem dX11_turnAt_27 : decode cX11_turnAt 27 = .ok (.idiv, 1) := by decide +kernel
theorem dX11_turnAt_28 : decode cX11_turnAt 28 = .ok (.istore 4, 2) := by decide +kernel
theorem dX11_turnAt_30 : decode cX11_turnAt 30 = .ok (.iinc 5 (-1), 3) := by decide +kernel
theorem dX11_turnAt_33 : decode cX11_turnAt 33 = .ok (.goto (-25), 3) := by decide +kernel
theorem dX11_turnAt_36 : decode cX11_turnAt 36 = .ok (.iload 4, 2) := by decide +kernel
theorem dX11_turnAt_38 : decode cX11_turnAt 38 = .ok (.iconst 1, 1) := by decide +kernel
theorem dX11_turnAt_39 : decode cX11_turnAt 39 = .ok (.aload_n 0, 1) := by decide +kernel
theorem dX11_turnAt_40 : decode cX11_turnAt 40 = .ok (.getfield 12, 3) := by decide +kernel
theorem dX11_turnAt_43 : decode cX11_turnAt 43 = .ok (.getfield 75, 3) := by decide +kernel
theorem dX11_turnAt_46 : decode cX11_turnAt 46 = .ok (.invokestatic 223, 3) := by decide +kernel
theorem dX11_turnAt_49 : decode cX11_turnAt 49 = .ok (.irem, 1) := by decide +kernel
theorem dX11_turnAt_50 : decode cX11_turnAt 50 = .ok (.ireturn, 1) := by decide +kernel
theorem dX11_firstOfTurns_0 : decode cX11_firstOfTurns 0 = .ok (.iconst 1, 1) := by decide +kernel
theorem dX11_firstOfTurns_1 : decode cX11_firstOfTurns 1 = .ok (.istore_n 3, 1) := by decide +kernel
theorem dX11_firstOfTurns_2 : decode cX11_firstOfTurns 2 = .ok (.iconst 0, 1) := by decide +kernel
theorem dX11_firstOfTurns_3 : decode cX11_firstOfTurns 3 = .ok (.istore 4, 2) := by decide +kernel
theorem dX11_firstOfTurns_5 : decode cX11_firstOfTurns 5 = .ok (.iload 4, 2) := by decide +kernel
theorem dX11_firstOfTurns_7 : decode cX11_firstOfTurns 7 = .ok (.iload_n 2, 1) := by decide +kernel
theorem dX11_firstOfTurns_8 : decode cX11_firstOfTurns 8 = .ok (.if_icmp .ge 19, 3) := by decide +kernel
theorem dX11_firstOfTurns_11 : decode cX11_firstOfTurns 11 = .ok (.iload_n 3, 1) := by decide +kernel
theorem dX11_firstOfTurns_12 : decode cX11_firstOfTurns 12 = .ok (.aload_n 0, 1) := by decide +kernel
theorem dX11_firstOfTurns_13 : decode cX11_firstOfTurns 13 = .ok (.getfield 12, 3) := by decide +kernel
theorem dX11_firstOfTurns_16 : decode cX11_firstOfTurns 16 = .ok (.getfield 75, 3) := by decide +kernel
theorem dX11_firstOfTurns_19 : decode cX11_firstOfTurns 19 = .ok (.imul, 1) := by decide +kernel
theorem dX11_firstOfTurns_20 : decode cX11_firstOfTurns 20 = .ok (.istore_n 3, 1) := by decide +kernel
theorem dX11_firstOfTurns_21 : decode cX11_firstOfTurns 21 = .ok (.iinc 4 1, 3) := by decide +kernel
theorem dX11_firstOfTurns_24 : decode cX11_firstOfTurns 24 = .ok (.goto (-19), 3) := by decide +kernel
theorem dX11_firstOfTurns_27 : decode cX11_firstOfTurns 27 = .ok (.iconst 0, 1) := by decide +kernel
theorem dX11_firstOfTurns_28 : decode cX11_firstOfTurns 28 = .ok (.istore 4, 2) := by decide +kernel
theorem dX11_firstOfTurns_30 : decode cX11_firstOfTurns 30 = .ok (.iconst (-1), 1) := by decide +kernel
theorem dX11_firstOfTurns_31 : decode cX11_firstOfTurns 31 = .ok (.istore 5, 2) := by decide +kernel
theorem dX11_firstOfTurns_33 : decode cX11_firstOfTurns 33 = .ok (.iconst 0, 1) := by decide +kernel
theorem dX11_firstOfTurns_34 : decode cX11_firstOfTurns 34 = .ok (.istore 6, 2) := by decide +kernel
theorem dX11_firstOfTurns_36 : decode cX11_firstOfTurns 36 = .ok (.iload 6, 2) := by decide +kernel
theorem dX11_firstOfTurns_38 : decode cX11_firstOfTurns 38 = .ok (.iload_n 3, 1) := by decide +kernel
theorem dX11_firstOfTurns_39 : decode cX11_firstOfTurns 39 = .ok (.if_icmp .ge 40, 3) := by decide +kernel
theorem dX11_firstOfTurns_42 : decode cX11_firstOfTurns 42 = .ok (.iload 5, 2) := by decide +kernel
theorem dX11_firstOfTurns_44 : decode cX11_firstOfTurns 44 = .ok (.iload_n 2, 1) := by decide +kernel
theorem dX11_firstOfTurns_45 : decode cX11_firstOfTurns 45 = .ok (.if_icmp .ge 34, 3) := by decide +kernel
theorem dX11_firstOfTurns_48 : decode cX11_firstOfTurns 48 = .ok (.aload_n 0, 1) := by decide +kernel
theorem dX11_firstOfTurns_49 : decode cX11_firstOfTurns 49 = .ok (.iload_n 1, 1) := by decide +kernel
theorem dX11_firstOfTurns_50 : decode cX11_firstOfTurns 50 = .ok (.iload_n 2, 1) := by decide +kernel
theorem dX11_firstOfTurns_51 : decode cX11_firstOfTurns 51 = .ok (.iload 6, 2) := by decide +kernel
theorem dX11_firstOfTurns_53 : decode cX11_firstOfTurns 53 = .ok (.invokevirtual 234, 3) := by decide +kernel
theorem dX11_firstOfTurns_56 : decode cX11_firstOfTurns 56 = .ok (.istore 7, 2) := by decide +kernel
theorem dX11_firstOfTurns_58 : decode cX11_firstOfTurns 58 = .ok (.iload 7, 2) := by decide +kernel
theorem dX11_firstOfTurns_60 : decode cX11_firstOfTurns 60 = .ok (.iload 5, 2) := by decide +kernel
theorem dX11_firstOfTurns_62 : decode cX11_firstOfTurns 62 = .ok (.if_icmp .le 11, 3) := by decide +kernel
theorem dX11_firstOfTurns_65 : decode cX11_firstOfTurns 65 = .ok (.iload 7, 2) := by decide +kernel
theorem dX11_firstOfTurns_67 : decode cX11_firstOfTurns 67 = .ok (.istore 5, 2) := by decide +kernel
theorem dX11_firstOfTurns_69 : decode cX11_firstOfTurns 69 = .ok (.iload 6, 2) := by decide +kernel
theorem dX11_firstOfTurns_71 : decode cX11_firstOfTurns 71 = .ok (.istore 4, 2) := by decide +kernel
theorem dX11_firstOfTurns_73 : decode cX11_firstOfTurns 73 = .ok (.iinc 6 1, 3) := by decide +kernel
theorem dX11_firstOfTurns_76 : decode cX11_firstOfTurns 76 = .ok (.goto (-40), 3) := by decide +kernel
theorem dX11_firstOfTurns_79 : decode cX11_firstOfTurns 79 = .ok (.iload 4, 2) := by decide +kernel
theorem dX11_firstOfTurns_81 : decode cX11_firstOfTurns 81 = .ok (.ireturn, 1) := by decide +kernel
theorem dX11_bearingByTurns_0 : decode cX11_bearingByTurns 0 = .ok (.aload_n 0, 1) := by decide +kernel
theorem dX11_bearingByTurns_1 : decode cX11_bearingByTurns 1 = .ok (.getfield 21, 3) := by decide +kernel
theorem dX11_bearingByTurns_4 : decode cX11_bearingByTurns 4 = .ok (.aload_n 0, 1) := by decide +kernel
theorem dX11_bearingByTurns_5 : decode cX11_bearingByTurns 5 = .ok (.getfield 12, 3) := by decide +kernel
theorem dX11_bearingByTurns_8 : decode cX11_bearingByTurns 8 = .ok (.invokevirtual 198, 3) := by decide +kernel
theorem dX11_bearingByTurns_11 : decode cX11_bearingByTurns 11 = .ok (.iconst 0, 1) := by decide +kernel
theorem dX11_bearingByTurns_12 : decode cX11_bearingByTurns 12 = .ok (.istore 4, 2) := by decide +kernel
theorem dX11_bearingByTurns_14 : decode cX11_bearingByTurns 14 = .ok (.iconst 0, 1) := by decide +kernel
theorem dX11_bearingByTurns_15 : decode cX11_bearingByTurns 15 = .ok (.istore 5, 2) := by decide +kernel
theorem dX11_bearingByTurns_17 : decode cX11_bearingByTurns 17 = .ok (.iload 5, 2) := by decide +kernel
theorem dX11_bearingByTurns_19 : decode cX11_bearingByTurns 19 = .ok (.iload_n 2, 1) := by decide +kernel
theorem dX11_bearingByTurns_20 : decode cX11_bearingByTurns 20 = .ok (.if_icmp .ge 46, 3) := by decide +kernel
theorem dX11_bearingByTurns_23 : decode cX11_bearingByTurns 23 = .ok (.iload 4, 2) := by decide +kernel
theorem dX11_bearingByTurns_25 : decode cX11_bearingByTurns 25 = .ok (.aload_n 0, 1) := by decide +kernel
theorem dX11_bearingByTurns_26 : decode cX11_bearingByTurns 26 = .ok (.getfield 21, 3) := by decide +kernel
theorem dX11_bearingByTurns_29 : decode cX11_bearingByTurns 29 = .ok (.iload_n 1, 1) := by decide +kernel
theorem dX11_bearingByTurns_30 : decode cX11_bearingByTurns 30 = .ok (.aload_n 0, 1) := by decide +kernel
theorem dX11_bearingByTurns_31 : decode cX11_bearingByTurns 31 = .ok (.iload_n 3, 1) := by decide +kernel
theorem dX11_bearingByTurns_32 : decode cX11_bearingByTurns 32 = .ok (.iload_n 2, 1) := by decide +kernel
theorem dX11_bearingByTurns_33 : decode cX11_bearingByTurns 33 = .ok (.iload 5, 2) := by decide +kernel
theorem dX11_bearingByTurns_35 : decode cX11_bearingByTurns 35 = .ok (.invokevirtual 237, 3) := by decide +kernel
theorem dX11_bearingByTurns_38 : decode cX11_bearingByTurns 38 = .ok (.invokevirtual 202, 3) := by decide +kernel
theorem dX11_bearingByTurns_41 : decode cX11_bearingByTurns 41 = .ok (.invokestatic 106, 3) := by decide +kernel
theorem dX11_bearingByTurns_44 : decode cX11_bearingByTurns 44 = .ok (.iadd, 1) := by decide +kernel
theorem dX11_bearingByTurns_45 : decode cX11_bearingByTurns 45 = .ok (.istore 4, 2) := by decide +kernel
theorem dX11_bearingByTurns_47 : decode cX11_bearingByTurns 47 = .ok (.aload_n 0, 1) := by decide +kernel
theorem dX11_bearingByTurns_48 : decode cX11_bearingByTurns 48 = .ok (.getfield 21, 3) := by decide +kernel
theorem dX11_bearingByTurns_51 : decode cX11_bearingByTurns 51 = .ok (.dup, 1) := by decide +kernel
theorem dX11_bearingByTurns_52 : decode cX11_bearingByTurns 52 = .ok (.getfield 163, 3) := by decide +kernel
theorem dX11_bearingByTurns_55 : decode cX11_bearingByTurns 55 = .ok (.iconst 1, 1) := by decide +kernel
theorem dX11_bearingByTurns_56 : decode cX11_bearingByTurns 56 = .ok (.iadd, 1) := by decide +kernel
theorem dX11_bearingByTurns_57 : decode cX11_bearingByTurns 57 = .ok (.putfield 163, 3) := by decide +kernel
theorem dX11_bearingByTurns_60 : decode cX11_bearingByTurns 60 = .ok (.iinc 5 1, 3) := by decide +kernel
theorem dX11_bearingByTurns_63 : decode cX11_bearingByTurns 63 = .ok (.goto (-46), 3) := by decide +kernel
theorem dX11_bearingByTurns_66 : decode cX11_bearingByTurns 66 = .ok (.iload 4, 2) := by decide +kernel
theorem dX11_bearingByTurns_68 : decode cX11_bearingByTurns 68 = .ok (.ireturn, 1) := by decide +kernel
theorem dX11_see_0 : decode cX11_see 0 = .ok (.iload_n 1, 1) := by decide +kernel
theorem dX11_see_1 : decode cX11_see 1 = .ok (.iconst (-1), 1) := by decide +kernel
theorem dX11_see_2 : decode cX11_see 2 = .ok (.if_icmp .ne 16, 3) := by decide +kernel
theorem dX11_see_5 : decode cX11_see 5 = .ok (.aload_n 0, 1) := by decide +kernel
theorem dX11_see_6 : decode cX11_see 6 = .ok (.getfield 12, 3) := by decide +kernel
theorem dX11_see_9 : decode cX11_see 9 = .ok (.getfield 240, 3) := by decide +kernel
theorem dX11_see_12 : decode cX11_see 12 = .ok (.iconst 0, 1) := by decide +kernel
theorem dX11_see_13 : decode cX11_see 13 = .ok (.putfield 244, 3) := by decide +kernel
theorem dX11_see_16 : decode cX11_see 16 = .ok (.iconst 0, 1) := by decide +kernel
theorem dX11_see_17 : decode cX11_see 17 = .ok (.ireturn, 1) := by decide +kernel
theorem dX11_see_18 : decode cX11_see 18 = .ok (.aload_n 0, 1) := by decide +kernel
theorem dX11_see_19 : decode cX11_see 19 = .ok (.getfield 12, 3) := by decide +kernel
theorem dX11_see_22 : decode cX11_see 22 = .ok (.iload_n 1, 1) := by decide +kernel
theorem dX11_see_23 : decode cX11_see 23 = .ok (.invokevirtual 87, 3) := by decide +kernel
theorem dX11_see_26 : decode cX11_see 26 = .ok (.ifCond .eq 10, 3) := by decide +kernel
theorem dX11_see_29 : decode cX11_see 29 = .ok (.iload_n 2, 1) := by decide +kernel
theorem dX11_see_30 : decode cX11_see 30 = .ok (.invokestatic 118, 3) := by decide +kernel
theorem dX11_see_33 : decode cX11_see 33 = .ok (.ifCond .ne 5, 3) := by decide +kernel
theorem dX11_see_36 : decode cX11_see 36 = .ok (.iconst (-1), 1) := by decide +kernel
theorem dX11_see_37 : decode cX11_see 37 = .ok (.ireturn, 1) := by decide +kernel
theorem dX11_see_38 : decode cX11_see 38 = .ok (.iload_n 3, 1) := by decide +kernel
theorem dX11_see_39 : decode cX11_see 39 = .ok (.ifCond .lt 9, 3) := by decide +kernel
theorem dX11_see_42 : decode cX11_see 42 = .ok (.iload_n 3, 1) := by decide +kernel
theorem dX11_see_43 : decode cX11_see 43 = .ok (.bipush 20, 2) := by decide +kernel
theorem dX11_see_45 : decode cX11_see 45 = .ok (.if_icmp .le 6, 3) := by decide +kernel
theorem dX11_see_48 : decode cX11_see 48 = .ok (.bipush (-2), 2) := by decide +kernel
theorem dX11_see_50 : decode cX11_see 50 = .ok (.ireturn, 1) := by decide +kernel
theorem dX11_see_51 : decode cX11_see 51 = .ok (.aload_n 0, 1) := by decide +kernel
theorem dX11_see_52 : decode cX11_see 52 = .ok (.getfield 12, 3) := by decide +kernel
theorem dX11_see_55 : decode cX11_see 55 = .ok (.getfield 240, 3) := by decide +kernel
theorem dX11_see_58 : decode cX11_see 58 = .ok (.iload_n 1, 1) := by decide +kernel
theorem dX11_see_59 : decode cX11_see 59 = .ok (.iload_n 2, 1) := by decide +kernel
theorem dX11_see_60 : decode cX11_see 60 = .ok (.iload_n 3, 1) := by decide +kernel
theorem dX11_see_61 : decode cX11_see 61 = .ok (.iload 4, 2) := by decide +kernel
theorem dX11_see_63 : decode cX11_see 63 = .ok (.invokestatic 106, 3) := by decide +kernel
theorem dX11_see_66 : decode cX11_see 66 = .ok (.invokevirtual 249, 3) := by decide +kernel
theorem dX11_see_69 : decode cX11_see 69 = .ok (.ireturn, 1) := by decide +kernel
theorem dX11_hates_0 : decode cX11_hates 0 = .ok (.aload_n 0, 1) := by decide +kernel
theorem dX11_hates_1 : decode cX11_hates 1 = .ok (.getfield 12, 3) := by decide +kernel
theorem dX11_hates_4 : decode cX11_hates 4 = .ok (.iload_n 1, 1) := by decide +kernel
theorem dX11_hates_5 : decode cX11_hates 5 = .ok (.invokevirtual 87, 3) := by decide +kernel
theorem dX11_hates_8 : decode cX11_hates 8 = .ok (.ifCond .eq 19, 3) := by decide +kernel
theorem dX11_hates_11 : decode cX11_hates 11 = .ok (.iload_n 2, 1) := by decide +kernel
theorem dX11_hates_12 : decode cX11_hates 12 = .ok (.invokestatic 118, 3) := by decide +kernel
theorem dX11_hates_15 : decode cX11_hates 15 = .ok (.ifCond .eq 12, 3) := by decide +kernel
theorem dX11_hates_18 : decode cX11_hates 18 = .ok (.iload_n 3, 1) := by decide +kernel
theorem dX11_hates_19 : decode cX11_hates 19 = .ok (.ifCond .eq 10, 3) := by decide +kernel
theorem dX11_hates_22 : decode cX11_hates 22 = .ok (.iload_n 3, 1) := by decide +kernel
theorem dX11_hates_23 : decode cX11_hates 23 = .ok (.iconst 1, 1) := by decide +kernel
theorem dX11_hates_24 : decode cX11_hates 24 = .ok (.if_icmp .eq 5, 3) := by decide +kernel
theorem dX11_hates_27 : decode cX11_hates 27 = .ok (.iconst (-1), 1) := by decide +kernel
theorem dX11_hates_28 : decode cX11_hates 28 = .ok (.ireturn, 1) := by decide +kernel
theorem dX11_hates_29 : decode cX11_hates 29 = .ok (.aload_n 0, 1) := by decide +kernel
theorem dX11_hates_30 : decode cX11_hates 30 = .ok (.getfield 21, 3) := by decide +kernel
theorem dX11_hates_33 : decode cX11_hates 33 = .ok (.aload_n 0, 1) := by decide +kernel
theorem dX11_hates_34 : decode cX11_hates 34 = .ok (.getfield 12, 3) := by decide +kernel
theorem dX11_hates_37 : decode cX11_hates 37 = .ok (.invokevirtual 198, 3) := by decide +kernel
theorem dX11_hates_40 : decode cX11_hates 40 = .ok (.iconst 0, 1) := by decide +kernel
theorem dX11_hates_41 : decode cX11_hates 41 = .ok (.istore 4, 2) := by decide +kernel
theorem dX11_hates_43 : decode cX11_hates 43 = .ok (.bipush (-5), 2) := by decide +kernel
theorem dX11_hates_45 : decode cX11_hates 45 = .ok (.istore 5, 2) := by decide +kernel
theorem dX11_hates_47 : decode cX11_hates 47 = .ok (.bipush 99, 2) := by decide +kernel
theorem dX11_hates_49 : decode cX11_hates 49 = .ok (.istore 6, 2) := by decide +kernel
theorem dX11_hates_51 : decode cX11_hates 51 = .ok (.iload 6, 2) := by decide +kernel
theorem dX11_hates_53 : decode cX11_hates 53 = .ok (.ifCond .lt 38, 3) := by decide +kernel
theorem dX11_hates_56 : decode cX11_hates 56 = .ok (.aload_n 0, 1) := by decide +kernel
theorem dX11_hates_57 : decode cX11_hates 57 = .ok (.getfield 21, 3) := by decide +kernel
theorem dX11_hates_60 : decode cX11_hates 60 = .ok (.getfield 121, 3) := by decide +kernel
theorem dX11_hates_63 : decode cX11_hates 63 = .ok (.iload_n 1, 1) := by decide +kernel
theorem dX11_hates_64 : decode cX11_hates 64 = .ok (.aaload, 1) := by decide +kernel
theorem dX11_hates_65 : decode cX11_hates 65 = .ok (.iload_n 2, 1) := by decide +kernel
theorem dX11_hates_66 : decode cX11_hates 66 = .ok (.iload 6, 2) := by decide +kernel
theorem dX11_hates_68 : decode cX11_hates 68 = .ok (.iastore, 1) := by decide +kernel
theorem dX11_hates_69 : decode cX11_hates 69 = .ok (.aload_n 0, 1) := by decide +kernel
theorem dX11_hates_70 : decode cX11_hates 70 = .ok (.iload_n 1, 1) := by decide +kernel
theorem dX11_hates_71 : decode cX11_hates 71 = .ok (.iload_n 2, 1) := by decide +kernel
theorem dX11_hates_72 : decode cX11_hates 72 = .ok (.invokevirtual 252, 3) := by decide +kernel
theorem dX11_hates_75 : decode cX11_hates 75 = .ok (.ifCond .eq 10, 3) := by decide +kernel
theorem dX11_hates_78 : decode cX11_hates 78 = .ok (.iinc 4 1, 3) := by decide +kernel
theorem dX11_hates_81 : decode cX11_hates 81 = .ok (.iload 6, 2) := by decide +kernel
theorem dX11_hates_83 : decode cX11_hates 83 = .ok (.istore 5, 2) := by decide +kernel
theorem dX11_hates_85 : decode cX11_hates 85 = .ok (.iinc 6 (-1), 3) := by decide +kernel
theorem dX11_hates_88 : decode cX11_hates 88 = .ok (.goto (-37), 3) := by decide +kernel
theorem dX11_hates_91 : decode cX11_hates 91 = .ok (.iload_n 3, 1) := by decide +kernel
theorem dX11_hates_92 : decode cX11_hates 92 = .ok (.ifCond .ne 8, 3) := by decide +kernel
theorem dX11_hates_95 : decode cX11_hates 95 = .ok (.iload 4, 2) := by decide +kernel
theorem dX11_hates_97 : decode cX11_hates 97 = .ok (.goto 5, 3) := by decide +kernel
theorem dX11_hates_100 : decode cX11_hates 100 = .ok (.iload 5, 2) := by decide +kernel
theorem dX11_hates_102 : decode cX11_hates 102 = .ok (.ireturn, 1) := by decide +kernel
theorem dX11_can_0 : decode cX11_can 0 = .ok (.aload_n 0, 1) := by decide +kernel
theorem dX11_can_1 : decode cX11_can 1 = .ok (.getfield 12, 3) := by decide +kernel
theorem dX11_can_4 : decode cX11_can 4 = .ok (.iload_n 1, 1) := by decide +kernel
theorem dX11_can_5 : decode cX11_can 5 = .ok (.invokevirtual 87, 3) := by decide +kernel
theorem dX11_can_8 : decode cX11_can 8 = .ok (.ifCond .eq 12, 3) := by decide +kernel
theorem dX11_can_11 : decode cX11_can 11 = .ok (.iload_n 2, 1) := by decide +kernel
theorem dX11_can_12 : decode cX11_can 12 = .ok (.ifCond .eq 10, 3) := by decide +kernel
theorem dX11_can_15 : decode cX11_can 15 = .ok (.iload_n 2, 1) := by decide +kernel
theorem dX11_can_16 : decode cX11_can 16 = .ok (.iconst 1, 1) := by decide +kernel
theorem dX11_can_17 : decode cX11_can 17 = .ok (.if_icmp .eq 5, 3) := by decide +kernel
theorem dX11_can_20 : decode cX11_can 20 = .ok (.iconst (-1), 1) := by decide +kernel
theorem dX11_can_21 : decode cX11_can 21 = .ok (.ireturn, 1) := by decide +kernel
theorem dX11_can_22 : decode cX11_can 22 = .ok (.aload_n 0, 1) := by decide +kernel
theorem dX11_can_23 : decode cX11_can 23 = .ok (.getfield 21, 3) := by decide +kernel
theorem dX11_can_26 : decode cX11_can 26 = .ok (.aload_n 0, 1) := by decide +kernel
theorem dX11_can_27 : decode cX11_can 27 = .ok (.getfield 12, 3) := by decide +kernel
theorem dX11_can_30 : decode cX11_can 30 = .ok (.invokevirtual 198, 3) := by decide +kernel
theorem dX11_can_33 : decode cX11_can 33 = .ok (.iconst 0, 1) := by decide +kernel
theorem dX11_can_34 : decode cX11_can 34 = .ok (.istore_n 3, 1) := by decide +kernel
theorem dX11_can_35 : decode cX11_can 35 = .ok (.bipush (-5), 2) := by decide +kernel
theorem dX11_can_37 : decode cX11_can 37 = .ok (.istore 4, 2) := by decide +kernel
theorem dX11_can_39 : decode cX11_can 39 = .ok (.bipush 9, 2) := by decide +kernel
theorem dX11_can_41 : decode cX11_can 41 = .ok (.istore 5, 2) := by decide +kernel
theorem dX11_can_43 : decode cX11_can 43 = .ok (.iload 5, 2) := by decide +kernel
theorem dX11_can_45 : decode cX11_can 45 = .ok (.ifCond .lt 54, 3) := by decide +kernel
theorem dX11_can_48 : decode cX11_can 48 = .ok (.aload_n 0, 1) := by decide +kernel
theorem dX11_can_49 : decode cX11_can 49 = .ok (.getfield 21, 3) := by decide +kernel
theorem dX11_can_52 : decode cX11_can 52 = .ok (.getfield 90, 3) := by decide +kernel
theorem dX11_can_55 : decode cX11_can 55 = .ok (.iload_n 1, 1) := by decide +kernel
theorem dX11_can_56 : decode cX11_can 56 = .ok (.aload_n 0, 1) := by decide +kernel
theorem dX11_can_57 : decode cX11_can 57 = .ok (.aload_n 0, 1) := by decide +kernel
theorem dX11_can_58 : decode cX11_can 58 = .ok (.getfield 12, 3) := by decide +kernel
theorem dX11_can_61 : decode cX11_can 61 = .ok (.getfield 90, 3) := by decide +kernel
theorem dX11_can_64 : decode cX11_can 64 = .ok (.iload_n 1, 1) := by decide +kernel
theorem dX11_can_65 : decode cX11_can 65 = .ok (.aaload, 1) := by decide +kernel
theorem dX11_can_66 : decode cX11_can 66 = .ok (.getfield 94, 3) := by decide +kernel
theorem dX11_can_69 : decode cX11_can 69 = .ok (.iload_n 1, 1) := by decide +kernel
theorem dX11_can_70 : decode cX11_can 70 = .ok (.iload 5, 2) := by decide +kernel
theorem dX11_can_72 : decode cX11_can 72 = .ok (.invokevirtual 79, 3) := by decide +kernel
theorem dX11_can_75 : decode cX11_can 75 = .ok (.aastore, 1) := by decide +kernel
theorem dX11_can_76 : decode cX11_can 76 = .ok (.aload_n 0, 1) := by decide +kernel
theorem dX11_can_77 : decode cX11_can 77 = .ok (.iload_n 1, 1) := by decide +kernel
theorem dX11_can_78 : decode cX11_can 78 = .ok (.bipush (-5), 2) := by decide +kernel
theorem dX11_can_80 : decode cX11_can 80 = .ok (.invokevirtual 252, 3) := by decide +kernel
theorem dX11_can_83 : decode cX11_can 83 = .ok (.ifCond .eq 10, 3) := by decide +kernel
theorem dX11_can_86 : decode cX11_can 86 = .ok (.iinc 3 1, 3) := by decide +kernel
theorem dX11_can_89 : decode cX11_can 89 = .ok (.iload 5, 2) := by decide +kernel
theorem dX11_can_91 : decode cX11_can 91 = .ok (.istore 4, 2) := by decide +kernel
theorem dX11_can_93 : decode cX11_can 93 = .ok (.iinc 5 (-1), 3) := by decide +kernel
theorem dX11_can_96 : decode cX11_can 96 = .ok (.goto (-53), 3) := by decide +kernel
theorem dX11_can_99 : decode cX11_can 99 = .ok (.iload_n 2, 1) := by decide +kernel
theorem dX11_can_100 : decode cX11_can 100 = .ok (.ifCond .ne 7, 3) := by decide +kernel
theorem dX11_can_103 : decode cX11_can 103 = .ok (.iload_n 3, 1) := by decide +kernel
theorem dX11_can_104 : decode cX11_can 104 = .ok (.goto 5, 3) := by decide +kernel
theorem dX11_can_107 : decode cX11_can 107 = .ok (.iload 4, 2) := by decide +kernel
theorem dX11_can_109 : decode cX11_can 109 = .ok (.ireturn, 1) := by decide +kernel
theorem dX11_isAsSeen_0 : decode cX11_isAsSeen 0 = .ok (.iconst 0, 1) := by decide +kernel
theorem dX11_isAsSeen_1 : decode cX11_isAsSeen 1 = .ok (.istore_n 3, 1) := by decide +kernel
theorem dX11_isAsSeen_2 : decode cX11_isAsSeen 2 = .ok (.iload_n 3, 1) := by decide +kernel
theorem dX11_isAsSeen_3 : decode cX11_isAsSeen 3 = .ok (.aload_n 0, 1) := by decide +kernel
theorem dX11_isAsSeen_4 : decode cX11_isAsSeen 4 = .ok (.getfield 12, 3) := by decide +kernel
theorem dX11_isAsSeen_7 : decode cX11_isAsSeen 7 = .ok (.getfield 240, 3) := by decide +kernel
theorem dX11_isAsSeen_10 : decode cX11_isAsSeen 10 = .ok (.getfield 244, 3) := by decide +kernel
theorem dX11_isAsSeen_13 : decode cX11_isAsSeen 13 = .ok (.if_icmp .ge 88, 3) := by decide +kernel
theorem dX11_isAsSeen_16 : decode cX11_isAsSeen 16 = .ok (.aload_n 0, 1) := by decide +kernel
theorem dX11_isAsSeen_17 : decode cX11_isAsSeen 17 = .ok (.getfield 12, 3) := by decide +kernel
theorem dX11_isAsSeen_20 : decode cX11_isAsSeen 20 = .ok (.getfield 240, 3) := by decide +kernel
theorem dX11_isAsSeen_23 : decode cX11_isAsSeen 23 = .ok (.getfield 255, 3) := by decide +kernel
theorem dX11_isAsSeen_26 : decode cX11_isAsSeen 26 = .ok (.iload_n 3, 1) := by decide +kernel
theorem dX11_isAsSeen_27 : decode cX11_isAsSeen 27 = .ok (.aaload, 1) := by decide +kernel
theorem dX11_isAsSeen_28 : decode cX11_isAsSeen 28 = .ok (.astore 4, 2) := by decide +kernel
theorem dX11_isAsSeen_30 : decode cX11_isAsSeen 30 = .ok (.aload 4, 2) := by decide +kernel
theorem dX11_isAsSeen_32 : decode cX11_isAsSeen 32 = .ok (.iconst 0, 1) := by decide +kernel
theorem dX11_isAsSeen_33 : decode cX11_isAsSeen 33 = .ok (.iaload, 1) := by decide +kernel
theorem dX11_isAsSeen_34 : decode cX11_isAsSeen 34 = .ok (.iload_n 1, 1) := by decide +kernel
theorem dX11_isAsSeen_35 : decode cX11_isAsSeen 35 = .ok (.if_icmp .ne 60, 3) := by decide +kernel
theorem dX11_isAsSeen_38 : decode cX11_isAsSeen 38 = .ok (.iload_n 2, 1) := by decide +kernel
theorem dX11_isAsSeen_39 : decode cX11_isAsSeen 39 = .ok (.bipush (-5), 2) := by decide +kernel
theorem dX11_isAsSeen_41 : decode cX11_isAsSeen 41 = .ok (.if_icmp .eq 11, 3) := by decide +kernel
theorem dX11_isAsSeen_44 : decode cX11_isAsSeen 44 = .ok (.aload 4, 2) := by decide +kernel
theorem dX11_isAsSeen_46 : decode cX11_isAsSeen 46 = .ok (.iconst 1, 1) := by decide +kernel
theorem dX11_isAsSeen_47 : decode cX11_isAsSeen 47 = .ok (.iaload, 1) := by decide +kernel
theorem dX11_isAsSeen_48 : decode cX11_isAsSeen 48 = .ok (.iload_n 2, 1) := by decide +kernel
theorem dX11_isAsSeen_49 : decode cX11_isAsSeen 49 = .ok (.if_icmp .ne 46, 3) := by decide +kernel
theorem dX11_isAsSeen_52 : decode cX11_isAsSeen 52 = .ok (.aload_n 0, 1) := by decide +kernel
theorem dX11_isAsSeen_53 : decode cX11_isAsSeen 53 = .ok (.getfield 21, 3) := by decide +kernel
theorem dX11_isAsSeen_56 : decode cX11_isAsSeen 56 = .ok (.aload_n 0, 1) := by decide +kernel
theorem dX11_isAsSeen_57 : decode cX11_isAsSeen 57 = .ok (.getfield 12, 3) := by decide +kernel
theorem dX11_isAsSeen_60 : decode cX11_isAsSeen 60 = .ok (.getfield 163, 3) := by decide +kernel
theorem dX11_isAsSeen_63 : decode cX11_isAsSeen 63 = .ok (.aload 4, 2) := by decide +kernel
theorem dX11_isAsSeen_65 : decode cX11_isAsSeen 65 = .ok (.iconst 2, 1) := by decide +kernel
theorem dX11_isAsSeen_66 : decode cX11_isAsSeen 66 = .ok (.iaload, 1) := by decide +kernel
theorem dX11_isAsSeen_67 : decode cX11_isAsSeen 67 = .ok (.iadd, 1) := by decide +kernel
theorem dX11_isAsSeen_68 : decode cX11_isAsSeen 68 = .ok (.putfield 163, 3) := by decide +kernel
theorem dX11_isAsSeen_71 : decode cX11_isAsSeen 71 = .ok (.aload_n 0, 1) := by decide +kernel
theorem dX11_isAsSeen_72 : decode cX11_isAsSeen 72 = .ok (.getfield 21, 3) := by decide +kernel
theorem dX11_isAsSeen_75 : decode cX11_isAsSeen 75 = .ok (.iload_n 1, 1) := by decide +kernel
theorem dX11_isAsSeen_76 : decode cX11_isAsSeen 76 = .ok (.aload 4, 2) := by decide +kernel
theorem dX11_isAsSeen_78 : decode cX11_isAsSeen 78 = .ok (.iconst 1, 1) := by decide +kernel
theorem dX11_isAsSeen_79 : decode cX11_isAsSeen 79 = .ok (.iaload, 1) := by decide +kernel
theorem dX11_isAsSeen_80 : decode cX11_isAsSeen 80 = .ok (.invokevirtual 256, 3) := by decide +kernel
theorem dX11_isAsSeen_83 : decode cX11_isAsSeen 83 = .ok (.invokestatic 106, 3) := by decide +kernel
theorem dX11_isAsSeen_86 : decode cX11_isAsSeen 86 = .ok (.aload 4, 2) := by decide +kernel
theorem dX11_isAsSeen_88 : decode cX11_isAsSeen 88 = .ok (.iconst 3, 1) := by decide +kernel
theorem dX11_isAsSeen_89 : decode cX11_isAsSeen 89 = .ok (.iaload, 1) := by decide +kernel
theorem dX11_isAsSeen_90 : decode cX11_isAsSeen 90 = .ok (.if_icmp .eq 5, 3) := by decide +kernel
theorem dX11_isAsSeen_93 : decode cX11_isAsSeen 93 = .ok (.iconst 0, 1) := by decide +kernel
theorem dX11_isAsSeen_94 : decode cX11_isAsSeen 94 = .ok (.ireturn, 1) := by decide +kernel
theorem dX11_isAsSeen_95 : decode cX11_isAsSeen 95 = .ok (.iinc 3 1, 3) := by decide +kernel
theorem dX11_isAsSeen_98 : decode cX11_isAsSeen 98 = .ok (.goto (-96), 3) := by decide +kernel
theorem dX11_isAsSeen_101 : decode cX11_isAsSeen 101 = .ok (.iconst 1, 1) := by decide +kernel
theorem dX11_isAsSeen_102 : decode cX11_isAsSeen 102 = .ok (.ireturn, 1) := by decide +kernel
theorem dX11_odds_0 : decode cX11_odds 0 = .ok (.iload_n 1, 1) := by decide +kernel
theorem dX11_odds_1 : decode cX11_odds 1 = .ok (.invokestatic 118, 3) := by decide +kernel
theorem dX11_odds_4 : decode cX11_odds 4 = .ok (.ifCond .ne 7, 3) := by decide +kernel
theorem dX11_odds_7 : decode cX11_odds 7 = .ok (.ldc2_w 259, 3) := by decide +kernel
theorem dX11_odds_10 : decode cX11_odds 10 = .ok (.lreturn, 1) := by decide +kernel
theorem dX11_odds_11 : decode cX11_odds 11 = .ok (.iconst 0, 1) := by decide +kernel
theorem dX11_odds_12 : decode cX11_odds 12 = .ok (.istore_n 3, 1) := by decide +kernel
theorem dX11_odds_13 : decode cX11_odds 13 = .ok (.iconst 0, 1) := by decide +kernel
theorem dX11_odds_14 : decode cX11_odds 14 = .ok (.istore 4, 2) := by decide +kernel
theorem dX11_odds_16 : decode cX11_odds 16 = .ok (.iload 4, 2) := by decide +kernel
theorem dX11_odds_18 : decode cX11_odds 18 = .ok (.aload_n 0, 1) := by decide +kernel
theorem dX11_odds_19 : decode cX11_odds 19 = .ok (.getfield 12, 3) := by decide +kernel
theorem dX11_odds_22 : decode cX11_odds 22 = .ok (.getfield 75, 3) := by decide +kernel
theorem dX11_odds_25 : decode cX11_odds 25 = .ok (.if_icmp .ge 25, 3) := by decide +kernel
theorem dX11_odds_28 : decode cX11_odds 28 = .ok (.iload_n 3, 1) := by decide +kernel
theorem dX11_odds_29 : decode cX11_odds 29 = .ok (.aload_n 0, 1) := by decide +kernel
theorem dX11_odds_30 : decode cX11_odds 30 = .ok (.getfield 12, 3) := by decide +kernel
theorem dX11_odds_33 : decode cX11_odds 33 = .ok (.iload 4, 2) := by decide +kernel
theorem dX11_odds_35 : decode cX11_odds 35 = .ok (.iload_n 1, 1) := by decide +kernel
theorem dX11_odds_36 : decode cX11_odds 36 = .ok (.invokevirtual 256, 3) := by decide +kernel
theorem dX11_odds_39 : decode cX11_odds 39 = .ok (.invokestatic 106, 3) := by decide +kernel
theorem dX11_odds_42 : decode cX11_odds 42 = .ok (.iadd, 1) := by decide +kernel
theorem dX11_odds_43 : decode cX11_odds 43 = .ok (.istore_n 3, 1) := by decide +kernel
theorem dX11_odds_44 : decode cX11_odds 44 = .ok (.iinc 4 1, 3) := by decide +kernel
theorem dX11_odds_47 : decode cX11_odds 47 = .ok (.goto (-31), 3) := by decide +kernel
theorem dX11_odds_50 : decode cX11_odds 50 = .ok (.aload_n 0, 1) := by decide +kernel
theorem dX11_odds_51 : decode cX11_odds 51 = .ok (.iload_n 3, 1) := by decide +kernel
theorem dX11_odds_52 : decode cX11_odds 52 = .ok (.iload_n 2, 1) := by decide +kernel
theorem dX11_odds_53 : decode cX11_odds 53 = .ok (.invokevirtual 261, 3) := by decide +kernel
theorem dX11_odds_56 : decode cX11_odds 56 = .ok (.lreturn, 1) := by decide +kernel
theorem dX11_mean_0 : decode cX11_mean 0 = .ok (.iload_n 1, 1) := by decide +kernel
theorem dX11_mean_1 : decode cX11_mean 1 = .ok (.invokestatic 118, 3) := by decide +kernel
theorem dX11_mean_4 : decode cX11_mean 4 = .ok (.ifCond .ne 7, 3) := by decide +kernel
theorem dX11_mean_7 : decode cX11_mean 7 = .ok (.ldc2_w 259, 3) := by decide +kernel
theorem dX11_mean_10 : decode cX11_mean 10 = .ok (.lreturn, 1) := by decide +kernel
theorem dX11_mean_11 : decode cX11_mean 11 = .ok (.iconst 0, 1) := by decide +kernel
theorem dX11_mean_12 : decode cX11_mean 12 = .ok (.istore_n 3, 1) := by decide +kernel
theorem dX11_mean_13 : decode cX11_mean 13 = .ok (.iconst 0, 1) := by decide +kernel
theorem dX11_mean_14 : decode cX11_mean 14 = .ok (.istore 4, 2) := by decide +kernel
theorem dX11_mean_16 : decode cX11_mean 16 = .ok (.iload 4, 2) := by decide +kernel
theorem dX11_mean_18 : decode cX11_mean 18 = .ok (.aload_n 0, 1) := by decide +kernel
theorem dX11_mean_19 : decode cX11_mean 19 = .ok (.getfield 12, 3) := by decide +kernel
theorem dX11_mean_22 : decode cX11_mean 22 = .ok (.getfield 75, 3) := by decide +kernel
theorem dX11_mean_25 : decode cX11_mean 25 = .ok (.if_icmp .ge 24, 3) := by decide +kernel
theorem dX11_mean_28 : decode cX11_mean 28 = .ok (.iload_n 3, 1) := by decide +kernel
theorem dX11_mean_29 : decode cX11_mean 29 = .ok (.aload_n 0, 1) := by decide +kernel
theorem dX11_mean_30 : decode cX11_mean 30 = .ok (.getfield 12, 3) := by decide +kernel
theorem dX11_mean_33 : decode cX11_mean 33 = .ok (.getfield 121, 3) := by decide +kernel
theorem dX11_mean_36 : decode cX11_mean 36 = .ok (.iload 4, 2) := by decide +kernel
theorem dX11_mean_38 : decode cX11_mean 38 = .ok (.aaload, 1) := by decide +kernel
theorem dX11_mean_39 : decode cX11_mean 39 = .ok (.iload_n 1, 1) := by decide +kernel
theorem dX11_mean_40 : decode cX11_mean 40 = .ok (.iaload, 1) := by decide +kernel
theorem dX11_mean_41 : decode cX11_mean 41 = .ok (.iadd, 1) := by decide +kernel
theorem dX11_mean_42 : decode cX11_mean 42 = .ok (.istore_n 3, 1) := by decide +kernel
theorem dX11_mean_43 : decode cX11_mean 43 = .ok (.iinc 4 1, 3) := by decide +kernel
theorem dX11_mean_46 : decode cX11_mean 46 = .ok (.goto (-30), 3) := by decide +kernel
theorem dX11_mean_49 : decode cX11_mean 49 = .ok (.aload_n 0, 1) := by decide +kernel
theorem dX11_mean_50 : decode cX11_mean 50 = .ok (.iload_n 3, 1) := by decide +kernel
theorem dX11_mean_51 : decode cX11_mean 51 = .ok (.iload_n 2, 1) := by decide +kernel
theorem dX11_mean_52 : decode cX11_mean 52 = .ok (.invokevirtual 261, 3) := by decide +kernel
theorem dX11_mean_55 : decode cX11_mean 55 = .ok (.lreturn, 1) := by decide +kernel
theorem dX11_ofAll_0 : decode cX11_ofAll 0 = .ok (.aload_n 0, 1) := by decide +kernel
theorem dX11_ofAll_1 : decode cX11_ofAll 1 = .ok (.getfield 12, 3) := by decide +kernel
theorem dX11_ofAll_4 : decode cX11_ofAll 4 = .ok (.getfield 75, 3) := by decide +kernel
theorem dX11_ofAll_7 : decode cX11_ofAll 7 = .ok (.istore_n 3, 1) := by decide +kernel
theorem dX11_ofAll_8 : decode cX11_ofAll 8 = .ok (.iload_n 3, 1) := by decide +kernel
theorem dX11_ofAll_9 : decode cX11_ofAll 9 = .ok (.ifCond .eq 12, 3) := by decide +kernel
theorem dX11_ofAll_12 : decode cX11_ofAll 12 = .ok (.iload_n 2, 1) := by decide +kernel
theorem dX11_ofAll_13 : decode cX11_ofAll 13 = .ok (.ifCond .eq 12, 3) := by decide +kernel
theorem dX11_ofAll_16 : decode cX11_ofAll 16 = .ok (.iload_n 2, 1) := by decide +kernel
theorem dX11_ofAll_17 : decode cX11_ofAll 17 = .ok (.iconst 1, 1) := by decide +kernel
theorem dX11_ofAll_18 : decode cX11_ofAll 18 = .ok (.if_icmp .eq 7, 3) := by decide +kernel
theorem dX11_ofAll_21 : decode cX11_ofAll 21 = .ok (.ldc2_w 259, 3) := by decide +kernel
theorem dX11_ofAll_24 : decode cX11_ofAll 24 = .ok (.lreturn, 1) := by decide +kernel
theorem dX11_ofAll_25 : decode cX11_ofAll 25 = .ok (.iload_n 3, 1) := by decide +kernel
theorem dX11_ofAll_26 : decode cX11_ofAll 26 = .ok (.istore 4, 2) := by decide +kernel
theorem dX11_ofAll_28 : decode cX11_ofAll 28 = .ok (.iload 4, 2) := by decide +kernel
theorem dX11_ofAll_30 : decode cX11_ofAll 30 = .ok (.iconst 1, 1) := by decide +kernel
theorem dX11_ofAll_31 : decode cX11_ofAll 31 = .ok (.if_icmp .le 23, 3) := by decide +kernel
theorem dX11_ofAll_34 : decode cX11_ofAll 34 = .ok (.iload_n 1, 1) := by decide +kernel
theorem dX11_ofAll_35 : decode cX11_ofAll 35 = .ok (.iload 4, 2) := by decide +kernel
theorem dX11_ofAll_37 : decode cX11_ofAll 37 = .ok (.irem, 1) := by decide +kernel
theorem dX11_ofAll_38 : decode cX11_ofAll 38 = .ok (.ifCond .ne 10, 3) := by decide +kernel
theorem dX11_ofAll_41 : decode cX11_ofAll 41 = .ok (.iload_n 3, 1) := by decide +kernel
theorem dX11_ofAll_42 : decode cX11_ofAll 42 = .ok (.iload 4, 2) := by decide +kernel
theorem dX11_ofAll_44 : decode cX11_ofAll 44 = .ok (.irem, 1) := by decide +kernel
theorem dX11_ofAll_45 : decode cX11_ofAll 45 = .ok (.ifCond .eq 9, 3) := by decide +kernel
theorem dX11_ofAll_48 : decode cX11_ofAll 48 = .ok (.iinc 4 (-1), 3) := by decide +kernel
theorem dX11_ofAll_51 : decode cX11_ofAll 51 = .ok (.goto (-23), 3) := by decide +kernel
theorem dX11_ofAll_54 : decode cX11_ofAll 54 = .ok (.iload_n 2, 1) := by decide +kernel
theorem dX11_ofAll_55 : decode cX11_ofAll 55 = .ok (.ifCond .ne 7, 3) := by decide +kernel
theorem dX11_ofAll_58 : decode cX11_ofAll 58 = .ok (.iload_n 1, 1) := by decide +kernel
theorem dX11_ofAll_59 : decode cX11_ofAll 59 = .ok (.goto 4, 3) := by decide +kernel
theorem dX11_ofAll_62 : decode cX11_ofAll 62 = .ok (.iload_n 3, 1) := by decide +kernel
theorem dX11_ofAll_63 : decode cX11_ofAll 63 = .ok (.iload 4, 2) := by decide +kernel
theorem dX11_ofAll_65 : decode cX11_ofAll 65 = .ok (.idiv, 1) := by decide +kernel
theorem dX11_ofAll_66 : decode cX11_ofAll 66 = .ok (.i2l, 1) := by decide +kernel
theorem dX11_ofAll_67 : decode cX11_ofAll 67 = .ok (.lreturn, 1) := by decide +kernel
theorem dX11_plan_0 : decode cX11_plan 0 = .ok (.iload_n 1, 1) := by decide +kernel
theorem dX11_plan_1 : decode cX11_plan 1 = .ok (.iconst (-1), 1) := by decide +kernel
theorem dX11_plan_2 : decode cX11_plan 2 = .ok (.if_icmp .ne 16, 3) := by decide +kernel
theorem dX11_plan_5 : decode cX11_plan 5 = .ok (.aload_n 0, 1) := by decide +kernel
theorem dX11_plan_6 : decode cX11_plan 6 = .ok (.getfield 12, 3) := by decide +kernel
theorem dX11_plan_9 : decode cX11_plan 9 = .ok (.getfield 265, 3) := by decide +kernel
theorem dX11_plan_12 : decode cX11_plan 12 = .ok (.iconst 0, 1) := by decide +kernel
theorem dX11_plan_13 : decode cX11_plan 13 = .ok (.putfield 244, 3) := by decide +kernel
theorem dX11_plan_16 : decode cX11_plan 16 = .ok (.iconst 0, 1) := by decide +kernel
theorem dX11_plan_17 : decode cX11_plan 17 = .ok (.ireturn, 1) := by decide +kernel
theorem dX11_plan_18 : decode cX11_plan 18 = .ok (.aload_n 0, 1) := by decide +kernel
theorem dX11_plan_19 : decode cX11_plan 19 = .ok (.iload_n 1, 1) := by decide +kernel
theorem dX11_plan_20 : decode cX11_plan 20 = .ok (.iload_n 2, 1) := by decide +kernel
theorem dX11_plan_21 : decode cX11_plan 21 = .ok (.invokevirtual 268, 3) := by decide +kernel
theorem dX11_plan_24 : decode cX11_plan 24 = .ok (.ifCond .ne 5, 3) := by decide +kernel
theorem dX11_plan_27 : decode cX11_plan 27 = .ok (.iconst (-1), 1) := by decide +kernel
theorem dX11_plan_28 : decode cX11_plan 28 = .ok (.ireturn, 1) := by decide +kernel
theorem dX11_plan_29 : decode cX11_plan 29 = .ok (.aload_n 0, 1) := by decide +kernel
theorem dX11_plan_30 : decode cX11_plan 30 = .ok (.getfield 12, 3) := by decide +kernel
theorem dX11_plan_33 : decode cX11_plan 33 = .ok (.getfield 265, 3) := by decide +kernel
theorem dX11_plan_36 : decode cX11_plan 36 = .ok (.iload_n 1, 1) := by decide +kernel
theorem dX11_plan_37 : decode cX11_plan 37 = .ok (.iload_n 2, 1) := by decide +kernel
theorem dX11_plan_38 : decode cX11_plan 38 = .ok (.iconst 0, 1) := by decide +kernel
theorem dX11_plan_39 : decode cX11_plan 39 = .ok (.iconst 0, 1) := by decide +kernel
theorem dX11_plan_40 : decode cX11_plan 40 = .ok (.invokevirtual 249, 3) := by decide +kernel
theorem dX11_plan_43 : decode cX11_plan 43 = .ok (.ireturn, 1) := by decide +kernel
theorem dX11_canPlan_0 : decode cX11_canPlan 0 = .ok (.iload_n 1, 1) := by decide +kernel
theorem dX11_canPlan_1 : decode cX11_canPlan 1 = .ok (.tableswitch 85 0 3 #[31, 33, 33, 42], 31) := by decide +kernel
theorem dX11_canPlan_32 : decode cX11_canPlan 32 = .ok (.iconst 1, 1) := by decide +kernel
theorem dX11_canPlan_33 : decode cX11_canPlan 33 = .ok (.ireturn, 1) := by decide +kernel
theorem dX11_canPlan_34 : decode cX11_canPlan 34 = .ok (.aload_n 0, 1) := by decide +kernel
theorem dX11_canPlan_35 : decode cX11_canPlan 35 = .ok (.getfield 12, 3) := by decide +kernel
theorem dX11_canPlan_38 : decode cX11_canPlan 38 = .ok (.iload_n 2, 1) := by decide +kernel
theorem dX11_canPlan_39 : decode cX11_canPlan 39 = .ok (.invokevirtual 87, 3) := by decide +kernel
theorem dX11_canPlan_42 : decode cX11_canPlan 42 = .ok (.ireturn, 1) := by decide +kernel
theorem dX11_canPlan_43 : decode cX11_canPlan 43 = .ok (.iload_n 2, 1) := by decide +kernel
theorem dX11_canPlan_44 : decode cX11_canPlan 44 = .ok (.ifCond .lt 40, 3) := by decide +kernel
theorem dX11_canPlan_47 : decode cX11_canPlan 47 = .ok (.iload_n 2, 1) := by decide +kernel
theorem dX11_canPlan_48 : decode cX11_canPlan 48 = .ok (.bipush 10, 2) := by decide +kernel
theorem dX11_canPlan_50 : decode cX11_canPlan 50 = .ok (.idiv, 1) := by decide +kernel
theorem dX11_canPlan_51 : decode cX11_canPlan 51 = .ok (.invokestatic 118, 3) := by decide +kernel
theorem dX11_canPlan_54 : decode cX11_canPlan 54 = .ok (.ifCond .eq 30, 3) := by decide +kernel
theorem dX11_canPlan_57 : decode cX11_canPlan 57 = .ok (.iload_n 2, 1) := by decide +kernel
theorem dX11_canPlan_58 : decode cX11_canPlan 58 = .ok (.bipush 10, 2) := by decide +kernel
theorem dX11_canPlan_60 : decode cX11_canPlan 60 = .ok (.irem, 1) := by decide +kernel
theorem dX11_canPlan_61 : decode cX11_canPlan 61 = .ok (.bipush 9, 2) := by decide +kernel
theorem dX11_canPlan_63 : decode cX11_canPlan 63 = .ok (.if_icmp .eq 17, 3) := by decide +kernel
theorem dX11_canPlan_66 : decode cX11_canPlan 66 = .ok (.aload_n 0, 1) := by decide +kernel
theorem dX11_canPlan_67 : decode cX11_canPlan 67 = .ok (.getfield 12, 3) := by decide +kernel
theorem dX11_canPlan_70 : decode cX11_canPlan 70 = .ok (.iload_n 2, 1) := by decide +kernel
theorem dX11_canPlan_71 : decode cX11_canPlan 71 = .ok (.bipush 10, 2) := by decide +kernel
theorem dX11_canPlan_73 : decode cX11_canPlan 73 = .ok (.irem, 1) := by decide +kernel
theorem dX11_canPlan_74 : decode cX11_canPlan 74 = .ok (.invokevirtual 87, 3) := by decide +kernel
theorem dX11_canPlan_77 : decode cX11_canPlan 77 = .ok (.ifCond .eq 7, 3) := by decide +kernel
theorem dX11_canPlan_80 : decode cX11_canPlan 80 = .ok (.iconst 1, 1) := by decide +kernel
theorem dX11_canPlan_81 : decode cX11_canPlan 81 = .ok (.goto 4, 3) := by decide +kernel
theorem dX11_canPlan_84 : decode cX11_canPlan 84 = .ok (.iconst 0, 1) := by decide +kernel
theorem dX11_canPlan_85 : decode cX11_canPlan 85 = .ok (.ireturn, 1) := by decide +kernel
theorem dX11_canPlan_86 : decode cX11_canPlan 86 = .ok (.iconst 0, 1) := by decide +kernel
theorem dX11_canPlan_87 : decode cX11_canPlan 87 = .ok (.ireturn, 1) := by decide +kernel
theorem dX11_ends_0 : decode cX11_ends 0 = .ok (.iload_n 1, 1) := by decide +kernel
theorem dX11_ends_1 : decode cX11_ends 1 = .ok (.ifCond .eq 10, 3) := by decide +kernel
theorem dX11_ends_4 : decode cX11_ends 4 = .ok (.iload_n 1, 1) := by decide +kernel
theorem dX11_ends_5 : decode cX11_ends 5 = .ok (.iconst 1, 1) := by decide +kernel
theorem dX11_ends_6 : decode cX11_ends 6 = .ok (.if_icmp .eq 5, 3) := by decide +kernel
theorem dX11_ends_9 : decode cX11_ends 9 = .ok (.iconst (-1), 1) := by decide +kernel
theorem dX11_ends_10 : decode cX11_ends 10 = .ok (.ireturn, 1) := by decide +kernel
theorem dX11_ends_11 : decode cX11_ends 11 = .ok (.aload_n 0, 1) := by decide +kernel
theorem dX11_ends_12 : decode cX11_ends 12 = .ok (.getfield 21, 3) := by decide +kernel
theorem dX11_ends_15 : decode cX11_ends 15 = .ok (.aload_n 0, 1) := by decide +kernel
theorem dX11_ends_16 : decode cX11_ends 16 = .ok (.getfield 12, 3) := by decide +kernel
theorem dX11_ends_19 : decode cX11_ends 19 = .ok (.invokevirtual 198, 3) := by decide +kernel
theorem dX11_ends_22 : decode cX11_ends 22 = .ok (.iconst 0, 1) := by decide +kernel
theorem dX11_ends_23 : decode cX11_ends 23 = .ok (.istore_n 2, 1) := by decide +kernel
theorem dX11_ends_24 : decode cX11_ends 24 = .ok (.iload_n 2, 1) := by decide +kernel
theorem dX11_ends_25 : decode cX11_ends 25 = .ok (.aload_n 0, 1) := by decide +kernel
theorem dX11_ends_26 : decode cX11_ends 26 = .ok (.getfield 12, 3) := by decide +kernel
theorem dX11_ends_29 : decode cX11_ends 29 = .ok (.getfield 265, 3) := by decide +kernel
theorem dX11_ends_32 : decode cX11_ends 32 = .ok (.getfield 244, 3) := by decide +kernel
theorem dX11_ends_35 : decode cX11_ends 35 = .ok (.if_icmp .ge 35, 3) := by decide +kernel
theorem dX11_ends_38 : decode cX11_ends 38 = .ok (.aload_n 0, 1) := by decide +kernel
theorem dX11_ends_39 : decode cX11_ends 39 = .ok (.getfield 12, 3) := by decide +kernel
theorem dX11_ends_42 : decode cX11_ends 42 = .ok (.getfield 265, 3) := by decide +kernel
theorem dX11_ends_45 : decode cX11_ends 45 = .ok (.getfield 255, 3) := by decide +kernel
theorem dX11_ends_48 : decode cX11_ends 48 = .ok (.iload_n 2, 1) := by decide +kernel
theorem dX11_ends_49 : decode cX11_ends 49 = .ok (.aaload, 1) := by decide +kernel
theorem dX11_ends_50 : decode cX11_ends 50 = .ok (.astore_n 3, 1) := by decide +kernel
theorem dX11_ends_51 : decode cX11_ends 51 = .ok (.aload_n 0, 1) := by decide +kernel
theorem dX11_ends_52 : decode cX11_ends 52 = .ok (.getfield 21, 3) := by decide +kernel
theorem dX11_ends_55 : decode cX11_ends 55 = .ok (.aload_n 3, 1) := by decide +kernel
theorem dX11_ends_56 : decode cX11_ends 56 = .ok (.iconst 0, 1) := by decide +kernel
theorem dX11_ends_57 : decode cX11_ends 57 = .ok (.iaload, 1) := by decide +kernel
theorem dX11_ends_58 : decode cX11_ends 58 = .ok (.aload_n 3, 1) := by decide +kernel
theorem dX11_ends_59 : decode cX11_ends 59 = .ok (.iconst 1, 1) := by decide +kernel
theorem dX11_ends_60 : decode cX11_ends 60 = .ok (.iaload, 1) := by decide +kernel
theorem dX11_ends_61 : decode cX11_ends 61 = .ok (.invokevirtual 271, 3) := by decide +kernel
theorem dX11_ends_64 : decode cX11_ends 64 = .ok (.iinc 2 1, 3) := by decide +kernel
theorem dX11_ends_67 : decode cX11_ends 67 = .ok (.goto (-43), 3) := by decide +kernel
theorem dX11_ends_70 : decode cX11_ends 70 = .ok (.iload_n 1, 1) := by decide +kernel
theorem dX11_ends_71 : decode cX11_ends 71 = .ok (.ifCond .ne 13, 3) := by decide +kernel
theorem dX11_ends_74 : decode cX11_ends 74 = .ok (.aload_n 0, 1) := by decide +kernel
theorem dX11_ends_75 : decode cX11_ends 75 = .ok (.getfield 21, 3) := by decide +kernel
theorem dX11_ends_78 : decode cX11_ends 78 = .ok (.invokevirtual 176, 3) := by decide +kernel
theorem dX11_ends_81 : decode cX11_ends 81 = .ok (.goto 10, 3) := by decide +kernel
theorem dX11_ends_84 : decode cX11_ends 84 = .ok (.aload_n 0, 1) := by decide +kernel
theorem dX11_ends_85 : decode cX11_ends 85 = .ok (.getfield 21, 3) := by decide +kernel
theorem dX11_ends_88 : decode cX11_ends 88 = .ok (.invokevirtual 274, 3) := by decide +kernel
theorem dX11_ends_91 : decode cX11_ends 91 = .ok (.ireturn, 1) := by decide +kernel
theorem dX11_book_0 : decode cX11_book 0 = .ok (.iload_n 1, 1) := by decide +kernel
theorem dX11_book_1 : decode cX11_book 1 = .ok (.iconst (-1), 1) := by decide +kernel
theorem dX11_book_2 : decode cX11_book 2 = .ok (.if_icmp .ne 16, 3) := by decide +kernel
theorem dX11_book_5 : decode cX11_book 5 = .ok (.aload_n 0, 1) := by decide +kernel
theorem dX11_book_6 : decode cX11_book 6 = .ok (.getfield 12, 3) := by decide +kernel
theorem dX11_book_9 : decode cX11_book 9 = .ok (.getfield 277, 3) := by decide +kernel
theorem dX11_book_12 : decode cX11_book 12 = .ok (.iconst 0, 1) := by decide +kernel
theorem dX11_book_13 : decode cX11_book 13 = .ok (.putfield 244, 3) := by decide +kernel
theorem dX11_book_16 : decode cX11_book 16 = .ok (.iconst 0, 1) := by decide +kernel
theorem dX11_book_17 : decode cX11_book 17 = .ok (.ireturn, 1) := by decide +kernel
theorem dX11_book_18 : decode cX11_book 18 = .ok (.iload_n 1, 1) := by decide +kernel
theorem dX11_book_19 : decode cX11_book 19 = .ok (.invokestatic 118, 3) := by decide +kernel
theorem dX11_book_22 : decode cX11_book 22 = .ok (.ifCond .ne 5, 3) := by decide +kernel
theorem dX11_book_25 : decode cX11_book 25 = .ok (.iconst (-1), 1) := by decide +kernel
theorem dX11_book_26 : decode cX11_book 26 = .ok (.ireturn, 1) := by decide +kernel
theorem dX11_book_27 : decode cX11_book 27 = .ok (.iload_n 2, 1) := by decide +kernel
theorem dX11_book_28 : decode cX11_book 28 = .ok (.ifCond .lt 10, 3) := by decide +kernel
theorem dX11_book_31 : decode cX11_book 31 = .ok (.iload_n 2, 1) := by decide +kernel
theorem dX11_book_32 : decode cX11_book 32 = .ok (.sipush 9999, 3) := by decide +kernel
theorem dX11_book_35 : decode cX11_book 35 = .ok (.if_icmp .le 6, 3) := by decide +kernel
theorem dX11_book_38 : decode cX11_book 38 = .ok (.bipush (-2), 2) := by decide +kernel
theorem dX11_book_40 : decode cX11_book 40 = .ok (.ireturn, 1) := by decide +kernel
theorem dX11_book_41 : decode cX11_book 41 = .ok (.aload_n 0, 1) := by decide +kernel
theorem dX11_book_42 : decode cX11_book 42 = .ok (.getfield 12, 3) := by decide +kernel
theorem dX11_book_45 : decode cX11_book 45 = .ok (.getfield 277, 3) := by decide +kernel
theorem dX11_book_48 : decode cX11_book 48 = .ok (.iload_n 1, 1) := by decide +kernel
theorem dX11_book_49 : decode cX11_book 49 = .ok (.iload_n 2, 1) := by decide +kernel
theorem dX11_book_50 : decode cX11_book 50 = .ok (.iconst 0, 1) := by decide +kernel
theorem dX11_book_51 : decode cX11_book 51 = .ok (.iconst 0, 1) := by decide +kernel
theorem dX11_book_52 : decode cX11_book 52 = .ok (.invokevirtual 249, 3) := by decide +kernel
theorem dX11_book_55 : decode cX11_book 55 = .ok (.ireturn, 1) := by decide +kernel
theorem dX11_looked_0 : decode cX11_looked 0 = .ok (.iconst 0, 1) := by decide +kernel
theorem dX11_looked_1 : decode cX11_looked 1 = .ok (.istore_n 1, 1) := by decide +kernel
theorem dX11_looked_2 : decode cX11_looked 2 = .ok (.iload_n 1, 1) := by decide +kernel
theorem dX11_looked_3 : decode cX11_looked 3 = .ok (.aload_n 0, 1) := by decide +kernel
theorem dX11_looked_4 : decode cX11_looked 4 = .ok (.getfield 12, 3) := by decide +kernel
theorem dX11_looked_7 : decode cX11_looked 7 = .ok (.getfield 277, 3) := by decide +kernel
theorem dX11_looked_10 : decode cX11_looked 10 = .ok (.getfield 244, 3) := by decide +kernel
theorem dX11_looked_13 : decode cX11_looked 13 = .ok (.if_icmp .ge 41, 3) := by decide +kernel
theorem dX11_looked_16 : decode cX11_looked 16 = .ok (.aload_n 0, 1) := by decide +kernel
theorem dX11_looked_17 : decode cX11_looked 17 = .ok (.getfield 12, 3) := by decide +kernel
theorem dX11_looked_20 : decode cX11_looked 20 = .ok (.getfield 277, 3) := by decide +kernel
theorem dX11_looked_23 : decode cX11_looked 23 = .ok (.getfield 255, 3) := by decide +kernel
theorem dX11_looked_26 : decode cX11_looked 26 = .ok (.iload_n 1, 1) := by decide +kernel
theorem dX11_looked_27 : decode cX11_looked 27 = .ok (.aaload, 1) := by decide +kernel
theorem dX11_looked_28 : decode cX11_looked 28 = .ok (.astore_n 2, 1) := by decide +kernel
theorem dX11_looked_29 : decode cX11_looked 29 = .ok (.aload_n 0, 1) := by decide +kernel
theorem dX11_looked_30 : decode cX11_looked 30 = .ok (.getfield 12, 3) := by decide +kernel
theorem dX11_looked_33 : decode cX11_looked 33 = .ok (.getfield 188, 3) := by decide +kernel
theorem dX11_looked_36 : decode cX11_looked 36 = .ok (.aload_n 2, 1) := by decide +kernel
theorem dX11_looked_37 : decode cX11_looked 37 = .ok (.iconst 0, 1) := by decide +kernel
theorem dX11_looked_38 : decode cX11_looked 38 = .ok (.iaload, 1) := by decide +kernel
theorem dX11_looked_39 : decode cX11_looked 39 = .ok (.iaload, 1) := by decide +kernel
theorem dX11_looked_40 : decode cX11_looked 40 = .ok (.aload_n 2, 1) := by decide +kernel
theorem dX11_looked_41 : decode cX11_looked 41 = .ok (.iconst 1, 1) := by decide +kernel
theorem dX11_looked_42 : decode cX11_looked 42 = .ok (.iaload, 1) := by decide +kernel
theorem dX11_looked_43 : decode cX11_looked 43 = .ok (.if_icmp .eq 5, 3) := by decide +kernel
theorem dX11_looked_46 : decode cX11_looked 46 = .ok (.iload_n 1, 1) := by decide +kernel
theorem dX11_looked_47 : decode cX11_looked 47 = .ok (.ireturn, 1) := by decide +kernel
theorem dX11_looked_48 : decode cX11_looked 48 = .ok (.iinc 1 1, 3) := by decide +kernel
theorem dX11_looked_51 : decode cX11_looked 51 = .ok (.goto (-49), 3) := by decide +kernel
theorem dX11_looked_54 : decode cX11_looked 54 = .ok (.bipush (-5), 2) := by decide +kernel
theorem dX11_looked_56 : decode cX11_looked 56 = .ok (.ireturn, 1) := by decide +kernel
theorem dX11_judge_0 : decode cX11_judge 0 = .ok (.iload_n 1, 1) := by decide +kernel
theorem dX11_judge_1 : decode cX11_judge 1 = .ok (.invokestatic 280, 3) := by decide +kernel
theorem dX11_judge_4 : decode cX11_judge 4 = .ok (.ifCond .ne 5, 3) := by decide +kernel
theorem dX11_judge_7 : decode cX11_judge 7 = .ok (.iconst (-1), 1) := by decide +kernel
theorem dX11_judge_8 : decode cX11_judge 8 = .ok (.ireturn, 1) := by decide +kernel
theorem dX11_judge_9 : decode cX11_judge 9 = .ok (.aload_n 0, 1) := by decide +kernel
theorem dX11_judge_10 : decode cX11_judge 10 = .ok (.getfield 52, 3) := by decide +kernel
theorem dX11_judge_13 : decode cX11_judge 13 = .ok (.iload_n 1, 1) := by decide +kernel
theorem dX11_judge_14 : decode cX11_judge 14 = .ok (.iaload, 1) := by decide +kernel
theorem dX11_judge_15 : decode cX11_judge 15 = .ok (.bipush (-5), 2) := by decide +kernel
theorem dX11_judge_17 : decode cX11_judge 17 = .ok (.if_icmp .eq 16, 3) := by decide +kernel
theorem dX11_judge_20 : decode cX11_judge 20 = .ok (.aload_n 0, 1) := by decide +kernel
theorem dX11_judge_21 : decode cX11_judge 21 = .ok (.getfield 52, 3) := by decide +kernel
theorem dX11_judge_24 : decode cX11_judge 24 = .ok (.iload_n 1, 1) := by decide +kernel
theorem dX11_judge_25 : decode cX11_judge 25 = .ok (.iaload, 1) := by decide +kernel
theorem dX11_judge_26 : decode cX11_judge 26 = .ok (.iconst 3, 1) := by decide +kernel
theorem dX11_judge_27 : decode cX11_judge 27 = .ok (.if_icmp .eq 6, 3) := by decide +kernel
theorem dX11_judge_30 : decode cX11_judge 30 = .ok (.bipush (-12), 2) := by decide +kernel
theorem dX11_judge_32 : decode cX11_judge 32 = .ok (.ireturn, 1) := by decide +kernel
theorem dX11_judge_33 : decode cX11_judge 33 = .ok (.iconst 0, 1) := by decide +kernel
theorem dX11_judge_34 : decode cX11_judge 34 = .ok (.istore_n 3, 1) := by decide +kernel
theorem dX11_judge_35 : decode cX11_judge 35 = .ok (.iload_n 3, 1) := by decide +kernel
theorem dX11_judge_36 : decode cX11_judge 36 = .ok (.iconst 5, 1) := by decide +kernel
theorem dX11_judge_37 : decode cX11_judge 37 = .ok (.if_icmp .ge 51, 3) := by decide +kernel
theorem dX11_judge_40 : decode cX11_judge 40 = .ok (.aload_n 0, 1) := by decide +kernel
theorem dX11_judge_41 : decode cX11_judge 41 = .ok (.iload_n 1, 1) := by decide +kernel
theorem dX11_judge_42 : decode cX11_judge 42 = .ok (.iload_n 2, 1) := by decide +kernel
theorem dX11_judge_43 : decode cX11_judge 43 = .ok (.iload_n 3, 1) := by decide +kernel
theorem dX11_judge_44 : decode cX11_judge 44 = .ok (.iadd, 1) := by decide +kernel
theorem dX11_judge_45 : decode cX11_judge 45 = .ok (.invokevirtual 283, 3) := by decide +kernel
theorem dX11_judge_48 : decode cX11_judge 48 = .ok (.ifCond .ne 8, 3) := by decide +kernel
theorem dX11_judge_51 : decode cX11_judge 51 = .ok (.bipush 100, 2) := by decide +kernel
theorem dX11_judge_53 : decode cX11_judge 53 = .ok (.iload_n 3, 1) := by decide +kernel
theorem dX11_judge_54 : decode cX11_judge 54 = .ok (.iadd, 1) := by decide +kernel
theorem dX11_judge_55 : decode cX11_judge 55 = .ok (.ireturn, 1) := by decide +kernel
theorem dX11_judge_56 : decode cX11_judge 56 = .ok (.aload_n 0, 1) := by decide +kernel
theorem dX11_judge_57 : decode cX11_judge 57 = .ok (.getfield 61, 3) := by decide +kernel
theorem dX11_judge_60 : decode cX11_judge 60 = .ok (.iload_n 1, 1) := by decide +kernel
theorem dX11_judge_61 : decode cX11_judge 61 = .ok (.aaload, 1) := by decide +kernel
theorem dX11_judge_62 : decode cX11_judge 62 = .ok (.iload_n 2, 1) := by decide +kernel
theorem dX11_judge_63 : decode cX11_judge 63 = .ok (.iload_n 3, 1) := by decide +kernel
theorem dX11_judge_64 : decode cX11_judge 64 = .ok (.iadd, 1) := by decide +kernel
theorem dX11_judge_65 : decode cX11_judge 65 = .ok (.laload, 1) := by decide +kernel
theorem dX11_judge_66 : decode cX11_judge 66 = .ok (.aload_n 0, 1) := by decide +kernel
theorem dX11_judge_67 : decode cX11_judge 67 = .ok (.getfield 12, 3) := by decide +kernel
theorem dX11_judge_70 : decode cX11_judge 70 = .ok (.getfield 188, 3) := by decide +kernel
theorem dX11_judge_73 : decode cX11_judge 73 = .ok (.iload_n 3, 1) := by decide +kernel
theorem dX11_judge_74 : decode cX11_judge 74 = .ok (.iaload, 1) := by decide +kernel
theorem dX11_judge_75 : decode cX11_judge 75 = .ok (.i2l, 1) := by decide +kernel
theorem dX11_judge_76 : decode cX11_judge 76 = .ok (.lcmp, 1) := by decide +kernel
theorem dX11_judge_77 : decode cX11_judge 77 = .ok (.ifCond .eq 5, 3) := by decide +kernel
theorem dX11_judge_80 : decode cX11_judge 80 = .ok (.iload_n 3, 1) := by decide +kernel
theorem dX11_judge_81 : decode cX11_judge 81 = .ok (.ireturn, 1) := by decide +kernel
theorem dX11_judge_82 : decode cX11_judge 82 = .ok (.iinc 3 1, 3) := by decide +kernel
theorem dX11_judge_85 : decode cX11_judge 85 = .ok (.goto (-50), 3) := by decide +kernel
theorem dX11_judge_88 : decode cX11_judge 88 = .ok (.bipush (-5), 2) := by decide +kernel
theorem dX11_judge_90 : decode cX11_judge 90 = .ok (.ireturn, 1) := by decide +kernel
theorem dX11_image_0 : decode cX11_image 0 = .ok (.aload_n 0, 1) := by decide +kernel
theorem dX11_image_1 : decode cX11_image 1 = .ok (.getfield 18, 3) := by decide +kernel
theorem dX11_image_4 : decode cX11_image 4 = .ok (.aload_n 0, 1) := by decide +kernel
theorem dX11_image_5 : decode cX11_image 5 = .ok (.getfield 12, 3) := by decide +kernel
theorem dX11_image_8 : decode cX11_image 8 = .ok (.invokevirtual 286, 3) := by decide +kernel
theorem dX11_image_11 : decode cX11_image 11 = .ok (.aload_n 0, 1) := by decide +kernel
theorem dX11_image_12 : decode cX11_image 12 = .ok (.iconst 1, 1) := by decide +kernel
theorem dX11_image_13 : decode cX11_image 13 = .ok (.putfield 289, 3) := by decide +kernel
theorem dX11_image_16 : decode cX11_image 16 = .ok (.aload_n 0, 1) := by decide +kernel
theorem dX11_image_17 : decode cX11_image 17 = .ok (.getfield 12, 3) := by decide +kernel
theorem dX11_image_20 : decode cX11_image 20 = .ok (.getfield 75, 3) := by decide +kernel
theorem dX11_image_23 : decode cX11_image 23 = .ok (.ireturn, 1) := by decide +kernel
theorem dX11_undo_0 : decode cX11_undo 0 = .ok (.aload_n 0, 1) := by decide +kernel
theorem dX11_undo_1 : decode cX11_undo 1 = .ok (.getfield 289, 3) := by decide +kernel
theorem dX11_undo_4 : decode cX11_undo 4 = .ok (.ifCond .ne 6, 3) := by decide +kernel
theorem dX11_undo_7 : decode cX11_undo 7 = .ok (.bipush (-3), 2) := by decide +kernel
theorem dX11_undo_9 : decode cX11_undo 9 = .ok (.ireturn, 1) := by decide +kernel
theorem dX11_undo_10 : decode cX11_undo 10 = .ok (.aload_n 0, 1) := by decide +kernel
theorem dX11_undo_11 : decode cX11_undo 11 = .ok (.getfield 12, 3) := by decide +kernel
theorem dX11_undo_14 : decode cX11_undo 14 = .ok (.aload_n 0, 1) := by decide +kernel
theorem dX11_undo_15 : decode cX11_undo 15 = .ok (.getfield 18, 3) := by decide +kernel
theorem dX11_undo_18 : decode cX11_undo 18 = .ok (.invokevirtual 286, 3) := by decide +kernel
theorem dX11_undo_21 : decode cX11_undo 21 = .ok (.aload_n 0, 1) := by decide +kernel
theorem dX11_undo_22 : decode cX11_undo 22 = .ok (.getfield 12, 3) := by decide +kernel
theorem dX11_undo_25 : decode cX11_undo 25 = .ok (.getfield 75, 3) := by decide +kernel
theorem dX11_undo_28 : decode cX11_undo 28 = .ok (.ireturn, 1) := by decide +kernel
theorem dX11_act_0 : decode cX11_act 0 = .ok (.aload_n 0, 1) := by decide +kernel
theorem dX11_act_1 : decode cX11_act 1 = .ok (.getfield 40, 3) := by decide +kernel
theorem dX11_act_4 : decode cX11_act 4 = .ok (.invokevirtual 293, 3) := by decide +kernel
theorem dX11_act_7 : decode cX11_act 7 = .ok (.aload_n 0, 1) := by decide +kernel
theorem dX11_act_8 : decode cX11_act 8 = .ok (.getfield 12, 3) := by decide +kernel
theorem dX11_act_11 : decode cX11_act 11 = .ok (.iload_n 1, 1) := by decide +kernel
theorem dX11_act_12 : decode cX11_act 12 = .ok (.invokevirtual 87, 3) := by decide +kernel
theorem dX11_act_15 : decode cX11_act 15 = .ok (.ifCond .ne 5, 3) := by decide +kernel
theorem dX11_act_18 : decode cX11_act 18 = .ok (.iconst 0, 1) := by decide +kernel
theorem dX11_act_19 : decode cX11_act 19 = .ok (.ireturn, 1) := by decide +kernel
theorem dX11_act_20 : decode cX11_act 20 = .ok (.aload_n 0, 1) := by decide +kernel
theorem dX11_act_21 : decode cX11_act 21 = .ok (.getfield 12, 3) := by decide +kernel
theorem dX11_act_24 : decode cX11_act 24 = .ok (.getfield 90, 3) := by decide +kernel
theorem dX11_act_27 : decode cX11_act 27 = .ok (.iload_n 1, 1) := by decide +kernel
theorem dX11_act_28 : decode cX11_act 28 = .ok (.aaload, 1) := by decide +kernel
theorem dX11_act_29 : decode cX11_act 29 = .ok (.astore 4, 2) := by decide +kernel
theorem dX11_act_31 : decode cX11_act 31 = .ok (.iload_n 2, 1) := by decide +kernel
theorem dX11_act_32 : decode cX11_act 32 = .ok (.tableswitch 49 0 2 #[28, 35, 42], 28) := by decide +kernel
theorem dX11_act_60 : decode cX11_act 60 = .ok (.aload 4, 2) := by decide +kernel
theorem dX11_act_62 : decode cX11_act 62 = .ok (.iload_n 3, 1) := by decide +kernel
theorem dX11_act_63 : decode cX11_act 63 = .ok (.invokevirtual 296, 3) := by decide +kernel
theorem dX11_act_66 : decode cX11_act 66 = .ok (.ireturn, 1) := by decide +kernel
theorem dX11_act_67 : decode cX11_act 67 = .ok (.aload 4, 2) := by decide +kernel
theorem dX11_act_69 : decode cX11_act 69 = .ok (.iload_n 3, 1) := by decide +kernel
theorem dX11_act_70 : decode cX11_act 70 = .ok (.invokevirtual 299, 3) := by decide +kernel
theorem dX11_act_73 : decode cX11_act 73 = .ok (.ireturn, 1) := by decide +kernel
theorem dX11_act_74 : decode cX11_act 74 = .ok (.aload 4, 2) := by decide +kernel
theorem dX11_act_76 : decode cX11_act 76 = .ok (.iload_n 3, 1) := by decide +kernel
theorem dX11_act_77 : decode cX11_act 77 = .ok (.invokevirtual 302, 3) := by decide +kernel
theorem dX11_act_80 : decode cX11_act 80 = .ok (.ireturn, 1) := by decide +kernel
theorem dX11_act_81 : decode cX11_act 81 = .ok (.iconst 0, 1) := by decide +kernel
theorem dX11_act_82 : decode cX11_act 82 = .ok (.ireturn, 1) := by decide +kernel
theorem dX11_trace_0 : decode cX11_trace 0 = .ok (.iload_n 1, 1) := by decide +kernel
theorem dX11_trace_1 : decode cX11_trace 1 = .ok (.ifCond .lt 20, 3) := by decide +kernel
theorem dX11_trace_4 : decode cX11_trace 4 = .ok (.iload_n 1, 1) := by decide +kernel
theorem dX11_trace_5 : decode cX11_trace 5 = .ok (.bipush 20, 2) := by decide +kernel
theorem dX11_trace_7 : decode cX11_trace 7 = .ok (.if_icmp .ge 14, 3) := by decide +kernel
theorem dX11_trace_10 : decode cX11_trace 10 = .ok (.iload_n 1, 1) := by decide +kernel
theorem dX11_trace_11 : decode cX11_trace 11 = .ok (.aload_n 0, 1) := by decide +kernel
theorem dX11_trace_12 : decode cX11_trace 12 = .ok (.getfield 40, 3) := by decide +kernel
theorem dX11_trace_15 : decode cX11_trace 15 = .ok (.invokevirtual 305, 3) := by decide +kernel
theorem dX11_trace_18 : decode cX11_trace 18 = .ok (.if_icmp .lt 7, 3) := by decide +kernel
theorem dX11_trace_21 : decode cX11_trace 21 = .ok (.iconst (-1), 1) := by decide +kernel
theorem dX11_trace_22 : decode cX11_trace 22 = .ok (.goto 17, 3) := by decide +kernel
theorem dX11_trace_25 : decode cX11_trace 25 = .ok (.aload_n 0, 1) := by decide +kernel
theorem dX11_trace_26 : decode cX11_trace 26 = .ok (.getfield 40, 3) := by decide +kernel
theorem dX11_trace_29 : decode cX11_trace 29 = .ok (.iload_n 1, 1) := by decide +kernel
theorem dX11_trace_30 : decode cX11_trace 30 = .ok (.invokevirtual 308, 3) := by decide +kernel
theorem dX11_trace_33 : decode cX11_trace 33 = .ok (.checkcast 312, 3) := by decide +kernel
theorem dX11_trace_36 : decode cX11_trace 36 = .ok (.invokevirtual 314, 3) := by decide +kernel
theorem dX11_trace_39 : decode cX11_trace 39 = .ok (.ireturn, 1) := by decide +kernel
theorem dX11_taken_0 : decode cX11_taken 0 = .ok (.iload_n 2, 1) := by decide +kernel
theorem dX11_taken_1 : decode cX11_taken 1 = .ok (.ifCond .lt 9, 3) := by decide +kernel
theorem dX11_taken_4 : decode cX11_taken 4 = .ok (.iload_n 2, 1) := by decide +kernel
theorem dX11_taken_5 : decode cX11_taken 5 = .ok (.bipush 7, 2) := by decide +kernel
theorem dX11_taken_7 : decode cX11_taken 7 = .ok (.if_icmp .lt 6, 3) := by decide +kernel
theorem dX11_taken_10 : decode cX11_taken 10 = .ok (.bipush (-2), 2) := by decide +kernel
theorem dX11_taken_12 : decode cX11_taken 12 = .ok (.ireturn, 1) := by decide +kernel
theorem dX11_taken_13 : decode cX11_taken 13 = .ok (.aload_n 0, 1) := by decide +kernel
theorem dX11_taken_14 : decode cX11_taken 14 = .ok (.getfield 12, 3) := by decide +kernel
theorem dX11_taken_17 : decode cX11_taken 17 = .ok (.iload_n 1, 1) := by decide +kernel
theorem dX11_taken_18 : decode cX11_taken 18 = .ok (.invokevirtual 87, 3) := by decide +kernel
theorem dX11_taken_21 : decode cX11_taken 21 = .ok (.ifCond .ne 6, 3) := by decide +kernel
theorem dX11_taken_24 : decode cX11_taken 24 = .ok (.bipush (-11), 2) := by decide +kernel
theorem dX11_taken_26 : decode cX11_taken 26 = .ok (.ireturn, 1) := by decide +kernel
theorem dX11_taken_27 : decode cX11_taken 27 = .ok (.aload_n 0, 1) := by decide +kernel
theorem dX11_taken_28 : decode cX11_taken 28 = .ok (.getfield 12, 3) := by decide +kernel
theorem dX11_taken_31 : decode cX11_taken 31 = .ok (.getfield 90, 3) := by decide +kernel
theorem dX11_taken_34 : decode cX11_taken 34 = .ok (.iload_n 1, 1) := by decide +kernel
theorem dX11_taken_35 : decode cX11_taken 35 = .ok (.aaload, 1) := by decide +kernel
theorem dX11_taken_36 : decode cX11_taken 36 = .ok (.astore_n 3, 1) := by decide +kernel
theorem dX11_taken_37 : decode cX11_taken 37 = .ok (.aload_n 3, 1) := by decide +kernel
theorem dX11_taken_38 : decode cX11_taken 38 = .ok (.iload_n 2, 1) := by decide +kernel
theorem dX11_taken_39 : decode cX11_taken 39 = .ok (.invokestatic 317, 3) := by decide +kernel
theorem dX11_taken_42 : decode cX11_taken 42 = .ok (.ifCond .eq 10, 3) := by decide +kernel
theorem dX11_taken_45 : decode cX11_taken 45 = .ok (.aload_n 3, 1) := by decide +kernel
theorem dX11_taken_46 : decode cX11_taken 46 = .ok (.getfield 94, 3) := by decide +kernel
theorem dX11_taken_49 : decode cX11_taken 49 = .ok (.goto 5, 3) := by decide +kernel
theorem dX11_taken_52 : decode cX11_taken 52 = .ok (.bipush (-12), 2) := by decide +kernel
theorem dX11_taken_54 : decode cX11_taken 54 = .ok (.ireturn, 1) := by decide +kernel
theorem dX11_isOfKind_0 : decode cX11_isOfKind 0 = .ok (.iload_n 1, 1) := by decide +kernel
theorem dX11_isOfKind_1 : decode cX11_isOfKind 1 = .ok (.tableswitch 69 1 6 #[39, 44, 49, 54, 59, 64], 39) := by decide +kernel
theorem dX11_isOfKind_40 : decode cX11_isOfKind 40 = .ok (.aload_n 0, 1) := by decide +kernel
theorem dX11_isOfKind_41 : decode cX11_isOfKind 41 = .ok (.instanceof 321, 3) := by decide +kernel
theorem dX11_isOfKind_44 : decode cX11_isOfKind 44 = .ok (.ireturn, 1) := by decide +kernel
theorem dX11_isOfKind_45 : decode cX11_isOfKind 45 = .ok (.aload_n 0, 1) := by decide +kernel
theorem dX11_isOfKind_46 : decode cX11_isOfKind 46 = .ok (.instanceof 323, 3) := by decide +kernel
theorem dX11_isOfKind_49 : decode cX11_isOfKind 49 = .ok (.ireturn, 1) := by decide +kernel
theorem dX11_isOfKind_50 : decode cX11_isOfKind 50 = .ok (.aload_n 0, 1) := by decide +kernel
theorem dX11_isOfKind_51 : decode cX11_isOfKind 51 = .ok (.instanceof 325, 3) := by decide +kernel
theorem dX11_isOfKind_54 : decode cX11_isOfKind 54 = .ok (.ireturn, 1) := by decide +kernel
theorem dX11_isOfKind_55 : decode cX11_isOfKind 55 = .ok (.aload_n 0, 1) := by decide +kernel
theorem dX11_isOfKind_56 : decode cX11_isOfKind 56 = .ok (.instanceof 327, 3) := by decide +kernel
theorem dX11_isOfKind_59 : decode cX11_isOfKind 59 = .ok (.ireturn, 1) := by decide +kernel
theorem dX11_isOfKind_60 : decode cX11_isOfKind 60 = .ok (.aload_n 0, 1) := by decide +kernel
theorem dX11_isOfKind_61 : decode cX11_isOfKind 61 = .ok (.instanceof 329, 3) := by decide +kernel
theorem dX11_isOfKind_64 : decode cX11_isOfKind 64 = .ok (.ireturn, 1) := by decide +kernel
theorem dX11_isOfKind_65 : decode cX11_isOfKind 65 = .ok (.aload_n 0, 1) := by decide +kernel
theorem dX11_isOfKind_66 : decode cX11_isOfKind 66 = .ok (.instanceof 138, 3) := by decide +kernel
theorem dX11_isOfKind_69 : decode cX11_isOfKind 69 = .ok (.ireturn, 1) := by decide +kernel
theorem dX11_isOfKind_70 : decode cX11_isOfKind 70 = .ok (.iconst 1, 1) := by decide +kernel
theorem dX11_isOfKind_71 : decode cX11_isOfKind 71 = .ok (.ireturn, 1) := by decide +kernel
theorem dX11_count_0 : decode cX11_count 0 = .ok (.iload_n 1, 1) := by decide +kernel
theorem dX11_count_1 : decode cX11_count 1 = .ok (.tableswitch 105 0 6 #[43, 51, 56, 67, 78, 89, 97], 43) := by decide +kernel
theorem dX11_count_44 : decode cX11_count 44 = .ok (.aload_n 0, 1) := by decide +kernel
theorem dX11_count_45 : decode cX11_count 45 = .ok (.getfield 12, 3) := by decide +kernel
theorem dX11_count_48 : decode cX11_count 48 = .ok (.getfield 75, 3) := by decide +kernel
theorem dX11_count_51 : decode cX11_count 51 = .ok (.ireturn, 1) := by decide +kernel
theorem dX11_count_52 : decode cX11_count 52 = .ok (.aload_n 0, 1) := by decide +kernel
theorem dX11_count_53 : decode cX11_count 53 = .ok (.getfield 146, 3) := by decide +kernel
theorem dX11_count_56 : decode cX11_count 56 = .ok (.ireturn, 1) := by decide +kernel
theorem dX11_count_57 : decode cX11_count 57 = .ok (.aload_n 0, 1) := by decide +kernel
theorem dX11_count_58 : decode cX11_count 58 = .ok (.getfield 12, 3) := by decide +kernel
theorem dX11_count_61 : decode cX11_count 61 = .ok (.getfield 240, 3) := by decide +kernel
theorem dX11_count_64 : decode cX11_count 64 = .ok (.getfield 244, 3) := by decide +kernel
theorem dX11_count_67 : decode cX11_count 67 = .ok (.ireturn, 1) := by decide +kernel
theorem dX11_count_68 : decode cX11_count 68 = .ok (.aload_n 0, 1) := by decide +kernel
theorem dX11_count_69 : decode cX11_count 69 = .ok (.getfield 12, 3) := by decide +kernel
theorem dX11_count_72 : decode cX11_count 72 = .ok (.getfield 265, 3) := by decide +kernel
theorem dX11_count_75 : decode cX11_count 75 = .ok (.getfield 244, 3) := by decide +kernel
theorem dX11_count_78 : decode cX11_count 78 = .ok (.ireturn, 1) := by decide +kernel
theorem dX11_count_79 : decode cX11_count 79 = .ok (.aload_n 0, 1) := by decide +kernel
theorem dX11_count_80 : decode cX11_count 80 = .ok (.getfield 12, 3) := by decide +kernel
theorem dX11_count_83 : decode cX11_count 83 = .ok (.getfield 277, 3) := by decide +kernel
theorem dX11_count_86 : decode cX11_count 86 = .ok (.getfield 244, 3) := by decide +kernel
theorem dX11_count_89 : decode cX11_count 89 = .ok (.ireturn, 1) := by decide +kernel
theorem dX11_count_90 : decode cX11_count 90 = .ok (.aload_n 0, 1) := by decide +kernel
theorem dX11_count_91 : decode cX11_count 91 = .ok (.getfield 27, 3) := by decide +kernel
theorem dX11_count_94 : decode cX11_count 94 = .ok (.getfield 153, 3) := by decide +kernel
theorem dX11_count_97 : decode cX11_count 97 = .ok (.ireturn, 1) := by decide +kernel
theorem dX11_count_98 : decode cX11_count 98 = .ok (.aload_n 0, 1) := by decide +kernel
theorem dX11_count_99 : decode cX11_count 99 = .ok (.getfield 40, 3) := by decide +kernel
theorem dX11_count_102 : decode cX11_count 102 = .ok (.invokevirtual 305, 3) := by decide +kernel
theorem dX11_count_105 : decode cX11_count 105 = .ok (.ireturn, 1) := by decide +kernel
theorem dX11_count_106 : decode cX11_count 106 = .ok (.bipush (-2), 2) := by decide +kernel
theorem dX11_count_108 : decode cX11_count 108 = .ok (.ireturn, 1) := by decide +kernel
theorem dX11_tape_0 : decode cX11_tape 0 = .ok (.iload_n 1, 1) := by decide +kernel
theorem dX11_tape_1 : decode cX11_tape 1 = .ok (.invokestatic 280, 3) := by decide +kernel
theorem dX11_tape_4 : decode cX11_tape 4 = .ok (.ifCond .ne 5, 3) := by decide +kernel
theorem dX11_tape_7 : decode cX11_tape 7 = .ok (.iconst (-1), 1) := by decide +kernel
theorem dX11_tape_8 : decode cX11_tape 8 = .ok (.ireturn, 1) := by decide +kernel
theorem dX11_tape_9 : decode cX11_tape 9 = .ok (.iload_n 2, 1) := by decide +kernel
theorem dX11_tape_10 : decode cX11_tape 10 = .ok (.iconst (-1), 1) := by decide +kernel
theorem dX11_tape_11 : decode cX11_tape 11 = .ok (.if_icmp .ne 20, 3) := by decide +kernel
theorem dX11_tape_14 : decode cX11_tape 14 = .ok (.aload_n 0, 1) := by decide +kernel
theorem dX11_tape_15 : decode cX11_tape 15 = .ok (.getfield 52, 3) := by decide +kernel
theorem dX11_tape_18 : decode cX11_tape 18 = .ok (.iload_n 1, 1) := by decide +kernel
theorem dX11_tape_19 : decode cX11_tape 19 = .ok (.bipush (-5), 2) := by decide +kernel
theorem dX11_tape_21 : decode cX11_tape 21 = .ok (.iastore, 1) := by decide +kernel
theorem dX11_tape_22 : decode cX11_tape 22 = .ok (.aload_n 0, 1) := by decide +kernel
theorem dX11_tape_23 : decode cX11_tape 23 = .ok (.getfield 56, 3) := by decide +kernel
theorem dX11_tape_26 : decode cX11_tape 26 = .ok (.iload_n 1, 1) := by decide +kernel
theorem dX11_tape_27 : decode cX11_tape 27 = .ok (.iconst 0, 1) := by decide +kernel
theorem dX11_tape_28 : decode cX11_tape 28 = .ok (.iastore, 1) := by decide +kernel
theorem dX11_tape_29 : decode cX11_tape 29 = .ok (.iconst 1, 1) := by decide +kernel
theorem dX11_tape_30 : decode cX11_tape 30 = .ok (.ireturn, 1) := by decide +kernel
theorem dX11_tape_31 : decode cX11_tape 31 = .ok (.iload_n 2, 1) := by decide +kernel
theorem dX11_tape_32 : decode cX11_tape 32 = .ok (.ifCond .lt 14, 3) := by decide +kernel
theorem dX11_tape_35 : decode cX11_tape 35 = .ok (.iload_n 2, 1) := by decide +kernel
theorem dX11_tape_36 : decode cX11_tape 36 = .ok (.iconst 5, 1) := by decide +kernel
theorem dX11_tape_37 : decode cX11_tape 37 = .ok (.if_icmp .ge 9, 3) := by decide +kernel
theorem dX11_tape_40 : decode cX11_tape 40 = .ok (.iload_n 3, 1) := by decide +kernel
theorem dX11_tape_41 : decode cX11_tape 41 = .ok (.bipush 60, 2) := by decide +kernel
theorem dX11_tape_43 : decode cX11_tape 43 = .ok (.if_icmp .le 6, 3) := by decide +kernel
theorem dX11_tape_46 : decode cX11_tape 46 = .ok (.bipush (-2), 2) := by decide +kernel
theorem dX11_tape_48 : decode cX11_tape 48 = .ok (.ireturn, 1) := by decide +kernel
theorem dX11_tape_49 : decode cX11_tape 49 = .ok (.iload_n 3, 1) := by decide +kernel
theorem dX11_tape_50 : decode cX11_tape 50 = .ok (.ifCond .ge 6, 3) := by decide +kernel
theorem dX11_tape_53 : decode cX11_tape 53 = .ok (.bipush (-14), 2) := by decide +kernel
theorem dX11_tape_55 : decode cX11_tape 55 = .ok (.ireturn, 1) := by decide +kernel
theorem dX11_tape_56 : decode cX11_tape 56 = .ok (.aload_n 0, 1) := by decide +kernel
theorem dX11_tape_57 : decode cX11_tape 57 = .ok (.getfield 52, 3) := by decide +kernel
theorem dX11_tape_60 : decode cX11_tape 60 = .ok (.iload_n 1, 1) := by decide +kernel
theorem dX11_tape_61 : decode cX11_tape 61 = .ok (.iload_n 2, 1) := by decide +kernel
theorem dX11_tape_62 : decode cX11_tape 62 = .ok (.iastore, 1) := by decide +kernel
theorem dX11_tape_63 : decode cX11_tape 63 = .ok (.aload_n 0, 1) := by decide +kernel
theorem dX11_tape_64 : decode cX11_tape 64 = .ok (.getfield 56, 3) := by decide +kernel
theorem dX11_tape_67 : decode cX11_tape 67 = .ok (.iload_n 1, 1) := by decide +kernel
theorem dX11_tape_68 : decode cX11_tape 68 = .ok (.iload_n 3, 1) := by decide +kernel
theorem dX11_tape_69 : decode cX11_tape 69 = .ok (.iastore, 1) := by decide +kernel
theorem dX11_tape_70 : decode cX11_tape 70 = .ok (.aload_n 0, 1) := by decide +kernel
theorem dX11_tape_71 : decode cX11_tape 71 = .ok (.getfield 61, 3) := by decide +kernel
theorem dX11_tape_74 : decode cX11_tape 74 = .ok (.iload_n 1, 1) := by decide +kernel
theorem dX11_tape_75 : decode cX11_tape 75 = .ok (.aaload, 1) := by decide +kernel
theorem dX11_tape_76 : decode cX11_tape 76 = .ok (.lconst 0, 1) := by decide +kernel
theorem dX11_tape_77 : decode cX11_tape 77 = .ok (.invokestatic 331, 3) := by decide +kernel
theorem dX11_tape_80 : decode cX11_tape 80 = .ok (.iconst 1, 1) := by decide +kernel
theorem dX11_tape_81 : decode cX11_tape 81 = .ok (.ireturn, 1) := by decide +kernel
theorem dX11_item_0 : decode cX11_item 0 = .ok (.iload_n 1, 1) := by decide +kernel
theorem dX11_item_1 : decode cX11_item 1 = .ok (.invokestatic 280, 3) := by decide +kernel
theorem dX11_item_4 : decode cX11_item 4 = .ok (.ifCond .ne 5, 3) := by decide +kernel
theorem dX11_item_7 : decode cX11_item 7 = .ok (.iconst (-1), 1) := by decide +kernel
theorem dX11_item_8 : decode cX11_item 8 = .ok (.ireturn, 1) := by decide +kernel
theorem dX11_item_9 : decode cX11_item 9 = .ok (.aload_n 0, 1) := by decide +kernel
theorem dX11_item_10 : decode cX11_item 10 = .ok (.getfield 52, 3) := by decide +kernel
theorem dX11_item_13 : decode cX11_item 13 = .ok (.iload_n 1, 1) := by decide +kernel
theorem dX11_item_14 : decode cX11_item 14 = .ok (.iaload, 1) := by decide +kernel
theorem dX11_item_15 : decode cX11_item 15 = .ok (.bipush (-5), 2) := by decide +kernel
theorem dX11_item_17 : decode cX11_item 17 = .ok (.if_icmp .ne 6, 3) := by decide +kernel
theorem dX11_item_20 : decode cX11_item 20 = .ok (.bipush (-11), 2) := by decide +kernel
theorem dX11_item_22 : decode cX11_item 22 = .ok (.ireturn, 1) := by decide +kernel
theorem dX11_item_23 : decode cX11_item 23 = .ok (.aload_n 0, 1) := by decide +kernel
theorem dX11_item_24 : decode cX11_item 24 = .ok (.iload_n 1, 1) := by decide +kernel
theorem dX11_item_25 : decode cX11_item 25 = .ok (.iload_n 2, 1) := by decide +kernel
theorem dX11_item_26 : decode cX11_item 26 = .ok (.invokevirtual 283, 3) := by decide +kernel
theorem dX11_item_29 : decode cX11_item 29 = .ok (.ifCond .ne 6, 3) := by decide +kernel
theorem dX11_item_32 : decode cX11_item 32 = .ok (.bipush (-13), 2) := by decide +kernel
theorem dX11_item_34 : decode cX11_item 34 = .ok (.ireturn, 1) := by decide +kernel
theorem dX11_item_35 : decode cX11_item 35 = .ok (.aload_n 0, 1) := by decide +kernel
theorem dX11_item_36 : decode cX11_item 36 = .ok (.getfield 61, 3) := by decide +kernel
theorem dX11_item_39 : decode cX11_item 39 = .ok (.iload_n 1, 1) := by decide +kernel
theorem dX11_item_40 : decode cX11_item 40 = .ok (.aaload, 1) := by decide +kernel
theorem dX11_item_41 : decode cX11_item 41 = .ok (.iload_n 2, 1) := by decide +kernel
theorem dX11_item_42 : decode cX11_item 42 = .ok (.aload_n 0, 1) := by decide +kernel
theorem dX11_item_43 : decode cX11_item 43 = .ok (.getfield 52, 3) := by decide +kernel
theorem dX11_item_46 : decode cX11_item 46 = .ok (.iload_n 1, 1) := by decide +kernel
theorem dX11_item_47 : decode cX11_item 47 = .ok (.iaload, 1) := by decide +kernel
theorem dX11_item_48 : decode cX11_item 48 = .ok (.lload_n 3, 1) := by decide +kernel
theorem dX11_item_49 : decode cX11_item 49 = .ok (.invokestatic 334, 3) := by decide +kernel
theorem dX11_item_52 : decode cX11_item 52 = .ok (.lastore, 1) := by decide +kernel
theorem dX11_item_53 : decode cX11_item 53 = .ok (.iconst 1, 1) := by decide +kernel
theorem dX11_item_54 : decode cX11_item 54 = .ok (.ireturn, 1) := by decide +kernel
theorem dX11_asItem_0 : decode cX11_asItem 0 = .ok (.iload_n 0, 1) := by decide +kernel
theorem dX11_asItem_1 : decode cX11_asItem 1 = .ok (.tableswitch 47 0 3 #[31, 36, 41, 45], 31) := by decide +kernel
theorem dX11_asItem_32 : decode cX11_asItem 32 = .ok (.lload_n 1, 1) := by decide +kernel
theorem dX11_asItem_33 : decode cX11_asItem 33 = .ok (.l2i, 1) := by decide +kernel
theorem dX11_asItem_34 : decode cX11_asItem 34 = .ok (.i2b, 1) := by decide +kernel
theorem dX11_asItem_35 : decode cX11_asItem 35 = .ok (.i2l, 1) := by decide +kernel
theorem dX11_asItem_36 : decode cX11_asItem 36 = .ok (.lreturn, 1) := by decide +kernel
theorem dX11_asItem_37 : decode cX11_asItem 37 = .ok (.lload_n 1, 1) := by decide +kernel
theorem dX11_asItem_38 : decode cX11_asItem 38 = .ok (.l2i, 1) := by decide +kernel
theorem dX11_asItem_39 : decode cX11_asItem 39 = .ok (.i2s, 1) := by decide +kernel
theorem dX11_asItem_40 : decode cX11_asItem 40 = .ok (.i2l, 1) := by decide +kernel
theorem dX11_asItem_41 : decode cX11_asItem 41 = .ok (.lreturn, 1) := by decide +kernel
theorem dX11_asItem_42 : decode cX11_asItem 42 = .ok (.lload_n 1, 1) := by decide +kernel
theorem dX11_asItem_43 : decode cX11_asItem 43 = .ok (.l2i, 1) := by decide +kernel
theorem dX11_asItem_44 : decode cX11_asItem 44 = .ok (.i2l, 1) := by decide +kernel
theorem dX11_asItem_45 : decode cX11_asItem 45 = .ok (.lreturn, 1) := by decide +kernel
theorem dX11_asItem_46 : decode cX11_asItem 46 = .ok (.lload_n 1, 1) := by decide +kernel
theorem dX11_asItem_47 : decode cX11_asItem 47 = .ok (.lreturn, 1) := by decide +kernel
theorem dX11_asItem_48 : decode cX11_asItem 48 = .ok (.lload_n 1, 1) := by decide +kernel
theorem dX11_asItem_49 : decode cX11_asItem 49 = .ok (.lconst 0, 1) := by decide +kernel
theorem dX11_asItem_50 : decode cX11_asItem 50 = .ok (.lcmp, 1) := by decide +kernel
theorem dX11_asItem_51 : decode cX11_asItem 51 = .ok (.ifCond .eq 7, 3) := by decide +kernel
theorem dX11_asItem_54 : decode cX11_asItem 54 = .ok (.lconst 1, 1) := by decide +kernel
theorem dX11_asItem_55 : decode cX11_asItem 55 = .ok (.goto 4, 3) := by decide +kernel
theorem dX11_asItem_58 : decode cX11_asItem 58 = .ok (.lconst 0, 1) := by decide +kernel
theorem dX11_asItem_59 : decode cX11_asItem 59 = .ok (.lreturn, 1) := by decide +kernel
theorem dX11_read_0 : decode cX11_read 0 = .ok (.iload_n 1, 1) := by decide +kernel
theorem dX11_read_1 : decode cX11_read 1 = .ok (.invokestatic 280, 3) := by decide +kernel
theorem dX11_read_4 : decode cX11_read 4 = .ok (.ifCond .eq 23, 3) := by decide +kernel
theorem dX11_read_7 : decode cX11_read 7 = .ok (.aload_n 0, 1) := by decide +kernel
theorem dX11_read_8 : decode cX11_read 8 = .ok (.iload_n 1, 1) := by decide +kernel
theorem dX11_read_9 : decode cX11_read 9 = .ok (.iload_n 2, 1) := by decide +kernel
theorem dX11_read_10 : decode cX11_read 10 = .ok (.invokevirtual 283, 3) := by decide +kernel
theorem dX11_read_13 : decode cX11_read 13 = .ok (.ifCond .eq 14, 3) := by decide +kernel
theorem dX11_read_16 : decode cX11_read 16 = .ok (.aload_n 0, 1) := by decide +kernel
theorem dX11_read_17 : decode cX11_read 17 = .ok (.getfield 61, 3) := by decide +kernel
theorem dX11_read_20 : decode cX11_read 20 = .ok (.iload_n 1, 1) := by decide +kernel
theorem dX11_read_21 : decode cX11_read 21 = .ok (.aaload, 1) := by decide +kernel
theorem dX11_read_22 : decode cX11_read 22 = .ok (.iload_n 2, 1) := by decide +kernel
theorem dX11_read_23 : decode cX11_read 23 = .ok (.laload, 1) := by decide +kernel
theorem dX11_read_24 : decode cX11_read 24 = .ok (.goto 6, 3) := by decide +kernel
theorem dX11_read_27 : decode cX11_read 27 = .ok (.ldc2_w 259, 3) := by decide +kernel
theorem dX11_read_30 : decode cX11_read 30 = .ok (.lreturn, 1) := by decide +kernel
theorem dX11_shift_0 : decode cX11_shift 0 = .ok (.iload_n 1, 1) := by decide +kernel
theorem dX11_shift_1 : decode cX11_shift 1 = .ok (.invokestatic 280, 3) := by decide +kernel
theorem dX11_shift_4 : decode cX11_shift 4 = .ok (.ifCond .eq 10, 3) := by decide +kernel
theorem dX11_shift_7 : decode cX11_shift 7 = .ok (.iload_n 3, 1) := by decide +kernel
theorem dX11_shift_8 : decode cX11_shift 8 = .ok (.invokestatic 280, 3) := by decide +kernel
theorem dX11_shift_11 : decode cX11_shift 11 = .ok (.ifCond .ne 5, 3) := by decide +kernel
theorem dX11_shift_14 : decode cX11_shift 14 = .ok (.iconst (-1), 1) := by decide +kernel
theorem dX11_shift_15 : decode cX11_shift 15 = .ok (.ireturn, 1) := by decide +kernel
theorem dX11_shift_16 : decode cX11_shift 16 = .ok (.aload_n 0, 1) := by decide +kernel
theorem dX11_shift_17 : decode cX11_shift 17 = .ok (.getfield 52, 3) := by decide +kernel
theorem dX11_shift_20 : decode cX11_shift 20 = .ok (.iload_n 1, 1) := by decide +kernel
theorem dX11_shift_21 : decode cX11_shift 21 = .ok (.iaload, 1) := by decide +kernel
theorem dX11_shift_22 : decode cX11_shift 22 = .ok (.bipush (-5), 2) := by decide +kernel
theorem dX11_shift_24 : decode cX11_shift 24 = .ok (.if_icmp .eq 14, 3) := by decide +kernel
theorem dX11_shift_27 : decode cX11_shift 27 = .ok (.aload_n 0, 1) := by decide +kernel
theorem dX11_shift_28 : decode cX11_shift 28 = .ok (.getfield 52, 3) := by decide +kernel
theorem dX11_shift_31 : decode cX11_shift 31 = .ok (.iload_n 3, 1) := by decide +kernel
theorem dX11_shift_32 : decode cX11_shift 32 = .ok (.iaload, 1) := by decide +kernel
theorem dX11_shift_33 : decode cX11_shift 33 = .ok (.bipush (-5), 2) := by decide +kernel
theorem dX11_shift_35 : decode cX11_shift 35 = .ok (.if_icmp .ne 6, 3) := by decide +kernel
theorem dX11_shift_38 : decode cX11_shift 38 = .ok (.bipush (-11), 2) := by decide +kernel
theorem dX11_shift_40 : decode cX11_shift 40 = .ok (.ireturn, 1) := by decide +kernel
theorem dX11_shift_41 : decode cX11_shift 41 = .ok (.aload_n 0, 1) := by decide +kernel
theorem dX11_shift_42 : decode cX11_shift 42 = .ok (.getfield 52, 3) := by decide +kernel
theorem dX11_shift_45 : decode cX11_shift 45 = .ok (.iload_n 1, 1) := by decide +kernel
theorem dX11_shift_46 : decode cX11_shift 46 = .ok (.iaload, 1) := by decide +kernel
theorem dX11_shift_47 : decode cX11_shift 47 = .ok (.aload_n 0, 1) := by decide +kernel
theorem dX11_shift_48 : decode cX11_shift 48 = .ok (.getfield 52, 3) := by decide +kernel
theorem dX11_shift_51 : decode cX11_shift 51 = .ok (.iload_n 3, 1) := by decide +kernel
theorem dX11_shift_52 : decode cX11_shift 52 = .ok (.iaload, 1) := by decide +kernel
theorem dX11_shift_53 : decode cX11_shift 53 = .ok (.if_icmp .eq 6, 3) := by decide +kernel
theorem dX11_shift_56 : decode cX11_shift 56 = .ok (.bipush (-12), 2) := by decide +kernel
theorem dX11_shift_58 : decode cX11_shift 58 = .ok (.ireturn, 1) := by decide +kernel
theorem dX11_shift_59 : decode cX11_shift 59 = .ok (.iload 5, 2) := by decide +kernel
theorem dX11_shift_61 : decode cX11_shift 61 = .ok (.ifCond .lt 26, 3) := by decide +kernel
theorem dX11_shift_64 : decode cX11_shift 64 = .ok (.aload_n 0, 1) := by decide +kernel
theorem dX11_shift_65 : decode cX11_shift 65 = .ok (.iload_n 1, 1) := by decide +kernel
theorem dX11_shift_66 : decode cX11_shift 66 = .ok (.iload_n 2, 1) := by decide +kernel
theorem dX11_shift_67 : decode cX11_shift 67 = .ok (.iload 5, 2) := by decide +kernel
theorem dX11_shift_69 : decode cX11_shift 69 = .ok (.invokevirtual 338, 3) := by decide +kernel
theorem dX11_shift_72 : decode cX11_shift 72 = .ok (.ifCond .eq 15, 3) := by decide +kernel
theorem dX11_shift_75 : decode cX11_shift 75 = .ok (.aload_n 0, 1) := by decide +kernel
theorem dX11_shift_76 : decode cX11_shift 76 = .ok (.iload_n 3, 1) := by decide +kernel
theorem dX11_shift_77 : decode cX11_shift 77 = .ok (.iload 4, 2) := by decide +kernel
theorem dX11_shift_79 : decode cX11_shift 79 = .ok (.iload 5, 2) := by decide +kernel
theorem dX11_shift_81 : decode cX11_shift 81 = .ok (.invokevirtual 338, 3) := by decide +kernel
theorem dX11_shift_84 : decode cX11_shift 84 = .ok (.ifCond .ne 6, 3) := by decide +kernel
theorem dX11_shift_87 : decode cX11_shift 87 = .ok (.bipush (-13), 2) := by decide +kernel
theorem dX11_shift_89 : decode cX11_shift 89 = .ok (.ireturn, 1) := by decide +kernel
theorem dX11_shift_90 : decode cX11_shift 90 = .ok (.aload_n 0, 1) := by decide +kernel
theorem dX11_shift_91 : decode cX11_shift 91 = .ok (.getfield 61, 3) := by decide +kernel
theorem dX11_shift_94 : decode cX11_shift 94 = .ok (.iload_n 1, 1) := by decide +kernel
theorem dX11_shift_95 : decode cX11_shift 95 = .ok (.aaload, 1) := by decide +kernel
theorem dX11_shift_96 : decode cX11_shift 96 = .ok (.iload_n 2, 1) := by decide +kernel
theorem dX11_shift_97 : decode cX11_shift 97 = .ok (.aload_n 0, 1) := by decide +kernel
theorem dX11_shift_98 : decode cX11_shift 98 = .ok (.getfield 61, 3) := by decide +kernel
theorem dX11_shift_101 : decode cX11_shift 101 = .ok (.iload_n 3, 1) := by decide +kernel
theorem dX11_shift_102 : decode cX11_shift 102 = .ok (.aaload, 1) := by decide +kernel
theorem dX11_shift_103 : decode cX11_shift 103 = .ok (.iload 4, 2) := by decide +kernel
theorem dX11_shift_105 : decode cX11_shift 105 = .ok (.iload 5, 2) := by decide +kernel
theorem dX11_shift_107 : decode cX11_shift 107 = .ok (.invokestatic 341, 3) := by decide +kernel
theorem dX11_shift_110 : decode cX11_shift 110 = .ok (.iload 5, 2) := by decide +kernel
theorem dX11_shift_112 : decode cX11_shift 112 = .ok (.ireturn, 1) := by decide +kernel
theorem dX11_hasItem_0 : decode cX11_hasItem 0 = .ok (.iload_n 2, 1) := by decide +kernel
theorem dX11_hasItem_1 : decode cX11_hasItem 1 = .ok (.ifCond .lt 17, 3) := by decide +kernel
theorem dX11_hasItem_4 : decode cX11_hasItem 4 = .ok (.iload_n 2, 1) := by decide +kernel
theorem dX11_hasItem_5 : decode cX11_hasItem 5 = .ok (.aload_n 0, 1) := by decide +kernel
theorem dX11_hasItem_6 : decode cX11_hasItem 6 = .ok (.getfield 56, 3) := by decide +kernel
theorem dX11_hasItem_9 : decode cX11_hasItem 9 = .ok (.iload_n 1, 1) := by decide +kernel
theorem dX11_hasItem_10 : decode cX11_hasItem 10 = .ok (.iaload, 1) := by decide +kernel
theorem dX11_hasItem_11 : decode cX11_hasItem 11 = .ok (.if_icmp .ge 7, 3) := by decide +kernel
theorem dX11_hasItem_14 : decode cX11_hasItem 14 = .ok (.iconst 1, 1) := by decide +kernel
theorem dX11_hasItem_15 : decode cX11_hasItem 15 = .ok (.goto 4, 3) := by decide +kernel
theorem dX11_hasItem_18 : decode cX11_hasItem 18 = .ok (.iconst 0, 1) := by decide +kernel
theorem dX11_hasItem_19 : decode cX11_hasItem 19 = .ok (.ireturn, 1) := by decide +kernel
theorem dX11_hasItems_0 : decode cX11_hasItems 0 = .ok (.iload_n 2, 1) := by decide +kernel
theorem dX11_hasItems_1 : decode cX11_hasItems 1 = .ok (.ifCond .lt 29, 3) := by decide +kernel
theorem dX11_hasItems_4 : decode cX11_hasItems 4 = .ok (.iload_n 2, 1) := by decide +kernel
theorem dX11_hasItems_5 : decode cX11_hasItems 5 = .ok (.aload_n 0, 1) := by decide +kernel
theorem dX11_hasItems_6 : decode cX11_hasItems 6 = .ok (.getfield 56, 3) := by decide +kernel
theorem dX11_hasItems_9 : decode cX11_hasItems 9 = .ok (.iload_n 1, 1) := by decide +kernel
theorem dX11_hasItems_10 : decode cX11_hasItems 10 = .ok (.iaload, 1) := by decide +kernel
theorem dX11_hasItems_11 : decode cX11_hasItems 11 = .ok (.if_icmp .gt 19, 3) := by decide +kernel
theorem dX11_hasItems_14 : decode cX11_hasItems 14 = .ok (.iload_n 3, 1) := by decide +kernel
theorem dX11_hasItems_15 : decode cX11_hasItems 15 = .ok (.aload_n 0, 1) := by decide +kernel
theorem dX11_hasItems_16 : decode cX11_hasItems 16 = .ok (.getfield 56, 3) := by decide +kernel
theorem dX11_hasItems_19 : decode cX11_hasItems 19 = .ok (.iload_n 1, 1) := by decide +kernel
theorem dX11_hasItems_20 : decode cX11_hasItems 20 = .ok (.iaload, 1) := by decide +kernel
theorem dX11_hasItems_21 : decode cX11_hasItems 21 = .ok (.iload_n 2, 1) := by decide +kernel
theorem dX11_hasItems_22 : decode cX11_hasItems 22 = .ok (.isub, 1) := by decide +kernel
theorem dX11_hasItems_23 : decode cX11_hasItems 23 = .ok (.if_icmp .gt 7, 3) := by decide +kernel
theorem dX11_hasItems_26 : decode cX11_hasItems 26 = .ok (.iconst 1, 1) := by decide +kernel
theorem dX11_hasItems_27 : decode cX11_hasItems 27 = .ok (.goto 4, 3) := by decide +kernel
theorem dX11_hasItems_30 : decode cX11_hasItems 30 = .ok (.iconst 0, 1) := by decide +kernel
theorem dX11_hasItems_31 : decode cX11_hasItems 31 = .ok (.ireturn, 1) := by decide +kernel
theorem dX11_isTape_0 : decode cX11_isTape 0 = .ok (.iload_n 0, 1) := by decide +kernel
theorem dX11_isTape_1 : decode cX11_isTape 1 = .ok (.ifCond .lt 13, 3) := by decide +kernel
theorem dX11_isTape_4 : decode cX11_isTape 4 = .ok (.iload_n 0, 1) := by decide +kernel
theorem dX11_isTape_5 : decode cX11_isTape 5 = .ok (.bipush 6, 2) := by decide +kernel
theorem dX11_isTape_7 : decode cX11_isTape 7 = .ok (.if_icmp .ge 7, 3) := by decide +kernel
theorem dX11_isTape_10 : decode cX11_isTape 10 = .ok (.iconst 1, 1) := by decide +kernel
theorem dX11_isTape_11 : decode cX11_isTape 11 = .ok (.goto 4, 3) := by decide +kernel
theorem dX11_isTape_14 : decode cX11_isTape 14 = .ok (.iconst 0, 1) := by decide +kernel
theorem dX11_isTape_15 : decode cX11_isTape 15 = .ok (.ireturn, 1) := by decide +kernel
theorem dX11_isTree_0 : decode cX11_isTree 0 = .ok (.iload_n 0, 1) := by decide +kernel
theorem dX11_isTree_1 : decode cX11_isTree 1 = .ok (.ifCond .lt 12, 3) := by decide +kernel
theorem dX11_isTree_4 : decode cX11_isTree 4 = .ok (.iload_n 0, 1) := by decide +kernel
theorem dX11_isTree_5 : decode cX11_isTree 5 = .ok (.iconst 5, 1) := by decide +kernel
theorem dX11_isTree_6 : decode cX11_isTree 6 = .ok (.if_icmp .ge 7, 3) := by decide +kernel
theorem dX11_isTree_9 : decode cX11_isTree 9 = .ok (.iconst 1, 1) := by decide +kernel
theorem dX11_isTree_10 : decode cX11_isTree 10 = .ok (.goto 4, 3) := by decide +kernel
theorem dX11_isTree_13 : decode cX11_isTree 13 = .ok (.iconst 0, 1) := by decide +kernel
theorem dX11_isTree_14 : decode cX11_isTree 14 = .ok (.ireturn, 1) := by decide +kernel
theorem dX11_isHate_0 : decode cX11_isHate 0 = .ok (.iload_n 0, 1) := by decide +kernel
theorem dX11_isHate_1 : decode cX11_isHate 1 = .ok (.ifCond .lt 13, 3) := by decide +kernel
theorem dX11_isHate_4 : decode cX11_isHate 4 = .ok (.iload_n 0, 1) := by decide +kernel
theorem dX11_isHate_5 : decode cX11_isHate 5 = .ok (.bipush 99, 2) := by decide +kernel
theorem dX11_isHate_7 : decode cX11_isHate 7 = .ok (.if_icmp .gt 7, 3) := by decide +kernel
theorem dX11_isHate_10 : decode cX11_isHate 10 = .ok (.iconst 1, 1) := by decide +kernel
theorem dX11_isHate_11 : decode cX11_isHate 11 = .ok (.goto 4, 3) := by decide +kernel
theorem dX11_isHate_14 : decode cX11_isHate 14 = .ok (.iconst 0, 1) := by decide +kernel
theorem dX11_isHate_15 : decode cX11_isHate 15 = .ok (.ireturn, 1) := by decide +kernel
theorem dX11_isYears_0 : decode cX11_isYears 0 = .ok (.iload_n 0, 1) := by decide +kernel
theorem dX11_isYears_1 : decode cX11_isYears 1 = .ok (.ifCond .lt 13, 3) := by decide +kernel
theorem dX11_isYears_4 : decode cX11_isYears 4 = .ok (.iload_n 0, 1) := by decide +kernel
theorem dX11_isYears_5 : decode cX11_isYears 5 = .ok (.bipush 60, 2) := by decide +kernel
theorem dX11_isYears_7 : decode cX11_isYears 7 = .ok (.if_icmp .gt 7, 3) := by decide +kernel
theorem dX11_isYears_10 : decode cX11_isYears 10 = .ok (.iconst 1, 1) := by decide +kernel
theorem dX11_isYears_11 : decode cX11_isYears 11 = .ok (.goto 4, 3) := by decide +kernel
theorem dX11_isYears_14 : decode cX11_isYears 14 = .ok (.iconst 0, 1) := by decide +kernel
theorem dX11_isYears_15 : decode cX11_isYears 15 = .ok (.ireturn, 1) := by decide +kernel
theorem dX11_bit_0 : decode cX11_bit 0 = .ok (.iload_n 0, 1) := by decide +kernel
theorem dX11_bit_1 : decode cX11_bit 1 = .ok (.ifCond .eq 7, 3) := by decide +kernel
theorem dX11_bit_4 : decode cX11_bit 4 = .ok (.iconst 1, 1) := by decide +kernel
theorem dX11_bit_5 : decode cX11_bit 5 = .ok (.goto 4, 3) := by decide +kernel
theorem dX11_bit_8 : decode cX11_bit 8 = .ok (.iconst 0, 1) := by decide +kernel
theorem dX11_bit_9 : decode cX11_bit 9 = .ok (.ireturn, 1) := by decide +kernel
theorem dX11_newHater_0 : decode cX11_newHater 0 = .ok (.iload_n 1, 1) := by decide +kernel
theorem dX11_newHater_1 : decode cX11_newHater 1 = .ok (.tableswitch 129 1 6 #[39, 54, 69, 84, 99, 114], 39) := by decide +kernel
theorem dX11_newHater_40 : decode cX11_newHater 40 = .ok (.new 321, 3) := by decide +kernel
theorem dX11_newHater_43 : decode cX11_newHater 43 = .ok (.dup, 1) := by decide +kernel
theorem dX11_newHater_44 : decode cX11_newHater 44 = .ok (.iload_n 1, 1) := by decide +kernel
theorem dX11_newHater_45 : decode cX11_newHater 45 = .ok (.iload_n 2, 1) := by decide +kernel
theorem dX11_newHater_46 : decode cX11_newHater 46 = .ok (.iload_n 3, 1) := by decide +kernel
theorem dX11_newHater_47 : decode cX11_newHater 47 = .ok (.aload_n 0, 1) := by decide +kernel
theorem dX11_newHater_48 : decode cX11_newHater 48 = .ok (.getfield 40, 3) := by decide +kernel
theorem dX11_newHater_51 : decode cX11_newHater 51 = .ok (.invokespecial 347, 3) := by decide +kernel
theorem dX11_newHater_54 : decode cX11_newHater 54 = .ok (.areturn, 1) := by decide +kernel
theorem dX11_newHater_55 : decode cX11_newHater 55 = .ok (.new 323, 3) := by decide +kernel
theorem dX11_newHater_58 : decode cX11_newHater 58 = .ok (.dup, 1) := by decide +kernel
theorem dX11_newHater_59 : decode cX11_newHater 59 = .ok (.iload_n 1, 1) := by decide +kernel
theorem dX11_newHater_60 : decode cX11_newHater 60 = .ok (.iload_n 2, 1) := by decide +kernel
theorem dX11_newHater_61 : decode cX11_newHater 61 = .ok (.iload_n 3, 1) := by decide +kernel
theorem dX11_newHater_62 : decode cX11_newHater 62 = .ok (.aload_n 0, 1) := by decide +kernel
theorem dX11_newHater_63 : decode cX11_newHater 63 = .ok (.getfield 40, 3) := by decide +kernel
theorem dX11_newHater_66 : decode cX11_newHater 66 = .ok (.invokespecial 350, 3) := by decide +kernel
theorem dX11_newHater_69 : decode cX11_newHater 69 = .ok (.areturn, 1) := by decide +kernel
theorem dX11_newHater_70 : decode cX11_newHater 70 = .ok (.new 325, 3) := by decide +kernel
theorem dX11_newHater_73 : decode cX11_newHater 73 = .ok (.dup, 1) := by decide +kernel
theorem dX11_newHater_74 : decode cX11_newHater 74 = .ok (.iload_n 1, 1) := by decide +kernel
theorem dX11_newHater_75 : decode cX11_newHater 75 = .ok (.iload_n 2, 1) := by decide +kernel
theorem dX11_newHater_76 : decode cX11_newHater 76 = .ok (.iload_n 3, 1) := by decide +kernel
theorem dX11_newHater_77 : decode cX11_newHater 77 = .ok (.aload_n 0, 1) := by decide +kernel
theorem dX11_newHater_78 : decode cX11_newHater 78 = .ok (.getfield 40, 3) := by decide +kernel
theorem dX11_newHater_81 : decode cX11_newHater 81 = .ok (.invokespecial 351, 3) := by decide +kernel
theorem dX11_newHater_84 : decode cX11_newHater 84 = .ok (.areturn, 1) := by decide +kernel
theorem dX11_newHater_85 : decode cX11_newHater 85 = .ok (.new 327, 3) := by decide +kernel
theorem dX11_newHater_88 : decode cX11_newHater 88 = .ok (.dup, 1) := by decide +kernel
theorem dX11_newHater_89 : decode cX11_newHater 89 = .ok (.iload_n 1, 1) := by decide +kernel
theorem dX11_newHater_90 : decode cX11_newHater 90 = .ok (.iload_n 2, 1) := by decide +kernel
theorem dX11_newHater_91 : decode cX11_newHater 91 = .ok (.iload_n 3, 1) := by decide +kernel
theorem dX11_newHater_92 : decode cX11_newHater 92 = .ok (.aload_n 0, 1) := by decide +kernel
theorem dX11_newHater_93 : decode cX11_newHater 93 = .ok (.getfield 40, 3) := by decide +kernel
theorem dX11_newHater_96 : decode cX11_newHater 96 = .ok (.invokespecial 352, 3) := by decide +kernel
theorem dX11_newHater_99 : decode cX11_newHater 99 = .ok (.areturn, 1) := by decide +kernel
theorem dX11_newHater_100 : decode cX11_newHater 100 = .ok (.new 329, 3) := by decide +kernel
theorem dX11_newHater_103 : decode cX11_newHater 103 = .ok (.dup, 1) := by decide +kernel
theorem dX11_newHater_104 : decode cX11_newHater 104 = .ok (.iload_n 1, 1) := by decide +kernel
theorem dX11_newHater_105 : decode cX11_newHater 105 = .ok (.iload_n 2, 1) := by decide +kernel
theorem dX11_newHater_106 : decode cX11_newHater 106 = .ok (.iload_n 3, 1) := by decide +kernel
theorem dX11_newHater_107 : decode cX11_newHater 107 = .ok (.aload_n 0, 1) := by decide +kernel
theorem dX11_newHater_108 : decode cX11_newHater 108 = .ok (.getfield 40, 3) := by decide +kernel
theorem dX11_newHater_111 : decode cX11_newHater 111 = .ok (.invokespecial 353, 3) := by decide +kernel
theorem dX11_newHater_114 : decode cX11_newHater 114 = .ok (.areturn, 1) := by decide +kernel
theorem dX11_newHater_115 : decode cX11_newHater 115 = .ok (.new 138, 3) := by decide +kernel
theorem dX11_newHater_118 : decode cX11_newHater 118 = .ok (.dup, 1) := by decide +kernel
theorem dX11_newHater_119 : decode cX11_newHater 119 = .ok (.iload_n 1, 1) := by decide +kernel
theorem dX11_newHater_120 : decode cX11_newHater 120 = .ok (.iload_n 2, 1) := by decide +kernel
theorem dX11_newHater_121 : decode cX11_newHater 121 = .ok (.iload_n 3, 1) := by decide +kernel
theorem dX11_newHater_122 : decode cX11_newHater 122 = .ok (.aload_n 0, 1) := by decide +kernel
theorem dX11_newHater_123 : decode cX11_newHater 123 = .ok (.getfield 40, 3) := by decide +kernel
theorem dX11_newHater_126 : decode cX11_newHater 126 = .ok (.invokespecial 354, 3) := by decide +kernel
theorem dX11_newHater_129 : decode cX11_newHater 129 = .ok (.areturn, 1) := by decide +kernel
theorem dX11_newHater_130 : decode cX11_newHater 130 = .ok (.new 95, 3) := by decide +kernel
theorem dX11_newHater_133 : decode cX11_newHater 133 = .ok (.dup, 1) := by decide +kernel
theorem dX11_newHater_134 : decode cX11_newHater 134 = .ok (.iload_n 1, 1) := by decide +kernel
theorem dX11_newHater_135 : decode cX11_newHater 135 = .ok (.iload_n 2, 1) := by decide +kernel
theorem dX11_newHater_136 : decode cX11_newHater 136 = .ok (.iload_n 3, 1) := by decide +kernel
theorem dX11_newHater_137 : decode cX11_newHater 137 = .ok (.aload_n 0, 1) := by decide +kernel
theorem dX11_newHater_138 : decode cX11_newHater 138 = .ok (.getfield 40, 3) := by decide +kernel
theorem dX11_newHater_141 : decode cX11_newHater 141 = .ok (.invokespecial 355, 3) := by decide +kernel
theorem dX11_newHater_144 : decode cX11_newHater 144 = .ok (.areturn, 1) := by decide +kernel
theorem dX12_init_0 : decode cX12_init 0 = .ok (.aload_n 0, 1) := by decide +kernel
theorem dX12_init_1 : decode cX12_init 1 = .ok (.invokespecial 1, 3) := by decide +kernel
theorem dX12_init_4 : decode cX12_init 4 = .ok (.aload_n 0, 1) := by decide +kernel
theorem dX12_init_5 : decode cX12_init 5 = .ok (.iconst 0, 1) := by decide +kernel
theorem dX12_init_6 : decode cX12_init 6 = .ok (.putfield 7, 3) := by decide +kernel
theorem dX12_init_9 : decode cX12_init 9 = .ok (.aload_n 0, 1) := by decide +kernel
theorem dX12_init_10 : decode cX12_init 10 = .ok (.iconst 0, 1) := by decide +kernel
theorem dX12_init_11 : decode cX12_init 11 = .ok (.putfield 13, 3) := by decide +kernel
theorem dX12_init_14 : decode cX12_init 14 = .ok (.aload_n 0, 1) := by decide +kernel
theorem dX12_init_15 : decode cX12_init 15 = .ok (.iconst 0, 1) := by decide +kernel
theorem dX12_init_16 : decode cX12_init 16 = .ok (.putfield 16, 3) := by decide +kernel
theorem dX12_init_19 : decode cX12_init 19 = .ok (.aload_n 0, 1) := by decide +kernel
theorem dX12_init_20 : decode cX12_init 20 = .ok (.bipush 6, 2) := by decide +kernel
theorem dX12_init_22 : decode cX12_init 22 = .ok (.newarray .int, 2) := by decide +kernel
theorem dX12_init_24 : decode cX12_init 24 = .ok (.putfield 19, 3) := by decide +kernel
theorem dX12_init_27 : decode cX12_init 27 = .ok (.aload_n 0, 1) := by decide +kernel
theorem dX12_init_28 : decode cX12_init 28 = .ok (.bipush 6, 2) := by decide +kernel
theorem dX12_init_30 : decode cX12_init 30 = .ok (.newarray .int, 2) := by decide +kernel
theorem dX12_init_32 : decode cX12_init 32 = .ok (.putfield 23, 3) := by decide +kernel
theorem dX12_init_35 : decode cX12_init 35 = .ok (.aload_n 0, 1) := by decide +kernel
theorem dX12_init_36 : decode cX12_init 36 = .ok (.bipush 30, 2) := by decide +kernel
theorem dX12_init_38 : decode cX12_init 38 = .ok (.newarray .int, 2) := by decide +kernel
theorem dX12_init_40 : decode cX12_init 40 = .ok (.putfield 26, 3) := by decide +kernel
theorem dX12_init_43 : decode cX12_init 43 = .ok (.aload_n 0, 1) := by decide +kernel
theorem dX12_init_44 : decode cX12_init 44 = .ok (.bipush 24, 2) := by decide +kernel
theorem dX12_init_46 : decode cX12_init 46 = .ok (.newarray .int, 2) := by decide +kernel
theorem dX12_init_48 : decode cX12_init 48 = .ok (.putfield 29, 3) := by decide +kernel
theorem dX12_init_51 : decode cX12_init 51 = .ok (.aload_n 0, 1) := by decide +kernel
theorem dX12_init_52 : decode cX12_init 52 = .ok (.iconst 5, 1) := by decide +kernel
theorem dX12_init_53 : decode cX12_init 53 = .ok (.newarray .int, 2) := by decide +kernel
theorem dX12_init_55 : decode cX12_init 55 = .ok (.putfield 32, 3) := by decide +kernel
theorem dX12_init_58 : decode cX12_init 58 = .ok (.aload_n 0, 1) := by decide +kernel
theorem dX12_init_59 : decode cX12_init 59 = .ok (.iconst 5, 1) := by decide +kernel
theorem dX12_init_60 : decode cX12_init 60 = .ok (.newarray .int, 2) := by decide +kernel
theorem dX12_init_62 : decode cX12_init 62 = .ok (.dup, 1) := by decide +kernel
theorem dX12_init_63 : decode cX12_init 63 = .ok (.iconst 0, 1) := by decide +kernel
theorem dX12_init_64 : decode cX12_init 64 = .ok (.bipush (-5), 2) := by decide +kernel
theorem dX12_init_66 : decode cX12_init 66 = .ok (.iastore, 1) := by decide +kernel
theorem dX12_init_67 : decode cX12_init 67 = .ok (.dup, 1) := by decide +kernel
theorem dX12_init_68 : decode cX12_init 68 = .ok (.iconst 1, 1) := by decide +kernel
theorem dX12_init_69 : decode cX12_init 69 = .ok (.bipush (-5), 2) := by decide +kernel
theorem dX12_init_71 : decode cX12_init 71 = .ok (.iastore, 1) := by decide +kernel
theorem dX12_init_72 : decode cX12_init 72 = .ok (.dup, 1) := by decide +kernel
theorem dX12_init_73 : decode cX12_init 73 = .ok (.iconst 2, 1) := by decide +kernel
theorem dX12_init_74 : decode cX12_init 74 = .ok (.bipush (-5), 2) := by decide +kernel
theorem dX12_init_76 : decode cX12_init 76 = .ok (.iastore, 1) := by decide +kernel
theorem dX12_init_77 : decode cX12_init 77 = .ok (.dup, 1) := by decide +kernel
theorem dX12_init_78 : decode cX12_init 78 = .ok (.iconst 3, 1) := by decide +kernel
theorem dX12_init_79 : decode cX12_init 79 = .ok (.bipush (-5), 2) := by decide +kernel
theorem dX12_init_81 : decode cX12_init 81 = .ok (.iastore, 1) := by decide +kernel
theorem dX12_init_82 : decode cX12_init 82 = .ok (.dup, 1) := by decide +kernel
theorem dX12_init_83 : decode cX12_init 83 = .ok (.iconst 4, 1) := by decide +kernel
theorem dX12_init_84 : decode cX12_init 84 = .ok (.bipush (-5), 2) := by decide +kernel
theorem dX12_init_86 : decode cX12_init 86 = .ok (.iastore, 1) := by decide +kernel
theorem dX12_init_87 : decode cX12_init 87 = .ok (.putfield 35, 3) := by decide +kernel
theorem dX12_init_90 : decode cX12_init 90 = .ok (.aload_n 0, 1) := by decide +kernel
theorem dX12_init_91 : decode cX12_init 91 = .ok (.iconst 0, 1) := by decide +kernel
theorem dX12_init_92 : decode cX12_init 92 = .ok (.putfield 38, 3) := by decide +kernel
theorem dX12_init_95 : decode cX12_init 95 = .ok (.aload_n 0, 1) := by decide +kernel
theorem dX12_init_96 : decode cX12_init 96 = .ok (.iconst (-1), 1) := by decide +kernel
theorem dX12_init_97 : decode cX12_init 97 = .ok (.putfield 41, 3) := by decide +kernel
theorem dX12_init_100 : decode cX12_init 100 = .ok (.aload_n 0, 1) := by decide +kernel
theorem dX12_init_101 : decode cX12_init 101 = .ok (.iconst 0, 1) := by decide +kernel
theorem dX12_init_102 : decode cX12_init 102 = .ok (.putfield 44, 3) := by decide +kernel
theorem dX12_init_105 : decode cX12_init 105 = .ok (.aload_n 0, 1) := by decide +kernel
theorem dX12_init_106 : decode cX12_init 106 = .ok (.iconst 0, 1) := by decide +kernel
theorem dX12_init_107 : decode cX12_init 107 = .ok (.putfield 47, 3) := by decide +kernel
theorem dX12_init_110 : decode cX12_init 110 = .ok (.aload_n 0, 1) := by decide +kernel
theorem dX12_init_111 : decode cX12_init 111 = .ok (.iconst 0, 1) := by decide +kernel
theorem dX12_init_112 : decode cX12_init 112 = .ok (.putfield 50, 3) := by decide +kernel
theorem dX12_init_115 : decode cX12_init 115 = .ok (.aload_n 0, 1) := by decide +kernel
theorem dX12_init_116 : decode cX12_init 116 = .ok (.bipush 100, 2) := by decide +kernel
theorem dX12_init_118 : decode cX12_init 118 = .ok (.newarray .int, 2) := by decide +kernel
theorem dX12_init_120 : decode cX12_init 120 = .ok (.putfield 53, 3) := by decide +kernel
theorem dX12_init_123 : decode cX12_init 123 = .ok (.aload_n 0, 1) := by decide +kernel
theorem dX12_init_124 : decode cX12_init 124 = .ok (.bipush 6, 2) := by decide +kernel
theorem dX12_init_126 : decode cX12_init 126 = .ok (.newarray .int, 2) := by decide +kernel
theorem dX12_init_128 : decode cX12_init 128 = .ok (.putfield 56, 3) := by decide +kernel
theorem dX12_init_131 : decode cX12_init 131 = .ok (.aload_n 0, 1) := by decide +kernel
theorem dX12_init_132 : decode cX12_init 132 = .ok (.bipush 60, 2) := by decide +kernel
theorem dX12_init_134 : decode cX12_init 134 = .ok (.newarray .int, 2) := by decide +kernel
theorem dX12_init_136 : decode cX12_init 136 = .ok (.putfield 59, 3) := by decide +kernel
theorem dX12_init_139 : decode cX12_init 139 = .ok (.aload_n 0, 1) := by decide +kernel
theorem dX12_init_140 : decode cX12_init 140 = .ok (.bipush 60, 2) := by decide +kernel
theorem dX12_init_142 : decode cX12_init 142 = .ok (.newarray .int, 2) := by decide +kernel
theorem dX12_init_144 : decode cX12_init 144 = .ok (.putfield 62, 3) := by decide +kernel
theorem dX12_init_147 : decode cX12_init 147 = .ok (.aload_n 0, 1) := by decide +kernel
theorem dX12_init_148 : decode cX12_init 148 = .ok (.bipush 60, 2) := by decide +kernel
theorem dX12_init_150 : decode cX12_init 150 = .ok (.newarray .int, 2) := by decide +kernel
theorem dX12_init_152 : decode cX12_init 152 = .ok (.putfield 65, 3) := by decide +kernel
theorem dX12_init_155 : decode cX12_init 155 = .ok (.aload_n 0, 1) := by decide +kernel
theorem dX12_init_156 : decode cX12_init 156 = .ok (.bipush 60, 2) := by decide +kernel
theorem dX12_init_158 : decode cX12_init 158 = .ok (.newarray .int, 2) := by decide +kernel
theorem dX12_init_160 : decode cX12_init 160 = .ok (.putfield 68, 3) := by decide +kernel
theorem dX12_init_163 : decode cX12_init 163 = .ok (.aload_n 0, 1) := by decide +kernel
theorem dX12_init_164 : decode cX12_init 164 = .ok (.sipush 600, 3) := by decide +kernel
theorem dX12_init_167 : decode cX12_init 167 = .ok (.newarray .int, 2) := by decide +kernel
theorem dX12_init_169 : decode cX12_init 169 = .ok (.putfield 71, 3) := by decide +kernel
theorem dX12_init_172 : decode cX12_init 172 = .ok (.aload_n 0, 1) := by decide +kernel
theorem dX12_init_173 : decode cX12_init 173 = .ok (.bipush 101, 2) := by decide +kernel
theorem dX12_init_175 : decode cX12_init 175 = .ok (.newarray .int, 2) := by decide +kernel
theorem dX12_init_177 : decode cX12_init 177 = .ok (.putfield 74, 3) := by decide +kernel
theorem dX12_init_180 : decode cX12_init 180 = .ok (.aload_n 0, 1) := by decide +kernel
theorem dX12_init_181 : decode cX12_init 181 = .ok (.iconst 0, 1) := by decide +kernel
theorem dX12_init_182 : decode cX12_init 182 = .ok (.putfield 77, 3) := by decide +kernel
theorem dX12_init_185 : decode cX12_init 185 = .ok (.aload_n 0, 1) := by decide +kernel
theorem dX12_init_186 : decode cX12_init 186 = .ok (.iconst 0, 1) := by decide +kernel
theorem dX12_init_187 : decode cX12_init 187 = .ok (.putfield 80, 3) := by decide +kernel
theorem dX12_init_190 : decode cX12_init 190 = .ok (.aload_n 0, 1) := by decide +kernel
theorem dX12_init_191 : decode cX12_init 191 = .ok (.iconst 0, 1) := by decide +kernel
theorem dX12_init_192 : decode cX12_init 192 = .ok (.putfield 83, 3) := by decide +kernel
theorem dX12_init_195 : decode cX12_init 195 = .ok (.aload_n 0, 1) := by decide +kernel
theorem dX12_init_196 : decode cX12_init 196 = .ok (.bipush 15, 2) := by decide +kernel
theorem dX12_init_198 : decode cX12_init 198 = .ok (.newarray .int, 2) := by decide +kernel
theorem dX12_init_200 : decode cX12_init 200 = .ok (.dup, 1) := by decide +kernel
theorem dX12_init_201 : decode cX12_init 201 = .ok (.iconst 0, 1) := by decide +kernel
theorem dX12_init_202 : decode cX12_init 202 = .ok (.bipush 104, 2) := by decide +kernel
theorem dX12_init_204 : decode cX12_init 204 = .ok (.iastore, 1) := by decide +kernel
theorem dX12_init_205 : decode cX12_init 205 = .ok (.dup, 1) := by decide +kernel
theorem dX12_init_206 : decode cX12_init 206 = .ok (.iconst 1, 1) := by decide +kernel
theorem dX12_init_207 : decode cX12_init 207 = .ok (.bipush 111, 2) := by decide +kernel
theorem dX12_init_209 : decode cX12_init 209 = .ok (.iastore, 1) := by decide +kernel
theorem dX12_init_210 : decode cX12_init 210 = .ok (.dup, 1) := by decide +kernel
theorem dX12_init_211 : decode cX12_init 211 = .ok (.iconst 2, 1) := by decide +kernel
theorem dX12_init_212 : decode cX12_init 212 = .ok (.bipush 116, 2) := by decide +kernel
theorem dX12_init_214 : decode cX12_init 214 = .ok (.iastore, 1) := by decide +kernel
theorem dX12_init_215 : decode cX12_init 215 = .ok (.dup, 1) := by decide +kernel
theorem dX12_init_216 : decode cX12_init 216 = .ok (.iconst 3, 1) := by decide +kernel
theorem dX12_init_217 : decode cX12_init 217 = .ok (.bipush 99, 2) := by decide +kernel
theorem dX12_init_219 : decode cX12_init 219 = .ok (.iastore, 1) := by decide +kernel
theorem dX12_init_220 : decode cX12_init 220 = .ok (.dup, 1) := by decide +kernel
theorem dX12_init_221 : decode cX12_init 221 = .ok (.iconst 4, 1) := by decide +kernel
theorem dX12_init_222 : decode cX12_init 222 = .ok (.bipush 111, 2) := by decide +kernel
theorem dX12_init_224 : decode cX12_init 224 = .ok (.iastore, 1) := by decide +kernel
theorem dX12_init_225 : decode cX12_init 225 = .ok (.dup, 1) := by decide +kernel
theorem dX12_init_226 : decode cX12_init 226 = .ok (.iconst 5, 1) := by decide +kernel
theorem dX12_init_227 : decode cX12_init 227 = .ok (.bipush 108, 2) := by decide +kernel
theorem dX12_init_229 : decode cX12_init 229 = .ok (.iastore, 1) := by decide +kernel
theorem dX12_init_230 : decode cX12_init 230 = .ok (.dup, 1) := by decide +kernel
theorem dX12_init_231 : decode cX12_init 231 = .ok (.bipush 6, 2) := by decide +kernel
theorem dX12_init_233 : decode cX12_init 233 = .ok (.bipush 100, 2) := by decide +kernel
theorem dX12_init_235 : decode cX12_init 235 = .ok (.iastore, 1) := by decide +kernel
theorem dX12_init_236 : decode cX12_init 236 = .ok (.dup, 1) := by decide +kernel
theorem dX12_init_237 : decode cX12_init 237 = .ok (.bipush 7, 2) := by decide +kernel
theorem dX12_init_239 : decode cX12_init 239 = .ok (.bipush 110, 2) := by decide +kernel
theorem dX12_init_241 : decode cX12_init 241 = .ok (.iastore, 1) := by decide +kernel
theorem dX12_init_242 : decode cX12_init 242 = .ok (.dup, 1) := by decide +kernel
theorem dX12_init_243 : decode cX12_init 243 = .ok (.bipush 8, 2) := by decide +kernel
theorem dX12_init_245 : decode cX12_init 245 = .ok (.bipush 101, 2) := by decide +kernel
theorem dX12_init_247 : decode cX12_init 247 = .ok (.iastore, 1) := by decide +kernel
theorem dX12_init_248 : decode cX12_init 248 = .ok (.dup, 1) := by decide +kernel
theorem dX12_init_249 : decode cX12_init 249 = .ok (.bipush 9, 2) := by decide +kernel
theorem dX12_init_251 : decode cX12_init 251 = .ok (.bipush 101, 2) := by decide +kernel
theorem dX12_init_253 : decode cX12_init 253 = .ok (.iastore, 1) := by decide +kernel
theorem dX12_init_254 : decode cX12_init 254 = .ok (.dup, 1) := by decide +kernel
theorem dX12_init_255 : decode cX12_init 255 = .ok (.bipush 10, 2) := by decide +kernel
theorem dX12_init_257 : decode cX12_init 257 = .ok (.bipush 100, 2) := by decide +kernel
theorem dX12_init_259 : decode cX12_init 259 = .ok (.iastore, 1) := by decide +kernel
theorem dX12_init_260 : decode cX12_init 260 = .ok (.dup, 1) := by decide +kernel
theorem dX12_init_261 : decode cX12_init 261 = .ok (.bipush 11, 2) := by decide +kernel
theorem dX12_init_263 : decode cX12_init 263 = .ok (.bipush 119, 2) := by decide +kernel
theorem dX12_init_265 : decode cX12_init 265 = .ok (.iastore, 1) := by decide +kernel
theorem dX12_init_266 : decode cX12_init 266 = .ok (.dup, 1) := by decide +kernel
theorem dX12_init_267 : decode cX12_init 267 = .ok (.bipush 12, 2) := by decide +kernel
theorem dX12_init_269 : decode cX12_init 269 = .ok (.bipush 101, 2) := by decide +kernel
theorem dX12_init_271 : decode cX12_init 271 = .ok (.iastore, 1) := by decide +kernel
theorem dX12_init_272 : decode cX12_init 272 = .ok (.dup, 1) := by decide +kernel
theorem dX12_init_273 : decode cX12_init 273 = .ok (.bipush 13, 2) := by decide +kernel
theorem dX12_init_275 : decode cX12_init 275 = .ok (.bipush 97, 2) := by decide +kernel
theorem dX12_init_277 : decode cX12_init 277 = .ok (.iastore, 1) := by decide +kernel
theorem dX12_init_278 : decode cX12_init 278 = .ok (.dup, 1) := by decide +kernel
theorem dX12_init_279 : decode cX12_init 279 = .ok (.bipush 14, 2) := by decide +kernel
theorem dX12_init_281 : decode cX12_init 281 = .ok (.bipush 114, 2) := by decide +kernel
theorem dX12_init_283 : decode cX12_init 283 = .ok (.iastore, 1) := by decide +kernel
theorem dX12_init_284 : decode cX12_init 284 = .ok (.putfield 86, 3) := by decide +kernel
theorem dX12_init_287 : decode cX12_init 287 = .ok (.aload_n 0, 1) := by decide +kernel
theorem dX12_init_288 : decode cX12_init 288 = .ok (.bipush 100, 2) := by decide +kernel
theorem dX12_init_290 : decode cX12_init 290 = .ok (.newarray .boolean, 2) := by decide +kernel
theorem dX12_init_292 : decode cX12_init 292 = .ok (.putfield 89, 3) := by decide +kernel
theorem dX12_init_295 : decode cX12_init 295 = .ok (.aload_n 0, 1) := by decide +kernel
theorem dX12_init_296 : decode cX12_init 296 = .ok (.sipush 9999, 3) := by decide +kernel
theorem dX12_init_299 : decode cX12_init 299 = .ok (.putfield 93, 3) := by decide +kernel
theorem dX12_init_302 : decode cX12_init 302 = .ok (.aload_n 0, 1) := by decide +kernel
theorem dX12_init_303 : decode cX12_init 303 = .ok (.iconst 0, 1) := by decide +kernel
theorem dX12_init_304 : decode cX12_init 304 = .ok (.putfield 96, 3) := by decide +kernel
theorem dX12_init_307 : decode cX12_init 307 = .ok (.aload_n 0, 1) := by decide +kernel
theorem dX12_init_308 : decode cX12_init 308 = .ok (.iconst 0, 1) := by decide +kernel
theorem dX12_init_309 : decode cX12_init 309 = .ok (.putfield 99, 3) := by decide +kernel
theorem dX12_init_312 : decode cX12_init 312 = .ok (.aload_n 0, 1) := by decide +kernel
theorem dX12_init_313 : decode cX12_init 313 = .ok (.bipush 30, 2) := by decide +kernel
theorem dX12_init_315 : decode cX12_init 315 = .ok (.newarray .int, 2) := by decide +kernel
theorem dX12_init_317 : decode cX12_init 317 = .ok (.putfield 102, 3) := by decide +kernel
theorem dX12_init_320 : decode cX12_init 320 = .ok (.aload_n 0, 1) := by decide +kernel
theorem dX12_init_321 : decode cX12_init 321 = .ok (.iconst 5, 1) := by decide +kernel
theorem dX12_init_322 : decode cX12_init 322 = .ok (.newarray .int, 2) := by decide +kernel
theorem dX12_init_324 : decode cX12_init 324 = .ok (.putfield 105, 3) := by decide +kernel
theorem dX12_init_327 : decode cX12_init 327 = .ok (.aload_n 0, 1) := by decide +kernel
theorem dX12_init_328 : decode cX12_init 328 = .ok (.iconst 5, 1) := by decide +kernel
theorem dX12_init_329 : decode cX12_init 329 = .ok (.newarray .int, 2) := by decide +kernel
theorem dX12_init_331 : decode cX12_init 331 = .ok (.putfield 108, 3) := by decide +kernel
theorem dX12_init_334 : decode cX12_init 334 = .ok (.aload_n 0, 1) := by decide +kernel
theorem dX12_init_335 : decode cX12_init 335 = .ok (.bipush 30, 2) := by decide +kernel
theorem dX12_init_337 : decode cX12_init 337 = .ok (.newarray .int, 2) := by decide +kernel
theorem dX12_init_339 : decode cX12_init 339 = .ok (.putfield 111, 3) := by decide +kernel
theorem dX12_init_342 : decode cX12_init 342 = .ok (.aload_n 0, 1) := by decide +kernel
theorem dX12_init_343 : decode cX12_init 343 = .ok (.iconst 5, 1) := by decide +kernel
theorem dX12_init_344 : decode cX12_init 344 = .ok (.newarray .int, 2) := by decide +kernel
theorem dX12_init_346 : decode cX12_init 346 = .ok (.putfield 114, 3) := by decide +kernel
theorem dX12_init_349 : decode cX12_init 349 = .ok (.aload_n 0, 1) := by decide +kernel
theorem dX12_init_350 : decode cX12_init 350 = .ok (.iconst 5, 1) := by decide +kernel
theorem dX12_init_351 : decode cX12_init 351 = .ok (.newarray .int, 2) := by decide +kernel
theorem dX12_init_353 : decode cX12_init 353 = .ok (.putfield 117, 3) := by decide +kernel
theorem dX12_init_356 : decode cX12_init 356 = .ok (.aload_n 0, 1) := by decide +kernel
theorem dX12_init_357 : decode cX12_init 357 = .ok (.iconst 0, 1) := by decide +kernel
theorem dX12_init_358 : decode cX12_init 358 = .ok (.putfield 120, 3) := by decide +kernel
theorem dX12_init_361 : decode cX12_init 361 = .ok (.aload_n 0, 1) := by decide +kernel
theorem dX12_init_362 : decode cX12_init 362 = .ok (.iconst 0, 1) := by decide +kernel
theorem dX12_init_363 : decode cX12_init 363 = .ok (.putfield 123, 3) := by decide +kernel
theorem dX12_init_366 : decode cX12_init 366 = .ok (.aload_n 0, 1) := by decide +kernel
theorem dX12_init_367 : decode cX12_init 367 = .ok (.iconst 0, 1) := by decide +kernel
theorem dX12_init_368 : decode cX12_init 368 = .ok (.putfield 126, 3) := by decide +kernel
theorem dX12_init_371 : decode cX12_init 371 = .ok (.aload_n 0, 1) := by decide +kernel
theorem dX12_init_372 : decode cX12_init 372 = .ok (.iconst 5, 1) := by decide +kernel
theorem dX12_init_373 : decode cX12_init 373 = .ok (.newarray .int, 2) := by decide +kernel
theorem dX12_init_375 : decode cX12_init 375 = .ok (.putfield 129, 3) := by decide +kernel
theorem dX12_init_378 : decode cX12_init 378 = .ok (.aload_n 0, 1) := by decide +kernel
theorem dX12_init_379 : decode cX12_init 379 = .ok (.iconst 5, 1) := by decide +kernel
theorem dX12_init_380 : decode cX12_init 380 = .ok (.newarray .int, 2) := by decide +kernel
theorem dX12_init_382 : decode cX12_init 382 = .ok (.putfield 132, 3) := by decide +kernel
theorem dX12_init_385 : decode cX12_init 385 = .ok (.aload_n 0, 1) := by decide +kernel
theorem dX12_init_386 : decode cX12_init 386 = .ok (.iconst 5, 1) := by decide +kernel
theorem dX12_init_387 : decode cX12_init 387 = .ok (.newarray .int, 2) := by decide +kernel
theorem dX12_init_389 : decode cX12_init 389 = .ok (.putfield 135, 3) := by decide +kernel
theorem dX12_init_392 : decode cX12_init 392 = .ok (.aload_n 0, 1) := by decide +kernel
theorem dX12_init_393 : decode cX12_init 393 = .ok (.iconst 5, 1) := by decide +kernel
theorem dX12_init_394 : decode cX12_init 394 = .ok (.newarray .boolean, 2) := by decide +kernel
theorem dX12_init_396 : decode cX12_init 396 = .ok (.putfield 138, 3) := by decide +kernel
theorem dX12_init_399 : decode cX12_init 399 = .ok (.aload_n 0, 1) := by decide +kernel
theorem dX12_init_400 : decode cX12_init 400 = .ok (.iconst 0, 1) := by decide +kernel
theorem dX12_init_401 : decode cX12_init 401 = .ok (.putfield 141, 3) := by decide +kernel
theorem dX12_init_404 : decode cX12_init 404 = .ok (.aload_n 0, 1) := by decide +kernel
theorem dX12_init_405 : decode cX12_init 405 = .ok (.iconst 0, 1) := by decide +kernel
theorem dX12_init_406 : decode cX12_init 406 = .ok (.putfield 144, 3) := by decide +kernel
theorem dX12_init_409 : decode cX12_init 409 = .ok (.aload_n 0, 1) := by decide +kernel
theorem dX12_init_410 : decode cX12_init 410 = .ok (.bipush 10, 2) := by decide +kernel
theorem dX12_init_412 : decode cX12_init 412 = .ok (.newarray .int, 2) := by decide +kernel
theorem dX12_init_414 : decode cX12_init 414 = .ok (.putfield 147, 3) := by decide +kernel
theorem dX12_init_417 : decode cX12_init 417 = .ok (.aload_n 0, 1) := by decide +kernel
theorem dX12_init_418 : decode cX12_init 418 = .ok (.bipush 10, 2) := by decide +kernel
theorem dX12_init_420 : decode cX12_init 420 = .ok (.newarray .int, 2) := by decide +kernel
theorem dX12_init_422 : decode cX12_init 422 = .ok (.putfield 150, 3) := by decide +kernel
theorem dX12_init_425 : decode cX12_init 425 = .ok (.aload_n 0, 1) := by decide +kernel
theorem dX12_init_426 : decode cX12_init 426 = .ok (.bipush 8, 2) := by decide +kernel
theorem dX12_init_428 : decode cX12_init 428 = .ok (.newarray .int, 2) := by decide +kernel
theorem dX12_init_430 : decode cX12_init 430 = .ok (.putfield 153, 3) := by decide +kernel
theorem dX12_init_433 : decode cX12_init 433 = .ok (.aload_n 0, 1) := by decide +kernel
theorem dX12_init_434 : decode cX12_init 434 = .ok (.bipush 8, 2) := by decide +kernel
theorem dX12_init_436 : decode cX12_init 436 = .ok (.newarray .int, 2) := by decide +kernel
theorem dX12_init_438 : decode cX12_init 438 = .ok (.putfield 156, 3) := by decide +kernel
theorem dX12_init_441 : decode cX12_init 441 = .ok (.aload_n 0, 1) := by decide +kernel
theorem dX12_init_442 : decode cX12_init 442 = .ok (.iconst 0, 1) := by decide +kernel
theorem dX12_init_443 : decode cX12_init 443 = .ok (.putfield 159, 3) := by decide +kernel
theorem dX12_init_446 : decode cX12_init 446 = .ok (.aload_n 0, 1) := by decide +kernel
theorem dX12_init_447 : decode cX12_init 447 = .ok (.iconst (-1), 1) := by decide +kernel
theorem dX12_init_448 : decode cX12_init 448 = .ok (.putfield 163, 3) := by decide +kernel
theorem dX12_init_451 : decode cX12_init 451 = .ok (.aload_n 0, 1) := by decide +kernel
theorem dX12_init_452 : decode cX12_init 452 = .ok (.iconst 0, 1) := by decide +kernel
theorem dX12_init_453 : decode cX12_init 453 = .ok (.putfield 166, 3) := by decide +kernel
theorem dX12_init_456 : decode cX12_init 456 = .ok (.aload_n 0, 1) := by decide +kernel
theorem dX12_init_457 : decode cX12_init 457 = .ok (.iconst 0, 1) := by decide +kernel
theorem dX12_init_458 : decode cX12_init 458 = .ok (.putfield 169, 3) := by decide +kernel
theorem dX12_init_461 : decode cX12_init 461 = .ok (.aload_n 0, 1) := by decide +kernel
theorem dX12_init_462 : decode cX12_init 462 = .ok (.iconst 0, 1) := by decide +kernel
theorem dX12_init_463 : decode cX12_init 463 = .ok (.putfield 172, 3) := by decide +kernel
theorem dX12_init_466 : decode cX12_init 466 = .ok (.aload_n 0, 1) := by decide +kernel
theorem dX12_init_467 : decode cX12_init 467 = .ok (.iconst 0, 1) := by decide +kernel
theorem dX12_init_468 : decode cX12_init 468 = .ok (.putfield 175, 3) := by decide +kernel
theorem dX12_init_471 : decode cX12_init 471 = .ok (.aload_n 0, 1) := by decide +kernel
theorem dX12_init_472 : decode cX12_init 472 = .ok (.iconst 0, 1) := by decide +kernel
theorem dX12_init_473 : decode cX12_init 473 = .ok (.putfield 178, 3) := by decide +kernel
theorem dX12_init_476 : decode cX12_init 476 = .ok (.aload_n 0, 1) := by decide +kernel
theorem dX12_init_477 : decode cX12_init 477 = .ok (.iconst 0, 1) := by decide +kernel
theorem dX12_init_478 : decode cX12_init 478 = .ok (.putfield 181, 3) := by decide +kernel
theorem dX12_init_481 : decode cX12_init 481 = .ok (.aload_n 0, 1) := by decide +kernel
theorem dX12_init_482 : decode cX12_init 482 = .ok (.bipush 6, 2) := by decide +kernel
theorem dX12_init_484 : decode cX12_init 484 = .ok (.newarray .int, 2) := by decide +kernel
theorem dX12_init_486 : decode cX12_init 486 = .ok (.putfield 184, 3) := by decide +kernel
theorem dX12_init_489 : decode cX12_init 489 = .ok (.aload_n 0, 1) := by decide +kernel
theorem dX12_init_490 : decode cX12_init 490 = .ok (.bipush 6, 2) := by decide +kernel
theorem dX12_init_492 : decode cX12_init 492 = .ok (.newarray .int, 2) := by decide +kernel
theorem dX12_init_494 : decode cX12_init 494 = .ok (.putfield 187, 3) := by decide +kernel
theorem dX12_init_497 : decode cX12_init 497 = .ok (.aload_n 0, 1) := by decide +kernel
theorem dX12_init_498 : decode cX12_init 498 = .ok (.bipush 30, 2) := by decide +kernel
theorem dX12_init_500 : decode cX12_init 500 = .ok (.newarray .int, 2) := by decide +kernel
theorem dX12_init_502 : decode cX12_init 502 = .ok (.putfield 190, 3) := by decide +kernel
theorem dX12_init_505 : decode cX12_init 505 = .ok (.aload_n 0, 1) := by decide +kernel
theorem dX12_init_506 : decode cX12_init 506 = .ok (.bipush 24, 2) := by decide +kernel
theorem dX12_init_508 : decode cX12_init 508 = .ok (.newarray .int, 2) := by decide +kernel
theorem dX12_init_510 : decode cX12_init 510 = .ok (.putfield 193, 3) := by decide +kernel
theorem dX12_init_513 : decode cX12_init 513 = .ok (.aload_n 0, 1) := by decide +kernel
theorem dX12_init_514 : decode cX12_init 514 = .ok (.iconst 5, 1) := by decide +kernel
theorem dX12_init_515 : decode cX12_init 515 = .ok (.newarray .int, 2) := by decide +kernel
theorem dX12_init_517 : decode cX12_init 517 = .ok (.putfield 196, 3) := by decide +kernel
theorem dX12_init_520 : decode cX12_init 520 = .ok (.aload_n 0, 1) := by decide +kernel
theorem dX12_init_521 : decode cX12_init 521 = .ok (.iconst 5, 1) := by decide +kernel
theorem dX12_init_522 : decode cX12_init 522 = .ok (.newarray .int, 2) := by decide +kernel
theorem dX12_init_524 : decode cX12_init 524 = .ok (.putfield 199, 3) := by decide +kernel
theorem dX12_init_527 : decode cX12_init 527 = .ok (.aload_n 0, 1) := by decide +kernel
theorem dX12_init_528 : decode cX12_init 528 = .ok (.iconst 5, 1) := by decide +kernel
theorem dX12_init_529 : decode cX12_init 529 = .ok (.newarray .int, 2) := by decide +kernel
theorem dX12_init_531 : decode cX12_init 531 = .ok (.putfield 202, 3) := by decide +kernel
theorem dX12_init_534 : decode cX12_init 534 = .ok (.aload_n 0, 1) := by decide +kernel
theorem dX12_init_535 : decode cX12_init 535 = .ok (.iconst 5, 1) := by decide +kernel
theorem dX12_init_536 : decode cX12_init 536 = .ok (.newarray .int, 2) := by decide +kernel
theorem dX12_init_538 : decode cX12_init 538 = .ok (.putfield 205, 3) := by decide +kernel
theorem dX12_init_541 : decode cX12_init 541 = .ok (.aload_n 0, 1) := by decide +kernel
theorem dX12_init_542 : decode cX12_init 542 = .ok (.iconst 5, 1) := by decide +kernel
theorem dX12_init_543 : decode cX12_init 543 = .ok (.newarray .int, 2) := by decide +kernel
theorem dX12_init_545 : decode cX12_init 545 = .ok (.putfield 208, 3) := by decide +kernel
theorem dX12_init_548 : decode cX12_init 548 = .ok (.aload_n 0, 1) := by decide +kernel
theorem dX12_init_549 : decode cX12_init 549 = .ok (.bipush 10, 2) := by decide +kernel
theorem dX12_init_551 : decode cX12_init 551 = .ok (.newarray .int, 2) := by decide +kernel
theorem dX12_init_553 : decode cX12_init 553 = .ok (.putfield 211, 3) := by decide +kernel
theorem dX12_init_556 : decode cX12_init 556 = .ok (.aload_n 0, 1) := by decide +kernel
theorem dX12_init_557 : decode cX12_init 557 = .ok (.bipush 10, 2) := by decide +kernel
theorem dX12_init_559 : decode cX12_init 559 = .ok (.newarray .int, 2) := by decide +kernel
theorem dX12_init_561 : decode cX12_init 561 = .ok (.putfield 214, 3) := by decide +kernel
theorem dX12_init_564 : decode cX12_init 564 = .ok (.aload_n 0, 1) := by decide +kernel
theorem dX12_init_565 : decode cX12_init 565 = .ok (.bipush 8, 2) := by decide +kernel
theorem dX12_init_567 : decode cX12_init 567 = .ok (.newarray .int, 2) := by decide +kernel
theorem dX12_init_569 : decode cX12_init 569 = .ok (.putfield 217, 3) := by decide +kernel
theorem dX12_init_572 : decode cX12_init 572 = .ok (.aload_n 0, 1) := by decide +kernel
theorem dX12_init_573 : decode cX12_init 573 = .ok (.bipush 8, 2) := by decide +kernel
theorem dX12_init_575 : decode cX12_init 575 = .ok (.newarray .int, 2) := by decide +kernel
theorem dX12_init_577 : decode cX12_init 577 = .ok (.putfield 220, 3) := by decide +kernel
theorem dX12_init_580 : decode cX12_init 580 = .ok (.aload_n 0, 1) := by decide +kernel
theorem dX12_init_581 : decode cX12_init 581 = .ok (.iconst 5, 1) := by decide +kernel
theorem dX12_init_582 : decode cX12_init 582 = .ok (.newarray .boolean, 2) := by decide +kernel
theorem dX12_init_584 : decode cX12_init 584 = .ok (.putfield 223, 3) := by decide +kernel
theorem dX12_init_587 : decode cX12_init 587 = .ok (.aload_n 0, 1) := by decide +kernel
theorem dX12_init_588 : decode cX12_init 588 = .ok (.iconst 0, 1) := by decide +kernel
theorem dX12_init_589 : decode cX12_init 589 = .ok (.putfield 226, 3) := by decide +kernel
theorem dX12_init_592 : decode cX12_init 592 = .ok (.aload_n 0, 1) := by decide +kernel
theorem dX12_init_593 : decode cX12_init 593 = .ok (.bipush 20, 2) := by decide +kernel
theorem dX12_init_595 : decode cX12_init 595 = .ok (.newarray .int, 2) := by decide +kernel
theorem dX12_init_597 : decode cX12_init 597 = .ok (.putfield 229, 3) := by decide +kernel
theorem dX12_init_600 : decode cX12_init 600 = .ok (.aload_n 0, 1) := by decide +kernel
theorem dX12_init_601 : decode cX12_init 601 = .ok (.bipush 6, 2) := by decide +kernel
theorem dX12_init_603 : decode cX12_init 603 = .ok (.newarray .int, 2) := by decide +kernel
theorem dX12_init_605 : decode cX12_init 605 = .ok (.dup, 1) := by decide +kernel
theorem dX12_init_606 : decode cX12_init 606 = .ok (.iconst 0, 1) := by decide +kernel
theorem dX12_init_607 : decode cX12_init 607 = .ok (.iconst (-1), 1) := by decide +kernel
theorem dX12_init_608 : decode cX12_init 608 = .ok (.iastore, 1) := by decide +kernel
theorem dX12_init_609 : decode cX12_init 609 = .ok (.dup, 1) := by decide +kernel
theorem dX12_init_610 : decode cX12_init 610 = .ok (.iconst 1, 1) := by decide +kernel
theorem dX12_init_611 : decode cX12_init 611 = .ok (.iconst (-1), 1) := by decide +kernel
theorem dX12_init_612 : decode cX12_init 612 = .ok (.iastore, 1) := by decide +kernel
theorem dX12_init_613 : decode cX12_init 613 = .ok (.dup, 1) := by decide +kernel
theorem dX12_init_614 : decode cX12_init 614 = .ok (.iconst 2, 1) := by decide +kernel
theorem dX12_init_615 : decode cX12_init 615 = .ok (.iconst (-1), 1) := by decide +kernel
theorem dX12_init_616 : decode cX12_init 616 = .ok (.iastore, 1) := by decide +kernel
theorem dX12_init_617 : decode cX12_init 617 = .ok (.dup, 1) := by decide +kernel
theorem dX12_init_618 : decode cX12_init 618 = .ok (.iconst 3, 1) := by decide +kernel
theorem dX12_init_619 : decode cX12_init 619 = .ok (.iconst (-1), 1) := by decide +kernel
theorem dX12_init_620 : decode cX12_init 620 = .ok (.iastore, 1) := by decide +kernel
theorem dX12_init_621 : decode cX12_init 621 = .ok (.dup, 1) := by decide +kernel
theorem dX12_init_622 : decode cX12_init 622 = .ok (.iconst 4, 1) := by decide +kernel
theorem dX12_init_623 : decode cX12_init 623 = .ok (.iconst (-1), 1) := by decide +kernel
theorem dX12_init_624 : decode cX12_init 624 = .ok (.iastore, 1) := by decide +kernel
theorem dX12_init_625 : decode cX12_init 625 = .ok (.dup, 1) := by decide +kernel
theorem dX12_init_626 : decode cX12_init 626 = .ok (.iconst 5, 1) := by decide +kernel
theorem dX12_init_627 : decode cX12_init 627 = .ok (.iconst (-1), 1) := by decide +kernel
theorem dX12_init_628 : decode cX12_init 628 = .ok (.iastore, 1) := by decide +kernel
theorem dX12_init_629 : decode cX12_init 629 = .ok (.putfield 232, 3) := by decide +kernel
theorem dX12_init_632 : decode cX12_init 632 = .ok (.aload_n 0, 1) := by decide +kernel
theorem dX12_init_633 : decode cX12_init 633 = .ok (.bipush 6, 2) := by decide +kernel
theorem dX12_init_635 : decode cX12_init 635 = .ok (.newarray .int, 2) := by decide +kernel
theorem dX12_init_637 : decode cX12_init 637 = .ok (.putfield 235, 3) := by decide +kernel
theorem dX12_init_640 : decode cX12_init 640 = .ok (.aload_n 0, 1) := by decide +kernel
theorem dX12_init_641 : decode cX12_init 641 = .ok (.sipush 360, 3) := by decide +kernel
theorem dX12_init_644 : decode cX12_init 644 = .ok (.newarray .long, 2) := by decide +kernel
theorem dX12_init_646 : decode cX12_init 646 = .ok (.putfield 238, 3) := by decide +kernel
theorem dX12_init_649 : decode cX12_init 649 = .ok (.aload_n 0, 1) := by decide +kernel
theorem dX12_init_650 : decode cX12_init 650 = .ok (.bipush 60, 2) := by decide +kernel
theorem dX12_init_652 : decode cX12_init 652 = .ok (.newarray .long, 2) := by decide +kernel
theorem dX12_init_654 : decode cX12_init 654 = .ok (.putfield 242, 3) := by decide +kernel
theorem dX12_init_657 : decode cX12_init 657 = .ok (.return_, 1) := by decide +kernel
theorem dX12_in_0 : decode cX12_in 0 = .ok (.iload_n 1, 1) := by decide +kernel
theorem dX12_in_1 : decode cX12_in 1 = .ok (.iload_n 2, 1) := by decide +kernel
theorem dX12_in_2 : decode cX12_in 2 = .ok (.if_icmp .lt 12, 3) := by decide +kernel
theorem dX12_in_5 : decode cX12_in 5 = .ok (.iload_n 1, 1) := by decide +kernel
theorem dX12_in_6 : decode cX12_in 6 = .ok (.iload_n 3, 1) := by decide +kernel
theorem dX12_in_7 : decode cX12_in 7 = .ok (.if_icmp .gt 7, 3) := by decide +kernel
theorem dX12_in_10 : decode cX12_in 10 = .ok (.iconst 1, 1) := by decide +kernel
theorem dX12_in_11 : decode cX12_in 11 = .ok (.goto 4, 3) := by decide +kernel
theorem dX12_in_14 : decode cX12_in 14 = .ok (.iconst 0, 1) := by decide +kernel
theorem dX12_in_15 : decode cX12_in 15 = .ok (.ireturn, 1) := by decide +kernel
theorem dX12_has_0 : decode cX12_has 0 = .ok (.iload_n 1, 1) := by decide +kernel
theorem dX12_has_1 : decode cX12_has 1 = .ok (.iload_n 2, 1) := by decide +kernel
theorem dX12_has_2 : decode cX12_has 2 = .ok (.ishr, 1) := by decide +kernel
theorem dX12_has_3 : decode cX12_has 3 = .ok (.iconst 1, 1) := by decide +kernel
theorem dX12_has_4 : decode cX12_has 4 = .ok (.iand, 1) := by decide +kernel
theorem dX12_has_5 : decode cX12_has 5 = .ok (.iconst 1, 1) := by decide +kernel
theorem dX12_has_6 : decode cX12_has 6 = .ok (.if_icmp .ne 7, 3) := by decide +kernel
theorem dX12_has_9 : decode cX12_has 9 = .ok (.iconst 1, 1) := by decide +kernel
theorem dX12_has_10 : decode cX12_has 10 = .ok (.goto 4, 3) := by decide +kernel
theorem dX12_has_13 : decode cX12_has 13 = .ok (.iconst 0, 1) := by decide +kernel
theorem dX12_has_14 : decode cX12_has 14 = .ok (.ireturn, 1) := by decide +kernel
theorem dX12_least_0 : decode cX12_least 0 = .ok (.iload_n 1, 1) := by decide +kernel
theorem dX12_least_1 : decode cX12_least 1 = .ok (.iload_n 2, 1) := by decide +kernel
theorem dX12_least_2 : decode cX12_least 2 = .ok (.if_icmp .ge 7, 3) := by decide +kernel
theorem dX12_least_5 : decode cX12_least 5 = .ok (.iload_n 1, 1) := by decide +kernel
theorem dX12_least_6 : decode cX12_least 6 = .ok (.goto 4, 3) := by decide +kernel
theorem dX12_least_9 : decode cX12_least 9 = .ok (.iload_n 2, 1) := by decide +kernel
theorem dX12_least_10 : decode cX12_least 10 = .ok (.ireturn, 1) := by decide +kernel
theorem dX12_isHater_0 : decode cX12_isHater 0 = .ok (.aload_n 0, 1) := by decide +kernel
theorem dX12_isHater_1 : decode cX12_isHater 1 = .ok (.iload_n 1, 1) := by decide +kernel
theorem dX12_isHater_2 : decode cX12_isHater 2 = .ok (.iconst 0, 1) := by decide +kernel
theorem dX12_isHater_3 : decode cX12_isHater 3 = .ok (.aload_n 0, 1) := by decide +kernel
theorem dX12_isHater_4 : decode cX12_isHater 4 = .ok (.getfield 7, 3) := by decide +kernel
theorem dX12_isHater_7 : decode cX12_isHater 7 = .ok (.iconst 1, 1) := by decide +kernel
theorem dX12_isHater_8 : decode cX12_isHater 8 = .ok (.isub, 1) := by decide +kernel
theorem dX12_isHater_9 : decode cX12_isHater 9 = .ok (.invokevirtual 245, 3) := by decide +kernel
theorem dX12_isHater_12 : decode cX12_isHater 12 = .ok (.ireturn, 1) := by decide +kernel
theorem dX12_isTree_0 : decode cX12_isTree 0 = .ok (.aload_n 0, 1) := by decide +kernel
theorem dX12_isTree_1 : decode cX12_isTree 1 = .ok (.iload_n 1, 1) := by decide +kernel
theorem dX12_isTree_2 : decode cX12_isTree 2 = .ok (.iconst 0, 1) := by decide +kernel
theorem dX12_isTree_3 : decode cX12_isTree 3 = .ok (.iconst 4, 1) := by decide +kernel
theorem dX12_isTree_4 : decode cX12_isTree 4 = .ok (.invokevirtual 245, 3) := by decide +kernel
theorem dX12_isTree_7 : decode cX12_isTree 7 = .ok (.ireturn, 1) := by decide +kernel
theorem dX12_isHate_0 : decode cX12_isHate 0 = .ok (.aload_n 0, 1) := by decide +kernel
theorem dX12_isHate_1 : decode cX12_isHate 1 = .ok (.iload_n 1, 1) := by decide +kernel
theorem dX12_isHate_2 : decode cX12_isHate 2 = .ok (.iconst 0, 1) := by decide +kernel
theorem dX12_isHate_3 : decode cX12_isHate 3 = .ok (.bipush 99, 2) := by decide +kernel
theorem dX12_isHate_5 : decode cX12_isHate 5 = .ok (.invokevirtual 245, 3) := by decide +kernel
theorem dX12_isHate_8 : decode cX12_isHate 8 = .ok (.ireturn, 1) := by decide +kernel
theorem dX12_isYears_0 : decode cX12_isYears 0 = .ok (.aload_n 0, 1) := by decide +kernel
theorem dX12_isYears_1 : decode cX12_isYears 1 = .ok (.iload_n 1, 1) := by decide +kernel
theorem dX12_isYears_2 : decode cX12_isYears 2 = .ok (.iconst 0, 1) := by decide +kernel
theorem dX12_isYears_3 : decode cX12_isYears 3 = .ok (.bipush 60, 2) := by decide +kernel
theorem dX12_isYears_5 : decode cX12_isYears 5 = .ok (.invokevirtual 245, 3) := by decide +kernel
theorem dX12_isYears_8 : decode cX12_isYears 8 = .ok (.ireturn, 1) := by decide +kernel
theorem dX12_hater_0 : decode cX12_hater 0 = .ok (.aload_n 0, 1) := by decide +kernel
theorem dX12_hater_1 : decode cX12_hater 1 = .ok (.iload_n 1, 1) := by decide +kernel
theorem dX12_hater_2 : decode cX12_hater 2 = .ok (.iconst 0, 1) := by decide +kernel
theorem dX12_hater_3 : decode cX12_hater 3 = .ok (.bipush 6, 2) := by decide +kernel
theorem dX12_hater_5 : decode cX12_hater 5 = .ok (.invokevirtual 245, 3) := by decide +kernel
theorem dX12_hater_8 : decode cX12_hater 8 = .ok (.ifCond .ne 5, 3) := by decide +kernel
theorem dX12_hater_11 : decode cX12_hater 11 = .ok (.iconst (-1), 1) := by decide +kernel
theorem dX12_hater_12 : decode cX12_hater 12 = .ok (.ireturn, 1) := by decide +kernel
theorem dX12_hater_13 : decode cX12_hater 13 = .ok (.aload_n 0, 1) := by decide +kernel
theorem dX12_hater_14 : decode cX12_hater 14 = .ok (.iload_n 2, 1) := by decide +kernel
theorem dX12_hater_15 : decode cX12_hater 15 = .ok (.iconst 0, 1) := by decide +kernel
theorem dX12_hater_16 : decode cX12_hater 16 = .ok (.bipush 9, 2) := by decide +kernel
theorem dX12_hater_18 : decode cX12_hater 18 = .ok (.invokevirtual 245, 3) := by decide +kernel
theorem dX12_hater_21 : decode cX12_hater 21 = .ok (.ifCond .eq 11, 3) := by decide +kernel
theorem dX12_hater_24 : decode cX12_hater 24 = .ok (.aload_n 0, 1) := by decide +kernel
theorem dX12_hater_25 : decode cX12_hater 25 = .ok (.iload_n 3, 1) := by decide +kernel
theorem dX12_hater_26 : decode cX12_hater 26 = .ok (.invokevirtual 249, 3) := by decide +kernel
theorem dX12_hater_29 : decode cX12_hater 29 = .ok (.ifCond .ne 6, 3) := by decide +kernel
theorem dX12_hater_32 : decode cX12_hater 32 = .ok (.bipush (-2), 2) := by decide +kernel
theorem dX12_hater_34 : decode cX12_hater 34 = .ok (.ireturn, 1) := by decide +kernel
theorem dX12_hater_35 : decode cX12_hater 35 = .ok (.aload_n 0, 1) := by decide +kernel
theorem dX12_hater_36 : decode cX12_hater 36 = .ok (.getfield 7, 3) := by decide +kernel
theorem dX12_hater_39 : decode cX12_hater 39 = .ok (.bipush 6, 2) := by decide +kernel
theorem dX12_hater_41 : decode cX12_hater 41 = .ok (.if_icmp .ne 6, 3) := by decide +kernel
theorem dX12_hater_44 : decode cX12_hater 44 = .ok (.bipush (-4), 2) := by decide +kernel
theorem dX12_hater_46 : decode cX12_hater 46 = .ok (.ireturn, 1) := by decide +kernel
theorem dX12_hater_47 : decode cX12_hater 47 = .ok (.aload_n 0, 1) := by decide +kernel
theorem dX12_hater_48 : decode cX12_hater 48 = .ok (.getfield 19, 3) := by decide +kernel
theorem dX12_hater_51 : decode cX12_hater 51 = .ok (.aload_n 0, 1) := by decide +kernel
theorem dX12_hater_52 : decode cX12_hater 52 = .ok (.getfield 7, 3) := by decide +kernel
theorem dX12_hater_55 : decode cX12_hater 55 = .ok (.iload_n 1, 1) := by decide +kernel
theorem dX12_hater_56 : decode cX12_hater 56 = .ok (.iastore, 1) := by decide +kernel
theorem dX12_hater_57 : decode cX12_hater 57 = .ok (.aload_n 0, 1) := by decide +kernel
theorem dX12_hater_58 : decode cX12_hater 58 = .ok (.getfield 23, 3) := by decide +kernel
theorem dX12_hater_61 : decode cX12_hater 61 = .ok (.aload_n 0, 1) := by decide +kernel
theorem dX12_hater_62 : decode cX12_hater 62 = .ok (.getfield 7, 3) := by decide +kernel
theorem dX12_hater_65 : decode cX12_hater 65 = .ok (.iload_n 2, 1) := by decide +kernel
theorem dX12_hater_66 : decode cX12_hater 66 = .ok (.iastore, 1) := by decide +kernel
theorem dX12_hater_67 : decode cX12_hater 67 = .ok (.aload_n 0, 1) := by decide +kernel
theorem dX12_hater_68 : decode cX12_hater 68 = .ok (.dup, 1) := by decide +kernel
theorem dX12_hater_69 : decode cX12_hater 69 = .ok (.getfield 13, 3) := by decide +kernel
theorem dX12_hater_72 : decode cX12_hater 72 = .ok (.iconst 1, 1) := by decide +kernel
theorem dX12_hater_73 : decode cX12_hater 73 = .ok (.aload_n 0, 1) := by decide +kernel
theorem dX12_hater_74 : decode cX12_hater 74 = .ok (.getfield 7, 3) := by decide +kernel
theorem dX12_hater_77 : decode cX12_hater 77 = .ok (.ishl, 1) := by decide +kernel
theorem dX12_hater_78 : decode cX12_hater 78 = .ok (.iconst (-1), 1) := by decide +kernel
theorem dX12_hater_79 : decode cX12_hater 79 = .ok (.ixor, 1) := by decide +kernel
theorem dX12_hater_80 : decode cX12_hater 80 = .ok (.iand, 1) := by decide +kernel
theorem dX12_hater_81 : decode cX12_hater 81 = .ok (.putfield 13, 3) := by decide +kernel
theorem dX12_hater_84 : decode cX12_hater 84 = .ok (.iconst 0, 1) := by decide +kernel
theorem dX12_hater_85 : decode cX12_hater 85 = .ok (.istore 4, 2) := by decide +kernel
theorem dX12_hater_87 : decode cX12_hater 87 = .ok (.iload 4, 2) := by decide +kernel
theorem dX12_hater_89 : decode cX12_hater 89 = .ok (.iconst 5, 1) := by decide +kernel
theorem dX12_hater_90 : decode cX12_hater 90 = .ok (.if_icmp .ge 24, 3) := by decide +kernel
theorem dX12_hater_93 : decode cX12_hater 93 = .ok (.aload_n 0, 1) := by decide +kernel
theorem dX12_hater_94 : decode cX12_hater 94 = .ok (.getfield 26, 3) := by decide +kernel
theorem dX12_hater_97 : decode cX12_hater 97 = .ok (.iconst 5, 1) := by decide +kernel
theorem dX12_hater_98 : decode cX12_hater 98 = .ok (.aload_n 0, 1) := by decide +kernel
theorem dX12_hater_99 : decode cX12_hater 99 = .ok (.getfield 7, 3) := by decide +kernel
theorem dX12_hater_102 : decode cX12_hater 102 = .ok (.imul, 1) := by decide +kernel
theorem dX12_hater_103 : decode cX12_hater 103 = .ok (.iload 4, 2) := by decide +kernel
theorem dX12_hater_105 : decode cX12_hater 105 = .ok (.iadd, 1) := by decide +kernel
theorem dX12_hater_106 : decode cX12_hater 106 = .ok (.iload_n 3, 1) := by decide +kernel
theorem dX12_hater_107 : decode cX12_hater 107 = .ok (.iastore, 1) := by decide +kernel
theorem dX12_hater_108 : decode cX12_hater 108 = .ok (.iinc 4 1, 3) := by decide +kernel
theorem dX12_hater_111 : decode cX12_hater 111 = .ok (.goto (-24), 3) := by decide +kernel
theorem dX12_hater_114 : decode cX12_hater 114 = .ok (.iconst 0, 1) := by decide +kernel
theorem dX12_hater_115 : decode cX12_hater 115 = .ok (.istore 4, 2) := by decide +kernel
theorem dX12_hater_117 : decode cX12_hater 117 = .ok (.iload 4, 2) := by decide +kernel
theorem dX12_hater_119 : decode cX12_hater 119 = .ok (.iconst 4, 1) := by decide +kernel
theorem dX12_hater_120 : decode cX12_hater 120 = .ok (.if_icmp .ge 24, 3) := by decide +kernel
theorem dX12_hater_123 : decode cX12_hater 123 = .ok (.aload_n 0, 1) := by decide +kernel
theorem dX12_hater_124 : decode cX12_hater 124 = .ok (.getfield 29, 3) := by decide +kernel
theorem dX12_hater_127 : decode cX12_hater 127 = .ok (.iconst 4, 1) := by decide +kernel
theorem dX12_hater_128 : decode cX12_hater 128 = .ok (.aload_n 0, 1) := by decide +kernel
theorem dX12_hater_129 : decode cX12_hater 129 = .ok (.getfield 7, 3) := by decide +kernel
theorem dX12_hater_132 : decode cX12_hater 132 = .ok (.imul, 1) := by decide +kernel
theorem dX12_hater_133 : decode cX12_hater 133 = .ok (.iload 4, 2) := by decide +kernel
theorem dX12_hater_135 : decode cX12_hater 135 = .ok (.iadd, 1) := by decide +kernel
theorem dX12_hater_136 : decode cX12_hater 136 = .ok (.iconst 0, 1) := by decide +kernel
theorem dX12_hater_137 : decode cX12_hater 137 = .ok (.iastore, 1) := by decide +kernel
theorem dX12_hater_138 : decode cX12_hater 138 = .ok (.iinc 4 1, 3) := by decide +kernel
theorem dX12_hater_141 : decode cX12_hater 141 = .ok (.goto (-24), 3) := by decide +kernel
theorem dX12_hater_144 : decode cX12_hater 144 = .ok (.aload_n 0, 1) := by decide +kernel
theorem dX12_hater_145 : decode cX12_hater 145 = .ok (.dup, 1) := by decide +kernel
theorem dX12_hater_146 : decode cX12_hater 146 = .ok (.getfield 7, 3) := by decide +kernel
theorem dX12_hater_149 : decode cX12_hater 149 = .ok (.iconst 1, 1) := by decide +kernel
theorem dX12_hater_150 : decode cX12_hater 150 = .ok (.iadd, 1) := by decide +kernel
theorem dX12_hater_151 : decode cX12_hater 151 = .ok (.putfield 7, 3) := by decide +kernel
theorem dX12_hater_154 : decode cX12_hater 154 = .ok (.aload_n 0, 1) := by decide +kernel
theorem dX12_hater_155 : decode cX12_hater 155 = .ok (.getfield 7, 3) := by decide +kernel
theorem dX12_hater_158 : decode cX12_hater 158 = .ok (.iconst 1, 1) := by decide +kernel
theorem dX12_hater_159 : decode cX12_hater 159 = .ok (.isub, 1) := by decide +kernel
theorem dX12_hater_160 : decode cX12_hater 160 = .ok (.ireturn, 1) := by decide +kernel
theorem dX12_hate_0 : decode cX12_hate 0 = .ok (.aload_n 0, 1) := by decide +kernel
theorem dX12_hate_1 : decode cX12_hate 1 = .ok (.iload_n 1, 1) := by decide +kernel
theorem dX12_hate_2 : decode cX12_hate 2 = .ok (.invokevirtual 253, 3) := by decide +kernel
theorem dX12_hate_5 : decode cX12_hate 5 = .ok (.ifCond .eq 11, 3) := by decide +kernel
theorem dX12_hate_8 : decode cX12_hate 8 = .ok (.aload_n 0, 1) := by decide +kernel
theorem dX12_hate_9 : decode cX12_hate 9 = .ok (.iload_n 2, 1) := by decide +kernel
theorem dX12_hate_10 : decode cX12_hate 10 = .ok (.invokevirtual 256, 3) := by decide +kernel
theorem dX12_hate_13 : decode cX12_hate 13 = .ok (.ifCond .ne 5, 3) := by decide +kernel
theorem dX12_hate_16 : decode cX12_hate 16 = .ok (.iconst (-1), 1) := by decide +kernel
theorem dX12_hate_17 : decode cX12_hate 17 = .ok (.ireturn, 1) := by decide +kernel
theorem dX12_hate_18 : decode cX12_hate 18 = .ok (.aload_n 0, 1) := by decide +kernel
theorem dX12_hate_19 : decode cX12_hate 19 = .ok (.iload_n 3, 1) := by decide +kernel
theorem dX12_hate_20 : decode cX12_hate 20 = .ok (.invokevirtual 249, 3) := by decide +kernel
theorem dX12_hate_23 : decode cX12_hate 23 = .ok (.ifCond .ne 6, 3) := by decide +kernel
theorem dX12_hate_26 : decode cX12_hate 26 = .ok (.bipush (-2), 2) := by decide +kernel
theorem dX12_hate_28 : decode cX12_hate 28 = .ok (.ireturn, 1) := by decide +kernel
theorem dX12_hate_29 : decode cX12_hate 29 = .ok (.aload_n 0, 1) := by decide +kernel
theorem dX12_hate_30 : decode cX12_hate 30 = .ok (.getfield 26, 3) := by decide +kernel
theorem dX12_hate_33 : decode cX12_hate 33 = .ok (.iconst 5, 1) := by decide +kernel
theorem dX12_hate_34 : decode cX12_hate 34 = .ok (.iload_n 1, 1) := by decide +kernel
theorem dX12_hate_35 : decode cX12_hate 35 = .ok (.imul, 1) := by decide +kernel
theorem dX12_hate_36 : decode cX12_hate 36 = .ok (.iload_n 2, 1) := by decide +kernel
theorem dX12_hate_37 : decode cX12_hate 37 = .ok (.iadd, 1) := by decide +kernel
theorem dX12_hate_38 : decode cX12_hate 38 = .ok (.iaload, 1) := by decide +kernel
theorem dX12_hate_39 : decode cX12_hate 39 = .ok (.istore 4, 2) := by decide +kernel
theorem dX12_hate_41 : decode cX12_hate 41 = .ok (.aload_n 0, 1) := by decide +kernel
theorem dX12_hate_42 : decode cX12_hate 42 = .ok (.getfield 26, 3) := by decide +kernel
theorem dX12_hate_45 : decode cX12_hate 45 = .ok (.iconst 5, 1) := by decide +kernel
theorem dX12_hate_46 : decode cX12_hate 46 = .ok (.iload_n 1, 1) := by decide +kernel
theorem dX12_hate_47 : decode cX12_hate 47 = .ok (.imul, 1) := by decide +kernel
theorem dX12_hate_48 : decode cX12_hate 48 = .ok (.iload_n 2, 1) := by decide +kernel
theorem dX12_hate_49 : decode cX12_hate 49 = .ok (.iadd, 1) := by decide +kernel
theorem dX12_hate_50 : decode cX12_hate 50 = .ok (.iload_n 3, 1) := by decide +kernel
theorem dX12_hate_51 : decode cX12_hate 51 = .ok (.iastore, 1) := by decide +kernel
theorem dX12_hate_52 : decode cX12_hate 52 = .ok (.iload 4, 2) := by decide +kernel
theorem dX12_hate_54 : decode cX12_hate 54 = .ok (.ireturn, 1) := by decide +kernel
theorem dX12_leads_0 : decode cX12_leads 0 = .ok (.iconst 0, 1) := by decide +kernel
theorem dX12_leads_1 : decode cX12_leads 1 = .ok (.istore_n 3, 1) := by decide +kernel
theorem dX12_leads_2 : decode cX12_leads 2 = .ok (.iload_n 3, 1) := by decide +kernel
theorem dX12_leads_3 : decode cX12_leads 3 = .ok (.iconst 5, 1) := by decide +kernel
theorem dX12_leads_4 : decode cX12_leads 4 = .ok (.if_icmp .ge 31, 3) := by decide +kernel
theorem dX12_leads_7 : decode cX12_leads 7 = .ok (.iload_n 2, 1) := by decide +kernel
theorem dX12_leads_8 : decode cX12_leads 8 = .ok (.ifCond .lt 21, 3) := by decide +kernel
theorem dX12_leads_11 : decode cX12_leads 11 = .ok (.aload_n 0, 1) := by decide +kernel
theorem dX12_leads_12 : decode cX12_leads 12 = .ok (.getfield 35, 3) := by decide +kernel
theorem dX12_leads_15 : decode cX12_leads 15 = .ok (.iload_n 3, 1) := by decide +kernel
theorem dX12_leads_16 : decode cX12_leads 16 = .ok (.iaload, 1) := by decide +kernel
theorem dX12_leads_17 : decode cX12_leads 17 = .ok (.iload_n 2, 1) := by decide +kernel
theorem dX12_leads_18 : decode cX12_leads 18 = .ok (.if_icmp .ne 11, 3) := by decide +kernel
theorem dX12_leads_21 : decode cX12_leads 21 = .ok (.aload_n 0, 1) := by decide +kernel
theorem dX12_leads_22 : decode cX12_leads 22 = .ok (.getfield 35, 3) := by decide +kernel
theorem dX12_leads_25 : decode cX12_leads 25 = .ok (.iload_n 3, 1) := by decide +kernel
theorem dX12_leads_26 : decode cX12_leads 26 = .ok (.bipush (-5), 2) := by decide +kernel
theorem dX12_leads_28 : decode cX12_leads 28 = .ok (.iastore, 1) := by decide +kernel
theorem dX12_leads_29 : decode cX12_leads 29 = .ok (.iinc 3 1, 3) := by decide +kernel
theorem dX12_leads_32 : decode cX12_leads 32 = .ok (.goto (-30), 3) := by decide +kernel
theorem dX12_leads_35 : decode cX12_leads 35 = .ok (.aload_n 0, 1) := by decide +kernel
theorem dX12_leads_36 : decode cX12_leads 36 = .ok (.getfield 35, 3) := by decide +kernel
theorem dX12_leads_39 : decode cX12_leads 39 = .ok (.iload_n 1, 1) := by decide +kernel
theorem dX12_leads_40 : decode cX12_leads 40 = .ok (.iload_n 2, 1) := by decide +kernel
theorem dX12_leads_41 : decode cX12_leads 41 = .ok (.ifCond .ge 8, 3) := by decide +kernel
theorem dX12_leads_44 : decode cX12_leads 44 = .ok (.bipush (-5), 2) := by decide +kernel
theorem dX12_leads_46 : decode cX12_leads 46 = .ok (.goto 4, 3) := by decide +kernel
theorem dX12_leads_49 : decode cX12_leads 49 = .ok (.iload_n 2, 1) := by decide +kernel
theorem dX12_leads_50 : decode cX12_leads 50 = .ok (.iastore, 1) := by decide +kernel
theorem dX12_leads_51 : decode cX12_leads 51 = .ok (.return_, 1) := by decide +kernel
theorem dX12_lead_0 : decode cX12_lead 0 = .ok (.aload_n 0, 1) := by decide +kernel
theorem dX12_lead_1 : decode cX12_lead 1 = .ok (.iload_n 1, 1) := by decide +kernel
theorem dX12_lead_2 : decode cX12_lead 2 = .ok (.invokevirtual 256, 3) := by decide +kernel
theorem dX12_lead_5 : decode cX12_lead 5 = .ok (.ifCond .eq 16, 3) := by decide +kernel
theorem dX12_lead_8 : decode cX12_lead 8 = .ok (.iload_n 2, 1) := by decide +kernel
theorem dX12_lead_9 : decode cX12_lead 9 = .ok (.iconst (-1), 1) := by decide +kernel
theorem dX12_lead_10 : decode cX12_lead 10 = .ok (.if_icmp .eq 13, 3) := by decide +kernel
theorem dX12_lead_13 : decode cX12_lead 13 = .ok (.aload_n 0, 1) := by decide +kernel
theorem dX12_lead_14 : decode cX12_lead 14 = .ok (.iload_n 2, 1) := by decide +kernel
theorem dX12_lead_15 : decode cX12_lead 15 = .ok (.invokevirtual 253, 3) := by decide +kernel
theorem dX12_lead_18 : decode cX12_lead 18 = .ok (.ifCond .ne 5, 3) := by decide +kernel
theorem dX12_lead_21 : decode cX12_lead 21 = .ok (.iconst (-1), 1) := by decide +kernel
theorem dX12_lead_22 : decode cX12_lead 22 = .ok (.ireturn, 1) := by decide +kernel
theorem dX12_lead_23 : decode cX12_lead 23 = .ok (.aload_n 0, 1) := by decide +kernel
theorem dX12_lead_24 : decode cX12_lead 24 = .ok (.getfield 35, 3) := by decide +kernel
theorem dX12_lead_27 : decode cX12_lead 27 = .ok (.iload_n 1, 1) := by decide +kernel
theorem dX12_lead_28 : decode cX12_lead 28 = .ok (.iaload, 1) := by decide +kernel
theorem dX12_lead_29 : decode cX12_lead 29 = .ok (.istore_n 3, 1) := by decide +kernel
theorem dX12_lead_30 : decode cX12_lead 30 = .ok (.aload_n 0, 1) := by decide +kernel
theorem dX12_lead_31 : decode cX12_lead 31 = .ok (.iload_n 1, 1) := by decide +kernel
theorem dX12_lead_32 : decode cX12_lead 32 = .ok (.iload_n 2, 1) := by decide +kernel
theorem dX12_lead_33 : decode cX12_lead 33 = .ok (.invokevirtual 259, 3) := by decide +kernel
theorem dX12_lead_36 : decode cX12_lead 36 = .ok (.iload_n 3, 1) := by decide +kernel
theorem dX12_lead_37 : decode cX12_lead 37 = .ok (.ireturn, 1) := by decide +kernel
theorem dX12_goes_0 : decode cX12_goes 0 = .ok (.aload_n 0, 1) := by decide +kernel
theorem dX12_goes_1 : decode cX12_goes 1 = .ok (.iload_n 2, 1) := by decide +kernel
theorem dX12_goes_2 : decode cX12_goes 2 = .ok (.ifCond .eq 14, 3) := by decide +kernel
theorem dX12_goes_5 : decode cX12_goes 5 = .ok (.aload_n 0, 1) := by decide +kernel
theorem dX12_goes_6 : decode cX12_goes 6 = .ok (.getfield 13, 3) := by decide +kernel
theorem dX12_goes_9 : decode cX12_goes 9 = .ok (.iconst 1, 1) := by decide +kernel
theorem dX12_goes_10 : decode cX12_goes 10 = .ok (.iload_n 1, 1) := by decide +kernel
theorem dX12_goes_11 : decode cX12_goes 11 = .ok (.ishl, 1) := by decide +kernel
theorem dX12_goes_12 : decode cX12_goes 12 = .ok (.ior, 1) := by decide +kernel
theorem dX12_goes_13 : decode cX12_goes 13 = .ok (.goto 13, 3) := by decide +kernel
theorem dX12_goes_16 : decode cX12_goes 16 = .ok (.aload_n 0, 1) := by decide +kernel
theorem dX12_goes_17 : decode cX12_goes 17 = .ok (.getfield 13, 3) := by decide +kernel
theorem dX12_goes_20 : decode cX12_goes 20 = .ok (.iconst 1, 1) := by decide +kernel
theorem dX12_goes_21 : decode cX12_goes 21 = .ok (.iload_n 1, 1) := by decide +kernel
theorem dX12_goes_22 : decode cX12_goes 22 = .ok (.ishl, 1) := by decide +kernel
theorem dX12_goes_23 : decode cX12_goes 23 = .ok (.iconst (-1), 1) := by decide +kernel
theorem dX12_goes_24 : decode cX12_goes 24 = .ok (.ixor, 1) := by decide +kernel
theorem dX12_goes_25 : decode cX12_goes 25 = .ok (.iand, 1) := by decide +kernel
theorem dX12_goes_26 : decode cX12_goes 26 = .ok (.putfield 13, 3) := by decide +kernel
theorem dX12_goes_29 : decode cX12_goes 29 = .ok (.return_, 1) := by decide +kernel
theorem dX12_leave_0 : decode cX12_leave 0 = .ok (.aload_n 0, 1) := by decide +kernel
theorem dX12_leave_1 : decode cX12_leave 1 = .ok (.iload_n 1, 1) := by decide +kernel
theorem dX12_leave_2 : decode cX12_leave 2 = .ok (.invokevirtual 253, 3) := by decide +kernel
theorem dX12_leave_5 : decode cX12_leave 5 = .ok (.ifCond .ne 5, 3) := by decide +kernel
theorem dX12_leave_8 : decode cX12_leave 8 = .ok (.iconst (-1), 1) := by decide +kernel
theorem dX12_leave_9 : decode cX12_leave 9 = .ok (.ireturn, 1) := by decide +kernel
theorem dX12_leave_10 : decode cX12_leave 10 = .ok (.aload_n 0, 1) := by decide +kernel
theorem dX12_leave_11 : decode cX12_leave 11 = .ok (.aload_n 0, 1) := by decide +kernel
theorem dX12_leave_12 : decode cX12_leave 12 = .ok (.getfield 13, 3) := by decide +kernel
theorem dX12_leave_15 : decode cX12_leave 15 = .ok (.iload_n 1, 1) := by decide +kernel
theorem dX12_leave_16 : decode cX12_leave 16 = .ok (.invokevirtual 263, 3) := by decide +kernel
theorem dX12_leave_19 : decode cX12_leave 19 = .ok (.ifCond .eq 7, 3) := by decide +kernel
theorem dX12_leave_22 : decode cX12_leave 22 = .ok (.iconst 1, 1) := by decide +kernel
theorem dX12_leave_23 : decode cX12_leave 23 = .ok (.goto 4, 3) := by decide +kernel
theorem dX12_leave_26 : decode cX12_leave 26 = .ok (.iconst 0, 1) := by decide +kernel
theorem dX12_leave_27 : decode cX12_leave 27 = .ok (.istore_n 3, 1) := by decide +kernel
theorem dX12_leave_28 : decode cX12_leave 28 = .ok (.aload_n 0, 1) := by decide +kernel
theorem dX12_leave_29 : decode cX12_leave 29 = .ok (.iload_n 1, 1) := by decide +kernel
theorem dX12_leave_30 : decode cX12_leave 30 = .ok (.iload_n 2, 1) := by decide +kernel
theorem dX12_leave_31 : decode cX12_leave 31 = .ok (.invokevirtual 267, 3) := by decide +kernel
theorem dX12_leave_34 : decode cX12_leave 34 = .ok (.iload_n 3, 1) := by decide +kernel
theorem dX12_leave_35 : decode cX12_leave 35 = .ok (.ireturn, 1) := by decide +kernel
theorem dX12_row_0 : decode cX12_row 0 = .ok (.aload_n 0, 1) := by decide +kernel
theorem dX12_row_1 : decode cX12_row 1 = .ok (.iload_n 1, 1) := by decide +kernel
theorem dX12_row_2 : decode cX12_row 2 = .ok (.invokevirtual 253, 3) := by decide +kernel
theorem dX12_row_5 : decode cX12_row 5 = .ok (.ifCond .eq 13, 3) := by decide +kernel
theorem dX12_row_8 : decode cX12_row 8 = .ok (.aload_n 0, 1) := by decide +kernel
theorem dX12_row_9 : decode cX12_row 9 = .ok (.iload_n 2, 1) := by decide +kernel
theorem dX12_row_10 : decode cX12_row 10 = .ok (.iconst 0, 1) := by decide +kernel
theorem dX12_row_11 : decode cX12_row 11 = .ok (.iconst 3, 1) := by decide +kernel
theorem dX12_row_12 : decode cX12_row 12 = .ok (.invokevirtual 245, 3) := by decide +kernel
theorem dX12_row_15 : decode cX12_row 15 = .ok (.ifCond .ne 5, 3) := by decide +kernel
theorem dX12_row_18 : decode cX12_row 18 = .ok (.iconst (-1), 1) := by decide +kernel
theorem dX12_row_19 : decode cX12_row 19 = .ok (.ireturn, 1) := by decide +kernel
theorem dX12_row_20 : decode cX12_row 20 = .ok (.aload_n 0, 1) := by decide +kernel
theorem dX12_row_21 : decode cX12_row 21 = .ok (.iload_n 3, 1) := by decide +kernel
theorem dX12_row_22 : decode cX12_row 22 = .ok (.iconst 0, 1) := by decide +kernel
theorem dX12_row_23 : decode cX12_row 23 = .ok (.bipush 9, 2) := by decide +kernel
theorem dX12_row_25 : decode cX12_row 25 = .ok (.invokevirtual 245, 3) := by decide +kernel
theorem dX12_row_28 : decode cX12_row 28 = .ok (.ifCond .ne 6, 3) := by decide +kernel
theorem dX12_row_31 : decode cX12_row 31 = .ok (.bipush (-2), 2) := by decide +kernel
theorem dX12_row_33 : decode cX12_row 33 = .ok (.ireturn, 1) := by decide +kernel
theorem dX12_row_34 : decode cX12_row 34 = .ok (.aload_n 0, 1) := by decide +kernel
theorem dX12_row_35 : decode cX12_row 35 = .ok (.getfield 19, 3) := by decide +kernel
theorem dX12_row_38 : decode cX12_row 38 = .ok (.iload_n 1, 1) := by decide +kernel
theorem dX12_row_39 : decode cX12_row 39 = .ok (.iaload, 1) := by decide +kernel
theorem dX12_row_40 : decode cX12_row 40 = .ok (.bipush 6, 2) := by decide +kernel
theorem dX12_row_42 : decode cX12_row 42 = .ok (.if_icmp .eq 6, 3) := by decide +kernel
theorem dX12_row_45 : decode cX12_row 45 = .ok (.bipush (-3), 2) := by decide +kernel
theorem dX12_row_47 : decode cX12_row 47 = .ok (.ireturn, 1) := by decide +kernel
theorem dX12_row_48 : decode cX12_row 48 = .ok (.aload_n 0, 1) := by decide +kernel
theorem dX12_row_49 : decode cX12_row 49 = .ok (.getfield 29, 3) := by decide +kernel
theorem dX12_row_52 : decode cX12_row 52 = .ok (.iconst 4, 1) := by decide +kernel
theorem dX12_row_53 : decode cX12_row 53 = .ok (.iload_n 1, 1) := by decide +kernel
theorem dX12_row_54 : decode cX12_row 54 = .ok (.imul, 1) := by decide +kernel
theorem dX12_row_55 : decode cX12_row 55 = .ok (.iload_n 2, 1) := by decide +kernel
theorem dX12_row_56 : decode cX12_row 56 = .ok (.iadd, 1) := by decide +kernel
theorem dX12_row_57 : decode cX12_row 57 = .ok (.iaload, 1) := by decide +kernel
theorem dX12_row_58 : decode cX12_row 58 = .ok (.istore 4, 2) := by decide +kernel
theorem dX12_row_60 : decode cX12_row 60 = .ok (.aload_n 0, 1) := by decide +kernel
theorem dX12_row_61 : decode cX12_row 61 = .ok (.getfield 29, 3) := by decide +kernel
theorem dX12_row_64 : decode cX12_row 64 = .ok (.iconst 4, 1) := by decide +kernel
theorem dX12_row_65 : decode cX12_row 65 = .ok (.iload_n 1, 1) := by decide +kernel
theorem dX12_row_66 : decode cX12_row 66 = .ok (.imul, 1) := by decide +kernel
theorem dX12_row_67 : decode cX12_row 67 = .ok (.iload_n 2, 1) := by decide +kernel
theorem dX12_row_68 : decode cX12_row 68 = .ok (.iadd, 1) := by decide +kernel
theorem dX12_row_69 : decode cX12_row 69 = .ok (.iload_n 3, 1) := by decide +kernel
theorem dX12_row_70 : decode cX12_row 70 = .ok (.iastore, 1) := by decide +kernel
theorem dX12_row_71 : decode cX12_row 71 = .ok (.iload 4, 2) := by decide +kernel
theorem dX12_row_73 : decode cX12_row 73 = .ok (.ireturn, 1) := by decide +kernel
theorem dX12_feed_0 : decode cX12_feed 0 = .ok (.aload_n 0, 1) := by decide +kernel
theorem dX12_feed_1 : decode cX12_feed 1 = .ok (.iload_n 1, 1) := by decide +kernel
theorem dX12_feed_2 : decode cX12_feed 2 = .ok (.iconst 0, 1) := by decide +kernel
theorem dX12_feed_3 : decode cX12_feed 3 = .ok (.bipush 127, 2) := by decide +kernel
theorem dX12_feed_5 : decode cX12_feed 5 = .ok (.invokevirtual 245, 3) := by decide +kernel
theorem dX12_feed_8 : decode cX12_feed 8 = .ok (.ifCond .ne 6, 3) := by decide +kernel
theorem dX12_feed_11 : decode cX12_feed 11 = .ok (.bipush (-2), 2) := by decide +kernel
theorem dX12_feed_13 : decode cX12_feed 13 = .ok (.ireturn, 1) := by decide +kernel
theorem dX12_feed_14 : decode cX12_feed 14 = .ok (.aload_n 0, 1) := by decide +kernel
theorem dX12_feed_15 : decode cX12_feed 15 = .ok (.getfield 44, 3) := by decide +kernel
theorem dX12_feed_18 : decode cX12_feed 18 = .ok (.bipush 100, 2) := by decide +kernel
theorem dX12_feed_20 : decode cX12_feed 20 = .ok (.if_icmp .ne 6, 3) := by decide +kernel
theorem dX12_feed_23 : decode cX12_feed 23 = .ok (.bipush (-4), 2) := by decide +kernel
theorem dX12_feed_25 : decode cX12_feed 25 = .ok (.ireturn, 1) := by decide +kernel
theorem dX12_feed_26 : decode cX12_feed 26 = .ok (.aload_n 0, 1) := by decide +kernel
theorem dX12_feed_27 : decode cX12_feed 27 = .ok (.getfield 53, 3) := by decide +kernel
theorem dX12_feed_30 : decode cX12_feed 30 = .ok (.aload_n 0, 1) := by decide +kernel
theorem dX12_feed_31 : decode cX12_feed 31 = .ok (.getfield 44, 3) := by decide +kernel
theorem dX12_feed_34 : decode cX12_feed 34 = .ok (.iload_n 1, 1) := by decide +kernel
theorem dX12_feed_35 : decode cX12_feed 35 = .ok (.iastore, 1) := by decide +kernel
theorem dX12_feed_36 : decode cX12_feed 36 = .ok (.aload_n 0, 1) := by decide +kernel
theorem dX12_feed_37 : decode cX12_feed 37 = .ok (.dup, 1) := by decide +kernel
theorem dX12_feed_38 : decode cX12_feed 38 = .ok (.getfield 44, 3) := by decide +kernel
theorem dX12_feed_41 : decode cX12_feed 41 = .ok (.iconst 1, 1) := by decide +kernel
theorem dX12_feed_42 : decode cX12_feed 42 = .ok (.iadd, 1) := by decide +kernel
theorem dX12_feed_43 : decode cX12_feed 43 = .ok (.putfield 44, 3) := by decide +kernel
theorem dX12_feed_46 : decode cX12_feed 46 = .ok (.aload_n 0, 1) := by decide +kernel
theorem dX12_feed_47 : decode cX12_feed 47 = .ok (.getfield 44, 3) := by decide +kernel
theorem dX12_feed_50 : decode cX12_feed 50 = .ok (.ireturn, 1) := by decide +kernel
theorem dX12_next_0 : decode cX12_next 0 = .ok (.aload_n 0, 1) := by decide +kernel
theorem dX12_next_1 : decode cX12_next 1 = .ok (.getfield 47, 3) := by decide +kernel
theorem dX12_next_4 : decode cX12_next 4 = .ok (.aload_n 0, 1) := by decide +kernel
theorem dX12_next_5 : decode cX12_next 5 = .ok (.getfield 44, 3) := by decide +kernel
theorem dX12_next_8 : decode cX12_next 8 = .ok (.if_icmp .ge 15, 3) := by decide +kernel
theorem dX12_next_11 : decode cX12_next 11 = .ok (.aload_n 0, 1) := by decide +kernel
theorem dX12_next_12 : decode cX12_next 12 = .ok (.getfield 53, 3) := by decide +kernel
theorem dX12_next_15 : decode cX12_next 15 = .ok (.aload_n 0, 1) := by decide +kernel
theorem dX12_next_16 : decode cX12_next 16 = .ok (.getfield 47, 3) := by decide +kernel
theorem dX12_next_19 : decode cX12_next 19 = .ok (.iaload, 1) := by decide +kernel
theorem dX12_next_20 : decode cX12_next 20 = .ok (.goto 4, 3) := by decide +kernel
theorem dX12_next_23 : decode cX12_next 23 = .ok (.iconst (-1), 1) := by decide +kernel
theorem dX12_next_24 : decode cX12_next 24 = .ok (.ireturn, 1) := by decide +kernel
theorem dX12_takes_0 : decode cX12_takes 0 = .ok (.aload_n 0, 1) := by decide +kernel
theorem dX12_takes_1 : decode cX12_takes 1 = .ok (.invokevirtual 271, 3) := by decide +kernel
theorem dX12_takes_4 : decode cX12_takes 4 = .ok (.iload_n 1, 1) := by decide +kernel
theorem dX12_takes_5 : decode cX12_takes 5 = .ok (.if_icmp .eq 5, 3) := by decide +kernel
theorem dX12_takes_8 : decode cX12_takes 8 = .ok (.iconst 0, 1) := by decide +kernel
theorem dX12_takes_9 : decode cX12_takes 9 = .ok (.ireturn, 1) := by decide +kernel
theorem dX12_takes_10 : decode cX12_takes 10 = .ok (.aload_n 0, 1) := by decide +kernel
theorem dX12_takes_11 : decode cX12_takes 11 = .ok (.dup, 1) := by decide +kernel
theorem dX12_takes_12 : decode cX12_takes 12 = .ok (.getfield 47, 3) := by decide +kernel
theorem dX12_takes_15 : decode cX12_takes 15 = .ok (.iconst 1, 1) := by decide +kernel
theorem dX12_takes_16 : decode cX12_takes 16 = .ok (.iadd, 1) := by decide +kernel
theorem dX12_takes_17 : decode cX12_takes 17 = .ok (.putfield 47, 3) := by decide +kernel
theorem dX12_takes_20 : decode cX12_takes 20 = .ok (.iconst 1, 1) := by decide +kernel
theorem dX12_takes_21 : decode cX12_takes 21 = .ok (.ireturn, 1) := by decide +kernel
theorem dX12_takesWord_0 : decode cX12_takesWord 0 = .ok (.iconst 0, 1) := by decide +kernel
theorem dX12_takesWord_1 : decode cX12_takesWord 1 = .ok (.istore_n 3, 1) := by decide +kernel
theorem dX12_takesWord_2 : decode cX12_takesWord 2 = .ok (.iload_n 3, 1) := by decide +kernel
theorem dX12_takesWord_3 : decode cX12_takesWord 3 = .ok (.iload_n 2, 1) := by decide +kernel
theorem dX12_takesWord_4 : decode cX12_takesWord 4 = .ok (.if_icmp .ge 26, 3) := by decide +kernel
theorem dX12_takesWord_7 : decode cX12_takesWord 7 = .ok (.aload_n 0, 1) := by decide +kernel
theorem dX12_takesWord_8 : decode cX12_takesWord 8 = .ok (.aload_n 0, 1) := by decide +kernel
theorem dX12_takesWord_9 : decode cX12_takesWord 9 = .ok (.getfield 86, 3) := by decide +kernel
theorem dX12_takesWord_12 : decode cX12_takesWord 12 = .ok (.iload_n 1, 1) := by decide +kernel
theorem dX12_takesWord_13 : decode cX12_takesWord 13 = .ok (.iload_n 3, 1) := by decide +kernel
theorem dX12_takesWord_14 : decode cX12_takesWord 14 = .ok (.iadd, 1) := by decide +kernel
theorem dX12_takesWord_15 : decode cX12_takesWord 15 = .ok (.iaload, 1) := by decide +kernel
theorem dX12_takesWord_16 : decode cX12_takesWord 16 = .ok (.invokevirtual 275, 3) := by decide +kernel
theorem dX12_takesWord_19 : decode cX12_takesWord 19 = .ok (.ifCond .ne 5, 3) := by decide +kernel
theorem dX12_takesWord_22 : decode cX12_takesWord 22 = .ok (.iconst 0, 1) := by decide +kernel
theorem dX12_takesWord_23 : decode cX12_takesWord 23 = .ok (.ireturn, 1) := by decide +kernel
theorem dX12_takesWord_24 : decode cX12_takesWord 24 = .ok (.iinc 3 1, 3) := by decide +kernel
theorem dX12_takesWord_27 : decode cX12_takesWord 27 = .ok (.goto (-25), 3) := by decide +kernel
theorem dX12_takesWord_30 : decode cX12_takesWord 30 = .ok (.aload_n 0, 1) := by decide +kernel
theorem dX12_takesWord_31 : decode cX12_takesWord 31 = .ok (.bipush 32, 2) := by decide +kernel
theorem dX12_takesWord_33 : decode cX12_takesWord 33 = .ok (.invokevirtual 275, 3) := by decide +kernel
theorem dX12_takesWord_36 : decode cX12_takesWord 36 = .ok (.ireturn, 1) := by decide +kernel
theorem dX12_isDigit_0 : decode cX12_isDigit 0 = .ok (.aload_n 0, 1) := by decide +kernel
theorem dX12_isDigit_1 : decode cX12_isDigit 1 = .ok (.aload_n 0, 1) := by decide +kernel
theorem dX12_isDigit_2 : decode cX12_isDigit 2 = .ok (.invokevirtual 271, 3) := by decide +kernel
theorem dX12_isDigit_5 : decode cX12_isDigit 5 = .ok (.bipush 48, 2) := by decide +kernel
theorem dX12_isDigit_7 : decode cX12_isDigit 7 = .ok (.bipush 57, 2) := by decide +kernel
theorem dX12_isDigit_9 : decode cX12_isDigit 9 = .ok (.invokevirtual 245, 3) := by decide +kernel
theorem dX12_isDigit_12 : decode cX12_isDigit 12 = .ok (.ireturn, 1) := by decide +kernel
theorem dX12_takesNumber_0 : decode cX12_takesNumber 0 = .ok (.aload_n 0, 1) := by decide +kernel
theorem dX12_takesNumber_1 : decode cX12_takesNumber 1 = .ok (.invokevirtual 278, 3) := by decide +kernel
theorem dX12_takesNumber_4 : decode cX12_takesNumber 4 = .ok (.ifCond .ne 5, 3) := by decide +kernel
theorem dX12_takesNumber_7 : decode cX12_takesNumber 7 = .ok (.iconst 0, 1) := by decide +kernel
theorem dX12_takesNumber_8 : decode cX12_takesNumber 8 = .ok (.ireturn, 1) := by decide +kernel
theorem dX12_takesNumber_9 : decode cX12_takesNumber 9 = .ok (.aload_n 0, 1) := by decide +kernel
theorem dX12_takesNumber_10 : decode cX12_takesNumber 10 = .ok (.iconst 0, 1) := by decide +kernel
theorem dX12_takesNumber_11 : decode cX12_takesNumber 11 = .ok (.putfield 50, 3) := by decide +kernel
theorem dX12_takesNumber_14 : decode cX12_takesNumber 14 = .ok (.iconst 0, 1) := by decide +kernel
theorem dX12_takesNumber_15 : decode cX12_takesNumber 15 = .ok (.istore_n 1, 1) := by decide +kernel
theorem dX12_takesNumber_16 : decode cX12_takesNumber 16 = .ok (.iload_n 1, 1) := by decide +kernel
theorem dX12_takesNumber_17 : decode cX12_takesNumber 17 = .ok (.iconst 2, 1) := by decide +kernel
theorem dX12_takesNumber_18 : decode cX12_takesNumber 18 = .ok (.if_icmp .ge 45, 3) := by decide +kernel
theorem dX12_takesNumber_21 : decode cX12_takesNumber 21 = .ok (.aload_n 0, 1) := by decide +kernel
theorem dX12_takesNumber_22 : decode cX12_takesNumber 22 = .ok (.invokevirtual 278, 3) := by decide +kernel
theorem dX12_takesNumber_25 : decode cX12_takesNumber 25 = .ok (.ifCond .eq 38, 3) := by decide +kernel
theorem dX12_takesNumber_28 : decode cX12_takesNumber 28 = .ok (.aload_n 0, 1) := by decide +kernel
theorem dX12_takesNumber_29 : decode cX12_takesNumber 29 = .ok (.bipush 10, 2) := by decide +kernel
theorem dX12_takesNumber_31 : decode cX12_takesNumber 31 = .ok (.aload_n 0, 1) := by decide +kernel
theorem dX12_takesNumber_32 : decode cX12_takesNumber 32 = .ok (.getfield 50, 3) := by decide +kernel
theorem dX12_takesNumber_35 : decode cX12_takesNumber 35 = .ok (.imul, 1) := by decide +kernel
theorem dX12_takesNumber_36 : decode cX12_takesNumber 36 = .ok (.aload_n 0, 1) := by decide +kernel
theorem dX12_takesNumber_37 : decode cX12_takesNumber 37 = .ok (.invokevirtual 271, 3) := by decide +kernel
theorem dX12_takesNumber_40 : decode cX12_takesNumber 40 = .ok (.iadd, 1) := by decide +kernel
theorem dX12_takesNumber_41 : decode cX12_takesNumber 41 = .ok (.bipush 48, 2) := by decide +kernel
theorem dX12_takesNumber_43 : decode cX12_takesNumber 43 = .ok (.isub, 1) := by decide +kernel
theorem dX12_takesNumber_44 : decode cX12_takesNumber 44 = .ok (.putfield 50, 3) := by decide +kernel
theorem dX12_takesNumber_47 : decode cX12_takesNumber 47 = .ok (.aload_n 0, 1) := by decide +kernel
theorem dX12_takesNumber_48 : decode cX12_takesNumber 48 = .ok (.dup, 1) := by decide +kernel
theorem dX12_takesNumber_49 : decode cX12_takesNumber 49 = .ok (.getfield 47, 3) := by decide +kernel
theorem dX12_takesNumber_52 : decode cX12_takesNumber 52 = .ok (.iconst 1, 1) := by decide +kernel
theorem dX12_takesNumber_53 : decode cX12_takesNumber 53 = .ok (.iadd, 1) := by decide +kernel
theorem dX12_takesNumber_54 : decode cX12_takesNumber 54 = .ok (.putfield 47, 3) := by decide +kernel
theorem dX12_takesNumber_57 : decode cX12_takesNumber 57 = .ok (.iinc 1 1, 3) := by decide +kernel
theorem dX12_takesNumber_60 : decode cX12_takesNumber 60 = .ok (.goto (-44), 3) := by decide +kernel
theorem dX12_takesNumber_63 : decode cX12_takesNumber 63 = .ok (.iconst 1, 1) := by decide +kernel
theorem dX12_takesNumber_64 : decode cX12_takesNumber 64 = .ok (.ireturn, 1) := by decide +kernel
theorem dX12_emits_0 : decode cX12_emits 0 = .ok (.aload_n 0, 1) := by decide +kernel
theorem dX12_emits_1 : decode cX12_emits 1 = .ok (.getfield 71, 3) := by decide +kernel
theorem dX12_emits_4 : decode cX12_emits 4 = .ok (.aload_n 0, 1) := by decide +kernel
theorem dX12_emits_5 : decode cX12_emits 5 = .ok (.getfield 77, 3) := by decide +kernel
theorem dX12_emits_8 : decode cX12_emits 8 = .ok (.iload_n 1, 1) := by decide +kernel
theorem dX12_emits_9 : decode cX12_emits 9 = .ok (.iastore, 1) := by decide +kernel
theorem dX12_emits_10 : decode cX12_emits 10 = .ok (.aload_n 0, 1) := by decide +kernel
theorem dX12_emits_11 : decode cX12_emits 11 = .ok (.dup, 1) := by decide +kernel
theorem dX12_emits_12 : decode cX12_emits 12 = .ok (.getfield 77, 3) := by decide +kernel
theorem dX12_emits_15 : decode cX12_emits 15 = .ok (.iconst 1, 1) := by decide +kernel
theorem dX12_emits_16 : decode cX12_emits 16 = .ok (.iadd, 1) := by decide +kernel
theorem dX12_emits_17 : decode cX12_emits 17 = .ok (.putfield 77, 3) := by decide +kernel
theorem dX12_emits_20 : decode cX12_emits 20 = .ok (.return_, 1) := by decide +kernel
theorem dX12_whole_0 : decode cX12_whole 0 = .ok (.aload_n 0, 1) := by decide +kernel
theorem dX12_whole_1 : decode cX12_whole 1 = .ok (.getfield 80, 3) := by decide +kernel
theorem dX12_whole_4 : decode cX12_whole 4 = .ok (.ifCond .le 48, 3) := by decide +kernel
theorem dX12_whole_7 : decode cX12_whole 7 = .ok (.aload_n 0, 1) := by decide +kernel
theorem dX12_whole_8 : decode cX12_whole 8 = .ok (.getfield 74, 3) := by decide +kernel
theorem dX12_whole_11 : decode cX12_whole 11 = .ok (.aload_n 0, 1) := by decide +kernel
theorem dX12_whole_12 : decode cX12_whole 12 = .ok (.getfield 80, 3) := by decide +kernel
theorem dX12_whole_15 : decode cX12_whole 15 = .ok (.iconst 1, 1) := by decide +kernel
theorem dX12_whole_16 : decode cX12_whole 16 = .ok (.isub, 1) := by decide +kernel
theorem dX12_whole_17 : decode cX12_whole 17 = .ok (.iaload, 1) := by decide +kernel
theorem dX12_whole_18 : decode cX12_whole 18 = .ok (.bipush 33, 2) := by decide +kernel
theorem dX12_whole_20 : decode cX12_whole 20 = .ok (.if_icmp .ne 32, 3) := by decide +kernel
theorem dX12_whole_23 : decode cX12_whole 23 = .ok (.aload_n 0, 1) := by decide +kernel
theorem dX12_whole_24 : decode cX12_whole 24 = .ok (.bipush (-33), 2) := by decide +kernel
theorem dX12_whole_26 : decode cX12_whole 26 = .ok (.invokevirtual 282, 3) := by decide +kernel
theorem dX12_whole_29 : decode cX12_whole 29 = .ok (.aload_n 0, 1) := by decide +kernel
theorem dX12_whole_30 : decode cX12_whole 30 = .ok (.dup, 1) := by decide +kernel
theorem dX12_whole_31 : decode cX12_whole 31 = .ok (.getfield 80, 3) := by decide +kernel
theorem dX12_whole_34 : decode cX12_whole 34 = .ok (.iconst 1, 1) := by decide +kernel
theorem dX12_whole_35 : decode cX12_whole 35 = .ok (.isub, 1) := by decide +kernel
theorem dX12_whole_36 : decode cX12_whole 36 = .ok (.putfield 80, 3) := by decide +kernel
theorem dX12_whole_39 : decode cX12_whole 39 = .ok (.aload_n 0, 1) := by decide +kernel
theorem dX12_whole_40 : decode cX12_whole 40 = .ok (.dup, 1) := by decide +kernel
theorem dX12_whole_41 : decode cX12_whole 41 = .ok (.getfield 83, 3) := by decide +kernel
theorem dX12_whole_44 : decode cX12_whole 44 = .ok (.iconst 1, 1) := by decide +kernel
theorem dX12_whole_45 : decode cX12_whole 45 = .ok (.isub, 1) := by decide +kernel
theorem dX12_whole_46 : decode cX12_whole 46 = .ok (.putfield 83, 3) := by decide +kernel
theorem dX12_whole_49 : decode cX12_whole 49 = .ok (.goto (-49), 3) := by decide +kernel
theorem dX12_whole_52 : decode cX12_whole 52 = .ok (.return_, 1) := by decide +kernel
theorem dX12_settle_0 : decode cX12_settle 0 = .ok (.aload_n 0, 1) := by decide +kernel
theorem dX12_settle_1 : decode cX12_settle 1 = .ok (.getfield 80, 3) := by decide +kernel
theorem dX12_settle_4 : decode cX12_settle 4 = .ok (.ifCond .le 68, 3) := by decide +kernel
theorem dX12_settle_7 : decode cX12_settle 7 = .ok (.aload_n 0, 1) := by decide +kernel
theorem dX12_settle_8 : decode cX12_settle 8 = .ok (.getfield 74, 3) := by decide +kernel
theorem dX12_settle_11 : decode cX12_settle 11 = .ok (.aload_n 0, 1) := by decide +kernel
theorem dX12_settle_12 : decode cX12_settle 12 = .ok (.getfield 80, 3) := by decide +kernel
theorem dX12_settle_15 : decode cX12_settle 15 = .ok (.iconst 1, 1) := by decide +kernel
theorem dX12_settle_16 : decode cX12_settle 16 = .ok (.isub, 1) := by decide +kernel
theorem dX12_settle_17 : decode cX12_settle 17 = .ok (.iaload, 1) := by decide +kernel
theorem dX12_settle_18 : decode cX12_settle 18 = .ok (.bipush 38, 2) := by decide +kernel
theorem dX12_settle_20 : decode cX12_settle 20 = .ok (.if_icmp .eq 25, 3) := by decide +kernel
theorem dX12_settle_23 : decode cX12_settle 23 = .ok (.aload_n 0, 1) := by decide +kernel
theorem dX12_settle_24 : decode cX12_settle 24 = .ok (.getfield 74, 3) := by decide +kernel
theorem dX12_settle_27 : decode cX12_settle 27 = .ok (.aload_n 0, 1) := by decide +kernel
theorem dX12_settle_28 : decode cX12_settle 28 = .ok (.getfield 80, 3) := by decide +kernel
theorem dX12_settle_31 : decode cX12_settle 31 = .ok (.iconst 1, 1) := by decide +kernel
theorem dX12_settle_32 : decode cX12_settle 32 = .ok (.isub, 1) := by decide +kernel
theorem dX12_settle_33 : decode cX12_settle 33 = .ok (.iaload, 1) := by decide +kernel
theorem dX12_settle_34 : decode cX12_settle 34 = .ok (.bipush 124, 2) := by decide +kernel
theorem dX12_settle_36 : decode cX12_settle 36 = .ok (.if_icmp .ne 36, 3) := by decide +kernel
theorem dX12_settle_39 : decode cX12_settle 39 = .ok (.iload_n 1, 1) := by decide +kernel
theorem dX12_settle_40 : decode cX12_settle 40 = .ok (.bipush 38, 2) := by decide +kernel
theorem dX12_settle_42 : decode cX12_settle 42 = .ok (.if_icmp .eq 30, 3) := by decide +kernel
theorem dX12_settle_45 : decode cX12_settle 45 = .ok (.aload_n 0, 1) := by decide +kernel
theorem dX12_settle_46 : decode cX12_settle 46 = .ok (.dup, 1) := by decide +kernel
theorem dX12_settle_47 : decode cX12_settle 47 = .ok (.getfield 80, 3) := by decide +kernel
theorem dX12_settle_50 : decode cX12_settle 50 = .ok (.iconst 1, 1) := by decide +kernel
theorem dX12_settle_51 : decode cX12_settle 51 = .ok (.isub, 1) := by decide +kernel
theorem dX12_settle_52 : decode cX12_settle 52 = .ok (.putfield 80, 3) := by decide +kernel
theorem dX12_settle_55 : decode cX12_settle 55 = .ok (.aload_n 0, 1) := by decide +kernel
theorem dX12_settle_56 : decode cX12_settle 56 = .ok (.aload_n 0, 1) := by decide +kernel
theorem dX12_settle_57 : decode cX12_settle 57 = .ok (.getfield 74, 3) := by decide +kernel
theorem dX12_settle_60 : decode cX12_settle 60 = .ok (.aload_n 0, 1) := by decide +kernel
theorem dX12_settle_61 : decode cX12_settle 61 = .ok (.getfield 80, 3) := by decide +kernel
theorem dX12_settle_64 : decode cX12_settle 64 = .ok (.iaload, 1) := by decide +kernel
theorem dX12_settle_65 : decode cX12_settle 65 = .ok (.ineg, 1) := by decide +kernel
theorem dX12_settle_66 : decode cX12_settle 66 = .ok (.invokevirtual 282, 3) := by decide +kernel
theorem dX12_settle_69 : decode cX12_settle 69 = .ok (.goto (-69), 3) := by decide +kernel
theorem dX12_settle_72 : decode cX12_settle 72 = .ok (.return_, 1) := by decide +kernel
theorem dX12_place_0 : decode cX12_place 0 = .ok (.iload_n 1, 1) := by decide +kernel
theorem dX12_place_1 : decode cX12_place 1 = .ok (.tableswitch 99 104 121 #[95, 99, 99, 91, 99, 99, 99, 99, 87, 99, 99, 99, 89, 99, 93, 99, 99, 97], 87) := by decide +kernel
theorem dX12_place_88 : decode cX12_place 88 = .ok (.iconst 0, 1) := by decide +kernel
theorem dX12_place_89 : decode cX12_place 89 = .ok (.ireturn, 1) := by decide +kernel
theorem dX12_place_90 : decode cX12_place 90 = .ok (.iconst 1, 1) := by decide +kernel
theorem dX12_place_91 : decode cX12_place 91 = .ok (.ireturn, 1) := by decide +kernel
theorem dX12_place_92 : decode cX12_place 92 = .ok (.iconst 2, 1) := by decide +kernel
theorem dX12_place_93 : decode cX12_place 93 = .ok (.ireturn, 1) := by decide +kernel
theorem dX12_place_94 : decode cX12_place 94 = .ok (.iconst 3, 1) := by decide +kernel
theorem dX12_place_95 : decode cX12_place 95 = .ok (.ireturn, 1) := by decide +kernel
theorem dX12_place_96 : decode cX12_place 96 = .ok (.iconst 4, 1) := by decide +kernel
theorem dX12_place_97 : decode cX12_place 97 = .ok (.ireturn, 1) := by decide +kernel
theorem dX12_place_98 : decode cX12_place 98 = .ok (.iconst 5, 1) := by decide +kernel
theorem dX12_place_99 : decode cX12_place 99 = .ok (.ireturn, 1) := by decide +kernel
theorem dX12_place_100 : decode cX12_place 100 = .ok (.iconst (-1), 1) := by decide +kernel
theorem dX12_place_101 : decode cX12_place 101 = .ok (.ireturn, 1) := by decide +kernel
theorem dX12_takesTest_0 : decode cX12_takesTest 0 = .ok (.aload_n 0, 1) := by decide +kernel
theorem dX12_takesTest_1 : decode cX12_takesTest 1 = .ok (.aload_n 0, 1) := by decide +kernel
theorem dX12_takesTest_2 : decode cX12_takesTest 2 = .ok (.invokevirtual 271, 3) := by decide +kernel
theorem dX12_takesTest_5 : decode cX12_takesTest 5 = .ok (.invokevirtual 286, 3) := by decide +kernel
theorem dX12_takesTest_8 : decode cX12_takesTest 8 = .ok (.istore_n 1, 1) := by decide +kernel
theorem dX12_takesTest_9 : decode cX12_takesTest 9 = .ok (.iload_n 1, 1) := by decide +kernel
theorem dX12_takesTest_10 : decode cX12_takesTest 10 = .ok (.ifCond .ge 5, 3) := by decide +kernel
theorem dX12_takesTest_13 : decode cX12_takesTest 13 = .ok (.iconst 0, 1) := by decide +kernel
theorem dX12_takesTest_14 : decode cX12_takesTest 14 = .ok (.ireturn, 1) := by decide +kernel
theorem dX12_takesTest_15 : decode cX12_takesTest 15 = .ok (.aload_n 0, 1) := by decide +kernel
theorem dX12_takesTest_16 : decode cX12_takesTest 16 = .ok (.dup, 1) := by decide +kernel
theorem dX12_takesTest_17 : decode cX12_takesTest 17 = .ok (.getfield 47, 3) := by decide +kernel
theorem dX12_takesTest_20 : decode cX12_takesTest 20 = .ok (.iconst 1, 1) := by decide +kernel
theorem dX12_takesTest_21 : decode cX12_takesTest 21 = .ok (.iadd, 1) := by decide +kernel
theorem dX12_takesTest_22 : decode cX12_takesTest 22 = .ok (.putfield 47, 3) := by decide +kernel
theorem dX12_takesTest_25 : decode cX12_takesTest 25 = .ok (.aload_n 0, 1) := by decide +kernel
theorem dX12_takesTest_26 : decode cX12_takesTest 26 = .ok (.invokevirtual 271, 3) := by decide +kernel
theorem dX12_takesTest_29 : decode cX12_takesTest 29 = .ok (.istore_n 2, 1) := by decide +kernel
theorem dX12_takesTest_30 : decode cX12_takesTest 30 = .ok (.aload_n 0, 1) := by decide +kernel
theorem dX12_takesTest_31 : decode cX12_takesTest 31 = .ok (.iload_n 2, 1) := by decide +kernel
theorem dX12_takesTest_32 : decode cX12_takesTest 32 = .ok (.bipush 60, 2) := by decide +kernel
theorem dX12_takesTest_34 : decode cX12_takesTest 34 = .ok (.bipush 62, 2) := by decide +kernel
theorem dX12_takesTest_36 : decode cX12_takesTest 36 = .ok (.invokevirtual 245, 3) := by decide +kernel
theorem dX12_takesTest_39 : decode cX12_takesTest 39 = .ok (.ifCond .ne 5, 3) := by decide +kernel
theorem dX12_takesTest_42 : decode cX12_takesTest 42 = .ok (.iconst 0, 1) := by decide +kernel
theorem dX12_takesTest_43 : decode cX12_takesTest 43 = .ok (.ireturn, 1) := by decide +kernel
theorem dX12_takesTest_44 : decode cX12_takesTest 44 = .ok (.aload_n 0, 1) := by decide +kernel
theorem dX12_takesTest_45 : decode cX12_takesTest 45 = .ok (.dup, 1) := by decide +kernel
theorem dX12_takesTest_46 : decode cX12_takesTest 46 = .ok (.getfield 47, 3) := by decide +kernel
theorem dX12_takesTest_49 : decode cX12_takesTest 49 = .ok (.iconst 1, 1) := by decide +kernel
theorem dX12_takesTest_50 : decode cX12_takesTest 50 = .ok (.iadd, 1) := by decide +kernel
theorem dX12_takesTest_51 : decode cX12_takesTest 51 = .ok (.putfield 47, 3) := by decide +kernel
theorem dX12_takesTest_54 : decode cX12_takesTest 54 = .ok (.aload_n 0, 1) := by decide +kernel
theorem dX12_takesTest_55 : decode cX12_takesTest 55 = .ok (.invokevirtual 290, 3) := by decide +kernel
theorem dX12_takesTest_58 : decode cX12_takesTest 58 = .ok (.ifCond .ne 5, 3) := by decide +kernel
theorem dX12_takesTest_61 : decode cX12_takesTest 61 = .ok (.iconst 0, 1) := by decide +kernel
theorem dX12_takesTest_62 : decode cX12_takesTest 62 = .ok (.ireturn, 1) := by decide +kernel
theorem dX12_takesTest_63 : decode cX12_takesTest 63 = .ok (.aload_n 0, 1) := by decide +kernel
theorem dX12_takesTest_64 : decode cX12_takesTest 64 = .ok (.sipush 1000, 3) := by decide +kernel
theorem dX12_takesTest_67 : decode cX12_takesTest 67 = .ok (.iload_n 1, 1) := by decide +kernel
theorem dX12_takesTest_68 : decode cX12_takesTest 68 = .ok (.imul, 1) := by decide +kernel
theorem dX12_takesTest_69 : decode cX12_takesTest 69 = .ok (.bipush 100, 2) := by decide +kernel
theorem dX12_takesTest_71 : decode cX12_takesTest 71 = .ok (.iload_n 2, 1) := by decide +kernel
theorem dX12_takesTest_72 : decode cX12_takesTest 72 = .ok (.bipush 60, 2) := by decide +kernel
theorem dX12_takesTest_74 : decode cX12_takesTest 74 = .ok (.isub, 1) := by decide +kernel
theorem dX12_takesTest_75 : decode cX12_takesTest 75 = .ok (.imul, 1) := by decide +kernel
theorem dX12_takesTest_76 : decode cX12_takesTest 76 = .ok (.iadd, 1) := by decide +kernel
theorem dX12_takesTest_77 : decode cX12_takesTest 77 = .ok (.aload_n 0, 1) := by decide +kernel
theorem dX12_takesTest_78 : decode cX12_takesTest 78 = .ok (.getfield 50, 3) := by decide +kernel
theorem dX12_takesTest_81 : decode cX12_takesTest 81 = .ok (.iadd, 1) := by decide +kernel
theorem dX12_takesTest_82 : decode cX12_takesTest 82 = .ok (.invokevirtual 282, 3) := by decide +kernel
theorem dX12_takesTest_85 : decode cX12_takesTest 85 = .ok (.aload_n 0, 1) := by decide +kernel
theorem dX12_takesTest_86 : decode cX12_takesTest 86 = .ok (.invokevirtual 293, 3) := by decide +kernel
theorem dX12_takesTest_89 : decode cX12_takesTest 89 = .ok (.iconst 1, 1) := by decide +kernel
theorem dX12_takesTest_90 : decode cX12_takesTest 90 = .ok (.ireturn, 1) := by decide +kernel
theorem dX12_takesE_0 : decode cX12_takesE 0 = .ok (.aload_n 0, 1) := by decide +kernel
theorem dX12_takesE_1 : decode cX12_takesE 1 = .ok (.iconst 0, 1) := by decide +kernel
theorem dX12_takesE_2 : decode cX12_takesE 2 = .ok (.putfield 80, 3) := by decide +kernel
theorem dX12_takesE_5 : decode cX12_takesE 5 = .ok (.aload_n 0, 1) := by decide +kernel
theorem dX12_takesE_6 : decode cX12_takesE 6 = .ok (.iconst 0, 1) := by decide +kernel
theorem dX12_takesE_7 : decode cX12_takesE 7 = .ok (.putfield 83, 3) := by decide +kernel
theorem dX12_takesE_10 : decode cX12_takesE 10 = .ok (.aload_n 0, 1) := by decide +kernel
theorem dX12_takesE_11 : decode cX12_takesE 11 = .ok (.getfield 65, 3) := by decide +kernel
theorem dX12_takesE_14 : decode cX12_takesE 14 = .ok (.iload_n 1, 1) := by decide +kernel
theorem dX12_takesE_15 : decode cX12_takesE 15 = .ok (.aload_n 0, 1) := by decide +kernel
theorem dX12_takesE_16 : decode cX12_takesE 16 = .ok (.getfield 77, 3) := by decide +kernel
theorem dX12_takesE_19 : decode cX12_takesE 19 = .ok (.iastore, 1) := by decide +kernel
theorem dX12_takesE_20 : decode cX12_takesE 20 = .ok (.iconst 1, 1) := by decide +kernel
theorem dX12_takesE_21 : decode cX12_takesE 21 = .ok (.istore_n 2, 1) := by decide +kernel
theorem dX12_takesE_22 : decode cX12_takesE 22 = .ok (.aload_n 0, 1) := by decide +kernel
theorem dX12_takesE_23 : decode cX12_takesE 23 = .ok (.invokevirtual 271, 3) := by decide +kernel
theorem dX12_takesE_26 : decode cX12_takesE 26 = .ok (.istore_n 3, 1) := by decide +kernel
theorem dX12_takesE_27 : decode cX12_takesE 27 = .ok (.iload_n 2, 1) := by decide +kernel
theorem dX12_takesE_28 : decode cX12_takesE 28 = .ok (.ifCond .eq 82, 3) := by decide +kernel
theorem dX12_takesE_31 : decode cX12_takesE 31 = .ok (.iload_n 3, 1) := by decide +kernel
theorem dX12_takesE_32 : decode cX12_takesE 32 = .ok (.bipush 33, 2) := by decide +kernel
theorem dX12_takesE_34 : decode cX12_takesE 34 = .ok (.if_icmp .eq 9, 3) := by decide +kernel
theorem dX12_takesE_37 : decode cX12_takesE 37 = .ok (.iload_n 3, 1) := by decide +kernel
theorem dX12_takesE_38 : decode cX12_takesE 38 = .ok (.bipush 40, 2) := by decide +kernel
theorem dX12_takesE_40 : decode cX12_takesE 40 = .ok (.if_icmp .ne 56, 3) := by decide +kernel
theorem dX12_takesE_43 : decode cX12_takesE 43 = .ok (.aload_n 0, 1) := by decide +kernel
theorem dX12_takesE_44 : decode cX12_takesE 44 = .ok (.getfield 83, 3) := by decide +kernel
theorem dX12_takesE_47 : decode cX12_takesE 47 = .ok (.iconst 4, 1) := by decide +kernel
theorem dX12_takesE_48 : decode cX12_takesE 48 = .ok (.if_icmp .ne 5, 3) := by decide +kernel
theorem dX12_takesE_51 : decode cX12_takesE 51 = .ok (.iconst 0, 1) := by decide +kernel
theorem dX12_takesE_52 : decode cX12_takesE 52 = .ok (.ireturn, 1) := by decide +kernel
theorem dX12_takesE_53 : decode cX12_takesE 53 = .ok (.aload_n 0, 1) := by decide +kernel
theorem dX12_takesE_54 : decode cX12_takesE 54 = .ok (.dup, 1) := by decide +kernel
theorem dX12_takesE_55 : decode cX12_takesE 55 = .ok (.getfield 83, 3) := by decide +kernel
theorem dX12_takesE_58 : decode cX12_takesE 58 = .ok (.iconst 1, 1) := by decide +kernel
theorem dX12_takesE_59 : decode cX12_takesE 59 = .ok (.iadd, 1) := by decide +kernel
theorem dX12_takesE_60 : decode cX12_takesE 60 = .ok (.putfield 83, 3) := by decide +kernel
theorem dX12_takesE_63 : decode cX12_takesE 63 = .ok (.aload_n 0, 1) := by decide +kernel
theorem dX12_takesE_64 : decode cX12_takesE 64 = .ok (.getfield 74, 3) := by decide +kernel
theorem dX12_takesE_67 : decode cX12_takesE 67 = .ok (.aload_n 0, 1) := by decide +kernel
theorem dX12_takesE_68 : decode cX12_takesE 68 = .ok (.getfield 80, 3) := by decide +kernel
theorem dX12_takesE_71 : decode cX12_takesE 71 = .ok (.iload_n 3, 1) := by decide +kernel
theorem dX12_takesE_72 : decode cX12_takesE 72 = .ok (.iastore, 1) := by decide +kernel
theorem dX12_takesE_73 : decode cX12_takesE 73 = .ok (.aload_n 0, 1) := by decide +kernel
theorem dX12_takesE_74 : decode cX12_takesE 74 = .ok (.dup, 1) := by decide +kernel
theorem dX12_takesE_75 : decode cX12_takesE 75 = .ok (.getfield 80, 3) := by decide +kernel
theorem dX12_takesE_78 : decode cX12_takesE 78 = .ok (.iconst 1, 1) := by decide +kernel
theorem dX12_takesE_79 : decode cX12_takesE 79 = .ok (.iadd, 1) := by decide +kernel
theorem dX12_takesE_80 : decode cX12_takesE 80 = .ok (.putfield 80, 3) := by decide +kernel
theorem dX12_takesE_83 : decode cX12_takesE 83 = .ok (.aload_n 0, 1) := by decide +kernel
theorem dX12_takesE_84 : decode cX12_takesE 84 = .ok (.dup, 1) := by decide +kernel
theorem dX12_takesE_85 : decode cX12_takesE 85 = .ok (.getfield 47, 3) := by decide +kernel
theorem dX12_takesE_88 : decode cX12_takesE 88 = .ok (.iconst 1, 1) := by decide +kernel
theorem dX12_takesE_89 : decode cX12_takesE 89 = .ok (.iadd, 1) := by decide +kernel
theorem dX12_takesE_90 : decode cX12_takesE 90 = .ok (.putfield 47, 3) := by decide +kernel
theorem dX12_takesE_93 : decode cX12_takesE 93 = .ok (.goto (-71), 3) := by decide +kernel
theorem dX12_takesE_96 : decode cX12_takesE 96 = .ok (.aload_n 0, 1) := by decide +kernel
theorem dX12_takesE_97 : decode cX12_takesE 97 = .ok (.invokevirtual 296, 3) := by decide +kernel
theorem dX12_takesE_100 : decode cX12_takesE 100 = .ok (.ifCond .eq 8, 3) := by decide +kernel
theorem dX12_takesE_103 : decode cX12_takesE 103 = .ok (.iconst 0, 1) := by decide +kernel
theorem dX12_takesE_104 : decode cX12_takesE 104 = .ok (.istore_n 2, 1) := by decide +kernel
theorem dX12_takesE_105 : decode cX12_takesE 105 = .ok (.goto (-83), 3) := by decide +kernel
theorem dX12_takesE_108 : decode cX12_takesE 108 = .ok (.iconst 0, 1) := by decide +kernel
theorem dX12_takesE_109 : decode cX12_takesE 109 = .ok (.ireturn, 1) := by decide +kernel
theorem dX12_takesE_110 : decode cX12_takesE 110 = .ok (.iload_n 3, 1) := by decide +kernel
theorem dX12_takesE_111 : decode cX12_takesE 111 = .ok (.bipush 38, 2) := by decide +kernel
theorem dX12_takesE_113 : decode cX12_takesE 113 = .ok (.if_icmp .eq 9, 3) := by decide +kernel
theorem dX12_takesE_116 : decode cX12_takesE 116 = .ok (.iload_n 3, 1) := by decide +kernel
theorem dX12_takesE_117 : decode cX12_takesE 117 = .ok (.bipush 124, 2) := by decide +kernel
theorem dX12_takesE_119 : decode cX12_takesE 119 = .ok (.if_icmp .ne 43, 3) := by decide +kernel
theorem dX12_takesE_122 : decode cX12_takesE 122 = .ok (.aload_n 0, 1) := by decide +kernel
theorem dX12_takesE_123 : decode cX12_takesE 123 = .ok (.iload_n 3, 1) := by decide +kernel
theorem dX12_takesE_124 : decode cX12_takesE 124 = .ok (.invokevirtual 299, 3) := by decide +kernel
theorem dX12_takesE_127 : decode cX12_takesE 127 = .ok (.aload_n 0, 1) := by decide +kernel
theorem dX12_takesE_128 : decode cX12_takesE 128 = .ok (.getfield 74, 3) := by decide +kernel
theorem dX12_takesE_131 : decode cX12_takesE 131 = .ok (.aload_n 0, 1) := by decide +kernel
theorem dX12_takesE_132 : decode cX12_takesE 132 = .ok (.getfield 80, 3) := by decide +kernel
theorem dX12_takesE_135 : decode cX12_takesE 135 = .ok (.iload_n 3, 1) := by decide +kernel
theorem dX12_takesE_136 : decode cX12_takesE 136 = .ok (.iastore, 1) := by decide +kernel
theorem dX12_takesE_137 : decode cX12_takesE 137 = .ok (.aload_n 0, 1) := by decide +kernel
theorem dX12_takesE_138 : decode cX12_takesE 138 = .ok (.dup, 1) := by decide +kernel
theorem dX12_takesE_139 : decode cX12_takesE 139 = .ok (.getfield 80, 3) := by decide +kernel
theorem dX12_takesE_142 : decode cX12_takesE 142 = .ok (.iconst 1, 1) := by decide +kernel
theorem dX12_takesE_143 : decode cX12_takesE 143 = .ok (.iadd, 1) := by decide +kernel
theorem dX12_takesE_144 : decode cX12_takesE 144 = .ok (.putfield 80, 3) := by decide +kernel
theorem dX12_takesE_147 : decode cX12_takesE 147 = .ok (.iconst 1, 1) := by decide +kernel
theorem dX12_takesE_148 : decode cX12_takesE 148 = .ok (.istore_n 2, 1) := by decide +kernel
theorem dX12_takesE_149 : decode cX12_takesE 149 = .ok (.aload_n 0, 1) := by decide +kernel
theorem dX12_takesE_150 : decode cX12_takesE 150 = .ok (.dup, 1) := by decide +kernel
theorem dX12_takesE_151 : decode cX12_takesE 151 = .ok (.getfield 47, 3) := by decide +kernel
theorem dX12_takesE_154 : decode cX12_takesE 154 = .ok (.iconst 1, 1) := by decide +kernel
theorem dX12_takesE_155 : decode cX12_takesE 155 = .ok (.iadd, 1) := by decide +kernel
theorem dX12_takesE_156 : decode cX12_takesE 156 = .ok (.putfield 47, 3) := by decide +kernel
theorem dX12_takesE_159 : decode cX12_takesE 159 = .ok (.goto (-137), 3) := by decide +kernel
theorem dX12_takesE_162 : decode cX12_takesE 162 = .ok (.aload_n 0, 1) := by decide +kernel
theorem dX12_takesE_163 : decode cX12_takesE 163 = .ok (.bipush 124, 2) := by decide +kernel
theorem dX12_takesE_165 : decode cX12_takesE 165 = .ok (.invokevirtual 299, 3) := by decide +kernel
theorem dX12_takesE_168 : decode cX12_takesE 168 = .ok (.aload_n 0, 1) := by decide +kernel
theorem dX12_takesE_169 : decode cX12_takesE 169 = .ok (.getfield 68, 3) := by decide +kernel
theorem dX12_takesE_172 : decode cX12_takesE 172 = .ok (.iload_n 1, 1) := by decide +kernel
theorem dX12_takesE_173 : decode cX12_takesE 173 = .ok (.aload_n 0, 1) := by decide +kernel
theorem dX12_takesE_174 : decode cX12_takesE 174 = .ok (.getfield 77, 3) := by decide +kernel
theorem dX12_takesE_177 : decode cX12_takesE 177 = .ok (.iastore, 1) := by decide +kernel
theorem dX12_takesE_178 : decode cX12_takesE 178 = .ok (.aload_n 0, 1) := by decide +kernel
theorem dX12_takesE_179 : decode cX12_takesE 179 = .ok (.getfield 80, 3) := by decide +kernel
theorem dX12_takesE_182 : decode cX12_takesE 182 = .ok (.ifCond .ne 5, 3) := by decide +kernel
theorem dX12_takesE_185 : decode cX12_takesE 185 = .ok (.iconst 1, 1) := by decide +kernel
theorem dX12_takesE_186 : decode cX12_takesE 186 = .ok (.ireturn, 1) := by decide +kernel
theorem dX12_takesE_187 : decode cX12_takesE 187 = .ok (.iload_n 3, 1) := by decide +kernel
theorem dX12_takesE_188 : decode cX12_takesE 188 = .ok (.bipush 41, 2) := by decide +kernel
theorem dX12_takesE_190 : decode cX12_takesE 190 = .ok (.if_icmp .eq 5, 3) := by decide +kernel
theorem dX12_takesE_193 : decode cX12_takesE 193 = .ok (.iconst 0, 1) := by decide +kernel
theorem dX12_takesE_194 : decode cX12_takesE 194 = .ok (.ireturn, 1) := by decide +kernel
theorem dX12_takesE_195 : decode cX12_takesE 195 = .ok (.aload_n 0, 1) := by decide +kernel
theorem dX12_takesE_196 : decode cX12_takesE 196 = .ok (.dup, 1) := by decide +kernel
theorem dX12_takesE_197 : decode cX12_takesE 197 = .ok (.getfield 80, 3) := by decide +kernel
theorem dX12_takesE_200 : decode cX12_takesE 200 = .ok (.iconst 1, 1) := by decide +kernel
theorem dX12_takesE_201 : decode cX12_takesE 201 = .ok (.isub, 1) := by decide +kernel
theorem dX12_takesE_202 : decode cX12_takesE 202 = .ok (.putfield 80, 3) := by decide +kernel
theorem dX12_takesE_205 : decode cX12_takesE 205 = .ok (.aload_n 0, 1) := by decide +kernel
theorem dX12_takesE_206 : decode cX12_takesE 206 = .ok (.dup, 1) := by decide +kernel
theorem dX12_takesE_207 : decode cX12_takesE 207 = .ok (.getfield 83, 3) := by decide +kernel
theorem dX12_takesE_210 : decode cX12_takesE 210 = .ok (.iconst 1, 1) := by decide +kernel
theorem dX12_takesE_211 : decode cX12_takesE 211 = .ok (.isub, 1) := by decide +kernel
theorem dX12_takesE_212 : decode cX12_takesE 212 = .ok (.putfield 83, 3) := by decide +kernel
theorem dX12_takesE_215 : decode cX12_takesE 215 = .ok (.aload_n 0, 1) := by decide +kernel
theorem dX12_takesE_216 : decode cX12_takesE 216 = .ok (.dup, 1) := by decide +kernel
theorem dX12_takesE_217 : decode cX12_takesE 217 = .ok (.getfield 47, 3) := by decide +kernel
theorem dX12_takesE_220 : decode cX12_takesE 220 = .ok (.iconst 1, 1) := by decide +kernel
theorem dX12_takesE_221 : decode cX12_takesE 221 = .ok (.iadd, 1) := by decide +kernel
theorem dX12_takesE_222 : decode cX12_takesE 222 = .ok (.putfield 47, 3) := by decide +kernel
theorem dX12_takesE_225 : decode cX12_takesE 225 = .ok (.aload_n 0, 1) := by decide +kernel
theorem dX12_takesE_226 : decode cX12_takesE 226 = .ok (.invokevirtual 293, 3) := by decide +kernel
theorem dX12_takesE_229 : decode cX12_takesE 229 = .ok (.goto (-207), 3) := by decide +kernel
theorem dX12_takesHead_0 : decode cX12_takesHead 0 = .ok (.aload_n 0, 1) := by decide +kernel
theorem dX12_takesHead_1 : decode cX12_takesHead 1 = .ok (.invokevirtual 271, 3) := by decide +kernel
theorem dX12_takesHead_4 : decode cX12_takesHead 4 = .ok (.lookupswitch 79 #[(99, 50), (104, 36), (110, 64)], 36) := by decide +kernel
theorem dX12_takesHead_40 : decode cX12_takesHead 40 = .ok (.aload_n 0, 1) := by decide +kernel
theorem dX12_takesHead_41 : decode cX12_takesHead 41 = .ok (.getfield 59, 3) := by decide +kernel
theorem dX12_takesHead_44 : decode cX12_takesHead 44 = .ok (.iload_n 1, 1) := by decide +kernel
theorem dX12_takesHead_45 : decode cX12_takesHead 45 = .ok (.iconst 0, 1) := by decide +kernel
theorem dX12_takesHead_46 : decode cX12_takesHead 46 = .ok (.iastore, 1) := by decide +kernel
theorem dX12_takesHead_47 : decode cX12_takesHead 47 = .ok (.aload_n 0, 1) := by decide +kernel
theorem dX12_takesHead_48 : decode cX12_takesHead 48 = .ok (.iconst 0, 1) := by decide +kernel
theorem dX12_takesHead_49 : decode cX12_takesHead 49 = .ok (.iconst 3, 1) := by decide +kernel
theorem dX12_takesHead_50 : decode cX12_takesHead 50 = .ok (.invokevirtual 302, 3) := by decide +kernel
theorem dX12_takesHead_53 : decode cX12_takesHead 53 = .ok (.ireturn, 1) := by decide +kernel
theorem dX12_takesHead_54 : decode cX12_takesHead 54 = .ok (.aload_n 0, 1) := by decide +kernel
theorem dX12_takesHead_55 : decode cX12_takesHead 55 = .ok (.getfield 59, 3) := by decide +kernel
theorem dX12_takesHead_58 : decode cX12_takesHead 58 = .ok (.iload_n 1, 1) := by decide +kernel
theorem dX12_takesHead_59 : decode cX12_takesHead 59 = .ok (.iconst 1, 1) := by decide +kernel
theorem dX12_takesHead_60 : decode cX12_takesHead 60 = .ok (.iastore, 1) := by decide +kernel
theorem dX12_takesHead_61 : decode cX12_takesHead 61 = .ok (.aload_n 0, 1) := by decide +kernel
theorem dX12_takesHead_62 : decode cX12_takesHead 62 = .ok (.iconst 3, 1) := by decide +kernel
theorem dX12_takesHead_63 : decode cX12_takesHead 63 = .ok (.iconst 4, 1) := by decide +kernel
theorem dX12_takesHead_64 : decode cX12_takesHead 64 = .ok (.invokevirtual 302, 3) := by decide +kernel
theorem dX12_takesHead_67 : decode cX12_takesHead 67 = .ok (.ireturn, 1) := by decide +kernel
theorem dX12_takesHead_68 : decode cX12_takesHead 68 = .ok (.aload_n 0, 1) := by decide +kernel
theorem dX12_takesHead_69 : decode cX12_takesHead 69 = .ok (.getfield 59, 3) := by decide +kernel
theorem dX12_takesHead_72 : decode cX12_takesHead 72 = .ok (.iload_n 1, 1) := by decide +kernel
theorem dX12_takesHead_73 : decode cX12_takesHead 73 = .ok (.iconst 2, 1) := by decide +kernel
theorem dX12_takesHead_74 : decode cX12_takesHead 74 = .ok (.iastore, 1) := by decide +kernel
theorem dX12_takesHead_75 : decode cX12_takesHead 75 = .ok (.aload_n 0, 1) := by decide +kernel
theorem dX12_takesHead_76 : decode cX12_takesHead 76 = .ok (.bipush 7, 2) := by decide +kernel
theorem dX12_takesHead_78 : decode cX12_takesHead 78 = .ok (.iconst 4, 1) := by decide +kernel
theorem dX12_takesHead_79 : decode cX12_takesHead 79 = .ok (.invokevirtual 302, 3) := by decide +kernel
theorem dX12_takesHead_82 : decode cX12_takesHead 82 = .ok (.ireturn, 1) := by decide +kernel
theorem dX12_takesHead_83 : decode cX12_takesHead 83 = .ok (.aload_n 0, 1) := by decide +kernel
theorem dX12_takesHead_84 : decode cX12_takesHead 84 = .ok (.getfield 59, 3) := by decide +kernel
theorem dX12_takesHead_87 : decode cX12_takesHead 87 = .ok (.iload_n 1, 1) := by decide +kernel
theorem dX12_takesHead_88 : decode cX12_takesHead 88 = .ok (.iconst 3, 1) := by decide +kernel
theorem dX12_takesHead_89 : decode cX12_takesHead 89 = .ok (.iastore, 1) := by decide +kernel
theorem dX12_takesHead_90 : decode cX12_takesHead 90 = .ok (.aload_n 0, 1) := by decide +kernel
theorem dX12_takesHead_91 : decode cX12_takesHead 91 = .ok (.bipush 11, 2) := by decide +kernel
theorem dX12_takesHead_93 : decode cX12_takesHead 93 = .ok (.iconst 4, 1) := by decide +kernel
theorem dX12_takesHead_94 : decode cX12_takesHead 94 = .ok (.invokevirtual 302, 3) := by decide +kernel
theorem dX12_takesHead_97 : decode cX12_takesHead 97 = .ok (.ireturn, 1) := by decide +kernel
theorem dX12_takesClause_0 : decode cX12_takesClause 0 = .ok (.aload_n 0, 1) := by decide +kernel
theorem dX12_takesClause_1 : decode cX12_takesClause 1 = .ok (.iload_n 1, 1) := by decide +kernel
theorem dX12_takesClause_2 : decode cX12_takesClause 2 = .ok (.invokevirtual 305, 3) := by decide +kernel
theorem dX12_takesClause_5 : decode cX12_takesClause 5 = .ok (.ifCond .eq 10, 3) := by decide +kernel
theorem dX12_takesClause_8 : decode cX12_takesClause 8 = .ok (.aload_n 0, 1) := by decide +kernel
theorem dX12_takesClause_9 : decode cX12_takesClause 9 = .ok (.invokevirtual 290, 3) := by decide +kernel
theorem dX12_takesClause_12 : decode cX12_takesClause 12 = .ok (.ifCond .ne 5, 3) := by decide +kernel
theorem dX12_takesClause_15 : decode cX12_takesClause 15 = .ok (.iconst 0, 1) := by decide +kernel
theorem dX12_takesClause_16 : decode cX12_takesClause 16 = .ok (.ireturn, 1) := by decide +kernel
theorem dX12_takesClause_17 : decode cX12_takesClause 17 = .ok (.aload_n 0, 1) := by decide +kernel
theorem dX12_takesClause_18 : decode cX12_takesClause 18 = .ok (.getfield 62, 3) := by decide +kernel
theorem dX12_takesClause_21 : decode cX12_takesClause 21 = .ok (.iload_n 1, 1) := by decide +kernel
theorem dX12_takesClause_22 : decode cX12_takesClause 22 = .ok (.aload_n 0, 1) := by decide +kernel
theorem dX12_takesClause_23 : decode cX12_takesClause 23 = .ok (.getfield 50, 3) := by decide +kernel
theorem dX12_takesClause_26 : decode cX12_takesClause 26 = .ok (.iastore, 1) := by decide +kernel
theorem dX12_takesClause_27 : decode cX12_takesClause 27 = .ok (.aload_n 0, 1) := by decide +kernel
theorem dX12_takesClause_28 : decode cX12_takesClause 28 = .ok (.getfield 59, 3) := by decide +kernel
theorem dX12_takesClause_31 : decode cX12_takesClause 31 = .ok (.iload_n 1, 1) := by decide +kernel
theorem dX12_takesClause_32 : decode cX12_takesClause 32 = .ok (.iaload, 1) := by decide +kernel
theorem dX12_takesClause_33 : decode cX12_takesClause 33 = .ok (.iconst 2, 1) := by decide +kernel
theorem dX12_takesClause_34 : decode cX12_takesClause 34 = .ok (.if_icmp .ge 20, 3) := by decide +kernel
theorem dX12_takesClause_37 : decode cX12_takesClause 37 = .ok (.aload_n 0, 1) := by decide +kernel
theorem dX12_takesClause_38 : decode cX12_takesClause 38 = .ok (.bipush 32, 2) := by decide +kernel
theorem dX12_takesClause_40 : decode cX12_takesClause 40 = .ok (.invokevirtual 275, 3) := by decide +kernel
theorem dX12_takesClause_43 : decode cX12_takesClause 43 = .ok (.ifCond .eq 15, 3) := by decide +kernel
theorem dX12_takesClause_46 : decode cX12_takesClause 46 = .ok (.aload_n 0, 1) := by decide +kernel
theorem dX12_takesClause_47 : decode cX12_takesClause 47 = .ok (.iload_n 1, 1) := by decide +kernel
theorem dX12_takesClause_48 : decode cX12_takesClause 48 = .ok (.invokevirtual 308, 3) := by decide +kernel
theorem dX12_takesClause_51 : decode cX12_takesClause 51 = .ok (.ifCond .eq 7, 3) := by decide +kernel
theorem dX12_takesClause_54 : decode cX12_takesClause 54 = .ok (.iconst 1, 1) := by decide +kernel
theorem dX12_takesClause_55 : decode cX12_takesClause 55 = .ok (.goto 4, 3) := by decide +kernel
theorem dX12_takesClause_58 : decode cX12_takesClause 58 = .ok (.iconst 0, 1) := by decide +kernel
theorem dX12_takesClause_59 : decode cX12_takesClause 59 = .ok (.ireturn, 1) := by decide +kernel
theorem dX12_goesText_0 : decode cX12_goesText 0 = .ok (.aload_n 0, 1) := by decide +kernel
theorem dX12_goesText_1 : decode cX12_goesText 1 = .ok (.iconst 0, 1) := by decide +kernel
theorem dX12_goesText_2 : decode cX12_goesText 2 = .ok (.putfield 47, 3) := by decide +kernel
theorem dX12_goesText_5 : decode cX12_goesText 5 = .ok (.aload_n 0, 1) := by decide +kernel
theorem dX12_goesText_6 : decode cX12_goesText 6 = .ok (.bipush 100, 2) := by decide +kernel
theorem dX12_goesText_8 : decode cX12_goesText 8 = .ok (.iload_n 1, 1) := by decide +kernel
theorem dX12_goesText_9 : decode cX12_goesText 9 = .ok (.imul, 1) := by decide +kernel
theorem dX12_goesText_10 : decode cX12_goesText 10 = .ok (.putfield 77, 3) := by decide +kernel
theorem dX12_goesText_13 : decode cX12_goesText 13 = .ok (.iconst 0, 1) := by decide +kernel
theorem dX12_goesText_14 : decode cX12_goesText 14 = .ok (.istore_n 2, 1) := by decide +kernel
theorem dX12_goesText_15 : decode cX12_goesText 15 = .ok (.aload_n 0, 1) := by decide +kernel
theorem dX12_goesText_16 : decode cX12_goesText 16 = .ok (.bipush 10, 2) := by decide +kernel
theorem dX12_goesText_18 : decode cX12_goesText 18 = .ok (.iload_n 1, 1) := by decide +kernel
theorem dX12_goesText_19 : decode cX12_goesText 19 = .ok (.imul, 1) := by decide +kernel
theorem dX12_goesText_20 : decode cX12_goesText 20 = .ok (.iload_n 2, 1) := by decide +kernel
theorem dX12_goesText_21 : decode cX12_goesText 21 = .ok (.iadd, 1) := by decide +kernel
theorem dX12_goesText_22 : decode cX12_goesText 22 = .ok (.invokevirtual 311, 3) := by decide +kernel
theorem dX12_goesText_25 : decode cX12_goesText 25 = .ok (.ifCond .ne 5, 3) := by decide +kernel
theorem dX12_goesText_28 : decode cX12_goesText 28 = .ok (.iconst 0, 1) := by decide +kernel
theorem dX12_goesText_29 : decode cX12_goesText 29 = .ok (.ireturn, 1) := by decide +kernel
theorem dX12_goesText_30 : decode cX12_goesText 30 = .ok (.iinc 2 1, 3) := by decide +kernel
theorem dX12_goesText_33 : decode cX12_goesText 33 = .ok (.aload_n 0, 1) := by decide +kernel
theorem dX12_goesText_34 : decode cX12_goesText 34 = .ok (.getfield 56, 3) := by decide +kernel
theorem dX12_goesText_37 : decode cX12_goesText 37 = .ok (.iload_n 1, 1) := by decide +kernel
theorem dX12_goesText_38 : decode cX12_goesText 38 = .ok (.iload_n 2, 1) := by decide +kernel
theorem dX12_goesText_39 : decode cX12_goesText 39 = .ok (.iastore, 1) := by decide +kernel
theorem dX12_goesText_40 : decode cX12_goesText 40 = .ok (.aload_n 0, 1) := by decide +kernel
theorem dX12_goesText_41 : decode cX12_goesText 41 = .ok (.getfield 47, 3) := by decide +kernel
theorem dX12_goesText_44 : decode cX12_goesText 44 = .ok (.aload_n 0, 1) := by decide +kernel
theorem dX12_goesText_45 : decode cX12_goesText 45 = .ok (.getfield 44, 3) := by decide +kernel
theorem dX12_goesText_48 : decode cX12_goesText 48 = .ok (.if_icmp .ne 5, 3) := by decide +kernel
theorem dX12_goesText_51 : decode cX12_goesText 51 = .ok (.iconst 1, 1) := by decide +kernel
theorem dX12_goesText_52 : decode cX12_goesText 52 = .ok (.ireturn, 1) := by decide +kernel
theorem dX12_goesText_53 : decode cX12_goesText 53 = .ok (.iload_n 2, 1) := by decide +kernel
theorem dX12_goesText_54 : decode cX12_goesText 54 = .ok (.bipush 10, 2) := by decide +kernel
theorem dX12_goesText_56 : decode cX12_goesText 56 = .ok (.if_icmp .eq 12, 3) := by decide +kernel
theorem dX12_goesText_59 : decode cX12_goesText 59 = .ok (.aload_n 0, 1) := by decide +kernel
theorem dX12_goesText_60 : decode cX12_goesText 60 = .ok (.bipush 59, 2) := by decide +kernel
theorem dX12_goesText_62 : decode cX12_goesText 62 = .ok (.invokevirtual 275, 3) := by decide +kernel
theorem dX12_goesText_65 : decode cX12_goesText 65 = .ok (.ifCond .ne (-50), 3) := by decide +kernel
theorem dX12_goesText_68 : decode cX12_goesText 68 = .ok (.iconst 0, 1) := by decide +kernel
theorem dX12_goesText_69 : decode cX12_goesText 69 = .ok (.ireturn, 1) := by decide +kernel
theorem dX12_orchard_0 : decode cX12_orchard 0 = .ok (.aload_n 0, 1) := by decide +kernel
theorem dX12_orchard_1 : decode cX12_orchard 1 = .ok (.getfield 38, 3) := by decide +kernel
theorem dX12_orchard_4 : decode cX12_orchard 4 = .ok (.bipush 6, 2) := by decide +kernel
theorem dX12_orchard_6 : decode cX12_orchard 6 = .ok (.if_icmp .ne 6, 3) := by decide +kernel
theorem dX12_orchard_9 : decode cX12_orchard 9 = .ok (.bipush (-4), 2) := by decide +kernel
theorem dX12_orchard_11 : decode cX12_orchard 11 = .ok (.ireturn, 1) := by decide +kernel
theorem dX12_orchard_12 : decode cX12_orchard 12 = .ok (.aload_n 0, 1) := by decide +kernel
theorem dX12_orchard_13 : decode cX12_orchard 13 = .ok (.aload_n 0, 1) := by decide +kernel
theorem dX12_orchard_14 : decode cX12_orchard 14 = .ok (.getfield 38, 3) := by decide +kernel
theorem dX12_orchard_17 : decode cX12_orchard 17 = .ok (.invokevirtual 314, 3) := by decide +kernel
theorem dX12_orchard_20 : decode cX12_orchard 20 = .ok (.istore_n 1, 1) := by decide +kernel
theorem dX12_orchard_21 : decode cX12_orchard 21 = .ok (.aload_n 0, 1) := by decide +kernel
theorem dX12_orchard_22 : decode cX12_orchard 22 = .ok (.iconst 0, 1) := by decide +kernel
theorem dX12_orchard_23 : decode cX12_orchard 23 = .ok (.putfield 44, 3) := by decide +kernel
theorem dX12_orchard_26 : decode cX12_orchard 26 = .ok (.iload_n 1, 1) := by decide +kernel
theorem dX12_orchard_27 : decode cX12_orchard 27 = .ok (.ifCond .ne 11, 3) := by decide +kernel
theorem dX12_orchard_30 : decode cX12_orchard 30 = .ok (.bipush (-10), 2) := by decide +kernel
theorem dX12_orchard_32 : decode cX12_orchard 32 = .ok (.aload_n 0, 1) := by decide +kernel
theorem dX12_orchard_33 : decode cX12_orchard 33 = .ok (.getfield 47, 3) := by decide +kernel
theorem dX12_orchard_36 : decode cX12_orchard 36 = .ok (.isub, 1) := by decide +kernel
theorem dX12_orchard_37 : decode cX12_orchard 37 = .ok (.ireturn, 1) := by decide +kernel
theorem dX12_orchard_38 : decode cX12_orchard 38 = .ok (.aload_n 0, 1) := by decide +kernel
theorem dX12_orchard_39 : decode cX12_orchard 39 = .ok (.aload_n 0, 1) := by decide +kernel
theorem dX12_orchard_40 : decode cX12_orchard 40 = .ok (.getfield 38, 3) := by decide +kernel
theorem dX12_orchard_43 : decode cX12_orchard 43 = .ok (.putfield 41, 3) := by decide +kernel
theorem dX12_orchard_46 : decode cX12_orchard 46 = .ok (.aload_n 0, 1) := by decide +kernel
theorem dX12_orchard_47 : decode cX12_orchard 47 = .ok (.dup, 1) := by decide +kernel
theorem dX12_orchard_48 : decode cX12_orchard 48 = .ok (.getfield 38, 3) := by decide +kernel
theorem dX12_orchard_51 : decode cX12_orchard 51 = .ok (.iconst 1, 1) := by decide +kernel
theorem dX12_orchard_52 : decode cX12_orchard 52 = .ok (.iadd, 1) := by decide +kernel
theorem dX12_orchard_53 : decode cX12_orchard 53 = .ok (.putfield 38, 3) := by decide +kernel
theorem dX12_orchard_56 : decode cX12_orchard 56 = .ok (.aload_n 0, 1) := by decide +kernel
theorem dX12_orchard_57 : decode cX12_orchard 57 = .ok (.getfield 41, 3) := by decide +kernel
theorem dX12_orchard_60 : decode cX12_orchard 60 = .ok (.ireturn, 1) := by decide +kernel
theorem dX12_begin_0 : decode cX12_begin 0 = .ok (.aload_n 0, 1) := by decide +kernel
theorem dX12_begin_1 : decode cX12_begin 1 = .ok (.getfield 41, 3) := by decide +kernel
theorem dX12_begin_4 : decode cX12_begin 4 = .ok (.ifCond .ge 7, 3) := by decide +kernel
theorem dX12_begin_7 : decode cX12_begin 7 = .ok (.iconst 0, 1) := by decide +kernel
theorem dX12_begin_8 : decode cX12_begin 8 = .ok (.goto 10, 3) := by decide +kernel
theorem dX12_begin_11 : decode cX12_begin 11 = .ok (.bipush 10, 2) := by decide +kernel
theorem dX12_begin_13 : decode cX12_begin 13 = .ok (.aload_n 0, 1) := by decide +kernel
theorem dX12_begin_14 : decode cX12_begin 14 = .ok (.getfield 41, 3) := by decide +kernel
theorem dX12_begin_17 : decode cX12_begin 17 = .ok (.imul, 1) := by decide +kernel
theorem dX12_begin_18 : decode cX12_begin 18 = .ok (.ireturn, 1) := by decide +kernel
theorem dX12_behind_0 : decode cX12_behind 0 = .ok (.aload_n 0, 1) := by decide +kernel
theorem dX12_behind_1 : decode cX12_behind 1 = .ok (.getfield 41, 3) := by decide +kernel
theorem dX12_behind_4 : decode cX12_behind 4 = .ok (.ifCond .ge 7, 3) := by decide +kernel
theorem dX12_behind_7 : decode cX12_behind 7 = .ok (.iconst 0, 1) := by decide +kernel
theorem dX12_behind_8 : decode cX12_behind 8 = .ok (.goto 20, 3) := by decide +kernel
theorem dX12_behind_11 : decode cX12_behind 11 = .ok (.bipush 10, 2) := by decide +kernel
theorem dX12_behind_13 : decode cX12_behind 13 = .ok (.aload_n 0, 1) := by decide +kernel
theorem dX12_behind_14 : decode cX12_behind 14 = .ok (.getfield 41, 3) := by decide +kernel
theorem dX12_behind_17 : decode cX12_behind 17 = .ok (.imul, 1) := by decide +kernel
theorem dX12_behind_18 : decode cX12_behind 18 = .ok (.aload_n 0, 1) := by decide +kernel
theorem dX12_behind_19 : decode cX12_behind 19 = .ok (.getfield 56, 3) := by decide +kernel
theorem dX12_behind_22 : decode cX12_behind 22 = .ok (.aload_n 0, 1) := by decide +kernel
theorem dX12_behind_23 : decode cX12_behind 23 = .ok (.getfield 41, 3) := by decide +kernel
theorem dX12_behind_26 : decode cX12_behind 26 = .ok (.iaload, 1) := by decide +kernel
theorem dX12_behind_27 : decode cX12_behind 27 = .ok (.iadd, 1) := by decide +kernel
theorem dX12_behind_28 : decode cX12_behind 28 = .ok (.ireturn, 1) := by decide +kernel
theorem dX12_lastOf_0 : decode cX12_lastOf 0 = .ok (.iload_n 2, 1) := by decide +kernel
theorem dX12_lastOf_1 : decode cX12_lastOf 1 = .ok (.istore_n 3, 1) := by decide +kernel
theorem dX12_lastOf_2 : decode cX12_lastOf 2 = .ok (.aload_n 0, 1) := by decide +kernel
theorem dX12_lastOf_3 : decode cX12_lastOf 3 = .ok (.invokevirtual 317, 3) := by decide +kernel
theorem dX12_lastOf_6 : decode cX12_lastOf 6 = .ok (.istore 4, 2) := by decide +kernel
theorem dX12_lastOf_8 : decode cX12_lastOf 8 = .ok (.iload 4, 2) := by decide +kernel
theorem dX12_lastOf_10 : decode cX12_lastOf 10 = .ok (.aload_n 0, 1) := by decide +kernel
theorem dX12_lastOf_11 : decode cX12_lastOf 11 = .ok (.invokevirtual 320, 3) := by decide +kernel
theorem dX12_lastOf_14 : decode cX12_lastOf 14 = .ok (.if_icmp .ge 32, 3) := by decide +kernel
theorem dX12_lastOf_17 : decode cX12_lastOf 17 = .ok (.aload_n 0, 1) := by decide +kernel
theorem dX12_lastOf_18 : decode cX12_lastOf 18 = .ok (.getfield 59, 3) := by decide +kernel
theorem dX12_lastOf_21 : decode cX12_lastOf 21 = .ok (.iload 4, 2) := by decide +kernel
theorem dX12_lastOf_23 : decode cX12_lastOf 23 = .ok (.iaload, 1) := by decide +kernel
theorem dX12_lastOf_24 : decode cX12_lastOf 24 = .ok (.iload_n 1, 1) := by decide +kernel
theorem dX12_lastOf_25 : decode cX12_lastOf 25 = .ok (.if_icmp .ne 13, 3) := by decide +kernel
theorem dX12_lastOf_28 : decode cX12_lastOf 28 = .ok (.aload_n 0, 1) := by decide +kernel
theorem dX12_lastOf_29 : decode cX12_lastOf 29 = .ok (.getfield 62, 3) := by decide +kernel
theorem dX12_lastOf_32 : decode cX12_lastOf 32 = .ok (.iload 4, 2) := by decide +kernel
theorem dX12_lastOf_34 : decode cX12_lastOf 34 = .ok (.iaload, 1) := by decide +kernel
theorem dX12_lastOf_35 : decode cX12_lastOf 35 = .ok (.goto 4, 3) := by decide +kernel
theorem dX12_lastOf_38 : decode cX12_lastOf 38 = .ok (.iload_n 3, 1) := by decide +kernel
theorem dX12_lastOf_39 : decode cX12_lastOf 39 = .ok (.istore_n 3, 1) := by decide +kernel
theorem dX12_lastOf_40 : decode cX12_lastOf 40 = .ok (.iinc 4 1, 3) := by decide +kernel
theorem dX12_lastOf_43 : decode cX12_lastOf 43 = .ok (.goto (-35), 3) := by decide +kernel
theorem dX12_lastOf_46 : decode cX12_lastOf 46 = .ok (.iload_n 3, 1) := by decide +kernel
theorem dX12_lastOf_47 : decode cX12_lastOf 47 = .ok (.ireturn, 1) := by decide +kernel
theorem dX12_need_0 : decode cX12_need 0 = .ok (.aload_n 0, 1) := by decide +kernel
theorem dX12_need_1 : decode cX12_need 1 = .ok (.iconst 2, 1) := by decide +kernel
theorem dX12_need_2 : decode cX12_need 2 = .ok (.bipush 20, 2) := by decide +kernel
theorem dX12_need_4 : decode cX12_need 4 = .ok (.invokevirtual 323, 3) := by decide +kernel
theorem dX12_need_7 : decode cX12_need 7 = .ok (.ireturn, 1) := by decide +kernel
theorem dX12_wear_0 : decode cX12_wear 0 = .ok (.aload_n 0, 1) := by decide +kernel
theorem dX12_wear_1 : decode cX12_wear 1 = .ok (.iconst 3, 1) := by decide +kernel
theorem dX12_wear_2 : decode cX12_wear 2 = .ok (.iconst 3, 1) := by decide +kernel
theorem dX12_wear_3 : decode cX12_wear 3 = .ok (.invokevirtual 323, 3) := by decide +kernel
theorem dX12_wear_6 : decode cX12_wear 6 = .ok (.ireturn, 1) := by decide +kernel
theorem dX12_factOf_0 : decode cX12_factOf 0 = .ok (.iload_n 1, 1) := by decide +kernel
theorem dX12_factOf_1 : decode cX12_factOf 1 = .ok (.tableswitch 67 0 4 #[35, 37, 39, 46, 53], 35) := by decide +kernel
theorem dX12_factOf_36 : decode cX12_factOf 36 = .ok (.iload_n 2, 1) := by decide +kernel
theorem dX12_factOf_37 : decode cX12_factOf 37 = .ok (.ireturn, 1) := by decide +kernel
theorem dX12_factOf_38 : decode cX12_factOf 38 = .ok (.iload_n 3, 1) := by decide +kernel
theorem dX12_factOf_39 : decode cX12_factOf 39 = .ok (.ireturn, 1) := by decide +kernel
theorem dX12_factOf_40 : decode cX12_factOf 40 = .ok (.aload_n 0, 1) := by decide +kernel
theorem dX12_factOf_41 : decode cX12_factOf 41 = .ok (.getfield 19, 3) := by decide +kernel
theorem dX12_factOf_44 : decode cX12_factOf 44 = .ok (.iload_n 2, 1) := by decide +kernel
theorem dX12_factOf_45 : decode cX12_factOf 45 = .ok (.iaload, 1) := by decide +kernel
theorem dX12_factOf_46 : decode cX12_factOf 46 = .ok (.ireturn, 1) := by decide +kernel
theorem dX12_factOf_47 : decode cX12_factOf 47 = .ok (.aload_n 0, 1) := by decide +kernel
theorem dX12_factOf_48 : decode cX12_factOf 48 = .ok (.getfield 23, 3) := by decide +kernel
theorem dX12_factOf_51 : decode cX12_factOf 51 = .ok (.iload_n 2, 1) := by decide +kernel
theorem dX12_factOf_52 : decode cX12_factOf 52 = .ok (.iaload, 1) := by decide +kernel
theorem dX12_factOf_53 : decode cX12_factOf 53 = .ok (.ireturn, 1) := by decide +kernel
theorem dX12_factOf_54 : decode cX12_factOf 54 = .ok (.aload_n 0, 1) := by decide +kernel
theorem dX12_factOf_55 : decode cX12_factOf 55 = .ok (.getfield 26, 3) := by decide +kernel
theorem dX12_factOf_58 : decode cX12_factOf 58 = .ok (.iconst 5, 1) := by decide +kernel
theorem dX12_factOf_59 : decode cX12_factOf 59 = .ok (.iload_n 2, 1) := by decide +kernel
theorem dX12_factOf_60 : decode cX12_factOf 60 = .ok (.imul, 1) := by decide +kernel
theorem dX12_factOf_61 : decode cX12_factOf 61 = .ok (.iload_n 3, 1) := by decide +kernel
theorem dX12_factOf_62 : decode cX12_factOf 62 = .ok (.iadd, 1) := by decide +kernel
theorem dX12_factOf_63 : decode cX12_factOf 63 = .ok (.iaload, 1) := by decide +kernel
theorem dX12_factOf_64 : decode cX12_factOf 64 = .ok (.bipush 10, 2) := by decide +kernel
theorem dX12_factOf_66 : decode cX12_factOf 66 = .ok (.idiv, 1) := by decide +kernel
theorem dX12_factOf_67 : decode cX12_factOf 67 = .ok (.ireturn, 1) := by decide +kernel
theorem dX12_factOf_68 : decode cX12_factOf 68 = .ok (.aload_n 0, 1) := by decide +kernel
theorem dX12_factOf_69 : decode cX12_factOf 69 = .ok (.getfield 16, 3) := by decide +kernel
theorem dX12_factOf_72 : decode cX12_factOf 72 = .ok (.bipush 10, 2) := by decide +kernel
theorem dX12_factOf_74 : decode cX12_factOf 74 = .ok (.irem, 1) := by decide +kernel
theorem dX12_factOf_75 : decode cX12_factOf 75 = .ok (.ireturn, 1) := by decide +kernel
theorem dX12_holds_0 : decode cX12_holds 0 = .ok (.iconst 0, 1) := by decide +kernel
theorem dX12_holds_1 : decode cX12_holds 1 = .ok (.istore 4, 2) := by decide +kernel
theorem dX12_holds_3 : decode cX12_holds 3 = .ok (.aload_n 0, 1) := by decide +kernel
theorem dX12_holds_4 : decode cX12_holds 4 = .ok (.getfield 65, 3) := by decide +kernel
theorem dX12_holds_7 : decode cX12_holds 7 = .ok (.iload_n 1, 1) := by decide +kernel
theorem dX12_holds_8 : decode cX12_holds 8 = .ok (.iaload, 1) := by decide +kernel
theorem dX12_holds_9 : decode cX12_holds 9 = .ok (.istore 5, 2) := by decide +kernel
theorem dX12_holds_11 : decode cX12_holds 11 = .ok (.iload 5, 2) := by decide +kernel
theorem dX12_holds_13 : decode cX12_holds 13 = .ok (.aload_n 0, 1) := by decide +kernel
theorem dX12_holds_14 : decode cX12_holds 14 = .ok (.getfield 68, 3) := by decide +kernel
theorem dX12_holds_17 : decode cX12_holds 17 = .ok (.iload_n 1, 1) := by decide +kernel
theorem dX12_holds_18 : decode cX12_holds 18 = .ok (.iaload, 1) := by decide +kernel
theorem dX12_holds_19 : decode cX12_holds 19 = .ok (.if_icmp .ge 234, 3) := by decide +kernel
theorem dX12_holds_22 : decode cX12_holds 22 = .ok (.aload_n 0, 1) := by decide +kernel
theorem dX12_holds_23 : decode cX12_holds 23 = .ok (.getfield 71, 3) := by decide +kernel
theorem dX12_holds_26 : decode cX12_holds 26 = .ok (.iload 5, 2) := by decide +kernel
theorem dX12_holds_28 : decode cX12_holds 28 = .ok (.iaload, 1) := by decide +kernel
theorem dX12_holds_29 : decode cX12_holds 29 = .ok (.istore 6, 2) := by decide +kernel
theorem dX12_holds_31 : decode cX12_holds 31 = .ok (.iload 6, 2) := by decide +kernel
theorem dX12_holds_33 : decode cX12_holds 33 = .ok (.bipush (-33), 2) := by decide +kernel
theorem dX12_holds_35 : decode cX12_holds 35 = .ok (.if_icmp .ne 32, 3) := by decide +kernel
theorem dX12_holds_38 : decode cX12_holds 38 = .ok (.aload_n 0, 1) := by decide +kernel
theorem dX12_holds_39 : decode cX12_holds 39 = .ok (.getfield 89, 3) := by decide +kernel
theorem dX12_holds_42 : decode cX12_holds 42 = .ok (.iload 4, 2) := by decide +kernel
theorem dX12_holds_44 : decode cX12_holds 44 = .ok (.iconst 1, 1) := by decide +kernel
theorem dX12_holds_45 : decode cX12_holds 45 = .ok (.isub, 1) := by decide +kernel
theorem dX12_holds_46 : decode cX12_holds 46 = .ok (.aload_n 0, 1) := by decide +kernel
theorem dX12_holds_47 : decode cX12_holds 47 = .ok (.getfield 89, 3) := by decide +kernel
theorem dX12_holds_50 : decode cX12_holds 50 = .ok (.iload 4, 2) := by decide +kernel
theorem dX12_holds_52 : decode cX12_holds 52 = .ok (.iconst 1, 1) := by decide +kernel
theorem dX12_holds_53 : decode cX12_holds 53 = .ok (.isub, 1) := by decide +kernel
theorem dX12_holds_54 : decode cX12_holds 54 = .ok (.baload, 1) := by decide +kernel
theorem dX12_holds_55 : decode cX12_holds 55 = .ok (.ifCond .ne 7, 3) := by decide +kernel
theorem dX12_holds_58 : decode cX12_holds 58 = .ok (.iconst 1, 1) := by decide +kernel
theorem dX12_holds_59 : decode cX12_holds 59 = .ok (.goto 4, 3) := by decide +kernel
theorem dX12_holds_62 : decode cX12_holds 62 = .ok (.iconst 0, 1) := by decide +kernel
theorem dX12_holds_63 : decode cX12_holds 63 = .ok (.bastore, 1) := by decide +kernel
theorem dX12_holds_64 : decode cX12_holds 64 = .ok (.goto 183, 3) := by decide +kernel
theorem dX12_holds_67 : decode cX12_holds 67 = .ok (.iload 6, 2) := by decide +kernel
theorem dX12_holds_69 : decode cX12_holds 69 = .ok (.ifCond .ge 82, 3) := by decide +kernel
theorem dX12_holds_72 : decode cX12_holds 72 = .ok (.iinc 4 (-1), 3) := by decide +kernel
theorem dX12_holds_75 : decode cX12_holds 75 = .ok (.aload_n 0, 1) := by decide +kernel
theorem dX12_holds_76 : decode cX12_holds 76 = .ok (.getfield 89, 3) := by decide +kernel
theorem dX12_holds_79 : decode cX12_holds 79 = .ok (.iload 4, 2) := by decide +kernel
theorem dX12_holds_81 : decode cX12_holds 81 = .ok (.iconst 1, 1) := by decide +kernel
theorem dX12_holds_82 : decode cX12_holds 82 = .ok (.isub, 1) := by decide +kernel
theorem dX12_holds_83 : decode cX12_holds 83 = .ok (.iload 6, 2) := by decide +kernel
theorem dX12_holds_85 : decode cX12_holds 85 = .ok (.bipush (-38), 2) := by decide +kernel
theorem dX12_holds_87 : decode cX12_holds 87 = .ok (.if_icmp .ne 33, 3) := by decide +kernel
theorem dX12_holds_90 : decode cX12_holds 90 = .ok (.aload_n 0, 1) := by decide +kernel
theorem dX12_holds_91 : decode cX12_holds 91 = .ok (.getfield 89, 3) := by decide +kernel
theorem dX12_holds_94 : decode cX12_holds 94 = .ok (.iload 4, 2) := by decide +kernel
theorem dX12_holds_96 : decode cX12_holds 96 = .ok (.iconst 1, 1) := by decide +kernel
theorem dX12_holds_97 : decode cX12_holds 97 = .ok (.isub, 1) := by decide +kernel
theorem dX12_holds_98 : decode cX12_holds 98 = .ok (.baload, 1) := by decide +kernel
theorem dX12_holds_99 : decode cX12_holds 99 = .ok (.ifCond .eq 17, 3) := by decide +kernel
theorem dX12_holds_102 : decode cX12_holds 102 = .ok (.aload_n 0, 1) := by decide +kernel
theorem dX12_holds_103 : decode cX12_holds 103 = .ok (.getfield 89, 3) := by decide +kernel
theorem dX12_holds_106 : decode cX12_holds 106 = .ok (.iload 4, 2) := by decide +kernel
theorem dX12_holds_108 : decode cX12_holds 108 = .ok (.baload, 1) := by decide +kernel
theorem dX12_holds_109 : decode cX12_holds 109 = .ok (.ifCond .eq 7, 3) := by decide +kernel
theorem dX12_holds_112 : decode cX12_holds 112 = .ok (.iconst 1, 1) := by decide +kernel
theorem dX12_holds_113 : decode cX12_holds 113 = .ok (.goto 34, 3) := by decide +kernel
theorem dX12_holds_116 : decode cX12_holds 116 = .ok (.iconst 0, 1) := by decide +kernel
theorem dX12_holds_117 : decode cX12_holds 117 = .ok (.goto 30, 3) := by decide +kernel
theorem dX12_holds_120 : decode cX12_holds 120 = .ok (.aload_n 0, 1) := by decide +kernel
theorem dX12_holds_121 : decode cX12_holds 121 = .ok (.getfield 89, 3) := by decide +kernel
theorem dX12_holds_124 : decode cX12_holds 124 = .ok (.iload 4, 2) := by decide +kernel
theorem dX12_holds_126 : decode cX12_holds 126 = .ok (.iconst 1, 1) := by decide +kernel
theorem dX12_holds_127 : decode cX12_holds 127 = .ok (.isub, 1) := by decide +kernel
theorem dX12_holds_128 : decode cX12_holds 128 = .ok (.baload, 1) := by decide +kernel
theorem dX12_holds_129 : decode cX12_holds 129 = .ok (.ifCond .ne 13, 3) := by decide +kernel
theorem dX12_holds_132 : decode cX12_holds 132 = .ok (.aload_n 0, 1) := by decide +kernel
theorem dX12_holds_133 : decode cX12_holds 133 = .ok (.getfield 89, 3) := by decide +kernel
theorem dX12_holds_136 : decode cX12_holds 136 = .ok (.iload 4, 2) := by decide +kernel
theorem dX12_holds_138 : decode cX12_holds 138 = .ok (.baload, 1) := by decide +kernel
theorem dX12_holds_139 : decode cX12_holds 139 = .ok (.ifCond .eq 7, 3) := by decide +kernel
theorem dX12_holds_142 : decode cX12_holds 142 = .ok (.iconst 1, 1) := by decide +kernel
theorem dX12_holds_143 : decode cX12_holds 143 = .ok (.goto 4, 3) := by decide +kernel
theorem dX12_holds_146 : decode cX12_holds 146 = .ok (.iconst 0, 1) := by decide +kernel
theorem dX12_holds_147 : decode cX12_holds 147 = .ok (.bastore, 1) := by decide +kernel
theorem dX12_holds_148 : decode cX12_holds 148 = .ok (.goto 99, 3) := by decide +kernel
theorem dX12_holds_151 : decode cX12_holds 151 = .ok (.aload_n 0, 1) := by decide +kernel
theorem dX12_holds_152 : decode cX12_holds 152 = .ok (.iload 6, 2) := by decide +kernel
theorem dX12_holds_154 : decode cX12_holds 154 = .ok (.sipush 1000, 3) := by decide +kernel
theorem dX12_holds_157 : decode cX12_holds 157 = .ok (.idiv, 1) := by decide +kernel
theorem dX12_holds_158 : decode cX12_holds 158 = .ok (.iload_n 2, 1) := by decide +kernel
theorem dX12_holds_159 : decode cX12_holds 159 = .ok (.iload_n 3, 1) := by decide +kernel
theorem dX12_holds_160 : decode cX12_holds 160 = .ok (.invokevirtual 327, 3) := by decide +kernel
theorem dX12_holds_163 : decode cX12_holds 163 = .ok (.istore 7, 2) := by decide +kernel
theorem dX12_holds_165 : decode cX12_holds 165 = .ok (.iload 6, 2) := by decide +kernel
theorem dX12_holds_167 : decode cX12_holds 167 = .ok (.bipush 100, 2) := by decide +kernel
theorem dX12_holds_169 : decode cX12_holds 169 = .ok (.idiv, 1) := by decide +kernel
theorem dX12_holds_170 : decode cX12_holds 170 = .ok (.bipush 10, 2) := by decide +kernel
theorem dX12_holds_172 : decode cX12_holds 172 = .ok (.irem, 1) := by decide +kernel
theorem dX12_holds_173 : decode cX12_holds 173 = .ok (.istore 8, 2) := by decide +kernel
theorem dX12_holds_175 : decode cX12_holds 175 = .ok (.aload_n 0, 1) := by decide +kernel
theorem dX12_holds_176 : decode cX12_holds 176 = .ok (.getfield 89, 3) := by decide +kernel
theorem dX12_holds_179 : decode cX12_holds 179 = .ok (.iload 4, 2) := by decide +kernel
theorem dX12_holds_181 : decode cX12_holds 181 = .ok (.iload 8, 2) := by decide +kernel
theorem dX12_holds_183 : decode cX12_holds 183 = .ok (.ifCond .ne 21, 3) := by decide +kernel
theorem dX12_holds_186 : decode cX12_holds 186 = .ok (.iload 7, 2) := by decide +kernel
theorem dX12_holds_188 : decode cX12_holds 188 = .ok (.iload 6, 2) := by decide +kernel
theorem dX12_holds_190 : decode cX12_holds 190 = .ok (.bipush 100, 2) := by decide +kernel
theorem dX12_holds_192 : decode cX12_holds 192 = .ok (.irem, 1) := by decide +kernel
theorem dX12_holds_193 : decode cX12_holds 193 = .ok (.if_icmp .ge 7, 3) := by decide +kernel
theorem dX12_holds_196 : decode cX12_holds 196 = .ok (.iconst 1, 1) := by decide +kernel
theorem dX12_holds_197 : decode cX12_holds 197 = .ok (.goto 46, 3) := by decide +kernel
theorem dX12_holds_200 : decode cX12_holds 200 = .ok (.iconst 0, 1) := by decide +kernel
theorem dX12_holds_201 : decode cX12_holds 201 = .ok (.goto 42, 3) := by decide +kernel
theorem dX12_holds_204 : decode cX12_holds 204 = .ok (.iload 8, 2) := by decide +kernel
theorem dX12_holds_206 : decode cX12_holds 206 = .ok (.iconst 1, 1) := by decide +kernel
theorem dX12_holds_207 : decode cX12_holds 207 = .ok (.if_icmp .ne 21, 3) := by decide +kernel
theorem dX12_holds_210 : decode cX12_holds 210 = .ok (.iload 7, 2) := by decide +kernel
theorem dX12_holds_212 : decode cX12_holds 212 = .ok (.iload 6, 2) := by decide +kernel
theorem dX12_holds_214 : decode cX12_holds 214 = .ok (.bipush 100, 2) := by decide +kernel
theorem dX12_holds_216 : decode cX12_holds 216 = .ok (.irem, 1) := by decide +kernel
theorem dX12_holds_217 : decode cX12_holds 217 = .ok (.if_icmp .ne 7, 3) := by decide +kernel
theorem dX12_holds_220 : decode cX12_holds 220 = .ok (.iconst 1, 1) := by decide +kernel
theorem dX12_holds_221 : decode cX12_holds 221 = .ok (.goto 22, 3) := by decide +kernel
theorem dX12_holds_224 : decode cX12_holds 224 = .ok (.iconst 0, 1) := by decide +kernel
theorem dX12_holds_225 : decode cX12_holds 225 = .ok (.goto 18, 3) := by decide +kernel
theorem dX12_holds_228 : decode cX12_holds 228 = .ok (.iload 7, 2) := by decide +kernel
theorem dX12_holds_230 : decode cX12_holds 230 = .ok (.iload 6, 2) := by decide +kernel
theorem dX12_holds_232 : decode cX12_holds 232 = .ok (.bipush 100, 2) := by decide +kernel
theorem dX12_holds_234 : decode cX12_holds 234 = .ok (.irem, 1) := by decide +kernel
theorem dX12_holds_235 : decode cX12_holds 235 = .ok (.if_icmp .le 7, 3) := by decide +kernel
theorem dX12_holds_238 : decode cX12_holds 238 = .ok (.iconst 1, 1) := by decide +kernel
theorem dX12_holds_239 : decode cX12_holds 239 = .ok (.goto 4, 3) := by decide +kernel
theorem dX12_holds_242 : decode cX12_holds 242 = .ok (.iconst 0, 1) := by decide +kernel
theorem dX12_holds_243 : decode cX12_holds 243 = .ok (.bastore, 1) := by decide +kernel
theorem dX12_holds_244 : decode cX12_holds 244 = .ok (.iinc 4 1, 3) := by decide +kernel
theorem dX12_holds_247 : decode cX12_holds 247 = .ok (.iinc 5 1, 3) := by decide +kernel
theorem dX12_holds_250 : decode cX12_holds 250 = .ok (.goto (-239), 3) := by decide +kernel
theorem dX12_holds_253 : decode cX12_holds 253 = .ok (.aload_n 0, 1) := by decide +kernel
theorem dX12_holds_254 : decode cX12_holds 254 = .ok (.getfield 89, 3) := by decide +kernel
theorem dX12_holds_257 : decode cX12_holds 257 = .ok (.iconst 0, 1) := by decide +kernel
theorem dX12_holds_258 : decode cX12_holds 258 = .ok (.baload, 1) := by decide +kernel
theorem dX12_holds_259 : decode cX12_holds 259 = .ok (.ireturn, 1) := by decide +kernel
theorem dX12_sum_0 : decode cX12_sum 0 = .ok (.aload_n 0, 1) := by decide +kernel
theorem dX12_sum_1 : decode cX12_sum 1 = .ok (.getfield 26, 3) := by decide +kernel
theorem dX12_sum_4 : decode cX12_sum 4 = .ok (.iconst 5, 1) := by decide +kernel
theorem dX12_sum_5 : decode cX12_sum 5 = .ok (.iload_n 1, 1) := by decide +kernel
theorem dX12_sum_6 : decode cX12_sum 6 = .ok (.imul, 1) := by decide +kernel
theorem dX12_sum_7 : decode cX12_sum 7 = .ok (.iload_n 2, 1) := by decide +kernel
theorem dX12_sum_8 : decode cX12_sum 8 = .ok (.iadd, 1) := by decide +kernel
theorem dX12_sum_9 : decode cX12_sum 9 = .ok (.iaload, 1) := by decide +kernel
theorem dX12_sum_10 : decode cX12_sum 10 = .ok (.istore_n 3, 1) := by decide +kernel
theorem dX12_sum_11 : decode cX12_sum 11 = .ok (.aload_n 0, 1) := by decide +kernel
theorem dX12_sum_12 : decode cX12_sum 12 = .ok (.invokevirtual 317, 3) := by decide +kernel
theorem dX12_sum_15 : decode cX12_sum 15 = .ok (.istore 4, 2) := by decide +kernel
theorem dX12_sum_17 : decode cX12_sum 17 = .ok (.iload 4, 2) := by decide +kernel
theorem dX12_sum_19 : decode cX12_sum 19 = .ok (.aload_n 0, 1) := by decide +kernel
theorem dX12_sum_20 : decode cX12_sum 20 = .ok (.invokevirtual 320, 3) := by decide +kernel
theorem dX12_sum_23 : decode cX12_sum 23 = .ok (.if_icmp .ge 65, 3) := by decide +kernel
theorem dX12_sum_26 : decode cX12_sum 26 = .ok (.aload_n 0, 1) := by decide +kernel
theorem dX12_sum_27 : decode cX12_sum 27 = .ok (.getfield 59, 3) := by decide +kernel
theorem dX12_sum_30 : decode cX12_sum 30 = .ok (.iload 4, 2) := by decide +kernel
theorem dX12_sum_32 : decode cX12_sum 32 = .ok (.iaload, 1) := by decide +kernel
theorem dX12_sum_33 : decode cX12_sum 33 = .ok (.iconst 1, 1) := by decide +kernel
theorem dX12_sum_34 : decode cX12_sum 34 = .ok (.if_icmp .gt 48, 3) := by decide +kernel
theorem dX12_sum_37 : decode cX12_sum 37 = .ok (.aload_n 0, 1) := by decide +kernel
theorem dX12_sum_38 : decode cX12_sum 38 = .ok (.iload 4, 2) := by decide +kernel
theorem dX12_sum_40 : decode cX12_sum 40 = .ok (.iload_n 1, 1) := by decide +kernel
theorem dX12_sum_41 : decode cX12_sum 41 = .ok (.iload_n 2, 1) := by decide +kernel
theorem dX12_sum_42 : decode cX12_sum 42 = .ok (.invokevirtual 331, 3) := by decide +kernel
theorem dX12_sum_45 : decode cX12_sum 45 = .ok (.ifCond .ne 6, 3) := by decide +kernel
theorem dX12_sum_48 : decode cX12_sum 48 = .ok (.goto 34, 3) := by decide +kernel
theorem dX12_sum_51 : decode cX12_sum 51 = .ok (.iload_n 3, 1) := by decide +kernel
theorem dX12_sum_52 : decode cX12_sum 52 = .ok (.aload_n 0, 1) := by decide +kernel
theorem dX12_sum_53 : decode cX12_sum 53 = .ok (.getfield 59, 3) := by decide +kernel
theorem dX12_sum_56 : decode cX12_sum 56 = .ok (.iload 4, 2) := by decide +kernel
theorem dX12_sum_58 : decode cX12_sum 58 = .ok (.iaload, 1) := by decide +kernel
theorem dX12_sum_59 : decode cX12_sum 59 = .ok (.ifCond .ne 13, 3) := by decide +kernel
theorem dX12_sum_62 : decode cX12_sum 62 = .ok (.aload_n 0, 1) := by decide +kernel
theorem dX12_sum_63 : decode cX12_sum 63 = .ok (.getfield 62, 3) := by decide +kernel
theorem dX12_sum_66 : decode cX12_sum 66 = .ok (.iload 4, 2) := by decide +kernel
theorem dX12_sum_68 : decode cX12_sum 68 = .ok (.iaload, 1) := by decide +kernel
theorem dX12_sum_69 : decode cX12_sum 69 = .ok (.goto 11, 3) := by decide +kernel
theorem dX12_sum_72 : decode cX12_sum 72 = .ok (.aload_n 0, 1) := by decide +kernel
theorem dX12_sum_73 : decode cX12_sum 73 = .ok (.getfield 62, 3) := by decide +kernel
theorem dX12_sum_76 : decode cX12_sum 76 = .ok (.iload 4, 2) := by decide +kernel
theorem dX12_sum_78 : decode cX12_sum 78 = .ok (.iaload, 1) := by decide +kernel
theorem dX12_sum_79 : decode cX12_sum 79 = .ok (.ineg, 1) := by decide +kernel
theorem dX12_sum_80 : decode cX12_sum 80 = .ok (.iadd, 1) := by decide +kernel
theorem dX12_sum_81 : decode cX12_sum 81 = .ok (.istore_n 3, 1) := by decide +kernel
theorem dX12_sum_82 : decode cX12_sum 82 = .ok (.iinc 4 1, 3) := by decide +kernel
theorem dX12_sum_85 : decode cX12_sum 85 = .ok (.goto (-68), 3) := by decide +kernel
theorem dX12_sum_88 : decode cX12_sum 88 = .ok (.iload_n 3, 1) := by decide +kernel
theorem dX12_sum_89 : decode cX12_sum 89 = .ok (.ireturn, 1) := by decide +kernel
theorem dX12_force_0 : decode cX12_force 0 = .ok (.aload_n 0, 1) := by decide +kernel
theorem dX12_force_1 : decode cX12_force 1 = .ok (.iload_n 1, 1) := by decide +kernel
theorem dX12_force_2 : decode cX12_force 2 = .ok (.iload_n 2, 1) := by decide +kernel
theorem dX12_force_3 : decode cX12_force 3 = .ok (.invokevirtual 334, 3) := by decide +kernel
theorem dX12_force_6 : decode cX12_force 6 = .ok (.istore_n 3, 1) := by decide +kernel
theorem dX12_force_7 : decode cX12_force 7 = .ok (.iload_n 2, 1) := by decide +kernel
theorem dX12_force_8 : decode cX12_force 8 = .ok (.iconst 2, 1) := by decide +kernel
theorem dX12_force_9 : decode cX12_force 9 = .ok (.irem, 1) := by decide +kernel
theorem dX12_force_10 : decode cX12_force 10 = .ok (.iconst 1, 1) := by decide +kernel
theorem dX12_force_11 : decode cX12_force 11 = .ok (.if_icmp .ne 14, 3) := by decide +kernel
theorem dX12_force_14 : decode cX12_force 14 = .ok (.iload_n 3, 1) := by decide +kernel
theorem dX12_force_15 : decode cX12_force 15 = .ok (.aload_n 0, 1) := by decide +kernel
theorem dX12_force_16 : decode cX12_force 16 = .ok (.getfield 23, 3) := by decide +kernel
theorem dX12_force_19 : decode cX12_force 19 = .ok (.iload_n 1, 1) := by decide +kernel
theorem dX12_force_20 : decode cX12_force 20 = .ok (.iaload, 1) := by decide +kernel
theorem dX12_force_21 : decode cX12_force 21 = .ok (.iadd, 1) := by decide +kernel
theorem dX12_force_22 : decode cX12_force 22 = .ok (.goto 4, 3) := by decide +kernel
theorem dX12_force_25 : decode cX12_force 25 = .ok (.iload_n 3, 1) := by decide +kernel
theorem dX12_force_26 : decode cX12_force 26 = .ok (.istore 4, 2) := by decide +kernel
theorem dX12_force_28 : decode cX12_force 28 = .ok (.aload_n 0, 1) := by decide +kernel
theorem dX12_force_29 : decode cX12_force 29 = .ok (.getfield 26, 3) := by decide +kernel
theorem dX12_force_32 : decode cX12_force 32 = .ok (.iconst 5, 1) := by decide +kernel
theorem dX12_force_33 : decode cX12_force 33 = .ok (.iload_n 1, 1) := by decide +kernel
theorem dX12_force_34 : decode cX12_force 34 = .ok (.imul, 1) := by decide +kernel
theorem dX12_force_35 : decode cX12_force 35 = .ok (.iload_n 2, 1) := by decide +kernel
theorem dX12_force_36 : decode cX12_force 36 = .ok (.iadd, 1) := by decide +kernel
theorem dX12_force_37 : decode cX12_force 37 = .ok (.iaload, 1) := by decide +kernel
theorem dX12_force_38 : decode cX12_force 38 = .ok (.bipush 50, 2) := by decide +kernel
theorem dX12_force_40 : decode cX12_force 40 = .ok (.if_icmp .lt 9, 3) := by decide +kernel
theorem dX12_force_43 : decode cX12_force 43 = .ok (.iconst 2, 1) := by decide +kernel
theorem dX12_force_44 : decode cX12_force 44 = .ok (.iload_n 3, 1) := by decide +kernel
theorem dX12_force_45 : decode cX12_force 45 = .ok (.imul, 1) := by decide +kernel
theorem dX12_force_46 : decode cX12_force 46 = .ok (.goto 4, 3) := by decide +kernel
theorem dX12_force_49 : decode cX12_force 49 = .ok (.iload_n 3, 1) := by decide +kernel
theorem dX12_force_50 : decode cX12_force 50 = .ok (.istore 5, 2) := by decide +kernel
theorem dX12_force_52 : decode cX12_force 52 = .ok (.aload_n 0, 1) := by decide +kernel
theorem dX12_force_53 : decode cX12_force 53 = .ok (.getfield 19, 3) := by decide +kernel
theorem dX12_force_56 : decode cX12_force 56 = .ok (.iload_n 1, 1) := by decide +kernel
theorem dX12_force_57 : decode cX12_force 57 = .ok (.iaload, 1) := by decide +kernel
theorem dX12_force_58 : decode cX12_force 58 = .ok (.tableswitch 101 1 6 #[38, 41, 44, 49, 69, 80], 38) := by decide +kernel
theorem dX12_force_96 : decode cX12_force 96 = .ok (.iload 4, 2) := by decide +kernel
theorem dX12_force_98 : decode cX12_force 98 = .ok (.ireturn, 1) := by decide +kernel
theorem dX12_force_99 : decode cX12_force 99 = .ok (.iload 5, 2) := by decide +kernel
theorem dX12_force_101 : decode cX12_force 101 = .ok (.ireturn, 1) := by decide +kernel
theorem dX12_force_102 : decode cX12_force 102 = .ok (.bipush 50, 2) := by decide +kernel
theorem dX12_force_104 : decode cX12_force 104 = .ok (.iload_n 3, 1) := by decide +kernel
theorem dX12_force_105 : decode cX12_force 105 = .ok (.isub, 1) := by decide +kernel
theorem dX12_force_106 : decode cX12_force 106 = .ok (.ireturn, 1) := by decide +kernel
theorem dX12_force_107 : decode cX12_force 107 = .ok (.aload_n 0, 1) := by decide +kernel
theorem dX12_force_108 : decode cX12_force 108 = .ok (.getfield 16, 3) := by decide +kernel
theorem dX12_force_111 : decode cX12_force 111 = .ok (.iconst 2, 1) := by decide +kernel
theorem dX12_force_112 : decode cX12_force 112 = .ok (.irem, 1) := by decide +kernel
theorem dX12_force_113 : decode cX12_force 113 = .ok (.iconst 1, 1) := by decide +kernel
theorem dX12_force_114 : decode cX12_force 114 = .ok (.if_icmp .ne 10, 3) := by decide +kernel
theorem dX12_force_117 : decode cX12_force 117 = .ok (.iload 4, 2) := by decide +kernel
theorem dX12_force_119 : decode cX12_force 119 = .ok (.iconst 2, 1) := by decide +kernel
theorem dX12_force_120 : decode cX12_force 120 = .ok (.idiv, 1) := by decide +kernel
theorem dX12_force_121 : decode cX12_force 121 = .ok (.goto 5, 3) := by decide +kernel
theorem dX12_force_124 : decode cX12_force 124 = .ok (.iload 4, 2) := by decide +kernel
theorem dX12_force_126 : decode cX12_force 126 = .ok (.ireturn, 1) := by decide +kernel
theorem dX12_force_127 : decode cX12_force 127 = .ok (.iload 5, 2) := by decide +kernel
theorem dX12_force_129 : decode cX12_force 129 = .ok (.aload_n 0, 1) := by decide +kernel
theorem dX12_force_130 : decode cX12_force 130 = .ok (.getfield 16, 3) := by decide +kernel
theorem dX12_force_133 : decode cX12_force 133 = .ok (.bipush 10, 2) := by decide +kernel
theorem dX12_force_135 : decode cX12_force 135 = .ok (.irem, 1) := by decide +kernel
theorem dX12_force_136 : decode cX12_force 136 = .ok (.isub, 1) := by decide +kernel
theorem dX12_force_137 : decode cX12_force 137 = .ok (.ireturn, 1) := by decide +kernel
theorem dX12_force_138 : decode cX12_force 138 = .ok (.bipush 50, 2) := by decide +kernel
theorem dX12_force_140 : decode cX12_force 140 = .ok (.iload_n 3, 1) := by decide +kernel
theorem dX12_force_141 : decode cX12_force 141 = .ok (.isub, 1) := by decide +kernel
theorem dX12_force_142 : decode cX12_force 142 = .ok (.aload_n 0, 1) := by decide +kernel
theorem dX12_force_143 : decode cX12_force 143 = .ok (.getfield 29, 3) := by decide +kernel
theorem dX12_force_146 : decode cX12_force 146 = .ok (.iconst 4, 1) := by decide +kernel
theorem dX12_force_147 : decode cX12_force 147 = .ok (.iload_n 1, 1) := by decide +kernel
theorem dX12_force_148 : decode cX12_force 148 = .ok (.imul, 1) := by decide +kernel
theorem dX12_force_149 : decode cX12_force 149 = .ok (.aload_n 0, 1) := by decide +kernel
theorem dX12_force_150 : decode cX12_force 150 = .ok (.getfield 16, 3) := by decide +kernel
theorem dX12_force_153 : decode cX12_force 153 = .ok (.iconst 4, 1) := by decide +kernel
theorem dX12_force_154 : decode cX12_force 154 = .ok (.irem, 1) := by decide +kernel
theorem dX12_force_155 : decode cX12_force 155 = .ok (.iadd, 1) := by decide +kernel
theorem dX12_force_156 : decode cX12_force 156 = .ok (.iaload, 1) := by decide +kernel
theorem dX12_force_157 : decode cX12_force 157 = .ok (.iadd, 1) := by decide +kernel
theorem dX12_force_158 : decode cX12_force 158 = .ok (.ireturn, 1) := by decide +kernel
theorem dX12_force_159 : decode cX12_force 159 = .ok (.iload_n 3, 1) := by decide +kernel
theorem dX12_force_160 : decode cX12_force 160 = .ok (.ireturn, 1) := by decide +kernel
theorem dX12_bears_0 : decode cX12_bears 0 = .ok (.aload_n 0, 1) := by decide +kernel
theorem dX12_bears_1 : decode cX12_bears 1 = .ok (.aload_n 0, 1) := by decide +kernel
theorem dX12_bears_2 : decode cX12_bears 2 = .ok (.getfield 13, 3) := by decide +kernel
theorem dX12_bears_5 : decode cX12_bears 5 = .ok (.iload_n 1, 1) := by decide +kernel
theorem dX12_bears_6 : decode cX12_bears 6 = .ok (.invokevirtual 263, 3) := by decide +kernel
theorem dX12_bears_9 : decode cX12_bears 9 = .ok (.ifCond .ne 20, 3) := by decide +kernel
theorem dX12_bears_12 : decode cX12_bears 12 = .ok (.aload_n 0, 1) := by decide +kernel
theorem dX12_bears_13 : decode cX12_bears 13 = .ok (.iload_n 1, 1) := by decide +kernel
theorem dX12_bears_14 : decode cX12_bears 14 = .ok (.iload_n 2, 1) := by decide +kernel
theorem dX12_bears_15 : decode cX12_bears 15 = .ok (.invokevirtual 337, 3) := by decide +kernel
theorem dX12_bears_18 : decode cX12_bears 18 = .ok (.aload_n 0, 1) := by decide +kernel
theorem dX12_bears_19 : decode cX12_bears 19 = .ok (.invokevirtual 340, 3) := by decide +kernel
theorem dX12_bears_22 : decode cX12_bears 22 = .ok (.if_icmp .lt 7, 3) := by decide +kernel
theorem dX12_bears_25 : decode cX12_bears 25 = .ok (.iconst 1, 1) := by decide +kernel
theorem dX12_bears_26 : decode cX12_bears 26 = .ok (.goto 4, 3) := by decide +kernel
theorem dX12_bears_29 : decode cX12_bears 29 = .ok (.iconst 0, 1) := by decide +kernel
theorem dX12_bears_30 : decode cX12_bears 30 = .ok (.ireturn, 1) := by decide +kernel
theorem dX12_bearSet_0 : decode cX12_bearSet 0 = .ok (.iconst 0, 1) := by decide +kernel
theorem dX12_bearSet_1 : decode cX12_bearSet 1 = .ok (.istore_n 1, 1) := by decide +kernel
theorem dX12_bearSet_2 : decode cX12_bearSet 2 = .ok (.iconst 0, 1) := by decide +kernel
theorem dX12_bearSet_3 : decode cX12_bearSet 3 = .ok (.istore_n 2, 1) := by decide +kernel
theorem dX12_bearSet_4 : decode cX12_bearSet 4 = .ok (.iload_n 2, 1) := by decide +kernel
theorem dX12_bearSet_5 : decode cX12_bearSet 5 = .ok (.iconst 5, 1) := by decide +kernel
theorem dX12_bearSet_6 : decode cX12_bearSet 6 = .ok (.if_icmp .ge 42, 3) := by decide +kernel
theorem dX12_bearSet_9 : decode cX12_bearSet 9 = .ok (.iload_n 1, 1) := by decide +kernel
theorem dX12_bearSet_10 : decode cX12_bearSet 10 = .ok (.aload_n 0, 1) := by decide +kernel
theorem dX12_bearSet_11 : decode cX12_bearSet 11 = .ok (.getfield 35, 3) := by decide +kernel
theorem dX12_bearSet_14 : decode cX12_bearSet 14 = .ok (.iload_n 2, 1) := by decide +kernel
theorem dX12_bearSet_15 : decode cX12_bearSet 15 = .ok (.iaload, 1) := by decide +kernel
theorem dX12_bearSet_16 : decode cX12_bearSet 16 = .ok (.ifCond .lt 23, 3) := by decide +kernel
theorem dX12_bearSet_19 : decode cX12_bearSet 19 = .ok (.aload_n 0, 1) := by decide +kernel
theorem dX12_bearSet_20 : decode cX12_bearSet 20 = .ok (.aload_n 0, 1) := by decide +kernel
theorem dX12_bearSet_21 : decode cX12_bearSet 21 = .ok (.getfield 35, 3) := by decide +kernel
theorem dX12_bearSet_24 : decode cX12_bearSet 24 = .ok (.iload_n 2, 1) := by decide +kernel
theorem dX12_bearSet_25 : decode cX12_bearSet 25 = .ok (.iaload, 1) := by decide +kernel
theorem dX12_bearSet_26 : decode cX12_bearSet 26 = .ok (.iload_n 2, 1) := by decide +kernel
theorem dX12_bearSet_27 : decode cX12_bearSet 27 = .ok (.invokevirtual 343, 3) := by decide +kernel
theorem dX12_bearSet_30 : decode cX12_bearSet 30 = .ok (.ifCond .eq 9, 3) := by decide +kernel
theorem dX12_bearSet_33 : decode cX12_bearSet 33 = .ok (.iconst 1, 1) := by decide +kernel
theorem dX12_bearSet_34 : decode cX12_bearSet 34 = .ok (.iload_n 2, 1) := by decide +kernel
theorem dX12_bearSet_35 : decode cX12_bearSet 35 = .ok (.ishl, 1) := by decide +kernel
theorem dX12_bearSet_36 : decode cX12_bearSet 36 = .ok (.goto 4, 3) := by decide +kernel
theorem dX12_bearSet_39 : decode cX12_bearSet 39 = .ok (.iconst 0, 1) := by decide +kernel
theorem dX12_bearSet_40 : decode cX12_bearSet 40 = .ok (.ior, 1) := by decide +kernel
theorem dX12_bearSet_41 : decode cX12_bearSet 41 = .ok (.istore_n 1, 1) := by decide +kernel
theorem dX12_bearSet_42 : decode cX12_bearSet 42 = .ok (.iinc 2 1, 3) := by decide +kernel
theorem dX12_bearSet_45 : decode cX12_bearSet 45 = .ok (.goto (-41), 3) := by decide +kernel
theorem dX12_bearSet_48 : decode cX12_bearSet 48 = .ok (.iload_n 1, 1) := by decide +kernel
theorem dX12_bearSet_49 : decode cX12_bearSet 49 = .ok (.ireturn, 1) := by decide +kernel
theorem dX12_wears_0 : decode cX12_wears 0 = .ok (.aload_n 0, 1) := by decide +kernel
theorem dX12_wears_1 : decode cX12_wears 1 = .ok (.getfield 26, 3) := by decide +kernel
theorem dX12_wears_4 : decode cX12_wears 4 = .ok (.iconst 5, 1) := by decide +kernel
theorem dX12_wears_5 : decode cX12_wears 5 = .ok (.iload_n 1, 1) := by decide +kernel
theorem dX12_wears_6 : decode cX12_wears 6 = .ok (.imul, 1) := by decide +kernel
theorem dX12_wears_7 : decode cX12_wears 7 = .ok (.iload_n 2, 1) := by decide +kernel
theorem dX12_wears_8 : decode cX12_wears 8 = .ok (.iadd, 1) := by decide +kernel
theorem dX12_wears_9 : decode cX12_wears 9 = .ok (.iaload, 1) := by decide +kernel
theorem dX12_wears_10 : decode cX12_wears 10 = .ok (.aload_n 0, 1) := by decide +kernel
theorem dX12_wears_11 : decode cX12_wears 11 = .ok (.invokevirtual 346, 3) := by decide +kernel
theorem dX12_wears_14 : decode cX12_wears 14 = .ok (.isub, 1) := by decide +kernel
theorem dX12_wears_15 : decode cX12_wears 15 = .ok (.istore_n 3, 1) := by decide +kernel
theorem dX12_wears_16 : decode cX12_wears 16 = .ok (.aload_n 0, 1) := by decide +kernel
theorem dX12_wears_17 : decode cX12_wears 17 = .ok (.getfield 26, 3) := by decide +kernel
theorem dX12_wears_20 : decode cX12_wears 20 = .ok (.iconst 5, 1) := by decide +kernel
theorem dX12_wears_21 : decode cX12_wears 21 = .ok (.iload_n 1, 1) := by decide +kernel
theorem dX12_wears_22 : decode cX12_wears 22 = .ok (.imul, 1) := by decide +kernel
theorem dX12_wears_23 : decode cX12_wears 23 = .ok (.iload_n 2, 1) := by decide +kernel
theorem dX12_wears_24 : decode cX12_wears 24 = .ok (.iadd, 1) := by decide +kernel
theorem dX12_wears_25 : decode cX12_wears 25 = .ok (.iload_n 3, 1) := by decide +kernel
theorem dX12_wears_26 : decode cX12_wears 26 = .ok (.ifCond .ge 7, 3) := by decide +kernel
theorem dX12_wears_29 : decode cX12_wears 29 = .ok (.iconst 0, 1) := by decide +kernel
theorem dX12_wears_30 : decode cX12_wears 30 = .ok (.goto 4, 3) := by decide +kernel
theorem dX12_wears_33 : decode cX12_wears 33 = .ok (.iload_n 3, 1) := by decide +kernel
theorem dX12_wears_34 : decode cX12_wears 34 = .ok (.iastore, 1) := by decide +kernel
theorem dX12_wears_35 : decode cX12_wears 35 = .ok (.return_, 1) := by decide +kernel
theorem dX12_goYear_0 : decode cX12_goYear 0 = .ok (.aload_n 0, 1) := by decide +kernel
theorem dX12_goYear_1 : decode cX12_goYear 1 = .ok (.invokevirtual 349, 3) := by decide +kernel
theorem dX12_goYear_4 : decode cX12_goYear 4 = .ok (.istore_n 1, 1) := by decide +kernel
theorem dX12_goYear_5 : decode cX12_goYear 5 = .ok (.iconst 0, 1) := by decide +kernel
theorem dX12_goYear_6 : decode cX12_goYear 6 = .ok (.istore_n 2, 1) := by decide +kernel
theorem dX12_goYear_7 : decode cX12_goYear 7 = .ok (.iload_n 2, 1) := by decide +kernel
theorem dX12_goYear_8 : decode cX12_goYear 8 = .ok (.iconst 5, 1) := by decide +kernel
theorem dX12_goYear_9 : decode cX12_goYear 9 = .ok (.if_icmp .ge 54, 3) := by decide +kernel
theorem dX12_goYear_12 : decode cX12_goYear 12 = .ok (.aload_n 0, 1) := by decide +kernel
theorem dX12_goYear_13 : decode cX12_goYear 13 = .ok (.iload_n 1, 1) := by decide +kernel
theorem dX12_goYear_14 : decode cX12_goYear 14 = .ok (.iload_n 2, 1) := by decide +kernel
theorem dX12_goYear_15 : decode cX12_goYear 15 = .ok (.invokevirtual 263, 3) := by decide +kernel
theorem dX12_goYear_18 : decode cX12_goYear 18 = .ok (.ifCond .ne 6, 3) := by decide +kernel
theorem dX12_goYear_21 : decode cX12_goYear 21 = .ok (.goto 36, 3) := by decide +kernel
theorem dX12_goYear_24 : decode cX12_goYear 24 = .ok (.aload_n 0, 1) := by decide +kernel
theorem dX12_goYear_25 : decode cX12_goYear 25 = .ok (.getfield 32, 3) := by decide +kernel
theorem dX12_goYear_28 : decode cX12_goYear 28 = .ok (.iload_n 2, 1) := by decide +kernel
theorem dX12_goYear_29 : decode cX12_goYear 29 = .ok (.aload_n 0, 1) := by decide +kernel
theorem dX12_goYear_30 : decode cX12_goYear 30 = .ok (.aload_n 0, 1) := by decide +kernel
theorem dX12_goYear_31 : decode cX12_goYear 31 = .ok (.getfield 32, 3) := by decide +kernel
theorem dX12_goYear_34 : decode cX12_goYear 34 = .ok (.iload_n 2, 1) := by decide +kernel
theorem dX12_goYear_35 : decode cX12_goYear 35 = .ok (.iaload, 1) := by decide +kernel
theorem dX12_goYear_36 : decode cX12_goYear 36 = .ok (.iconst 1, 1) := by decide +kernel
theorem dX12_goYear_37 : decode cX12_goYear 37 = .ok (.iadd, 1) := by decide +kernel
theorem dX12_goYear_38 : decode cX12_goYear 38 = .ok (.aload_n 0, 1) := by decide +kernel
theorem dX12_goYear_39 : decode cX12_goYear 39 = .ok (.getfield 93, 3) := by decide +kernel
theorem dX12_goYear_42 : decode cX12_goYear 42 = .ok (.invokevirtual 352, 3) := by decide +kernel
theorem dX12_goYear_45 : decode cX12_goYear 45 = .ok (.iastore, 1) := by decide +kernel
theorem dX12_goYear_46 : decode cX12_goYear 46 = .ok (.aload_n 0, 1) := by decide +kernel
theorem dX12_goYear_47 : decode cX12_goYear 47 = .ok (.aload_n 0, 1) := by decide +kernel
theorem dX12_goYear_48 : decode cX12_goYear 48 = .ok (.getfield 35, 3) := by decide +kernel
theorem dX12_goYear_51 : decode cX12_goYear 51 = .ok (.iload_n 2, 1) := by decide +kernel
theorem dX12_goYear_52 : decode cX12_goYear 52 = .ok (.iaload, 1) := by decide +kernel
theorem dX12_goYear_53 : decode cX12_goYear 53 = .ok (.iload_n 2, 1) := by decide +kernel
theorem dX12_goYear_54 : decode cX12_goYear 54 = .ok (.invokevirtual 355, 3) := by decide +kernel
theorem dX12_goYear_57 : decode cX12_goYear 57 = .ok (.iinc 2 1, 3) := by decide +kernel
theorem dX12_goYear_60 : decode cX12_goYear 60 = .ok (.goto (-53), 3) := by decide +kernel
theorem dX12_goYear_63 : decode cX12_goYear 63 = .ok (.aload_n 0, 1) := by decide +kernel
theorem dX12_goYear_64 : decode cX12_goYear 64 = .ok (.dup, 1) := by decide +kernel
theorem dX12_goYear_65 : decode cX12_goYear 65 = .ok (.getfield 16, 3) := by decide +kernel
theorem dX12_goYear_68 : decode cX12_goYear 68 = .ok (.iconst 1, 1) := by decide +kernel
theorem dX12_goYear_69 : decode cX12_goYear 69 = .ok (.iadd, 1) := by decide +kernel
theorem dX12_goYear_70 : decode cX12_goYear 70 = .ok (.putfield 16, 3) := by decide +kernel
theorem dX12_goYear_73 : decode cX12_goYear 73 = .ok (.return_, 1) := by decide +kernel
theorem dX12_goYears_0 : decode cX12_goYears 0 = .ok (.iconst 0, 1) := by decide +kernel
theorem dX12_goYears_1 : decode cX12_goYears 1 = .ok (.istore_n 2, 1) := by decide +kernel
theorem dX12_goYears_2 : decode cX12_goYears 2 = .ok (.iload_n 2, 1) := by decide +kernel
theorem dX12_goYears_3 : decode cX12_goYears 3 = .ok (.iload_n 1, 1) := by decide +kernel
theorem dX12_goYears_4 : decode cX12_goYears 4 = .ok (.if_icmp .ge 13, 3) := by decide +kernel
theorem dX12_goYears_7 : decode cX12_goYears 7 = .ok (.aload_n 0, 1) := by decide +kernel
theorem dX12_goYears_8 : decode cX12_goYears 8 = .ok (.invokevirtual 358, 3) := by decide +kernel
theorem dX12_goYears_11 : decode cX12_goYears 11 = .ok (.iinc 2 1, 3) := by decide +kernel
theorem dX12_goYears_14 : decode cX12_goYears 14 = .ok (.goto (-12), 3) := by decide +kernel
theorem dX12_goYears_17 : decode cX12_goYears 17 = .ok (.return_, 1) := by decide +kernel
theorem dX12_pass_0 : decode cX12_pass 0 = .ok (.aload_n 0, 1) := by decide +kernel
theorem dX12_pass_1 : decode cX12_pass 1 = .ok (.iload_n 1, 1) := by decide +kernel
theorem dX12_pass_2 : decode cX12_pass 2 = .ok (.invokevirtual 361, 3) := by decide +kernel
theorem dX12_pass_5 : decode cX12_pass 5 = .ok (.ifCond .ne 6, 3) := by decide +kernel
theorem dX12_pass_8 : decode cX12_pass 8 = .ok (.bipush (-2), 2) := by decide +kernel
theorem dX12_pass_10 : decode cX12_pass 10 = .ok (.ireturn, 1) := by decide +kernel
theorem dX12_pass_11 : decode cX12_pass 11 = .ok (.aload_n 0, 1) := by decide +kernel
theorem dX12_pass_12 : decode cX12_pass 12 = .ok (.getfield 16, 3) := by decide +kernel
theorem dX12_pass_15 : decode cX12_pass 15 = .ok (.iload_n 1, 1) := by decide +kernel
theorem dX12_pass_16 : decode cX12_pass 16 = .ok (.iadd, 1) := by decide +kernel
theorem dX12_pass_17 : decode cX12_pass 17 = .ok (.sipush 9999, 3) := by decide +kernel
theorem dX12_pass_20 : decode cX12_pass 20 = .ok (.if_icmp .le 6, 3) := by decide +kernel
theorem dX12_pass_23 : decode cX12_pass 23 = .ok (.bipush (-3), 2) := by decide +kernel
theorem dX12_pass_25 : decode cX12_pass 25 = .ok (.ireturn, 1) := by decide +kernel
theorem dX12_pass_26 : decode cX12_pass 26 = .ok (.aload_n 0, 1) := by decide +kernel
theorem dX12_pass_27 : decode cX12_pass 27 = .ok (.iload_n 1, 1) := by decide +kernel
theorem dX12_pass_28 : decode cX12_pass 28 = .ok (.invokevirtual 364, 3) := by decide +kernel
theorem dX12_pass_31 : decode cX12_pass 31 = .ok (.aload_n 0, 1) := by decide +kernel
theorem dX12_pass_32 : decode cX12_pass 32 = .ok (.getfield 16, 3) := by decide +kernel
theorem dX12_pass_35 : decode cX12_pass 35 = .ok (.ireturn, 1) := by decide +kernel
theorem dX12_save_0 : decode cX12_save 0 = .ok (.aload_n 0, 1) := by decide +kernel
theorem dX12_save_1 : decode cX12_save 1 = .ok (.ldc_w 367, 3) := by decide +kernel
theorem dX12_save_4 : decode cX12_save 4 = .ok (.putfield 93, 3) := by decide +kernel
theorem dX12_save_7 : decode cX12_save 7 = .ok (.aload_n 0, 1) := by decide +kernel
theorem dX12_save_8 : decode cX12_save 8 = .ok (.aload_n 0, 1) := by decide +kernel
theorem dX12_save_9 : decode cX12_save 9 = .ok (.getfield 13, 3) := by decide +kernel
theorem dX12_save_12 : decode cX12_save 12 = .ok (.putfield 96, 3) := by decide +kernel
theorem dX12_save_15 : decode cX12_save 15 = .ok (.aload_n 0, 1) := by decide +kernel
theorem dX12_save_16 : decode cX12_save 16 = .ok (.aload_n 0, 1) := by decide +kernel
theorem dX12_save_17 : decode cX12_save 17 = .ok (.getfield 16, 3) := by decide +kernel
theorem dX12_save_20 : decode cX12_save 20 = .ok (.putfield 99, 3) := by decide +kernel
theorem dX12_save_23 : decode cX12_save 23 = .ok (.iconst 0, 1) := by decide +kernel
theorem dX12_save_24 : decode cX12_save 24 = .ok (.istore_n 1, 1) := by decide +kernel
theorem dX12_save_25 : decode cX12_save 25 = .ok (.iload_n 1, 1) := by decide +kernel
theorem dX12_save_26 : decode cX12_save 26 = .ok (.bipush 30, 2) := by decide +kernel
theorem dX12_save_28 : decode cX12_save 28 = .ok (.if_icmp .ge 21, 3) := by decide +kernel
theorem dX12_save_31 : decode cX12_save 31 = .ok (.aload_n 0, 1) := by decide +kernel
theorem dX12_save_32 : decode cX12_save 32 = .ok (.getfield 102, 3) := by decide +kernel
theorem dX12_save_35 : decode cX12_save 35 = .ok (.iload_n 1, 1) := by decide +kernel
theorem dX12_save_36 : decode cX12_save 36 = .ok (.aload_n 0, 1) := by decide +kernel
theorem dX12_save_37 : decode cX12_save 37 = .ok (.getfield 26, 3) := by decide +kernel
theorem dX12_save_40 : decode cX12_save 40 = .ok (.iload_n 1, 1) := by decide +kernel
theorem dX12_save_41 : decode cX12_save 41 = .ok (.iaload, 1) := by decide +kernel
theorem dX12_save_42 : decode cX12_save 42 = .ok (.iastore, 1) := by decide +kernel
theorem dX12_save_43 : decode cX12_save 43 = .ok (.iinc 1 1, 3) := by decide +kernel
theorem dX12_save_46 : decode cX12_save 46 = .ok (.goto (-21), 3) := by decide +kernel
theorem dX12_save_49 : decode cX12_save 49 = .ok (.iconst 0, 1) := by decide +kernel
theorem dX12_save_50 : decode cX12_save 50 = .ok (.istore_n 1, 1) := by decide +kernel
theorem dX12_save_51 : decode cX12_save 51 = .ok (.iload_n 1, 1) := by decide +kernel
theorem dX12_save_52 : decode cX12_save 52 = .ok (.iconst 5, 1) := by decide +kernel
theorem dX12_save_53 : decode cX12_save 53 = .ok (.if_icmp .ge 33, 3) := by decide +kernel
theorem dX12_save_56 : decode cX12_save 56 = .ok (.aload_n 0, 1) := by decide +kernel
theorem dX12_save_57 : decode cX12_save 57 = .ok (.getfield 105, 3) := by decide +kernel
theorem dX12_save_60 : decode cX12_save 60 = .ok (.iload_n 1, 1) := by decide +kernel
theorem dX12_save_61 : decode cX12_save 61 = .ok (.aload_n 0, 1) := by decide +kernel
theorem dX12_save_62 : decode cX12_save 62 = .ok (.getfield 32, 3) := by decide +kernel
theorem dX12_save_65 : decode cX12_save 65 = .ok (.iload_n 1, 1) := by decide +kernel
theorem dX12_save_66 : decode cX12_save 66 = .ok (.iaload, 1) := by decide +kernel
theorem dX12_save_67 : decode cX12_save 67 = .ok (.iastore, 1) := by decide +kernel
theorem dX12_save_68 : decode cX12_save 68 = .ok (.aload_n 0, 1) := by decide +kernel
theorem dX12_save_69 : decode cX12_save 69 = .ok (.getfield 108, 3) := by decide +kernel
theorem dX12_save_72 : decode cX12_save 72 = .ok (.iload_n 1, 1) := by decide +kernel
theorem dX12_save_73 : decode cX12_save 73 = .ok (.aload_n 0, 1) := by decide +kernel
theorem dX12_save_74 : decode cX12_save 74 = .ok (.getfield 35, 3) := by decide +kernel
theorem dX12_save_77 : decode cX12_save 77 = .ok (.iload_n 1, 1) := by decide +kernel
theorem dX12_save_78 : decode cX12_save 78 = .ok (.iaload, 1) := by decide +kernel
theorem dX12_save_79 : decode cX12_save 79 = .ok (.iastore, 1) := by decide +kernel
theorem dX12_save_80 : decode cX12_save 80 = .ok (.iinc 1 1, 3) := by decide +kernel
theorem dX12_save_83 : decode cX12_save 83 = .ok (.goto (-32), 3) := by decide +kernel
theorem dX12_save_86 : decode cX12_save 86 = .ok (.return_, 1) := by decide +kernel
theorem dX12_putBack_0 : decode cX12_putBack 0 = .ok (.aload_n 0, 1) := by decide +kernel
theorem dX12_putBack_1 : decode cX12_putBack 1 = .ok (.sipush 9999, 3) := by decide +kernel
theorem dX12_putBack_4 : decode cX12_putBack 4 = .ok (.putfield 93, 3) := by decide +kernel
theorem dX12_putBack_7 : decode cX12_putBack 7 = .ok (.aload_n 0, 1) := by decide +kernel
theorem dX12_putBack_8 : decode cX12_putBack 8 = .ok (.aload_n 0, 1) := by decide +kernel
theorem dX12_putBack_9 : decode cX12_putBack 9 = .ok (.getfield 96, 3) := by decide +kernel
theorem dX12_putBack_12 : decode cX12_putBack 12 = .ok (.putfield 13, 3) := by decide +kernel
theorem dX12_putBack_15 : decode cX12_putBack 15 = .ok (.aload_n 0, 1) := by decide +kernel
theorem dX12_putBack_16 : decode cX12_putBack 16 = .ok (.aload_n 0, 1) := by decide +kernel
theorem dX12_putBack_17 : decode cX12_putBack 17 = .ok (.getfield 99, 3) := by decide +kernel
theorem dX12_putBack_20 : decode cX12_putBack 20 = .ok (.putfield 16, 3) := by decide +kernel
theorem dX12_putBack_23 : decode cX12_putBack 23 = .ok (.iconst 0, 1) := by decide +kernel
theorem dX12_putBack_24 : decode cX12_putBack 24 = .ok (.istore_n 1, 1) := by decide +kernel
theorem dX12_putBack_25 : decode cX12_putBack 25 = .ok (.iload_n 1, 1) := by decide +kernel
theorem dX12_putBack_26 : decode cX12_putBack 26 = .ok (.bipush 30, 2) := by decide +kernel
theorem dX12_putBack_28 : decode cX12_putBack 28 = .ok (.if_icmp .ge 21, 3) := by decide +kernel
theorem dX12_putBack_31 : decode cX12_putBack 31 = .ok (.aload_n 0, 1) := by decide +kernel
theorem dX12_putBack_32 : decode cX12_putBack 32 = .ok (.getfield 26, 3) := by decide +kernel
theorem dX12_putBack_35 : decode cX12_putBack 35 = .ok (.iload_n 1, 1) := by decide +kernel
theorem dX12_putBack_36 : decode cX12_putBack 36 = .ok (.aload_n 0, 1) := by decide +kernel
theorem dX12_putBack_37 : decode cX12_putBack 37 = .ok (.getfield 102, 3) := by decide +kernel
theorem dX12_putBack_40 : decode cX12_putBack 40 = .ok (.iload_n 1, 1) := by decide +kernel
theorem dX12_putBack_41 : decode cX12_putBack 41 = .ok (.iaload, 1) := by decide +kernel
theorem dX12_putBack_42 : decode cX12_putBack 42 = .ok (.iastore, 1) := by decide +kernel
theorem dX12_putBack_43 : decode cX12_putBack 43 = .ok (.iinc 1 1, 3) := by decide +kernel
theorem dX12_putBack_46 : decode cX12_putBack 46 = .ok (.goto (-21), 3) := by decide +kernel
theorem dX12_putBack_49 : decode cX12_putBack 49 = .ok (.iconst 0, 1) := by decide +kernel
theorem dX12_putBack_50 : decode cX12_putBack 50 = .ok (.istore_n 1, 1) := by decide +kernel
theorem dX12_putBack_51 : decode cX12_putBack 51 = .ok (.iload_n 1, 1) := by decide +kernel
theorem dX12_putBack_52 : decode cX12_putBack 52 = .ok (.iconst 5, 1) := by decide +kernel
theorem dX12_putBack_53 : decode cX12_putBack 53 = .ok (.if_icmp .ge 33, 3) := by decide +kernel
theorem dX12_putBack_56 : decode cX12_putBack 56 = .ok (.aload_n 0, 1) := by decide +kernel
theorem dX12_putBack_57 : decode cX12_putBack 57 = .ok (.getfield 32, 3) := by decide +kernel
theorem dX12_putBack_60 : decode cX12_putBack 60 = .ok (.iload_n 1, 1) := by decide +kernel
theorem dX12_putBack_61 : decode cX12_putBack 61 = .ok (.aload_n 0, 1) := by decide +kernel
theorem dX12_putBack_62 : decode cX12_putBack 62 = .ok (.getfield 105, 3) := by decide +kernel
theorem dX12_putBack_65 : decode cX12_putBack 65 = .ok (.iload_n 1, 1) := by decide +kernel
theorem dX12_putBack_66 : decode cX12_putBack 66 = .ok (.iaload, 1) := by decide +kernel
theorem dX12_putBack_67 : decode cX12_putBack 67 = .ok (.iastore, 1) := by decide +kernel
theorem dX12_putBack_68 : decode cX12_putBack 68 = .ok (.aload_n 0, 1) := by decide +kernel
theorem dX12_putBack_69 : decode cX12_putBack 69 = .ok (.getfield 35, 3) := by decide +kernel
theorem dX12_putBack_72 : decode cX12_putBack 72 = .ok (.iload_n 1, 1) := by decide +kernel
theorem dX12_putBack_73 : decode cX12_putBack 73 = .ok (.aload_n 0, 1) := by decide +kernel
theorem dX12_putBack_74 : decode cX12_putBack 74 = .ok (.getfield 108, 3) := by decide +kernel
theorem dX12_putBack_77 : decode cX12_putBack 77 = .ok (.iload_n 1, 1) := by decide +kernel
theorem dX12_putBack_78 : decode cX12_putBack 78 = .ok (.iaload, 1) := by decide +kernel
theorem dX12_putBack_79 : decode cX12_putBack 79 = .ok (.iastore, 1) := by decide +kernel
theorem dX12_putBack_80 : decode cX12_putBack 80 = .ok (.iinc 1 1, 3) := by decide +kernel
theorem dX12_putBack_83 : decode cX12_putBack 83 = .ok (.goto (-32), 3) := by decide +kernel
theorem dX12_putBack_86 : decode cX12_putBack 86 = .ok (.return_, 1) := by decide +kernel
theorem dX12_lasts_0 : decode cX12_lasts 0 = .ok (.aload_n 0, 1) := by decide +kernel
theorem dX12_lasts_1 : decode cX12_lasts 1 = .ok (.invokevirtual 368, 3) := by decide +kernel
theorem dX12_lasts_4 : decode cX12_lasts 4 = .ok (.iconst 0, 1) := by decide +kernel
theorem dX12_lasts_5 : decode cX12_lasts 5 = .ok (.istore_n 3, 1) := by decide +kernel
theorem dX12_lasts_6 : decode cX12_lasts 6 = .ok (.iload_n 3, 1) := by decide +kernel
theorem dX12_lasts_7 : decode cX12_lasts 7 = .ok (.bipush 60, 2) := by decide +kernel
theorem dX12_lasts_9 : decode cX12_lasts 9 = .ok (.if_icmp .ge 34, 3) := by decide +kernel
theorem dX12_lasts_12 : decode cX12_lasts 12 = .ok (.aload_n 0, 1) := by decide +kernel
theorem dX12_lasts_13 : decode cX12_lasts 13 = .ok (.iload_n 1, 1) := by decide +kernel
theorem dX12_lasts_14 : decode cX12_lasts 14 = .ok (.iload_n 2, 1) := by decide +kernel
theorem dX12_lasts_15 : decode cX12_lasts 15 = .ok (.invokevirtual 343, 3) := by decide +kernel
theorem dX12_lasts_18 : decode cX12_lasts 18 = .ok (.ifCond .eq 25, 3) := by decide +kernel
theorem dX12_lasts_21 : decode cX12_lasts 21 = .ok (.aload_n 0, 1) := by decide +kernel
theorem dX12_lasts_22 : decode cX12_lasts 22 = .ok (.iload_n 1, 1) := by decide +kernel
theorem dX12_lasts_23 : decode cX12_lasts 23 = .ok (.iload_n 2, 1) := by decide +kernel
theorem dX12_lasts_24 : decode cX12_lasts 24 = .ok (.invokevirtual 355, 3) := by decide +kernel
theorem dX12_lasts_27 : decode cX12_lasts 27 = .ok (.aload_n 0, 1) := by decide +kernel
theorem dX12_lasts_28 : decode cX12_lasts 28 = .ok (.dup, 1) := by decide +kernel
theorem dX12_lasts_29 : decode cX12_lasts 29 = .ok (.getfield 16, 3) := by decide +kernel
theorem dX12_lasts_32 : decode cX12_lasts 32 = .ok (.iconst 1, 1) := by decide +kernel
theorem dX12_lasts_33 : decode cX12_lasts 33 = .ok (.iadd, 1) := by decide +kernel
theorem dX12_lasts_34 : decode cX12_lasts 34 = .ok (.putfield 16, 3) := by decide +kernel
theorem dX12_lasts_37 : decode cX12_lasts 37 = .ok (.iinc 3 1, 3) := by decide +kernel
theorem dX12_lasts_40 : decode cX12_lasts 40 = .ok (.goto (-34), 3) := by decide +kernel
theorem dX12_lasts_43 : decode cX12_lasts 43 = .ok (.aload_n 0, 1) := by decide +kernel
theorem dX12_lasts_44 : decode cX12_lasts 44 = .ok (.invokevirtual 371, 3) := by decide +kernel
theorem dX12_lasts_47 : decode cX12_lasts 47 = .ok (.iload_n 3, 1) := by decide +kernel
theorem dX12_lasts_48 : decode cX12_lasts 48 = .ok (.ireturn, 1) := by decide +kernel
theorem dX12_whereLeads_0 : decode cX12_whereLeads 0 = .ok (.iconst 0, 1) := by decide +kernel
theorem dX12_whereLeads_1 : decode cX12_whereLeads 1 = .ok (.istore_n 2, 1) := by decide +kernel
theorem dX12_whereLeads_2 : decode cX12_whereLeads 2 = .ok (.iload_n 2, 1) := by decide +kernel
theorem dX12_whereLeads_3 : decode cX12_whereLeads 3 = .ok (.iconst 5, 1) := by decide +kernel
theorem dX12_whereLeads_4 : decode cX12_whereLeads 4 = .ok (.if_icmp .ge 21, 3) := by decide +kernel
theorem dX12_whereLeads_7 : decode cX12_whereLeads 7 = .ok (.aload_n 0, 1) := by decide +kernel
theorem dX12_whereLeads_8 : decode cX12_whereLeads 8 = .ok (.getfield 35, 3) := by decide +kernel
theorem dX12_whereLeads_11 : decode cX12_whereLeads 11 = .ok (.iload_n 2, 1) := by decide +kernel
theorem dX12_whereLeads_12 : decode cX12_whereLeads 12 = .ok (.iaload, 1) := by decide +kernel
theorem dX12_whereLeads_13 : decode cX12_whereLeads 13 = .ok (.iload_n 1, 1) := by decide +kernel
theorem dX12_whereLeads_14 : decode cX12_whereLeads 14 = .ok (.if_icmp .ne 5, 3) := by decide +kernel
theorem dX12_whereLeads_17 : decode cX12_whereLeads 17 = .ok (.iload_n 2, 1) := by decide +kernel
theorem dX12_whereLeads_18 : decode cX12_whereLeads 18 = .ok (.ireturn, 1) := by decide +kernel
theorem dX12_whereLeads_19 : decode cX12_whereLeads 19 = .ok (.iinc 2 1, 3) := by decide +kernel
theorem dX12_whereLeads_22 : decode cX12_whereLeads 22 = .ok (.goto (-20), 3) := by decide +kernel
theorem dX12_whereLeads_25 : decode cX12_whereLeads 25 = .ok (.bipush (-5), 2) := by decide +kernel
theorem dX12_whereLeads_27 : decode cX12_whereLeads 27 = .ok (.ireturn, 1) := by decide +kernel
theorem dX12_of_0 : decode cX12_of 0 = .ok (.aload_n 0, 1) := by decide +kernel
theorem dX12_of_1 : decode cX12_of 1 = .ok (.iload_n 1, 1) := by decide +kernel
theorem dX12_of_2 : decode cX12_of 2 = .ok (.invokevirtual 253, 3) := by decide +kernel
theorem dX12_of_5 : decode cX12_of 5 = .ok (.ifCond .ne 7, 3) := by decide +kernel
theorem dX12_of_8 : decode cX12_of 8 = .ok (.sipush (-10001), 3) := by decide +kernel
theorem dX12_of_11 : decode cX12_of 11 = .ok (.ireturn, 1) := by decide +kernel
theorem dX12_of_12 : decode cX12_of 12 = .ok (.aload_n 0, 1) := by decide +kernel
theorem dX12_of_13 : decode cX12_of 13 = .ok (.iload_n 2, 1) := by decide +kernel
theorem dX12_of_14 : decode cX12_of 14 = .ok (.bipush 10, 2) := by decide +kernel
theorem dX12_of_16 : decode cX12_of 16 = .ok (.bipush 14, 2) := by decide +kernel
theorem dX12_of_18 : decode cX12_of 18 = .ok (.invokevirtual 245, 3) := by decide +kernel
theorem dX12_of_21 : decode cX12_of 21 = .ok (.ifCond .eq 17, 3) := by decide +kernel
theorem dX12_of_24 : decode cX12_of 24 = .ok (.aload_n 0, 1) := by decide +kernel
theorem dX12_of_25 : decode cX12_of 25 = .ok (.getfield 26, 3) := by decide +kernel
theorem dX12_of_28 : decode cX12_of 28 = .ok (.iconst 5, 1) := by decide +kernel
theorem dX12_of_29 : decode cX12_of 29 = .ok (.iload_n 1, 1) := by decide +kernel
theorem dX12_of_30 : decode cX12_of 30 = .ok (.imul, 1) := by decide +kernel
theorem dX12_of_31 : decode cX12_of 31 = .ok (.iload_n 2, 1) := by decide +kernel
theorem dX12_of_32 : decode cX12_of 32 = .ok (.iadd, 1) := by decide +kernel
theorem dX12_of_33 : decode cX12_of 33 = .ok (.bipush 10, 2) := by decide +kernel
theorem dX12_of_35 : decode cX12_of 35 = .ok (.isub, 1) := by decide +kernel
theorem dX12_of_36 : decode cX12_of 36 = .ok (.iaload, 1) := by decide +kernel
theorem dX12_of_37 : decode cX12_of 37 = .ok (.ireturn, 1) := by decide +kernel
theorem dX12_of_38 : decode cX12_of 38 = .ok (.aload_n 0, 1) := by decide +kernel
theorem dX12_of_39 : decode cX12_of 39 = .ok (.iload_n 2, 1) := by decide +kernel
theorem dX12_of_40 : decode cX12_of 40 = .ok (.bipush 20, 2) := by decide +kernel
theorem dX12_of_42 : decode cX12_of 42 = .ok (.bipush 24, 2) := by decide +kernel
theorem dX12_of_44 : decode cX12_of 44 = .ok (.invokevirtual 245, 3) := by decide +kernel
theorem dX12_of_47 : decode cX12_of 47 = .ok (.ifCond .eq 13, 3) := by decide +kernel
theorem dX12_of_50 : decode cX12_of 50 = .ok (.aload_n 0, 1) := by decide +kernel
theorem dX12_of_51 : decode cX12_of 51 = .ok (.iload_n 1, 1) := by decide +kernel
theorem dX12_of_52 : decode cX12_of 52 = .ok (.iload_n 2, 1) := by decide +kernel
theorem dX12_of_53 : decode cX12_of 53 = .ok (.bipush 20, 2) := by decide +kernel
theorem dX12_of_55 : decode cX12_of 55 = .ok (.isub, 1) := by decide +kernel
theorem dX12_of_56 : decode cX12_of 56 = .ok (.invokevirtual 337, 3) := by decide +kernel
theorem dX12_of_59 : decode cX12_of 59 = .ok (.ireturn, 1) := by decide +kernel
theorem dX12_of_60 : decode cX12_of 60 = .ok (.aload_n 0, 1) := by decide +kernel
theorem dX12_of_61 : decode cX12_of 61 = .ok (.iload_n 2, 1) := by decide +kernel
theorem dX12_of_62 : decode cX12_of 62 = .ok (.bipush 30, 2) := by decide +kernel
theorem dX12_of_64 : decode cX12_of 64 = .ok (.bipush 34, 2) := by decide +kernel
theorem dX12_of_66 : decode cX12_of 66 = .ok (.invokevirtual 245, 3) := by decide +kernel
theorem dX12_of_69 : decode cX12_of 69 = .ok (.ifCond .eq 13, 3) := by decide +kernel
theorem dX12_of_72 : decode cX12_of 72 = .ok (.aload_n 0, 1) := by decide +kernel
theorem dX12_of_73 : decode cX12_of 73 = .ok (.iload_n 1, 1) := by decide +kernel
theorem dX12_of_74 : decode cX12_of 74 = .ok (.iload_n 2, 1) := by decide +kernel
theorem dX12_of_75 : decode cX12_of 75 = .ok (.bipush 30, 2) := by decide +kernel
theorem dX12_of_77 : decode cX12_of 77 = .ok (.isub, 1) := by decide +kernel
theorem dX12_of_78 : decode cX12_of 78 = .ok (.invokevirtual 374, 3) := by decide +kernel
theorem dX12_of_81 : decode cX12_of 81 = .ok (.ireturn, 1) := by decide +kernel
theorem dX12_of_82 : decode cX12_of 82 = .ok (.iload_n 2, 1) := by decide +kernel
theorem dX12_of_83 : decode cX12_of 83 = .ok (.tableswitch 67 0 3 #[29, 36, 43, 61], 29) := by decide +kernel
theorem dX12_of_112 : decode cX12_of 112 = .ok (.aload_n 0, 1) := by decide +kernel
theorem dX12_of_113 : decode cX12_of 113 = .ok (.getfield 19, 3) := by decide +kernel
theorem dX12_of_116 : decode cX12_of 116 = .ok (.iload_n 1, 1) := by decide +kernel
theorem dX12_of_117 : decode cX12_of 117 = .ok (.iaload, 1) := by decide +kernel
theorem dX12_of_118 : decode cX12_of 118 = .ok (.ireturn, 1) := by decide +kernel
theorem dX12_of_119 : decode cX12_of 119 = .ok (.aload_n 0, 1) := by decide +kernel
theorem dX12_of_120 : decode cX12_of 120 = .ok (.getfield 23, 3) := by decide +kernel
theorem dX12_of_123 : decode cX12_of 123 = .ok (.iload_n 1, 1) := by decide +kernel
theorem dX12_of_124 : decode cX12_of 124 = .ok (.iaload, 1) := by decide +kernel
theorem dX12_of_125 : decode cX12_of 125 = .ok (.ireturn, 1) := by decide +kernel
theorem dX12_of_126 : decode cX12_of 126 = .ok (.aload_n 0, 1) := by decide +kernel
theorem dX12_of_127 : decode cX12_of 127 = .ok (.aload_n 0, 1) := by decide +kernel
theorem dX12_of_128 : decode cX12_of 128 = .ok (.getfield 13, 3) := by decide +kernel
theorem dX12_of_131 : decode cX12_of 131 = .ok (.iload_n 1, 1) := by decide +kernel
theorem dX12_of_132 : decode cX12_of 132 = .ok (.invokevirtual 263, 3) := by decide +kernel
theorem dX12_of_135 : decode cX12_of 135 = .ok (.ifCond .eq 7, 3) := by decide +kernel
theorem dX12_of_138 : decode cX12_of 138 = .ok (.iconst 1, 1) := by decide +kernel
theorem dX12_of_139 : decode cX12_of 139 = .ok (.goto 4, 3) := by decide +kernel
theorem dX12_of_142 : decode cX12_of 142 = .ok (.iconst 0, 1) := by decide +kernel
theorem dX12_of_143 : decode cX12_of 143 = .ok (.ireturn, 1) := by decide +kernel
theorem dX12_of_144 : decode cX12_of 144 = .ok (.aload_n 0, 1) := by decide +kernel
theorem dX12_of_145 : decode cX12_of 145 = .ok (.iload_n 1, 1) := by decide +kernel
theorem dX12_of_146 : decode cX12_of 146 = .ok (.invokevirtual 377, 3) := by decide +kernel
theorem dX12_of_149 : decode cX12_of 149 = .ok (.ireturn, 1) := by decide +kernel
theorem dX12_of_150 : decode cX12_of 150 = .ok (.sipush (-10001), 3) := by decide +kernel
theorem dX12_of_153 : decode cX12_of 153 = .ok (.ireturn, 1) := by decide +kernel
theorem dX12_allBore_0 : decode cX12_allBore 0 = .ok (.iconst 0, 1) := by decide +kernel
theorem dX12_allBore_1 : decode cX12_allBore 1 = .ok (.istore_n 1, 1) := by decide +kernel
theorem dX12_allBore_2 : decode cX12_allBore 2 = .ok (.iconst 0, 1) := by decide +kernel
theorem dX12_allBore_3 : decode cX12_allBore 3 = .ok (.istore_n 2, 1) := by decide +kernel
theorem dX12_allBore_4 : decode cX12_allBore 4 = .ok (.iload_n 2, 1) := by decide +kernel
theorem dX12_allBore_5 : decode cX12_allBore 5 = .ok (.iconst 5, 1) := by decide +kernel
theorem dX12_allBore_6 : decode cX12_allBore 6 = .ok (.if_icmp .ge 18, 3) := by decide +kernel
theorem dX12_allBore_9 : decode cX12_allBore 9 = .ok (.iload_n 1, 1) := by decide +kernel
theorem dX12_allBore_10 : decode cX12_allBore 10 = .ok (.aload_n 0, 1) := by decide +kernel
theorem dX12_allBore_11 : decode cX12_allBore 11 = .ok (.getfield 32, 3) := by decide +kernel
theorem dX12_allBore_14 : decode cX12_allBore 14 = .ok (.iload_n 2, 1) := by decide +kernel
theorem dX12_allBore_15 : decode cX12_allBore 15 = .ok (.iaload, 1) := by decide +kernel
theorem dX12_allBore_16 : decode cX12_allBore 16 = .ok (.iadd, 1) := by decide +kernel
theorem dX12_allBore_17 : decode cX12_allBore 17 = .ok (.istore_n 1, 1) := by decide +kernel
theorem dX12_allBore_18 : decode cX12_allBore 18 = .ok (.iinc 2 1, 3) := by decide +kernel
theorem dX12_allBore_21 : decode cX12_allBore 21 = .ok (.goto (-17), 3) := by decide +kernel
theorem dX12_allBore_24 : decode cX12_allBore 24 = .ok (.iload_n 1, 1) := by decide +kernel
theorem dX12_allBore_25 : decode cX12_allBore 25 = .ok (.ireturn, 1) := by decide +kernel
theorem dX12_allHate_0 : decode cX12_allHate 0 = .ok (.iconst 0, 1) := by decide +kernel
theorem dX12_allHate_1 : decode cX12_allHate 1 = .ok (.istore_n 1, 1) := by decide +kernel
theorem dX12_allHate_2 : decode cX12_allHate 2 = .ok (.iconst 0, 1) := by decide +kernel
theorem dX12_allHate_3 : decode cX12_allHate 3 = .ok (.istore_n 2, 1) := by decide +kernel
theorem dX12_allHate_4 : decode cX12_allHate 4 = .ok (.iload_n 2, 1) := by decide +kernel
theorem dX12_allHate_5 : decode cX12_allHate 5 = .ok (.iconst 5, 1) := by decide +kernel
theorem dX12_allHate_6 : decode cX12_allHate 6 = .ok (.aload_n 0, 1) := by decide +kernel
theorem dX12_allHate_7 : decode cX12_allHate 7 = .ok (.getfield 7, 3) := by decide +kernel
theorem dX12_allHate_10 : decode cX12_allHate 10 = .ok (.imul, 1) := by decide +kernel
theorem dX12_allHate_11 : decode cX12_allHate 11 = .ok (.if_icmp .ge 18, 3) := by decide +kernel
theorem dX12_allHate_14 : decode cX12_allHate 14 = .ok (.iload_n 1, 1) := by decide +kernel
theorem dX12_allHate_15 : decode cX12_allHate 15 = .ok (.aload_n 0, 1) := by decide +kernel
theorem dX12_allHate_16 : decode cX12_allHate 16 = .ok (.getfield 26, 3) := by decide +kernel
theorem dX12_allHate_19 : decode cX12_allHate 19 = .ok (.iload_n 2, 1) := by decide +kernel
theorem dX12_allHate_20 : decode cX12_allHate 20 = .ok (.iaload, 1) := by decide +kernel
theorem dX12_allHate_21 : decode cX12_allHate 21 = .ok (.iadd, 1) := by decide +kernel
theorem dX12_allHate_22 : decode cX12_allHate 22 = .ok (.istore_n 1, 1) := by decide +kernel
theorem dX12_allHate_23 : decode cX12_allHate 23 = .ok (.iinc 2 1, 3) := by decide +kernel
theorem dX12_allHate_26 : decode cX12_allHate 26 = .ok (.goto (-22), 3) := by decide +kernel
theorem dX12_allHate_29 : decode cX12_allHate 29 = .ok (.iload_n 1, 1) := by decide +kernel
theorem dX12_allHate_30 : decode cX12_allHate 30 = .ok (.ireturn, 1) := by decide +kernel
theorem dX12_on_0 : decode cX12_on 0 = .ok (.iload_n 2, 1) := by decide +kernel
theorem dX12_on_1 : decode cX12_on 1 = .ok (.ifCond .eq 36, 3) := by decide +kernel
theorem dX12_on_4 : decode cX12_on 4 = .ok (.aload_n 0, 1) := by decide +kernel
theorem dX12_on_5 : decode cX12_on 5 = .ok (.iload_n 2, 1) := by decide +kernel
theorem dX12_on_6 : decode cX12_on 6 = .ok (.bipush 10, 2) := by decide +kernel
theorem dX12_on_8 : decode cX12_on 8 = .ok (.bipush 14, 2) := by decide +kernel
theorem dX12_on_10 : decode cX12_on 10 = .ok (.invokevirtual 245, 3) := by decide +kernel
theorem dX12_on_13 : decode cX12_on 13 = .ok (.ifCond .ne 24, 3) := by decide +kernel
theorem dX12_on_16 : decode cX12_on 16 = .ok (.aload_n 0, 1) := by decide +kernel
theorem dX12_on_17 : decode cX12_on 17 = .ok (.iload_n 2, 1) := by decide +kernel
theorem dX12_on_18 : decode cX12_on 18 = .ok (.bipush 20, 2) := by decide +kernel
theorem dX12_on_20 : decode cX12_on 20 = .ok (.bipush 19, 2) := by decide +kernel
theorem dX12_on_22 : decode cX12_on 22 = .ok (.iconst 5, 1) := by decide +kernel
theorem dX12_on_23 : decode cX12_on 23 = .ok (.aload_n 0, 1) := by decide +kernel
theorem dX12_on_24 : decode cX12_on 24 = .ok (.getfield 7, 3) := by decide +kernel
theorem dX12_on_27 : decode cX12_on 27 = .ok (.imul, 1) := by decide +kernel
theorem dX12_on_28 : decode cX12_on 28 = .ok (.iadd, 1) := by decide +kernel
theorem dX12_on_29 : decode cX12_on 29 = .ok (.invokevirtual 245, 3) := by decide +kernel
theorem dX12_on_32 : decode cX12_on 32 = .ok (.ifCond .ne 5, 3) := by decide +kernel
theorem dX12_on_35 : decode cX12_on 35 = .ok (.iconst (-1), 1) := by decide +kernel
theorem dX12_on_36 : decode cX12_on 36 = .ok (.ireturn, 1) := by decide +kernel
theorem dX12_on_37 : decode cX12_on 37 = .ok (.aload_n 0, 1) := by decide +kernel
theorem dX12_on_38 : decode cX12_on 38 = .ok (.iload_n 1, 1) := by decide +kernel
theorem dX12_on_39 : decode cX12_on 39 = .ok (.invokevirtual 361, 3) := by decide +kernel
theorem dX12_on_42 : decode cX12_on 42 = .ok (.ifCond .ne 6, 3) := by decide +kernel
theorem dX12_on_45 : decode cX12_on 45 = .ok (.bipush (-2), 2) := by decide +kernel
theorem dX12_on_47 : decode cX12_on 47 = .ok (.ireturn, 1) := by decide +kernel
theorem dX12_on_48 : decode cX12_on 48 = .ok (.aload_n 0, 1) := by decide +kernel
theorem dX12_on_49 : decode cX12_on 49 = .ok (.invokevirtual 368, 3) := by decide +kernel
theorem dX12_on_52 : decode cX12_on 52 = .ok (.aload_n 0, 1) := by decide +kernel
theorem dX12_on_53 : decode cX12_on 53 = .ok (.iload_n 1, 1) := by decide +kernel
theorem dX12_on_54 : decode cX12_on 54 = .ok (.invokevirtual 364, 3) := by decide +kernel
theorem dX12_on_57 : decode cX12_on 57 = .ok (.iload_n 2, 1) := by decide +kernel
theorem dX12_on_58 : decode cX12_on 58 = .ok (.ifCond .ne 10, 3) := by decide +kernel
theorem dX12_on_61 : decode cX12_on 61 = .ok (.aload_n 0, 1) := by decide +kernel
theorem dX12_on_62 : decode cX12_on 62 = .ok (.invokevirtual 349, 3) := by decide +kernel
theorem dX12_on_65 : decode cX12_on 65 = .ok (.goto 30, 3) := by decide +kernel
theorem dX12_on_68 : decode cX12_on 68 = .ok (.iload_n 2, 1) := by decide +kernel
theorem dX12_on_69 : decode cX12_on 69 = .ok (.bipush 20, 2) := by decide +kernel
theorem dX12_on_71 : decode cX12_on 71 = .ok (.if_icmp .ge 15, 3) := by decide +kernel
theorem dX12_on_74 : decode cX12_on 74 = .ok (.aload_n 0, 1) := by decide +kernel
theorem dX12_on_75 : decode cX12_on 75 = .ok (.getfield 32, 3) := by decide +kernel
theorem dX12_on_78 : decode cX12_on 78 = .ok (.iload_n 2, 1) := by decide +kernel
theorem dX12_on_79 : decode cX12_on 79 = .ok (.bipush 10, 2) := by decide +kernel
theorem dX12_on_81 : decode cX12_on 81 = .ok (.isub, 1) := by decide +kernel
theorem dX12_on_82 : decode cX12_on 82 = .ok (.iaload, 1) := by decide +kernel
theorem dX12_on_83 : decode cX12_on 83 = .ok (.goto 12, 3) := by decide +kernel
theorem dX12_on_86 : decode cX12_on 86 = .ok (.aload_n 0, 1) := by decide +kernel
theorem dX12_on_87 : decode cX12_on 87 = .ok (.getfield 26, 3) := by decide +kernel
theorem dX12_on_90 : decode cX12_on 90 = .ok (.iload_n 2, 1) := by decide +kernel
theorem dX12_on_91 : decode cX12_on 91 = .ok (.bipush 20, 2) := by decide +kernel
theorem dX12_on_93 : decode cX12_on 93 = .ok (.isub, 1) := by decide +kernel
theorem dX12_on_94 : decode cX12_on 94 = .ok (.iaload, 1) := by decide +kernel
theorem dX12_on_95 : decode cX12_on 95 = .ok (.istore_n 3, 1) := by decide +kernel
theorem dX12_on_96 : decode cX12_on 96 = .ok (.aload_n 0, 1) := by decide +kernel
theorem dX12_on_97 : decode cX12_on 97 = .ok (.invokevirtual 371, 3) := by decide +kernel
theorem dX12_on_100 : decode cX12_on 100 = .ok (.iload_n 3, 1) := by decide +kernel
theorem dX12_on_101 : decode cX12_on 101 = .ok (.ireturn, 1) := by decide +kernel
theorem dX12_layForces_0 : decode cX12_layForces 0 = .ok (.iconst 0, 1) := by decide +kernel
theorem dX12_layForces_1 : decode cX12_layForces 1 = .ok (.istore_n 1, 1) := by decide +kernel
theorem dX12_layForces_2 : decode cX12_layForces 2 = .ok (.iload_n 1, 1) := by decide +kernel
theorem dX12_layForces_3 : decode cX12_layForces 3 = .ok (.aload_n 0, 1) := by decide +kernel
theorem dX12_layForces_4 : decode cX12_layForces 4 = .ok (.getfield 7, 3) := by decide +kernel
theorem dX12_layForces_7 : decode cX12_layForces 7 = .ok (.if_icmp .ge 53, 3) := by decide +kernel
theorem dX12_layForces_10 : decode cX12_layForces 10 = .ok (.iconst 0, 1) := by decide +kernel
theorem dX12_layForces_11 : decode cX12_layForces 11 = .ok (.istore_n 2, 1) := by decide +kernel
theorem dX12_layForces_12 : decode cX12_layForces 12 = .ok (.iload_n 2, 1) := by decide +kernel
theorem dX12_layForces_13 : decode cX12_layForces 13 = .ok (.iconst 5, 1) := by decide +kernel
theorem dX12_layForces_14 : decode cX12_layForces 14 = .ok (.if_icmp .ge 40, 3) := by decide +kernel
theorem dX12_layForces_17 : decode cX12_layForces 17 = .ok (.aload_n 0, 1) := by decide +kernel
theorem dX12_layForces_18 : decode cX12_layForces 18 = .ok (.getfield 111, 3) := by decide +kernel
theorem dX12_layForces_21 : decode cX12_layForces 21 = .ok (.iconst 5, 1) := by decide +kernel
theorem dX12_layForces_22 : decode cX12_layForces 22 = .ok (.iload_n 1, 1) := by decide +kernel
theorem dX12_layForces_23 : decode cX12_layForces 23 = .ok (.imul, 1) := by decide +kernel
theorem dX12_layForces_24 : decode cX12_layForces 24 = .ok (.iload_n 2, 1) := by decide +kernel
theorem dX12_layForces_25 : decode cX12_layForces 25 = .ok (.iadd, 1) := by decide +kernel
theorem dX12_layForces_26 : decode cX12_layForces 26 = .ok (.aload_n 0, 1) := by decide +kernel
theorem dX12_layForces_27 : decode cX12_layForces 27 = .ok (.iload_n 1, 1) := by decide +kernel
theorem dX12_layForces_28 : decode cX12_layForces 28 = .ok (.iload_n 2, 1) := by decide +kernel
theorem dX12_layForces_29 : decode cX12_layForces 29 = .ok (.invokevirtual 343, 3) := by decide +kernel
theorem dX12_layForces_32 : decode cX12_layForces 32 = .ok (.ifCond .eq 12, 3) := by decide +kernel
theorem dX12_layForces_35 : decode cX12_layForces 35 = .ok (.aload_n 0, 1) := by decide +kernel
theorem dX12_layForces_36 : decode cX12_layForces 36 = .ok (.iload_n 1, 1) := by decide +kernel
theorem dX12_layForces_37 : decode cX12_layForces 37 = .ok (.iload_n 2, 1) := by decide +kernel
theorem dX12_layForces_38 : decode cX12_layForces 38 = .ok (.invokevirtual 337, 3) := by decide +kernel
theorem dX12_layForces_41 : decode cX12_layForces 41 = .ok (.goto 6, 3) := by decide +kernel
theorem dX12_layForces_44 : decode cX12_layForces 44 = .ok (.ldc_w 380, 3) := by decide +kernel
theorem dX12_layForces_47 : decode cX12_layForces 47 = .ok (.iastore, 1) := by decide +kernel
theorem dX12_layForces_48 : decode cX12_layForces 48 = .ok (.iinc 2 1, 3) := by decide +kernel
theorem dX12_layForces_51 : decode cX12_layForces 51 = .ok (.goto (-39), 3) := by decide +kernel
theorem dX12_layForces_54 : decode cX12_layForces 54 = .ok (.iinc 1 1, 3) := by decide +kernel
theorem dX12_layForces_57 : decode cX12_layForces 57 = .ok (.goto (-55), 3) := by decide +kernel
theorem dX12_layForces_60 : decode cX12_layForces 60 = .ok (.return_, 1) := by decide +kernel
theorem dX12_layRing_0 : decode cX12_layRing 0 = .ok (.iload_n 1, 1) := by decide +kernel
theorem dX12_layRing_1 : decode cX12_layRing 1 = .ok (.istore_n 2, 1) := by decide +kernel
theorem dX12_layRing_2 : decode cX12_layRing 2 = .ok (.aload_n 0, 1) := by decide +kernel
theorem dX12_layRing_3 : decode cX12_layRing 3 = .ok (.getfield 13, 3) := by decide +kernel
theorem dX12_layRing_6 : decode cX12_layRing 6 = .ok (.istore_n 3, 1) := by decide +kernel
theorem dX12_layRing_7 : decode cX12_layRing 7 = .ok (.iconst 4, 1) := by decide +kernel
theorem dX12_layRing_8 : decode cX12_layRing 8 = .ok (.istore 4, 2) := by decide +kernel
theorem dX12_layRing_10 : decode cX12_layRing 10 = .ok (.iload 4, 2) := by decide +kernel
theorem dX12_layRing_12 : decode cX12_layRing 12 = .ok (.ifCond .lt 67, 3) := by decide +kernel
theorem dX12_layRing_15 : decode cX12_layRing 15 = .ok (.iload_n 2, 1) := by decide +kernel
theorem dX12_layRing_16 : decode cX12_layRing 16 = .ok (.bipush 7, 2) := by decide +kernel
theorem dX12_layRing_18 : decode cX12_layRing 18 = .ok (.irem, 1) := by decide +kernel
theorem dX12_layRing_19 : decode cX12_layRing 19 = .ok (.istore 5, 2) := by decide +kernel
theorem dX12_layRing_21 : decode cX12_layRing 21 = .ok (.iload_n 2, 1) := by decide +kernel
theorem dX12_layRing_22 : decode cX12_layRing 22 = .ok (.bipush 7, 2) := by decide +kernel
theorem dX12_layRing_24 : decode cX12_layRing 24 = .ok (.idiv, 1) := by decide +kernel
theorem dX12_layRing_25 : decode cX12_layRing 25 = .ok (.istore_n 2, 1) := by decide +kernel
theorem dX12_layRing_26 : decode cX12_layRing 26 = .ok (.aload_n 0, 1) := by decide +kernel
theorem dX12_layRing_27 : decode cX12_layRing 27 = .ok (.getfield 114, 3) := by decide +kernel
theorem dX12_layRing_30 : decode cX12_layRing 30 = .ok (.iload 4, 2) := by decide +kernel
theorem dX12_layRing_32 : decode cX12_layRing 32 = .ok (.iload 5, 2) := by decide +kernel
theorem dX12_layRing_34 : decode cX12_layRing 34 = .ok (.iastore, 1) := by decide +kernel
theorem dX12_layRing_35 : decode cX12_layRing 35 = .ok (.iload 5, 2) := by decide +kernel
theorem dX12_layRing_37 : decode cX12_layRing 37 = .ok (.bipush 6, 2) := by decide +kernel
theorem dX12_layRing_39 : decode cX12_layRing 39 = .ok (.if_icmp .ne 6, 3) := by decide +kernel
theorem dX12_layRing_42 : decode cX12_layRing 42 = .ok (.goto 31, 3) := by decide +kernel
theorem dX12_layRing_45 : decode cX12_layRing 45 = .ok (.iload 5, 2) := by decide +kernel
theorem dX12_layRing_47 : decode cX12_layRing 47 = .ok (.aload_n 0, 1) := by decide +kernel
theorem dX12_layRing_48 : decode cX12_layRing 48 = .ok (.getfield 7, 3) := by decide +kernel
theorem dX12_layRing_51 : decode cX12_layRing 51 = .ok (.if_icmp .ge 13, 3) := by decide +kernel
theorem dX12_layRing_54 : decode cX12_layRing 54 = .ok (.aload_n 0, 1) := by decide +kernel
theorem dX12_layRing_55 : decode cX12_layRing 55 = .ok (.iload_n 3, 1) := by decide +kernel
theorem dX12_layRing_56 : decode cX12_layRing 56 = .ok (.iload 5, 2) := by decide +kernel
theorem dX12_layRing_58 : decode cX12_layRing 58 = .ok (.invokevirtual 263, 3) := by decide +kernel
theorem dX12_layRing_61 : decode cX12_layRing 61 = .ok (.ifCond .eq 5, 3) := by decide +kernel
theorem dX12_layRing_64 : decode cX12_layRing 64 = .ok (.iconst 0, 1) := by decide +kernel
theorem dX12_layRing_65 : decode cX12_layRing 65 = .ok (.ireturn, 1) := by decide +kernel
theorem dX12_layRing_66 : decode cX12_layRing 66 = .ok (.iload_n 3, 1) := by decide +kernel
theorem dX12_layRing_67 : decode cX12_layRing 67 = .ok (.iconst 1, 1) := by decide +kernel
theorem dX12_layRing_68 : decode cX12_layRing 68 = .ok (.iload 5, 2) := by decide +kernel
theorem dX12_layRing_70 : decode cX12_layRing 70 = .ok (.ishl, 1) := by decide +kernel
theorem dX12_layRing_71 : decode cX12_layRing 71 = .ok (.ior, 1) := by decide +kernel
theorem dX12_layRing_72 : decode cX12_layRing 72 = .ok (.istore_n 3, 1) := by decide +kernel
theorem dX12_layRing_73 : decode cX12_layRing 73 = .ok (.iinc 4 (-1), 3) := by decide +kernel
theorem dX12_layRing_76 : decode cX12_layRing 76 = .ok (.goto (-66), 3) := by decide +kernel
theorem dX12_layRing_79 : decode cX12_layRing 79 = .ok (.iconst 1, 1) := by decide +kernel
theorem dX12_layRing_80 : decode cX12_layRing 80 = .ok (.ireturn, 1) := by decide +kernel
theorem dX12_layBest_0 : decode cX12_layBest 0 = .ok (.aload_n 0, 1) := by decide +kernel
theorem dX12_layBest_1 : decode cX12_layBest 1 = .ok (.invokevirtual 381, 3) := by decide +kernel
theorem dX12_layBest_4 : decode cX12_layBest 4 = .ok (.aload_n 0, 1) := by decide +kernel
theorem dX12_layBest_5 : decode cX12_layBest 5 = .ok (.iconst (-1), 1) := by decide +kernel
theorem dX12_layBest_6 : decode cX12_layBest 6 = .ok (.putfield 120, 3) := by decide +kernel
theorem dX12_layBest_9 : decode cX12_layBest 9 = .ok (.aload_n 0, 1) := by decide +kernel
theorem dX12_layBest_10 : decode cX12_layBest 10 = .ok (.iconst 0, 1) := by decide +kernel
theorem dX12_layBest_11 : decode cX12_layBest 11 = .ok (.putfield 123, 3) := by decide +kernel
theorem dX12_layBest_14 : decode cX12_layBest 14 = .ok (.iconst 0, 1) := by decide +kernel
theorem dX12_layBest_15 : decode cX12_layBest 15 = .ok (.istore_n 1, 1) := by decide +kernel
theorem dX12_layBest_16 : decode cX12_layBest 16 = .ok (.iload_n 1, 1) := by decide +kernel
theorem dX12_layBest_17 : decode cX12_layBest 17 = .ok (.sipush 16807, 3) := by decide +kernel
theorem dX12_layBest_20 : decode cX12_layBest 20 = .ok (.if_icmp .ge 166, 3) := by decide +kernel
theorem dX12_layBest_23 : decode cX12_layBest 23 = .ok (.aload_n 0, 1) := by decide +kernel
theorem dX12_layBest_24 : decode cX12_layBest 24 = .ok (.iload_n 1, 1) := by decide +kernel
theorem dX12_layBest_25 : decode cX12_layBest 25 = .ok (.invokevirtual 384, 3) := by decide +kernel
theorem dX12_layBest_28 : decode cX12_layBest 28 = .ok (.ifCond .ne 6, 3) := by decide +kernel
theorem dX12_layBest_31 : decode cX12_layBest 31 = .ok (.goto 149, 3) := by decide +kernel
theorem dX12_layBest_34 : decode cX12_layBest 34 = .ok (.iconst 0, 1) := by decide +kernel
theorem dX12_layBest_35 : decode cX12_layBest 35 = .ok (.istore_n 2, 1) := by decide +kernel
theorem dX12_layBest_36 : decode cX12_layBest 36 = .ok (.iconst 0, 1) := by decide +kernel
theorem dX12_layBest_37 : decode cX12_layBest 37 = .ok (.istore_n 3, 1) := by decide +kernel
theorem dX12_layBest_38 : decode cX12_layBest 38 = .ok (.iconst 0, 1) := by decide +kernel
theorem dX12_layBest_39 : decode cX12_layBest 39 = .ok (.istore 4, 2) := by decide +kernel
theorem dX12_layBest_41 : decode cX12_layBest 41 = .ok (.iload 4, 2) := by decide +kernel
theorem dX12_layBest_43 : decode cX12_layBest 43 = .ok (.iconst 5, 1) := by decide +kernel
theorem dX12_layBest_44 : decode cX12_layBest 44 = .ok (.if_icmp .ge 70, 3) := by decide +kernel
theorem dX12_layBest_47 : decode cX12_layBest 47 = .ok (.aload_n 0, 1) := by decide +kernel
theorem dX12_layBest_48 : decode cX12_layBest 48 = .ok (.getfield 114, 3) := by decide +kernel
theorem dX12_layBest_51 : decode cX12_layBest 51 = .ok (.iload 4, 2) := by decide +kernel
theorem dX12_layBest_53 : decode cX12_layBest 53 = .ok (.iaload, 1) := by decide +kernel
theorem dX12_layBest_54 : decode cX12_layBest 54 = .ok (.bipush 6, 2) := by decide +kernel
theorem dX12_layBest_56 : decode cX12_layBest 56 = .ok (.if_icmp .eq 52, 3) := by decide +kernel
theorem dX12_layBest_59 : decode cX12_layBest 59 = .ok (.aload_n 0, 1) := by decide +kernel
theorem dX12_layBest_60 : decode cX12_layBest 60 = .ok (.getfield 111, 3) := by decide +kernel
theorem dX12_layBest_63 : decode cX12_layBest 63 = .ok (.iconst 5, 1) := by decide +kernel
theorem dX12_layBest_64 : decode cX12_layBest 64 = .ok (.aload_n 0, 1) := by decide +kernel
theorem dX12_layBest_65 : decode cX12_layBest 65 = .ok (.getfield 114, 3) := by decide +kernel
theorem dX12_layBest_68 : decode cX12_layBest 68 = .ok (.iload 4, 2) := by decide +kernel
theorem dX12_layBest_70 : decode cX12_layBest 70 = .ok (.iaload, 1) := by decide +kernel
theorem dX12_layBest_71 : decode cX12_layBest 71 = .ok (.imul, 1) := by decide +kernel
theorem dX12_layBest_72 : decode cX12_layBest 72 = .ok (.iload 4, 2) := by decide +kernel
theorem dX12_layBest_74 : decode cX12_layBest 74 = .ok (.iadd, 1) := by decide +kernel
theorem dX12_layBest_75 : decode cX12_layBest 75 = .ok (.iaload, 1) := by decide +kernel
theorem dX12_layBest_76 : decode cX12_layBest 76 = .ok (.ldc_w 380, 3) := by decide +kernel
theorem dX12_layBest_79 : decode cX12_layBest 79 = .ok (.if_icmp .ne 6, 3) := by decide +kernel
theorem dX12_layBest_82 : decode cX12_layBest 82 = .ok (.goto 26, 3) := by decide +kernel
theorem dX12_layBest_85 : decode cX12_layBest 85 = .ok (.iinc 2 1, 3) := by decide +kernel
theorem dX12_layBest_88 : decode cX12_layBest 88 = .ok (.iload_n 3, 1) := by decide +kernel
theorem dX12_layBest_89 : decode cX12_layBest 89 = .ok (.aload_n 0, 1) := by decide +kernel
theorem dX12_layBest_90 : decode cX12_layBest 90 = .ok (.getfield 111, 3) := by decide +kernel
theorem dX12_layBest_93 : decode cX12_layBest 93 = .ok (.iconst 5, 1) := by decide +kernel
theorem dX12_layBest_94 : decode cX12_layBest 94 = .ok (.aload_n 0, 1) := by decide +kernel
theorem dX12_layBest_95 : decode cX12_layBest 95 = .ok (.getfield 114, 3) := by decide +kernel
theorem dX12_layBest_98 : decode cX12_layBest 98 = .ok (.iload 4, 2) := by decide +kernel
theorem dX12_layBest_100 : decode cX12_layBest 100 = .ok (.iaload, 1) := by decide +kernel
theorem dX12_layBest_101 : decode cX12_layBest 101 = .ok (.imul, 1) := by decide +kernel
theorem dX12_layBest_102 : decode cX12_layBest 102 = .ok (.iload 4, 2) := by decide +kernel
theorem dX12_layBest_104 : decode cX12_layBest 104 = .ok (.iadd, 1) := by decide +kernel
theorem dX12_layBest_105 : decode cX12_layBest 105 = .ok (.iaload, 1) := by decide +kernel
theorem dX12_layBest_106 : decode cX12_layBest 106 = .ok (.iadd, 1) := by decide +kernel
theorem dX12_layBest_107 : decode cX12_layBest 107 = .ok (.istore_n 3, 1) := by decide +kernel
theorem dX12_layBest_108 : decode cX12_layBest 108 = .ok (.iinc 4 1, 3) := by decide +kernel
theorem dX12_layBest_111 : decode cX12_layBest 111 = .ok (.goto (-70), 3) := by decide +kernel
theorem dX12_layBest_114 : decode cX12_layBest 114 = .ok (.iload_n 2, 1) := by decide +kernel
theorem dX12_layBest_115 : decode cX12_layBest 115 = .ok (.aload_n 0, 1) := by decide +kernel
theorem dX12_layBest_116 : decode cX12_layBest 116 = .ok (.getfield 120, 3) := by decide +kernel
theorem dX12_layBest_119 : decode cX12_layBest 119 = .ok (.if_icmp .lt 61, 3) := by decide +kernel
theorem dX12_layBest_122 : decode cX12_layBest 122 = .ok (.iload_n 2, 1) := by decide +kernel
theorem dX12_layBest_123 : decode cX12_layBest 123 = .ok (.aload_n 0, 1) := by decide +kernel
theorem dX12_layBest_124 : decode cX12_layBest 124 = .ok (.getfield 120, 3) := by decide +kernel
theorem dX12_layBest_127 : decode cX12_layBest 127 = .ok (.if_icmp .ne 14, 3) := by decide +kernel
theorem dX12_layBest_130 : decode cX12_layBest 130 = .ok (.iload_n 3, 1) := by decide +kernel
theorem dX12_layBest_131 : decode cX12_layBest 131 = .ok (.aload_n 0, 1) := by decide +kernel
theorem dX12_layBest_132 : decode cX12_layBest 132 = .ok (.getfield 123, 3) := by decide +kernel
theorem dX12_layBest_135 : decode cX12_layBest 135 = .ok (.if_icmp .gt 6, 3) := by decide +kernel
theorem dX12_layBest_138 : decode cX12_layBest 138 = .ok (.goto 42, 3) := by decide +kernel
theorem dX12_layBest_141 : decode cX12_layBest 141 = .ok (.aload_n 0, 1) := by decide +kernel
theorem dX12_layBest_142 : decode cX12_layBest 142 = .ok (.iload_n 2, 1) := by decide +kernel
theorem dX12_layBest_143 : decode cX12_layBest 143 = .ok (.putfield 120, 3) := by decide +kernel
theorem dX12_layBest_146 : decode cX12_layBest 146 = .ok (.aload_n 0, 1) := by decide +kernel
theorem dX12_layBest_147 : decode cX12_layBest 147 = .ok (.iload_n 3, 1) := by decide +kernel
theorem dX12_layBest_148 : decode cX12_layBest 148 = .ok (.putfield 123, 3) := by decide +kernel
theorem dX12_layBest_151 : decode cX12_layBest 151 = .ok (.iconst 0, 1) := by decide +kernel
theorem dX12_layBest_152 : decode cX12_layBest 152 = .ok (.istore 4, 2) := by decide +kernel
theorem dX12_layBest_154 : decode cX12_layBest 154 = .ok (.iload 4, 2) := by decide +kernel
theorem dX12_layBest_156 : decode cX12_layBest 156 = .ok (.iconst 5, 1) := by decide +kernel
theorem dX12_layBest_157 : decode cX12_layBest 157 = .ok (.if_icmp .ge 23, 3) := by decide +kernel
theorem dX12_layBest_160 : decode cX12_layBest 160 = .ok (.aload_n 0, 1) := by decide +kernel
theorem dX12_layBest_161 : decode cX12_layBest 161 = .ok (.getfield 117, 3) := by decide +kernel
theorem dX12_layBest_164 : decode cX12_layBest 164 = .ok (.iload 4, 2) := by decide +kernel
theorem dX12_layBest_166 : decode cX12_layBest 166 = .ok (.aload_n 0, 1) := by decide +kernel
theorem dX12_layBest_167 : decode cX12_layBest 167 = .ok (.getfield 114, 3) := by decide +kernel
theorem dX12_layBest_170 : decode cX12_layBest 170 = .ok (.iload 4, 2) := by decide +kernel
theorem dX12_layBest_172 : decode cX12_layBest 172 = .ok (.iaload, 1) := by decide +kernel
theorem dX12_layBest_173 : decode cX12_layBest 173 = .ok (.iastore, 1) := by decide +kernel
theorem dX12_layBest_174 : decode cX12_layBest 174 = .ok (.iinc 4 1, 3) := by decide +kernel
theorem dX12_layBest_177 : decode cX12_layBest 177 = .ok (.goto (-23), 3) := by decide +kernel
theorem dX12_layBest_180 : decode cX12_layBest 180 = .ok (.iinc 1 1, 3) := by decide +kernel
theorem dX12_layBest_183 : decode cX12_layBest 183 = .ok (.goto (-167), 3) := by decide +kernel
theorem dX12_layBest_186 : decode cX12_layBest 186 = .ok (.return_, 1) := by decide +kernel
theorem dX12_ring_0 : decode cX12_ring 0 = .ok (.aload_n 0, 1) := by decide +kernel
theorem dX12_ring_1 : decode cX12_ring 1 = .ok (.iload_n 1, 1) := by decide +kernel
theorem dX12_ring_2 : decode cX12_ring 2 = .ok (.iconst 0, 1) := by decide +kernel
theorem dX12_ring_3 : decode cX12_ring 3 = .ok (.iconst 1, 1) := by decide +kernel
theorem dX12_ring_4 : decode cX12_ring 4 = .ok (.invokevirtual 245, 3) := by decide +kernel
theorem dX12_ring_7 : decode cX12_ring 7 = .ok (.ifCond .ne 19, 3) := by decide +kernel
theorem dX12_ring_10 : decode cX12_ring 10 = .ok (.aload_n 0, 1) := by decide +kernel
theorem dX12_ring_11 : decode cX12_ring 11 = .ok (.iload_n 1, 1) := by decide +kernel
theorem dX12_ring_12 : decode cX12_ring 12 = .ok (.bipush 10, 2) := by decide +kernel
theorem dX12_ring_14 : decode cX12_ring 14 = .ok (.bipush 14, 2) := by decide +kernel
theorem dX12_ring_16 : decode cX12_ring 16 = .ok (.invokevirtual 245, 3) := by decide +kernel
theorem dX12_ring_19 : decode cX12_ring 19 = .ok (.ifCond .ne 7, 3) := by decide +kernel
theorem dX12_ring_22 : decode cX12_ring 22 = .ok (.sipush (-10001), 3) := by decide +kernel
theorem dX12_ring_25 : decode cX12_ring 25 = .ok (.ireturn, 1) := by decide +kernel
theorem dX12_ring_26 : decode cX12_ring 26 = .ok (.aload_n 0, 1) := by decide +kernel
theorem dX12_ring_27 : decode cX12_ring 27 = .ok (.invokevirtual 387, 3) := by decide +kernel
theorem dX12_ring_30 : decode cX12_ring 30 = .ok (.iload_n 1, 1) := by decide +kernel
theorem dX12_ring_31 : decode cX12_ring 31 = .ok (.iconst 2, 1) := by decide +kernel
theorem dX12_ring_32 : decode cX12_ring 32 = .ok (.if_icmp .ge 19, 3) := by decide +kernel
theorem dX12_ring_35 : decode cX12_ring 35 = .ok (.iload_n 1, 1) := by decide +kernel
theorem dX12_ring_36 : decode cX12_ring 36 = .ok (.ifCond .ne 10, 3) := by decide +kernel
theorem dX12_ring_39 : decode cX12_ring 39 = .ok (.aload_n 0, 1) := by decide +kernel
theorem dX12_ring_40 : decode cX12_ring 40 = .ok (.getfield 120, 3) := by decide +kernel
theorem dX12_ring_43 : decode cX12_ring 43 = .ok (.goto 7, 3) := by decide +kernel
theorem dX12_ring_46 : decode cX12_ring 46 = .ok (.aload_n 0, 1) := by decide +kernel
theorem dX12_ring_47 : decode cX12_ring 47 = .ok (.getfield 123, 3) := by decide +kernel
theorem dX12_ring_50 : decode cX12_ring 50 = .ok (.ireturn, 1) := by decide +kernel
theorem dX12_ring_51 : decode cX12_ring 51 = .ok (.aload_n 0, 1) := by decide +kernel
theorem dX12_ring_52 : decode cX12_ring 52 = .ok (.getfield 117, 3) := by decide +kernel
theorem dX12_ring_55 : decode cX12_ring 55 = .ok (.iload_n 1, 1) := by decide +kernel
theorem dX12_ring_56 : decode cX12_ring 56 = .ok (.bipush 10, 2) := by decide +kernel
theorem dX12_ring_58 : decode cX12_ring 58 = .ok (.isub, 1) := by decide +kernel
theorem dX12_ring_59 : decode cX12_ring 59 = .ok (.iaload, 1) := by decide +kernel
theorem dX12_ring_60 : decode cX12_ring 60 = .ok (.bipush 6, 2) := by decide +kernel
theorem dX12_ring_62 : decode cX12_ring 62 = .ok (.if_icmp .ne 8, 3) := by decide +kernel
theorem dX12_ring_65 : decode cX12_ring 65 = .ok (.bipush (-5), 2) := by decide +kernel
theorem dX12_ring_67 : decode cX12_ring 67 = .ok (.goto 12, 3) := by decide +kernel
theorem dX12_ring_70 : decode cX12_ring 70 = .ok (.aload_n 0, 1) := by decide +kernel
theorem dX12_ring_71 : decode cX12_ring 71 = .ok (.getfield 117, 3) := by decide +kernel
theorem dX12_ring_74 : decode cX12_ring 74 = .ok (.iload_n 1, 1) := by decide +kernel
theorem dX12_ring_75 : decode cX12_ring 75 = .ok (.bipush 10, 2) := by decide +kernel
theorem dX12_ring_77 : decode cX12_ring 77 = .ok (.isub, 1) := by decide +kernel
theorem dX12_ring_78 : decode cX12_ring 78 = .ok (.iaload, 1) := by decide +kernel
theorem dX12_ring_79 : decode cX12_ring 79 = .ok (.ireturn, 1) := by decide +kernel
theorem dX12_worst_0 : decode cX12_worst 0 = .ok (.bipush (-5), 2) := by decide +kernel
theorem dX12_worst_2 : decode cX12_worst 2 = .ok (.istore_n 2, 1) := by decide +kernel
theorem dX12_worst_3 : decode cX12_worst 3 = .ok (.bipush (-5), 2) := by decide +kernel
theorem dX12_worst_5 : decode cX12_worst 5 = .ok (.istore_n 3, 1) := by decide +kernel
theorem dX12_worst_6 : decode cX12_worst 6 = .ok (.aload_n 0, 1) := by decide +kernel
theorem dX12_worst_7 : decode cX12_worst 7 = .ok (.getfield 13, 3) := by decide +kernel
theorem dX12_worst_10 : decode cX12_worst 10 = .ok (.istore 4, 2) := by decide +kernel
theorem dX12_worst_12 : decode cX12_worst 12 = .ok (.iconst 0, 1) := by decide +kernel
theorem dX12_worst_13 : decode cX12_worst 13 = .ok (.istore 5, 2) := by decide +kernel
theorem dX12_worst_15 : decode cX12_worst 15 = .ok (.iload 5, 2) := by decide +kernel
theorem dX12_worst_17 : decode cX12_worst 17 = .ok (.aload_n 0, 1) := by decide +kernel
theorem dX12_worst_18 : decode cX12_worst 18 = .ok (.getfield 7, 3) := by decide +kernel
theorem dX12_worst_21 : decode cX12_worst 21 = .ok (.if_icmp .ge 63, 3) := by decide +kernel
theorem dX12_worst_24 : decode cX12_worst 24 = .ok (.aload_n 0, 1) := by decide +kernel
theorem dX12_worst_25 : decode cX12_worst 25 = .ok (.iload 4, 2) := by decide +kernel
theorem dX12_worst_27 : decode cX12_worst 27 = .ok (.iload 5, 2) := by decide +kernel
theorem dX12_worst_29 : decode cX12_worst 29 = .ok (.invokevirtual 263, 3) := by decide +kernel
theorem dX12_worst_32 : decode cX12_worst 32 = .ok (.ifCond .eq 6, 3) := by decide +kernel
theorem dX12_worst_35 : decode cX12_worst 35 = .ok (.goto 43, 3) := by decide +kernel
theorem dX12_worst_38 : decode cX12_worst 38 = .ok (.aload_n 0, 1) := by decide +kernel
theorem dX12_worst_39 : decode cX12_worst 39 = .ok (.iload 5, 2) := by decide +kernel
theorem dX12_worst_41 : decode cX12_worst 41 = .ok (.iconst 1, 1) := by decide +kernel
theorem dX12_worst_42 : decode cX12_worst 42 = .ok (.invokevirtual 267, 3) := by decide +kernel
theorem dX12_worst_45 : decode cX12_worst 45 = .ok (.aload_n 0, 1) := by decide +kernel
theorem dX12_worst_46 : decode cX12_worst 46 = .ok (.invokevirtual 387, 3) := by decide +kernel
theorem dX12_worst_49 : decode cX12_worst 49 = .ok (.aload_n 0, 1) := by decide +kernel
theorem dX12_worst_50 : decode cX12_worst 50 = .ok (.iload 4, 2) := by decide +kernel
theorem dX12_worst_52 : decode cX12_worst 52 = .ok (.putfield 13, 3) := by decide +kernel
theorem dX12_worst_55 : decode cX12_worst 55 = .ok (.iload_n 2, 1) := by decide +kernel
theorem dX12_worst_56 : decode cX12_worst 56 = .ok (.ifCond .lt 14, 3) := by decide +kernel
theorem dX12_worst_59 : decode cX12_worst 59 = .ok (.aload_n 0, 1) := by decide +kernel
theorem dX12_worst_60 : decode cX12_worst 60 = .ok (.getfield 120, 3) := by decide +kernel
theorem dX12_worst_63 : decode cX12_worst 63 = .ok (.iload_n 3, 1) := by decide +kernel
theorem dX12_worst_64 : decode cX12_worst 64 = .ok (.if_icmp .lt 6, 3) := by decide +kernel
theorem dX12_worst_67 : decode cX12_worst 67 = .ok (.goto 11, 3) := by decide +kernel
theorem dX12_worst_70 : decode cX12_worst 70 = .ok (.iload 5, 2) := by decide +kernel
theorem dX12_worst_72 : decode cX12_worst 72 = .ok (.istore_n 2, 1) := by decide +kernel
theorem dX12_worst_73 : decode cX12_worst 73 = .ok (.aload_n 0, 1) := by decide +kernel
theorem dX12_worst_74 : decode cX12_worst 74 = .ok (.getfield 120, 3) := by decide +kernel
theorem dX12_worst_77 : decode cX12_worst 77 = .ok (.istore_n 3, 1) := by decide +kernel
theorem dX12_worst_78 : decode cX12_worst 78 = .ok (.iinc 5 1, 3) := by decide +kernel
theorem dX12_worst_81 : decode cX12_worst 81 = .ok (.goto (-66), 3) := by decide +kernel
theorem dX12_worst_84 : decode cX12_worst 84 = .ok (.iload_n 1, 1) := by decide +kernel
theorem dX12_worst_85 : decode cX12_worst 85 = .ok (.ifCond .eq 7, 3) := by decide +kernel
theorem dX12_worst_88 : decode cX12_worst 88 = .ok (.iload_n 2, 1) := by decide +kernel
theorem dX12_worst_89 : decode cX12_worst 89 = .ok (.goto 4, 3) := by decide +kernel
theorem dX12_worst_92 : decode cX12_worst 92 = .ok (.iload_n 3, 1) := by decide +kernel
theorem dX12_worst_93 : decode cX12_worst 93 = .ok (.ireturn, 1) := by decide +kernel
theorem dX12_told_0 : decode cX12_told 0 = .ok (.aload_n 0, 1) := by decide +kernel
theorem dX12_told_1 : decode cX12_told 1 = .ok (.iload_n 1, 1) := by decide +kernel
theorem dX12_told_2 : decode cX12_told 2 = .ok (.bipush 10, 2) := by decide +kernel
theorem dX12_told_4 : decode cX12_told 4 = .ok (.bipush 14, 2) := by decide +kernel
theorem dX12_told_6 : decode cX12_told 6 = .ok (.invokevirtual 245, 3) := by decide +kernel
theorem dX12_told_9 : decode cX12_told 9 = .ok (.ifCond .eq 13, 3) := by decide +kernel
theorem dX12_told_12 : decode cX12_told 12 = .ok (.aload_n 0, 1) := by decide +kernel
theorem dX12_told_13 : decode cX12_told 13 = .ok (.getfield 32, 3) := by decide +kernel
theorem dX12_told_16 : decode cX12_told 16 = .ok (.iload_n 1, 1) := by decide +kernel
theorem dX12_told_17 : decode cX12_told 17 = .ok (.bipush 10, 2) := by decide +kernel
theorem dX12_told_19 : decode cX12_told 19 = .ok (.isub, 1) := by decide +kernel
theorem dX12_told_20 : decode cX12_told 20 = .ok (.iaload, 1) := by decide +kernel
theorem dX12_told_21 : decode cX12_told 21 = .ok (.ireturn, 1) := by decide +kernel
theorem dX12_told_22 : decode cX12_told 22 = .ok (.aload_n 0, 1) := by decide +kernel
theorem dX12_told_23 : decode cX12_told 23 = .ok (.iload_n 1, 1) := by decide +kernel
theorem dX12_told_24 : decode cX12_told 24 = .ok (.bipush 20, 2) := by decide +kernel
theorem dX12_told_26 : decode cX12_told 26 = .ok (.bipush 24, 2) := by decide +kernel
theorem dX12_told_28 : decode cX12_told 28 = .ok (.invokevirtual 245, 3) := by decide +kernel
theorem dX12_told_31 : decode cX12_told 31 = .ok (.ifCond .eq 13, 3) := by decide +kernel
theorem dX12_told_34 : decode cX12_told 34 = .ok (.aload_n 0, 1) := by decide +kernel
theorem dX12_told_35 : decode cX12_told 35 = .ok (.getfield 35, 3) := by decide +kernel
theorem dX12_told_38 : decode cX12_told 38 = .ok (.iload_n 1, 1) := by decide +kernel
theorem dX12_told_39 : decode cX12_told 39 = .ok (.bipush 20, 2) := by decide +kernel
theorem dX12_told_41 : decode cX12_told 41 = .ok (.isub, 1) := by decide +kernel
theorem dX12_told_42 : decode cX12_told 42 = .ok (.iaload, 1) := by decide +kernel
theorem dX12_told_43 : decode cX12_told 43 = .ok (.ireturn, 1) := by decide +kernel
theorem dX12_told_44 : decode cX12_told 44 = .ok (.iload_n 1, 1) := by decide +kernel
theorem dX12_told_45 : decode cX12_told 45 = .ok (.tableswitch 80 0 6 #[43, 48, 53, 58, 63, 68, 74], 43) := by decide +kernel
theorem dX12_told_88 : decode cX12_told 88 = .ok (.aload_n 0, 1) := by decide +kernel
theorem dX12_told_89 : decode cX12_told 89 = .ok (.getfield 16, 3) := by decide +kernel
theorem dX12_told_92 : decode cX12_told 92 = .ok (.ireturn, 1) := by decide +kernel
theorem dX12_told_93 : decode cX12_told 93 = .ok (.aload_n 0, 1) := by decide +kernel
theorem dX12_told_94 : decode cX12_told 94 = .ok (.invokevirtual 340, 3) := by decide +kernel
theorem dX12_told_97 : decode cX12_told 97 = .ok (.ireturn, 1) := by decide +kernel
theorem dX12_told_98 : decode cX12_told 98 = .ok (.aload_n 0, 1) := by decide +kernel
theorem dX12_told_99 : decode cX12_told 99 = .ok (.invokevirtual 346, 3) := by decide +kernel
theorem dX12_told_102 : decode cX12_told 102 = .ok (.ireturn, 1) := by decide +kernel
theorem dX12_told_103 : decode cX12_told 103 = .ok (.aload_n 0, 1) := by decide +kernel
theorem dX12_told_104 : decode cX12_told 104 = .ok (.invokevirtual 349, 3) := by decide +kernel
theorem dX12_told_107 : decode cX12_told 107 = .ok (.ireturn, 1) := by decide +kernel
theorem dX12_told_108 : decode cX12_told 108 = .ok (.aload_n 0, 1) := by decide +kernel
theorem dX12_told_109 : decode cX12_told 109 = .ok (.invokevirtual 390, 3) := by decide +kernel
theorem dX12_told_112 : decode cX12_told 112 = .ok (.ireturn, 1) := by decide +kernel
theorem dX12_told_113 : decode cX12_told 113 = .ok (.aload_n 0, 1) := by decide +kernel
theorem dX12_told_114 : decode cX12_told 114 = .ok (.iconst 1, 1) := by decide +kernel
theorem dX12_told_115 : decode cX12_told 115 = .ok (.invokevirtual 393, 3) := by decide +kernel
theorem dX12_told_118 : decode cX12_told 118 = .ok (.ireturn, 1) := by decide +kernel
theorem dX12_told_119 : decode cX12_told 119 = .ok (.aload_n 0, 1) := by decide +kernel
theorem dX12_told_120 : decode cX12_told 120 = .ok (.iconst 0, 1) := by decide +kernel
theorem dX12_told_121 : decode cX12_told 121 = .ok (.invokevirtual 393, 3) := by decide +kernel
theorem dX12_told_124 : decode cX12_told 124 = .ok (.ireturn, 1) := by decide +kernel
theorem dX12_told_125 : decode cX12_told 125 = .ok (.iconst (-1), 1) := by decide +kernel
theorem dX12_told_126 : decode cX12_told 126 = .ok (.ireturn, 1) := by decide +kernel
theorem dX12_leaderAt_0 : decode cX12_leaderAt 0 = .ok (.iconst 1, 1) := by decide +kernel
theorem dX12_leaderAt_1 : decode cX12_leaderAt 1 = .ok (.istore 4, 2) := by decide +kernel
theorem dX12_leaderAt_3 : decode cX12_leaderAt 3 = .ok (.iload_n 3, 1) := by decide +kernel
theorem dX12_leaderAt_4 : decode cX12_leaderAt 4 = .ok (.iconst 1, 1) := by decide +kernel
theorem dX12_leaderAt_5 : decode cX12_leaderAt 5 = .ok (.iadd, 1) := by decide +kernel
theorem dX12_leaderAt_6 : decode cX12_leaderAt 6 = .ok (.istore 5, 2) := by decide +kernel
theorem dX12_leaderAt_8 : decode cX12_leaderAt 8 = .ok (.iload 5, 2) := by decide +kernel
theorem dX12_leaderAt_10 : decode cX12_leaderAt 10 = .ok (.iload_n 2, 1) := by decide +kernel
theorem dX12_leaderAt_11 : decode cX12_leaderAt 11 = .ok (.if_icmp .ge 18, 3) := by decide +kernel
theorem dX12_leaderAt_14 : decode cX12_leaderAt 14 = .ok (.iload 4, 2) := by decide +kernel
theorem dX12_leaderAt_16 : decode cX12_leaderAt 16 = .ok (.aload_n 0, 1) := by decide +kernel
theorem dX12_leaderAt_17 : decode cX12_leaderAt 17 = .ok (.getfield 7, 3) := by decide +kernel
theorem dX12_leaderAt_20 : decode cX12_leaderAt 20 = .ok (.imul, 1) := by decide +kernel
theorem dX12_leaderAt_21 : decode cX12_leaderAt 21 = .ok (.istore 4, 2) := by decide +kernel
theorem dX12_leaderAt_23 : decode cX12_leaderAt 23 = .ok (.iinc 5 1, 3) := by decide +kernel
theorem dX12_leaderAt_26 : decode cX12_leaderAt 26 = .ok (.goto (-18), 3) := by decide +kernel
theorem dX12_leaderAt_29 : decode cX12_leaderAt 29 = .ok (.iload_n 1, 1) := by decide +kernel
theorem dX12_leaderAt_30 : decode cX12_leaderAt 30 = .ok (.iload 4, 2) := by decide +kernel
theorem dX12_leaderAt_32 : decode cX12_leaderAt 32 = .ok (.idiv, 1) := by decide +kernel
theorem dX12_leaderAt_33 : decode cX12_leaderAt 33 = .ok (.aload_n 0, 1) := by decide +kernel
theorem dX12_leaderAt_34 : decode cX12_leaderAt 34 = .ok (.getfield 7, 3) := by decide +kernel
theorem dX12_leaderAt_37 : decode cX12_leaderAt 37 = .ok (.irem, 1) := by decide +kernel
theorem dX12_leaderAt_38 : decode cX12_leaderAt 38 = .ok (.ireturn, 1) := by decide +kernel
theorem dX12_bearsBy_0 : decode cX12_bearsBy 0 = .ok (.aload_n 0, 1) := by decide +kernel
theorem dX12_bearsBy_1 : decode cX12_bearsBy 1 = .ok (.invokevirtual 368, 3) := by decide +kernel
theorem dX12_bearsBy_4 : decode cX12_bearsBy 4 = .ok (.iconst 0, 1) := by decide +kernel
theorem dX12_bearsBy_5 : decode cX12_bearsBy 5 = .ok (.istore 4, 2) := by decide +kernel
theorem dX12_bearsBy_7 : decode cX12_bearsBy 7 = .ok (.iconst 0, 1) := by decide +kernel
theorem dX12_bearsBy_8 : decode cX12_bearsBy 8 = .ok (.istore 5, 2) := by decide +kernel
theorem dX12_bearsBy_10 : decode cX12_bearsBy 10 = .ok (.iload 5, 2) := by decide +kernel
theorem dX12_bearsBy_12 : decode cX12_bearsBy 12 = .ok (.iload_n 3, 1) := by decide +kernel
theorem dX12_bearsBy_13 : decode cX12_bearsBy 13 = .ok (.if_icmp .ge 49, 3) := by decide +kernel
theorem dX12_bearsBy_16 : decode cX12_bearsBy 16 = .ok (.aload_n 0, 1) := by decide +kernel
theorem dX12_bearsBy_17 : decode cX12_bearsBy 17 = .ok (.iload_n 2, 1) := by decide +kernel
theorem dX12_bearsBy_18 : decode cX12_bearsBy 18 = .ok (.iload_n 3, 1) := by decide +kernel
theorem dX12_bearsBy_19 : decode cX12_bearsBy 19 = .ok (.iload 5, 2) := by decide +kernel
theorem dX12_bearsBy_21 : decode cX12_bearsBy 21 = .ok (.invokevirtual 397, 3) := by decide +kernel
theorem dX12_bearsBy_24 : decode cX12_bearsBy 24 = .ok (.istore 6, 2) := by decide +kernel
theorem dX12_bearsBy_26 : decode cX12_bearsBy 26 = .ok (.aload_n 0, 1) := by decide +kernel
theorem dX12_bearsBy_27 : decode cX12_bearsBy 27 = .ok (.iload 6, 2) := by decide +kernel
theorem dX12_bearsBy_29 : decode cX12_bearsBy 29 = .ok (.iload_n 1, 1) := by decide +kernel
theorem dX12_bearsBy_30 : decode cX12_bearsBy 30 = .ok (.invokevirtual 343, 3) := by decide +kernel
theorem dX12_bearsBy_33 : decode cX12_bearsBy 33 = .ok (.ifCond .eq 13, 3) := by decide +kernel
theorem dX12_bearsBy_36 : decode cX12_bearsBy 36 = .ok (.aload_n 0, 1) := by decide +kernel
theorem dX12_bearsBy_37 : decode cX12_bearsBy 37 = .ok (.iload 6, 2) := by decide +kernel
theorem dX12_bearsBy_39 : decode cX12_bearsBy 39 = .ok (.iload_n 1, 1) := by decide +kernel
theorem dX12_bearsBy_40 : decode cX12_bearsBy 40 = .ok (.invokevirtual 355, 3) := by decide +kernel
theorem dX12_bearsBy_43 : decode cX12_bearsBy 43 = .ok (.iinc 4 1, 3) := by decide +kernel
theorem dX12_bearsBy_46 : decode cX12_bearsBy 46 = .ok (.aload_n 0, 1) := by decide +kernel
theorem dX12_bearsBy_47 : decode cX12_bearsBy 47 = .ok (.dup, 1) := by decide +kernel
theorem dX12_bearsBy_48 : decode cX12_bearsBy 48 = .ok (.getfield 16, 3) := by decide +kernel
theorem dX12_bearsBy_51 : decode cX12_bearsBy 51 = .ok (.iconst 1, 1) := by decide +kernel
theorem dX12_bearsBy_52 : decode cX12_bearsBy 52 = .ok (.iadd, 1) := by decide +kernel
theorem dX12_bearsBy_53 : decode cX12_bearsBy 53 = .ok (.putfield 16, 3) := by decide +kernel
theorem dX12_bearsBy_56 : decode cX12_bearsBy 56 = .ok (.iinc 5 1, 3) := by decide +kernel
theorem dX12_bearsBy_59 : decode cX12_bearsBy 59 = .ok (.goto (-49), 3) := by decide +kernel
theorem dX12_bearsBy_62 : decode cX12_bearsBy 62 = .ok (.aload_n 0, 1) := by decide +kernel
theorem dX12_bearsBy_63 : decode cX12_bearsBy 63 = .ok (.invokevirtual 371, 3) := by decide +kernel
theorem dX12_bearsBy_66 : decode cX12_bearsBy 66 = .ok (.iload 4, 2) := by decide +kernel
theorem dX12_bearsBy_68 : decode cX12_bearsBy 68 = .ok (.ireturn, 1) := by decide +kernel
theorem dX12_turn_0 : decode cX12_turn 0 = .ok (.aload_n 0, 1) := by decide +kernel
theorem dX12_turn_1 : decode cX12_turn 1 = .ok (.iload_n 1, 1) := by decide +kernel
theorem dX12_turn_2 : decode cX12_turn 2 = .ok (.invokevirtual 256, 3) := by decide +kernel
theorem dX12_turn_5 : decode cX12_turn 5 = .ok (.ifCond .eq 13, 3) := by decide +kernel
theorem dX12_turn_8 : decode cX12_turn 8 = .ok (.aload_n 0, 1) := by decide +kernel
theorem dX12_turn_9 : decode cX12_turn 9 = .ok (.iload_n 3, 1) := by decide +kernel
theorem dX12_turn_10 : decode cX12_turn 10 = .ok (.iconst (-1), 1) := by decide +kernel
theorem dX12_turn_11 : decode cX12_turn 11 = .ok (.iconst 2, 1) := by decide +kernel
theorem dX12_turn_12 : decode cX12_turn 12 = .ok (.invokevirtual 245, 3) := by decide +kernel
theorem dX12_turn_15 : decode cX12_turn 15 = .ok (.ifCond .ne 5, 3) := by decide +kernel
theorem dX12_turn_18 : decode cX12_turn 18 = .ok (.iconst (-1), 1) := by decide +kernel
theorem dX12_turn_19 : decode cX12_turn 19 = .ok (.ireturn, 1) := by decide +kernel
theorem dX12_turn_20 : decode cX12_turn 20 = .ok (.aload_n 0, 1) := by decide +kernel
theorem dX12_turn_21 : decode cX12_turn 21 = .ok (.iload_n 2, 1) := by decide +kernel
theorem dX12_turn_22 : decode cX12_turn 22 = .ok (.iconst 1, 1) := by decide +kernel
theorem dX12_turn_23 : decode cX12_turn 23 = .ok (.iconst 3, 1) := by decide +kernel
theorem dX12_turn_24 : decode cX12_turn 24 = .ok (.invokevirtual 245, 3) := by decide +kernel
theorem dX12_turn_27 : decode cX12_turn 27 = .ok (.ifCond .ne 6, 3) := by decide +kernel
theorem dX12_turn_30 : decode cX12_turn 30 = .ok (.bipush (-2), 2) := by decide +kernel
theorem dX12_turn_32 : decode cX12_turn 32 = .ok (.ireturn, 1) := by decide +kernel
theorem dX12_turn_33 : decode cX12_turn 33 = .ok (.aload_n 0, 1) := by decide +kernel
theorem dX12_turn_34 : decode cX12_turn 34 = .ok (.getfield 7, 3) := by decide +kernel
theorem dX12_turn_37 : decode cX12_turn 37 = .ok (.ifCond .ne 6, 3) := by decide +kernel
theorem dX12_turn_40 : decode cX12_turn 40 = .ok (.bipush (-5), 2) := by decide +kernel
theorem dX12_turn_42 : decode cX12_turn 42 = .ok (.ireturn, 1) := by decide +kernel
theorem dX12_turn_43 : decode cX12_turn 43 = .ok (.iconst 1, 1) := by decide +kernel
theorem dX12_turn_44 : decode cX12_turn 44 = .ok (.istore 4, 2) := by decide +kernel
theorem dX12_turn_46 : decode cX12_turn 46 = .ok (.iconst 0, 1) := by decide +kernel
theorem dX12_turn_47 : decode cX12_turn 47 = .ok (.istore 5, 2) := by decide +kernel
theorem dX12_turn_49 : decode cX12_turn 49 = .ok (.iload 5, 2) := by decide +kernel
theorem dX12_turn_51 : decode cX12_turn 51 = .ok (.iload_n 2, 1) := by decide +kernel
theorem dX12_turn_52 : decode cX12_turn 52 = .ok (.if_icmp .ge 18, 3) := by decide +kernel
theorem dX12_turn_55 : decode cX12_turn 55 = .ok (.iload 4, 2) := by decide +kernel
theorem dX12_turn_57 : decode cX12_turn 57 = .ok (.aload_n 0, 1) := by decide +kernel
theorem dX12_turn_58 : decode cX12_turn 58 = .ok (.getfield 7, 3) := by decide +kernel
theorem dX12_turn_61 : decode cX12_turn 61 = .ok (.imul, 1) := by decide +kernel
theorem dX12_turn_62 : decode cX12_turn 62 = .ok (.istore 4, 2) := by decide +kernel
theorem dX12_turn_64 : decode cX12_turn 64 = .ok (.iinc 5 1, 3) := by decide +kernel
theorem dX12_turn_67 : decode cX12_turn 67 = .ok (.goto (-18), 3) := by decide +kernel
theorem dX12_turn_70 : decode cX12_turn 70 = .ok (.iconst 0, 1) := by decide +kernel
theorem dX12_turn_71 : decode cX12_turn 71 = .ok (.istore 5, 2) := by decide +kernel
theorem dX12_turn_73 : decode cX12_turn 73 = .ok (.iconst (-1), 1) := by decide +kernel
theorem dX12_turn_74 : decode cX12_turn 74 = .ok (.istore 6, 2) := by decide +kernel
theorem dX12_turn_76 : decode cX12_turn 76 = .ok (.iconst 0, 1) := by decide +kernel
theorem dX12_turn_77 : decode cX12_turn 77 = .ok (.istore 7, 2) := by decide +kernel
theorem dX12_turn_79 : decode cX12_turn 79 = .ok (.iload 7, 2) := by decide +kernel
theorem dX12_turn_81 : decode cX12_turn 81 = .ok (.iload 4, 2) := by decide +kernel
theorem dX12_turn_83 : decode cX12_turn 83 = .ok (.if_icmp .ge 37, 3) := by decide +kernel
theorem dX12_turn_86 : decode cX12_turn 86 = .ok (.aload_n 0, 1) := by decide +kernel
theorem dX12_turn_87 : decode cX12_turn 87 = .ok (.iload_n 1, 1) := by decide +kernel
theorem dX12_turn_88 : decode cX12_turn 88 = .ok (.iload 7, 2) := by decide +kernel
theorem dX12_turn_90 : decode cX12_turn 90 = .ok (.iload_n 2, 1) := by decide +kernel
theorem dX12_turn_91 : decode cX12_turn 91 = .ok (.invokevirtual 400, 3) := by decide +kernel
theorem dX12_turn_94 : decode cX12_turn 94 = .ok (.istore 8, 2) := by decide +kernel
theorem dX12_turn_96 : decode cX12_turn 96 = .ok (.iload 8, 2) := by decide +kernel
theorem dX12_turn_98 : decode cX12_turn 98 = .ok (.iload 6, 2) := by decide +kernel
theorem dX12_turn_100 : decode cX12_turn 100 = .ok (.if_icmp .gt 6, 3) := by decide +kernel
theorem dX12_turn_103 : decode cX12_turn 103 = .ok (.goto 11, 3) := by decide +kernel
theorem dX12_turn_106 : decode cX12_turn 106 = .ok (.iload 7, 2) := by decide +kernel
theorem dX12_turn_108 : decode cX12_turn 108 = .ok (.istore 5, 2) := by decide +kernel
theorem dX12_turn_110 : decode cX12_turn 110 = .ok (.iload 8, 2) := by decide +kernel
theorem dX12_turn_112 : decode cX12_turn 112 = .ok (.istore 6, 2) := by decide +kernel
theorem dX12_turn_114 : decode cX12_turn 114 = .ok (.iinc 7 1, 3) := by decide +kernel
theorem dX12_turn_117 : decode cX12_turn 117 = .ok (.goto (-38), 3) := by decide +kernel
theorem dX12_turn_120 : decode cX12_turn 120 = .ok (.iload_n 3, 1) := by decide +kernel
theorem dX12_turn_121 : decode cX12_turn 121 = .ok (.ifCond .ge 6, 3) := by decide +kernel
theorem dX12_turn_124 : decode cX12_turn 124 = .ok (.iload 6, 2) := by decide +kernel
theorem dX12_turn_126 : decode cX12_turn 126 = .ok (.ireturn, 1) := by decide +kernel
theorem dX12_turn_127 : decode cX12_turn 127 = .ok (.iload_n 3, 1) := by decide +kernel
theorem dX12_turn_128 : decode cX12_turn 128 = .ok (.iload_n 2, 1) := by decide +kernel
theorem dX12_turn_129 : decode cX12_turn 129 = .ok (.if_icmp .ge 14, 3) := by decide +kernel
theorem dX12_turn_132 : decode cX12_turn 132 = .ok (.aload_n 0, 1) := by decide +kernel
theorem dX12_turn_133 : decode cX12_turn 133 = .ok (.iload 5, 2) := by decide +kernel
theorem dX12_turn_135 : decode cX12_turn 135 = .ok (.iload_n 2, 1) := by decide +kernel
theorem dX12_turn_136 : decode cX12_turn 136 = .ok (.iload_n 3, 1) := by decide +kernel
theorem dX12_turn_137 : decode cX12_turn 137 = .ok (.invokevirtual 397, 3) := by decide +kernel
theorem dX12_turn_140 : decode cX12_turn 140 = .ok (.goto 5, 3) := by decide +kernel
theorem dX12_turn_143 : decode cX12_turn 143 = .ok (.bipush (-5), 2) := by decide +kernel
theorem dX12_turn_145 : decode cX12_turn 145 = .ok (.ireturn, 1) := by decide +kernel
theorem dX12_see_0 : decode cX12_see 0 = .ok (.iload_n 1, 1) := by decide +kernel
theorem dX12_see_1 : decode cX12_see 1 = .ok (.iconst (-1), 1) := by decide +kernel
theorem dX12_see_2 : decode cX12_see 2 = .ok (.if_icmp .ne 10, 3) := by decide +kernel
theorem dX12_see_5 : decode cX12_see 5 = .ok (.aload_n 0, 1) := by decide +kernel
theorem dX12_see_6 : decode cX12_see 6 = .ok (.iconst 0, 1) := by decide +kernel
theorem dX12_see_7 : decode cX12_see 7 = .ok (.putfield 126, 3) := by decide +kernel
theorem dX12_see_10 : decode cX12_see 10 = .ok (.iconst 0, 1) := by decide +kernel
theorem dX12_see_11 : decode cX12_see 11 = .ok (.ireturn, 1) := by decide +kernel
theorem dX12_see_12 : decode cX12_see 12 = .ok (.aload_n 0, 1) := by decide +kernel
theorem dX12_see_13 : decode cX12_see 13 = .ok (.iload_n 1, 1) := by decide +kernel
theorem dX12_see_14 : decode cX12_see 14 = .ok (.invokevirtual 253, 3) := by decide +kernel
theorem dX12_see_17 : decode cX12_see 17 = .ok (.ifCond .eq 11, 3) := by decide +kernel
theorem dX12_see_20 : decode cX12_see 20 = .ok (.aload_n 0, 1) := by decide +kernel
theorem dX12_see_21 : decode cX12_see 21 = .ok (.iload_n 2, 1) := by decide +kernel
theorem dX12_see_22 : decode cX12_see 22 = .ok (.invokevirtual 256, 3) := by decide +kernel
theorem dX12_see_25 : decode cX12_see 25 = .ok (.ifCond .ne 5, 3) := by decide +kernel
theorem dX12_see_28 : decode cX12_see 28 = .ok (.iconst (-1), 1) := by decide +kernel
theorem dX12_see_29 : decode cX12_see 29 = .ok (.ireturn, 1) := by decide +kernel
theorem dX12_see_30 : decode cX12_see 30 = .ok (.aload_n 0, 1) := by decide +kernel
theorem dX12_see_31 : decode cX12_see 31 = .ok (.iload_n 3, 1) := by decide +kernel
theorem dX12_see_32 : decode cX12_see 32 = .ok (.iconst 0, 1) := by decide +kernel
theorem dX12_see_33 : decode cX12_see 33 = .ok (.bipush 20, 2) := by decide +kernel
theorem dX12_see_35 : decode cX12_see 35 = .ok (.invokevirtual 245, 3) := by decide +kernel
theorem dX12_see_38 : decode cX12_see 38 = .ok (.ifCond .ne 6, 3) := by decide +kernel
theorem dX12_see_41 : decode cX12_see 41 = .ok (.bipush (-2), 2) := by decide +kernel
theorem dX12_see_43 : decode cX12_see 43 = .ok (.ireturn, 1) := by decide +kernel
theorem dX12_see_44 : decode cX12_see 44 = .ok (.aload_n 0, 1) := by decide +kernel
theorem dX12_see_45 : decode cX12_see 45 = .ok (.getfield 126, 3) := by decide +kernel
theorem dX12_see_48 : decode cX12_see 48 = .ok (.iconst 5, 1) := by decide +kernel
theorem dX12_see_49 : decode cX12_see 49 = .ok (.if_icmp .ne 6, 3) := by decide +kernel
theorem dX12_see_52 : decode cX12_see 52 = .ok (.bipush (-4), 2) := by decide +kernel
theorem dX12_see_54 : decode cX12_see 54 = .ok (.ireturn, 1) := by decide +kernel
theorem dX12_see_55 : decode cX12_see 55 = .ok (.aload_n 0, 1) := by decide +kernel
theorem dX12_see_56 : decode cX12_see 56 = .ok (.getfield 129, 3) := by decide +kernel
theorem dX12_see_59 : decode cX12_see 59 = .ok (.aload_n 0, 1) := by decide +kernel
theorem dX12_see_60 : decode cX12_see 60 = .ok (.getfield 126, 3) := by decide +kernel
theorem dX12_see_63 : decode cX12_see 63 = .ok (.iload_n 1, 1) := by decide +kernel
theorem dX12_see_64 : decode cX12_see 64 = .ok (.iastore, 1) := by decide +kernel
theorem dX12_see_65 : decode cX12_see 65 = .ok (.aload_n 0, 1) := by decide +kernel
theorem dX12_see_66 : decode cX12_see 66 = .ok (.getfield 132, 3) := by decide +kernel
theorem dX12_see_69 : decode cX12_see 69 = .ok (.aload_n 0, 1) := by decide +kernel
theorem dX12_see_70 : decode cX12_see 70 = .ok (.getfield 126, 3) := by decide +kernel
theorem dX12_see_73 : decode cX12_see 73 = .ok (.iload_n 2, 1) := by decide +kernel
theorem dX12_see_74 : decode cX12_see 74 = .ok (.iastore, 1) := by decide +kernel
theorem dX12_see_75 : decode cX12_see 75 = .ok (.aload_n 0, 1) := by decide +kernel
theorem dX12_see_76 : decode cX12_see 76 = .ok (.getfield 135, 3) := by decide +kernel
theorem dX12_see_79 : decode cX12_see 79 = .ok (.aload_n 0, 1) := by decide +kernel
theorem dX12_see_80 : decode cX12_see 80 = .ok (.getfield 126, 3) := by decide +kernel
theorem dX12_see_83 : decode cX12_see 83 = .ok (.iload_n 3, 1) := by decide +kernel
theorem dX12_see_84 : decode cX12_see 84 = .ok (.iastore, 1) := by decide +kernel
theorem dX12_see_85 : decode cX12_see 85 = .ok (.aload_n 0, 1) := by decide +kernel
theorem dX12_see_86 : decode cX12_see 86 = .ok (.getfield 138, 3) := by decide +kernel
theorem dX12_see_89 : decode cX12_see 89 = .ok (.aload_n 0, 1) := by decide +kernel
theorem dX12_see_90 : decode cX12_see 90 = .ok (.getfield 126, 3) := by decide +kernel
theorem dX12_see_93 : decode cX12_see 93 = .ok (.iload 4, 2) := by decide +kernel
theorem dX12_see_95 : decode cX12_see 95 = .ok (.bastore, 1) := by decide +kernel
theorem dX12_see_96 : decode cX12_see 96 = .ok (.aload_n 0, 1) := by decide +kernel
theorem dX12_see_97 : decode cX12_see 97 = .ok (.dup, 1) := by decide +kernel
theorem dX12_see_98 : decode cX12_see 98 = .ok (.getfield 126, 3) := by decide +kernel
theorem dX12_see_101 : decode cX12_see 101 = .ok (.iconst 1, 1) := by decide +kernel
theorem dX12_see_102 : decode cX12_see 102 = .ok (.iadd, 1) := by decide +kernel
theorem dX12_see_103 : decode cX12_see 103 = .ok (.putfield 126, 3) := by decide +kernel
theorem dX12_see_106 : decode cX12_see 106 = .ok (.aload_n 0, 1) := by decide +kernel
theorem dX12_see_107 : decode cX12_see 107 = .ok (.getfield 126, 3) := by decide +kernel
theorem dX12_see_110 : decode cX12_see 110 = .ok (.ireturn, 1) := by decide +kernel
theorem dX12_isSeen_0 : decode cX12_isSeen 0 = .ok (.aload_n 0, 1) := by decide +kernel
theorem dX12_isSeen_1 : decode cX12_isSeen 1 = .ok (.getfield 16, 3) := by decide +kernel
theorem dX12_isSeen_4 : decode cX12_isSeen 4 = .ok (.istore_n 3, 1) := by decide +kernel
theorem dX12_isSeen_5 : decode cX12_isSeen 5 = .ok (.iconst 1, 1) := by decide +kernel
theorem dX12_isSeen_6 : decode cX12_isSeen 6 = .ok (.istore 4, 2) := by decide +kernel
theorem dX12_isSeen_8 : decode cX12_isSeen 8 = .ok (.iconst 0, 1) := by decide +kernel
theorem dX12_isSeen_9 : decode cX12_isSeen 9 = .ok (.istore 5, 2) := by decide +kernel
theorem dX12_isSeen_11 : decode cX12_isSeen 11 = .ok (.iload 5, 2) := by decide +kernel
theorem dX12_isSeen_13 : decode cX12_isSeen 13 = .ok (.aload_n 0, 1) := by decide +kernel
theorem dX12_isSeen_14 : decode cX12_isSeen 14 = .ok (.getfield 126, 3) := by decide +kernel
theorem dX12_isSeen_17 : decode cX12_isSeen 17 = .ok (.if_icmp .ge 85, 3) := by decide +kernel
theorem dX12_isSeen_20 : decode cX12_isSeen 20 = .ok (.aload_n 0, 1) := by decide +kernel
theorem dX12_isSeen_21 : decode cX12_isSeen 21 = .ok (.getfield 129, 3) := by decide +kernel
theorem dX12_isSeen_24 : decode cX12_isSeen 24 = .ok (.iload 5, 2) := by decide +kernel
theorem dX12_isSeen_26 : decode cX12_isSeen 26 = .ok (.iaload, 1) := by decide +kernel
theorem dX12_isSeen_27 : decode cX12_isSeen 27 = .ok (.iload_n 1, 1) := by decide +kernel
theorem dX12_isSeen_28 : decode cX12_isSeen 28 = .ok (.if_icmp .ne 68, 3) := by decide +kernel
theorem dX12_isSeen_31 : decode cX12_isSeen 31 = .ok (.iload_n 2, 1) := by decide +kernel
theorem dX12_isSeen_32 : decode cX12_isSeen 32 = .ok (.ifCond .lt 17, 3) := by decide +kernel
theorem dX12_isSeen_35 : decode cX12_isSeen 35 = .ok (.aload_n 0, 1) := by decide +kernel
theorem dX12_isSeen_36 : decode cX12_isSeen 36 = .ok (.getfield 132, 3) := by decide +kernel
theorem dX12_isSeen_39 : decode cX12_isSeen 39 = .ok (.iload 5, 2) := by decide +kernel
theorem dX12_isSeen_41 : decode cX12_isSeen 41 = .ok (.iaload, 1) := by decide +kernel
theorem dX12_isSeen_42 : decode cX12_isSeen 42 = .ok (.iload_n 2, 1) := by decide +kernel
theorem dX12_isSeen_43 : decode cX12_isSeen 43 = .ok (.if_icmp .eq 6, 3) := by decide +kernel
theorem dX12_isSeen_46 : decode cX12_isSeen 46 = .ok (.goto 50, 3) := by decide +kernel
theorem dX12_isSeen_49 : decode cX12_isSeen 49 = .ok (.aload_n 0, 1) := by decide +kernel
theorem dX12_isSeen_50 : decode cX12_isSeen 50 = .ok (.iload_n 3, 1) := by decide +kernel
theorem dX12_isSeen_51 : decode cX12_isSeen 51 = .ok (.aload_n 0, 1) := by decide +kernel
theorem dX12_isSeen_52 : decode cX12_isSeen 52 = .ok (.getfield 135, 3) := by decide +kernel
theorem dX12_isSeen_55 : decode cX12_isSeen 55 = .ok (.iload 5, 2) := by decide +kernel
theorem dX12_isSeen_57 : decode cX12_isSeen 57 = .ok (.iaload, 1) := by decide +kernel
theorem dX12_isSeen_58 : decode cX12_isSeen 58 = .ok (.iadd, 1) := by decide +kernel
theorem dX12_isSeen_59 : decode cX12_isSeen 59 = .ok (.putfield 16, 3) := by decide +kernel
theorem dX12_isSeen_62 : decode cX12_isSeen 62 = .ok (.iload 4, 2) := by decide +kernel
theorem dX12_isSeen_64 : decode cX12_isSeen 64 = .ok (.ifCond .eq 29, 3) := by decide +kernel
theorem dX12_isSeen_67 : decode cX12_isSeen 67 = .ok (.aload_n 0, 1) := by decide +kernel
theorem dX12_isSeen_68 : decode cX12_isSeen 68 = .ok (.iload_n 1, 1) := by decide +kernel
theorem dX12_isSeen_69 : decode cX12_isSeen 69 = .ok (.aload_n 0, 1) := by decide +kernel
theorem dX12_isSeen_70 : decode cX12_isSeen 70 = .ok (.getfield 132, 3) := by decide +kernel
theorem dX12_isSeen_73 : decode cX12_isSeen 73 = .ok (.iload 5, 2) := by decide +kernel
theorem dX12_isSeen_75 : decode cX12_isSeen 75 = .ok (.iaload, 1) := by decide +kernel
theorem dX12_isSeen_76 : decode cX12_isSeen 76 = .ok (.invokevirtual 343, 3) := by decide +kernel
theorem dX12_isSeen_79 : decode cX12_isSeen 79 = .ok (.aload_n 0, 1) := by decide +kernel
theorem dX12_isSeen_80 : decode cX12_isSeen 80 = .ok (.getfield 138, 3) := by decide +kernel
theorem dX12_isSeen_83 : decode cX12_isSeen 83 = .ok (.iload 5, 2) := by decide +kernel
theorem dX12_isSeen_85 : decode cX12_isSeen 85 = .ok (.baload, 1) := by decide +kernel
theorem dX12_isSeen_86 : decode cX12_isSeen 86 = .ok (.if_icmp .ne 7, 3) := by decide +kernel
theorem dX12_isSeen_89 : decode cX12_isSeen 89 = .ok (.iconst 1, 1) := by decide +kernel
theorem dX12_isSeen_90 : decode cX12_isSeen 90 = .ok (.goto 4, 3) := by decide +kernel
theorem dX12_isSeen_93 : decode cX12_isSeen 93 = .ok (.iconst 0, 1) := by decide +kernel
theorem dX12_isSeen_94 : decode cX12_isSeen 94 = .ok (.istore 4, 2) := by decide +kernel
theorem dX12_isSeen_96 : decode cX12_isSeen 96 = .ok (.iinc 5 1, 3) := by decide +kernel
theorem dX12_isSeen_99 : decode cX12_isSeen 99 = .ok (.goto (-88), 3) := by decide +kernel
theorem dX12_isSeen_102 : decode cX12_isSeen 102 = .ok (.aload_n 0, 1) := by decide +kernel
theorem dX12_isSeen_103 : decode cX12_isSeen 103 = .ok (.iload_n 3, 1) := by decide +kernel
theorem dX12_isSeen_104 : decode cX12_isSeen 104 = .ok (.putfield 16, 3) := by decide +kernel
theorem dX12_isSeen_107 : decode cX12_isSeen 107 = .ok (.iload 4, 2) := by decide +kernel
theorem dX12_isSeen_109 : decode cX12_isSeen 109 = .ok (.ireturn, 1) := by decide +kernel
theorem dX12_hates_0 : decode cX12_hates 0 = .ok (.aload_n 0, 1) := by decide +kernel
theorem dX12_hates_1 : decode cX12_hates 1 = .ok (.iload_n 1, 1) := by decide +kernel
theorem dX12_hates_2 : decode cX12_hates 2 = .ok (.invokevirtual 253, 3) := by decide +kernel
theorem dX12_hates_5 : decode cX12_hates 5 = .ok (.ifCond .eq 21, 3) := by decide +kernel
theorem dX12_hates_8 : decode cX12_hates 8 = .ok (.aload_n 0, 1) := by decide +kernel
theorem dX12_hates_9 : decode cX12_hates 9 = .ok (.iload_n 2, 1) := by decide +kernel
theorem dX12_hates_10 : decode cX12_hates 10 = .ok (.invokevirtual 256, 3) := by decide +kernel
theorem dX12_hates_13 : decode cX12_hates 13 = .ok (.ifCond .eq 13, 3) := by decide +kernel
theorem dX12_hates_16 : decode cX12_hates 16 = .ok (.aload_n 0, 1) := by decide +kernel
theorem dX12_hates_17 : decode cX12_hates 17 = .ok (.iload_n 3, 1) := by decide +kernel
theorem dX12_hates_18 : decode cX12_hates 18 = .ok (.iconst 0, 1) := by decide +kernel
theorem dX12_hates_19 : decode cX12_hates 19 = .ok (.iconst 1, 1) := by decide +kernel
theorem dX12_hates_20 : decode cX12_hates 20 = .ok (.invokevirtual 245, 3) := by decide +kernel
theorem dX12_hates_23 : decode cX12_hates 23 = .ok (.ifCond .ne 5, 3) := by decide +kernel
theorem dX12_hates_26 : decode cX12_hates 26 = .ok (.iconst (-1), 1) := by decide +kernel
theorem dX12_hates_27 : decode cX12_hates 27 = .ok (.ireturn, 1) := by decide +kernel
theorem dX12_hates_28 : decode cX12_hates 28 = .ok (.aload_n 0, 1) := by decide +kernel
theorem dX12_hates_29 : decode cX12_hates 29 = .ok (.getfield 26, 3) := by decide +kernel
theorem dX12_hates_32 : decode cX12_hates 32 = .ok (.iconst 5, 1) := by decide +kernel
theorem dX12_hates_33 : decode cX12_hates 33 = .ok (.iload_n 1, 1) := by decide +kernel
theorem dX12_hates_34 : decode cX12_hates 34 = .ok (.imul, 1) := by decide +kernel
theorem dX12_hates_35 : decode cX12_hates 35 = .ok (.iload_n 2, 1) := by decide +kernel
theorem dX12_hates_36 : decode cX12_hates 36 = .ok (.iadd, 1) := by decide +kernel
theorem dX12_hates_37 : decode cX12_hates 37 = .ok (.iaload, 1) := by decide +kernel
theorem dX12_hates_38 : decode cX12_hates 38 = .ok (.istore 4, 2) := by decide +kernel
theorem dX12_hates_40 : decode cX12_hates 40 = .ok (.iconst 0, 1) := by decide +kernel
theorem dX12_hates_41 : decode cX12_hates 41 = .ok (.istore 5, 2) := by decide +kernel
theorem dX12_hates_43 : decode cX12_hates 43 = .ok (.bipush (-5), 2) := by decide +kernel
theorem dX12_hates_45 : decode cX12_hates 45 = .ok (.istore 6, 2) := by decide +kernel
theorem dX12_hates_47 : decode cX12_hates 47 = .ok (.bipush 99, 2) := by decide +kernel
theorem dX12_hates_49 : decode cX12_hates 49 = .ok (.istore 7, 2) := by decide +kernel
theorem dX12_hates_51 : decode cX12_hates 51 = .ok (.iload 7, 2) := by decide +kernel
theorem dX12_hates_53 : decode cX12_hates 53 = .ok (.ifCond .lt 40, 3) := by decide +kernel
theorem dX12_hates_56 : decode cX12_hates 56 = .ok (.aload_n 0, 1) := by decide +kernel
theorem dX12_hates_57 : decode cX12_hates 57 = .ok (.getfield 26, 3) := by decide +kernel
theorem dX12_hates_60 : decode cX12_hates 60 = .ok (.iconst 5, 1) := by decide +kernel
theorem dX12_hates_61 : decode cX12_hates 61 = .ok (.iload_n 1, 1) := by decide +kernel
theorem dX12_hates_62 : decode cX12_hates 62 = .ok (.imul, 1) := by decide +kernel
theorem dX12_hates_63 : decode cX12_hates 63 = .ok (.iload_n 2, 1) := by decide +kernel
theorem dX12_hates_64 : decode cX12_hates 64 = .ok (.iadd, 1) := by decide +kernel
theorem dX12_hates_65 : decode cX12_hates 65 = .ok (.iload 7, 2) := by decide +kernel
theorem dX12_hates_67 : decode cX12_hates 67 = .ok (.iastore, 1) := by decide +kernel
theorem dX12_hates_68 : decode cX12_hates 68 = .ok (.aload_n 0, 1) := by decide +kernel
theorem dX12_hates_69 : decode cX12_hates 69 = .ok (.iload_n 1, 1) := by decide +kernel
theorem dX12_hates_70 : decode cX12_hates 70 = .ok (.iload_n 2, 1) := by decide +kernel
theorem dX12_hates_71 : decode cX12_hates 71 = .ok (.invokevirtual 403, 3) := by decide +kernel
theorem dX12_hates_74 : decode cX12_hates 74 = .ok (.ifCond .ne 6, 3) := by decide +kernel
theorem dX12_hates_77 : decode cX12_hates 77 = .ok (.goto 10, 3) := by decide +kernel
theorem dX12_hates_80 : decode cX12_hates 80 = .ok (.iinc 5 1, 3) := by decide +kernel
theorem dX12_hates_83 : decode cX12_hates 83 = .ok (.iload 7, 2) := by decide +kernel
theorem dX12_hates_85 : decode cX12_hates 85 = .ok (.istore 6, 2) := by decide +kernel
theorem dX12_hates_87 : decode cX12_hates 87 = .ok (.iinc 7 (-1), 3) := by decide +kernel
theorem dX12_hates_90 : decode cX12_hates 90 = .ok (.goto (-39), 3) := by decide +kernel
theorem dX12_hates_93 : decode cX12_hates 93 = .ok (.aload_n 0, 1) := by decide +kernel
theorem dX12_hates_94 : decode cX12_hates 94 = .ok (.getfield 26, 3) := by decide +kernel
theorem dX12_hates_97 : decode cX12_hates 97 = .ok (.iconst 5, 1) := by decide +kernel
theorem dX12_hates_98 : decode cX12_hates 98 = .ok (.iload_n 1, 1) := by decide +kernel
theorem dX12_hates_99 : decode cX12_hates 99 = .ok (.imul, 1) := by decide +kernel
theorem dX12_hates_100 : decode cX12_hates 100 = .ok (.iload_n 2, 1) := by decide +kernel
theorem dX12_hates_101 : decode cX12_hates 101 = .ok (.iadd, 1) := by decide +kernel
theorem dX12_hates_102 : decode cX12_hates 102 = .ok (.iload 4, 2) := by decide +kernel
theorem dX12_hates_104 : decode cX12_hates 104 = .ok (.iastore, 1) := by decide +kernel
theorem dX12_hates_105 : decode cX12_hates 105 = .ok (.iload_n 3, 1) := by decide +kernel
theorem dX12_hates_106 : decode cX12_hates 106 = .ok (.ifCond .ne 8, 3) := by decide +kernel
theorem dX12_hates_109 : decode cX12_hates 109 = .ok (.iload 5, 2) := by decide +kernel
theorem dX12_hates_111 : decode cX12_hates 111 = .ok (.goto 5, 3) := by decide +kernel
theorem dX12_hates_114 : decode cX12_hates 114 = .ok (.iload 6, 2) := by decide +kernel
theorem dX12_hates_116 : decode cX12_hates 116 = .ok (.ireturn, 1) := by decide +kernel
theorem dX12_can_0 : decode cX12_can 0 = .ok (.aload_n 0, 1) := by decide +kernel
theorem dX12_can_1 : decode cX12_can 1 = .ok (.iload_n 1, 1) := by decide +kernel
theorem dX12_can_2 : decode cX12_can 2 = .ok (.invokevirtual 253, 3) := by decide +kernel
theorem dX12_can_5 : decode cX12_can 5 = .ok (.ifCond .eq 13, 3) := by decide +kernel
theorem dX12_can_8 : decode cX12_can 8 = .ok (.aload_n 0, 1) := by decide +kernel
theorem dX12_can_9 : decode cX12_can 9 = .ok (.iload_n 2, 1) := by decide +kernel
theorem dX12_can_10 : decode cX12_can 10 = .ok (.iconst 0, 1) := by decide +kernel
theorem dX12_can_11 : decode cX12_can 11 = .ok (.iconst 1, 1) := by decide +kernel
theorem dX12_can_12 : decode cX12_can 12 = .ok (.invokevirtual 245, 3) := by decide +kernel
theorem dX12_can_15 : decode cX12_can 15 = .ok (.ifCond .ne 5, 3) := by decide +kernel
theorem dX12_can_18 : decode cX12_can 18 = .ok (.iconst (-1), 1) := by decide +kernel
theorem dX12_can_19 : decode cX12_can 19 = .ok (.ireturn, 1) := by decide +kernel
theorem dX12_can_20 : decode cX12_can 20 = .ok (.aload_n 0, 1) := by decide +kernel
theorem dX12_can_21 : decode cX12_can 21 = .ok (.getfield 23, 3) := by decide +kernel
theorem dX12_can_24 : decode cX12_can 24 = .ok (.iload_n 1, 1) := by decide +kernel
theorem dX12_can_25 : decode cX12_can 25 = .ok (.iaload, 1) := by decide +kernel
theorem dX12_can_26 : decode cX12_can 26 = .ok (.istore_n 3, 1) := by decide +kernel
theorem dX12_can_27 : decode cX12_can 27 = .ok (.iconst 0, 1) := by decide +kernel
theorem dX12_can_28 : decode cX12_can 28 = .ok (.istore 4, 2) := by decide +kernel
theorem dX12_can_30 : decode cX12_can 30 = .ok (.bipush (-5), 2) := by decide +kernel
theorem dX12_can_32 : decode cX12_can 32 = .ok (.istore 5, 2) := by decide +kernel
theorem dX12_can_34 : decode cX12_can 34 = .ok (.bipush 9, 2) := by decide +kernel
theorem dX12_can_36 : decode cX12_can 36 = .ok (.istore 6, 2) := by decide +kernel
theorem dX12_can_38 : decode cX12_can 38 = .ok (.iload 6, 2) := by decide +kernel
theorem dX12_can_40 : decode cX12_can 40 = .ok (.ifCond .lt 36, 3) := by decide +kernel
theorem dX12_can_43 : decode cX12_can 43 = .ok (.aload_n 0, 1) := by decide +kernel
theorem dX12_can_44 : decode cX12_can 44 = .ok (.getfield 23, 3) := by decide +kernel
theorem dX12_can_47 : decode cX12_can 47 = .ok (.iload_n 1, 1) := by decide +kernel
theorem dX12_can_48 : decode cX12_can 48 = .ok (.iload 6, 2) := by decide +kernel
theorem dX12_can_50 : decode cX12_can 50 = .ok (.iastore, 1) := by decide +kernel
theorem dX12_can_51 : decode cX12_can 51 = .ok (.aload_n 0, 1) := by decide +kernel
theorem dX12_can_52 : decode cX12_can 52 = .ok (.iload_n 1, 1) := by decide +kernel
theorem dX12_can_53 : decode cX12_can 53 = .ok (.iconst (-1), 1) := by decide +kernel
theorem dX12_can_54 : decode cX12_can 54 = .ok (.invokevirtual 403, 3) := by decide +kernel
theorem dX12_can_57 : decode cX12_can 57 = .ok (.ifCond .ne 6, 3) := by decide +kernel
theorem dX12_can_60 : decode cX12_can 60 = .ok (.goto 10, 3) := by decide +kernel
theorem dX12_can_63 : decode cX12_can 63 = .ok (.iinc 4 1, 3) := by decide +kernel
theorem dX12_can_66 : decode cX12_can 66 = .ok (.iload 6, 2) := by decide +kernel
theorem dX12_can_68 : decode cX12_can 68 = .ok (.istore 5, 2) := by decide +kernel
theorem dX12_can_70 : decode cX12_can 70 = .ok (.iinc 6 (-1), 3) := by decide +kernel
theorem dX12_can_73 : decode cX12_can 73 = .ok (.goto (-35), 3) := by decide +kernel
theorem dX12_can_76 : decode cX12_can 76 = .ok (.aload_n 0, 1) := by decide +kernel
theorem dX12_can_77 : decode cX12_can 77 = .ok (.getfield 23, 3) := by decide +kernel
theorem dX12_can_80 : decode cX12_can 80 = .ok (.iload_n 1, 1) := by decide +kernel
theorem dX12_can_81 : decode cX12_can 81 = .ok (.iload_n 3, 1) := by decide +kernel
theorem dX12_can_82 : decode cX12_can 82 = .ok (.iastore, 1) := by decide +kernel
theorem dX12_can_83 : decode cX12_can 83 = .ok (.iload_n 2, 1) := by decide +kernel
theorem dX12_can_84 : decode cX12_can 84 = .ok (.ifCond .ne 8, 3) := by decide +kernel
theorem dX12_can_87 : decode cX12_can 87 = .ok (.iload 4, 2) := by decide +kernel
theorem dX12_can_89 : decode cX12_can 89 = .ok (.goto 5, 3) := by decide +kernel
theorem dX12_can_92 : decode cX12_can 92 = .ok (.iload 5, 2) := by decide +kernel
theorem dX12_can_94 : decode cX12_can 94 = .ok (.ireturn, 1) := by decide +kernel
theorem dX12_divisor_0 : decode cX12_divisor 0 = .ok (.iload_n 1, 1) := by decide +kernel
theorem dX12_divisor_1 : decode cX12_divisor 1 = .ok (.istore_n 3, 1) := by decide +kernel
theorem dX12_divisor_2 : decode cX12_divisor 2 = .ok (.iload_n 2, 1) := by decide +kernel
theorem dX12_divisor_3 : decode cX12_divisor 3 = .ok (.istore 4, 2) := by decide +kernel
theorem dX12_divisor_5 : decode cX12_divisor 5 = .ok (.iload 4, 2) := by decide +kernel
theorem dX12_divisor_7 : decode cX12_divisor 7 = .ok (.ifCond .eq 19, 3) := by decide +kernel
theorem dX12_divisor_10 : decode cX12_divisor 10 = .ok (.iload_n 3, 1) := by decide +kernel
theorem dX12_divisor_11 : decode cX12_divisor 11 = .ok (.iload 4, 2) := by decide +kernel
theorem dX12_divisor_13 : decode cX12_divisor 13 = .ok (.irem, 1) := by decide +kernel
theorem dX12_divisor_14 : decode cX12_divisor 14 = .ok (.istore 5, 2) := by decide +kernel
theorem dX12_divisor_16 : decode cX12_divisor 16 = .ok (.iload 4, 2) := by decide +kernel
theorem dX12_divisor_18 : decode cX12_divisor 18 = .ok (.istore_n 3, 1) := by decide +kernel
theorem dX12_divisor_19 : decode cX12_divisor 19 = .ok (.iload 5, 2) := by decide +kernel
theorem dX12_divisor_21 : decode cX12_divisor 21 = .ok (.istore 4, 2) := by decide +kernel
theorem dX12_divisor_23 : decode cX12_divisor 23 = .ok (.goto (-18), 3) := by decide +kernel
theorem dX12_divisor_26 : decode cX12_divisor 26 = .ok (.iload_n 3, 1) := by decide +kernel
theorem dX12_divisor_27 : decode cX12_divisor 27 = .ok (.ireturn, 1) := by decide +kernel
theorem dX12_lowest_0 : decode cX12_lowest 0 = .ok (.aload_n 0, 1) := by decide +kernel
theorem dX12_lowest_1 : decode cX12_lowest 1 = .ok (.iload_n 1, 1) := by decide +kernel
theorem dX12_lowest_2 : decode cX12_lowest 2 = .ok (.iload_n 2, 1) := by decide +kernel
theorem dX12_lowest_3 : decode cX12_lowest 3 = .ok (.invokevirtual 406, 3) := by decide +kernel
theorem dX12_lowest_6 : decode cX12_lowest 6 = .ok (.istore 4, 2) := by decide +kernel
theorem dX12_lowest_8 : decode cX12_lowest 8 = .ok (.iload_n 3, 1) := by decide +kernel
theorem dX12_lowest_9 : decode cX12_lowest 9 = .ok (.ifCond .ne 11, 3) := by decide +kernel
theorem dX12_lowest_12 : decode cX12_lowest 12 = .ok (.iload_n 1, 1) := by decide +kernel
theorem dX12_lowest_13 : decode cX12_lowest 13 = .ok (.iload 4, 2) := by decide +kernel
theorem dX12_lowest_15 : decode cX12_lowest 15 = .ok (.idiv, 1) := by decide +kernel
theorem dX12_lowest_16 : decode cX12_lowest 16 = .ok (.i2l, 1) := by decide +kernel
theorem dX12_lowest_17 : decode cX12_lowest 17 = .ok (.goto 8, 3) := by decide +kernel
theorem dX12_lowest_20 : decode cX12_lowest 20 = .ok (.iload_n 2, 1) := by decide +kernel
theorem dX12_lowest_21 : decode cX12_lowest 21 = .ok (.iload 4, 2) := by decide +kernel
theorem dX12_lowest_23 : decode cX12_lowest 23 = .ok (.idiv, 1) := by decide +kernel
theorem dX12_lowest_24 : decode cX12_lowest 24 = .ok (.i2l, 1) := by decide +kernel
theorem dX12_lowest_25 : decode cX12_lowest 25 = .ok (.lreturn, 1) := by decide +kernel
theorem dX12_odds_0 : decode cX12_odds 0 = .ok (.aload_n 0, 1) := by decide +kernel
theorem dX12_odds_1 : decode cX12_odds 1 = .ok (.iload_n 1, 1) := by decide +kernel
theorem dX12_odds_2 : decode cX12_odds 2 = .ok (.invokevirtual 256, 3) := by decide +kernel
theorem dX12_odds_5 : decode cX12_odds 5 = .ok (.ifCond .eq 20, 3) := by decide +kernel
theorem dX12_odds_8 : decode cX12_odds 8 = .ok (.aload_n 0, 1) := by decide +kernel
theorem dX12_odds_9 : decode cX12_odds 9 = .ok (.iload_n 2, 1) := by decide +kernel
theorem dX12_odds_10 : decode cX12_odds 10 = .ok (.iconst 0, 1) := by decide +kernel
theorem dX12_odds_11 : decode cX12_odds 11 = .ok (.iconst 1, 1) := by decide +kernel
theorem dX12_odds_12 : decode cX12_odds 12 = .ok (.invokevirtual 245, 3) := by decide +kernel
theorem dX12_odds_15 : decode cX12_odds 15 = .ok (.ifCond .eq 10, 3) := by decide +kernel
theorem dX12_odds_18 : decode cX12_odds 18 = .ok (.aload_n 0, 1) := by decide +kernel
theorem dX12_odds_19 : decode cX12_odds 19 = .ok (.getfield 7, 3) := by decide +kernel
theorem dX12_odds_22 : decode cX12_odds 22 = .ok (.ifCond .ne 7, 3) := by decide +kernel
theorem dX12_odds_25 : decode cX12_odds 25 = .ok (.ldc2_w 409, 3) := by decide +kernel
theorem dX12_odds_28 : decode cX12_odds 28 = .ok (.lreturn, 1) := by decide +kernel
theorem dX12_odds_29 : decode cX12_odds 29 = .ok (.iconst 0, 1) := by decide +kernel
theorem dX12_odds_30 : decode cX12_odds 30 = .ok (.istore_n 3, 1) := by decide +kernel
theorem dX12_odds_31 : decode cX12_odds 31 = .ok (.iconst 0, 1) := by decide +kernel
theorem dX12_odds_32 : decode cX12_odds 32 = .ok (.istore 4, 2) := by decide +kernel
theorem dX12_odds_34 : decode cX12_odds 34 = .ok (.iload 4, 2) := by decide +kernel
theorem dX12_odds_36 : decode cX12_odds 36 = .ok (.aload_n 0, 1) := by decide +kernel
theorem dX12_odds_37 : decode cX12_odds 37 = .ok (.getfield 7, 3) := by decide +kernel
theorem dX12_odds_40 : decode cX12_odds 40 = .ok (.if_icmp .ge 27, 3) := by decide +kernel
theorem dX12_odds_43 : decode cX12_odds 43 = .ok (.iload_n 3, 1) := by decide +kernel
theorem dX12_odds_44 : decode cX12_odds 44 = .ok (.aload_n 0, 1) := by decide +kernel
theorem dX12_odds_45 : decode cX12_odds 45 = .ok (.iload 4, 2) := by decide +kernel
theorem dX12_odds_47 : decode cX12_odds 47 = .ok (.iload_n 1, 1) := by decide +kernel
theorem dX12_odds_48 : decode cX12_odds 48 = .ok (.invokevirtual 343, 3) := by decide +kernel
theorem dX12_odds_51 : decode cX12_odds 51 = .ok (.ifCond .eq 7, 3) := by decide +kernel
theorem dX12_odds_54 : decode cX12_odds 54 = .ok (.iconst 1, 1) := by decide +kernel
theorem dX12_odds_55 : decode cX12_odds 55 = .ok (.goto 4, 3) := by decide +kernel
theorem dX12_odds_58 : decode cX12_odds 58 = .ok (.iconst 0, 1) := by decide +kernel
theorem dX12_odds_59 : decode cX12_odds 59 = .ok (.iadd, 1) := by decide +kernel
theorem dX12_odds_60 : decode cX12_odds 60 = .ok (.istore_n 3, 1) := by decide +kernel
theorem dX12_odds_61 : decode cX12_odds 61 = .ok (.iinc 4 1, 3) := by decide +kernel
theorem dX12_odds_64 : decode cX12_odds 64 = .ok (.goto (-30), 3) := by decide +kernel
theorem dX12_odds_67 : decode cX12_odds 67 = .ok (.aload_n 0, 1) := by decide +kernel
theorem dX12_odds_68 : decode cX12_odds 68 = .ok (.iload_n 3, 1) := by decide +kernel
theorem dX12_odds_69 : decode cX12_odds 69 = .ok (.aload_n 0, 1) := by decide +kernel
theorem dX12_odds_70 : decode cX12_odds 70 = .ok (.getfield 7, 3) := by decide +kernel
theorem dX12_odds_73 : decode cX12_odds 73 = .ok (.iload_n 2, 1) := by decide +kernel
theorem dX12_odds_74 : decode cX12_odds 74 = .ok (.invokevirtual 411, 3) := by decide +kernel
theorem dX12_odds_77 : decode cX12_odds 77 = .ok (.lreturn, 1) := by decide +kernel
theorem dX12_mean_0 : decode cX12_mean 0 = .ok (.aload_n 0, 1) := by decide +kernel
theorem dX12_mean_1 : decode cX12_mean 1 = .ok (.iload_n 1, 1) := by decide +kernel
theorem dX12_mean_2 : decode cX12_mean 2 = .ok (.invokevirtual 256, 3) := by decide +kernel
theorem dX12_mean_5 : decode cX12_mean 5 = .ok (.ifCond .eq 20, 3) := by decide +kernel
theorem dX12_mean_8 : decode cX12_mean 8 = .ok (.aload_n 0, 1) := by decide +kernel
theorem dX12_mean_9 : decode cX12_mean 9 = .ok (.iload_n 2, 1) := by decide +kernel
theorem dX12_mean_10 : decode cX12_mean 10 = .ok (.iconst 0, 1) := by decide +kernel
theorem dX12_mean_11 : decode cX12_mean 11 = .ok (.iconst 1, 1) := by decide +kernel
theorem dX12_mean_12 : decode cX12_mean 12 = .ok (.invokevirtual 245, 3) := by decide +kernel
theorem dX12_mean_15 : decode cX12_mean 15 = .ok (.ifCond .eq 10, 3) := by decide +kernel
theorem dX12_mean_18 : decode cX12_mean 18 = .ok (.aload_n 0, 1) := by decide +kernel
theorem dX12_mean_19 : decode cX12_mean 19 = .ok (.getfield 7, 3) := by decide +kernel
theorem dX12_mean_22 : decode cX12_mean 22 = .ok (.ifCond .ne 7, 3) := by decide +kernel
theorem dX12_mean_25 : decode cX12_mean 25 = .ok (.ldc2_w 409, 3) := by decide +kernel
theorem dX12_mean_28 : decode cX12_mean 28 = .ok (.lreturn, 1) := by decide +kernel
theorem dX12_mean_29 : decode cX12_mean 29 = .ok (.iconst 0, 1) := by decide +kernel
theorem dX12_mean_30 : decode cX12_mean 30 = .ok (.istore_n 3, 1) := by decide +kernel
theorem dX12_mean_31 : decode cX12_mean 31 = .ok (.iconst 0, 1) := by decide +kernel
theorem dX12_mean_32 : decode cX12_mean 32 = .ok (.istore 4, 2) := by decide +kernel
theorem dX12_mean_34 : decode cX12_mean 34 = .ok (.iload 4, 2) := by decide +kernel
theorem dX12_mean_36 : decode cX12_mean 36 = .ok (.aload_n 0, 1) := by decide +kernel
theorem dX12_mean_37 : decode cX12_mean 37 = .ok (.getfield 7, 3) := by decide +kernel
theorem dX12_mean_40 : decode cX12_mean 40 = .ok (.if_icmp .ge 23, 3) := by decide +kernel
theorem dX12_mean_43 : decode cX12_mean 43 = .ok (.iload_n 3, 1) := by decide +kernel
theorem dX12_mean_44 : decode cX12_mean 44 = .ok (.aload_n 0, 1) := by decide +kernel
theorem dX12_mean_45 : decode cX12_mean 45 = .ok (.getfield 26, 3) := by decide +kernel
theorem dX12_mean_48 : decode cX12_mean 48 = .ok (.iconst 5, 1) := by decide +kernel
theorem dX12_mean_49 : decode cX12_mean 49 = .ok (.iload 4, 2) := by decide +kernel
theorem dX12_mean_51 : decode cX12_mean 51 = .ok (.imul, 1) := by decide +kernel
theorem dX12_mean_52 : decode cX12_mean 52 = .ok (.iload_n 1, 1) := by decide +kernel
theorem dX12_mean_53 : decode cX12_mean 53 = .ok (.iadd, 1) := by decide +kernel
theorem dX12_mean_54 : decode cX12_mean 54 = .ok (.iaload, 1) := by decide +kernel
theorem dX12_mean_55 : decode cX12_mean 55 = .ok (.iadd, 1) := by decide +kernel
theorem dX12_mean_56 : decode cX12_mean 56 = .ok (.istore_n 3, 1) := by decide +kernel
theorem dX12_mean_57 : decode cX12_mean 57 = .ok (.iinc 4 1, 3) := by decide +kernel
theorem dX12_mean_60 : decode cX12_mean 60 = .ok (.goto (-26), 3) := by decide +kernel
theorem dX12_mean_63 : decode cX12_mean 63 = .ok (.aload_n 0, 1) := by decide +kernel
theorem dX12_mean_64 : decode cX12_mean 64 = .ok (.iload_n 3, 1) := by decide +kernel
theorem dX12_mean_65 : decode cX12_mean 65 = .ok (.aload_n 0, 1) := by decide +kernel
theorem dX12_mean_66 : decode cX12_mean 66 = .ok (.getfield 7, 3) := by decide +kernel
theorem dX12_mean_69 : decode cX12_mean 69 = .ok (.iload_n 2, 1) := by decide +kernel
theorem dX12_mean_70 : decode cX12_mean 70 = .ok (.invokevirtual 411, 3) := by decide +kernel
theorem dX12_mean_73 : decode cX12_mean 73 = .ok (.lreturn, 1) := by decide +kernel
theorem dX12_isLead_0 : decode cX12_isLead 0 = .ok (.iload_n 1, 1) := by decide +kernel
theorem dX12_isLead_1 : decode cX12_isLead 1 = .ok (.ifCond .lt 38, 3) := by decide +kernel
theorem dX12_isLead_4 : decode cX12_isLead 4 = .ok (.aload_n 0, 1) := by decide +kernel
theorem dX12_isLead_5 : decode cX12_isLead 5 = .ok (.iload_n 1, 1) := by decide +kernel
theorem dX12_isLead_6 : decode cX12_isLead 6 = .ok (.bipush 10, 2) := by decide +kernel
theorem dX12_isLead_8 : decode cX12_isLead 8 = .ok (.idiv, 1) := by decide +kernel
theorem dX12_isLead_9 : decode cX12_isLead 9 = .ok (.invokevirtual 256, 3) := by decide +kernel
theorem dX12_isLead_12 : decode cX12_isLead 12 = .ok (.ifCond .eq 27, 3) := by decide +kernel
theorem dX12_isLead_15 : decode cX12_isLead 15 = .ok (.iload_n 1, 1) := by decide +kernel
theorem dX12_isLead_16 : decode cX12_isLead 16 = .ok (.bipush 10, 2) := by decide +kernel
theorem dX12_isLead_18 : decode cX12_isLead 18 = .ok (.irem, 1) := by decide +kernel
theorem dX12_isLead_19 : decode cX12_isLead 19 = .ok (.bipush 9, 2) := by decide +kernel
theorem dX12_isLead_21 : decode cX12_isLead 21 = .ok (.if_icmp .eq 14, 3) := by decide +kernel
theorem dX12_isLead_24 : decode cX12_isLead 24 = .ok (.aload_n 0, 1) := by decide +kernel
theorem dX12_isLead_25 : decode cX12_isLead 25 = .ok (.iload_n 1, 1) := by decide +kernel
theorem dX12_isLead_26 : decode cX12_isLead 26 = .ok (.bipush 10, 2) := by decide +kernel
theorem dX12_isLead_28 : decode cX12_isLead 28 = .ok (.irem, 1) := by decide +kernel
theorem dX12_isLead_29 : decode cX12_isLead 29 = .ok (.invokevirtual 253, 3) := by decide +kernel
theorem dX12_isLead_32 : decode cX12_isLead 32 = .ok (.ifCond .eq 7, 3) := by decide +kernel
theorem dX12_isLead_35 : decode cX12_isLead 35 = .ok (.iconst 1, 1) := by decide +kernel
theorem dX12_isLead_36 : decode cX12_isLead 36 = .ok (.goto 4, 3) := by decide +kernel
theorem dX12_isLead_39 : decode cX12_isLead 39 = .ok (.iconst 0, 1) := by decide +kernel
theorem dX12_isLead_40 : decode cX12_isLead 40 = .ok (.ireturn, 1) := by decide +kernel
theorem dX12_plan_0 : decode cX12_plan 0 = .ok (.iload_n 1, 1) := by decide +kernel
theorem dX12_plan_1 : decode cX12_plan 1 = .ok (.iconst (-1), 1) := by decide +kernel
theorem dX12_plan_2 : decode cX12_plan 2 = .ok (.if_icmp .ne 10, 3) := by decide +kernel
theorem dX12_plan_5 : decode cX12_plan 5 = .ok (.aload_n 0, 1) := by decide +kernel
theorem dX12_plan_6 : decode cX12_plan 6 = .ok (.iconst 0, 1) := by decide +kernel
theorem dX12_plan_7 : decode cX12_plan 7 = .ok (.putfield 141, 3) := by decide +kernel
theorem dX12_plan_10 : decode cX12_plan 10 = .ok (.iconst 0, 1) := by decide +kernel
theorem dX12_plan_11 : decode cX12_plan 11 = .ok (.ireturn, 1) := by decide +kernel
theorem dX12_plan_12 : decode cX12_plan 12 = .ok (.aload_n 0, 1) := by decide +kernel
theorem dX12_plan_13 : decode cX12_plan 13 = .ok (.iload_n 1, 1) := by decide +kernel
theorem dX12_plan_14 : decode cX12_plan 14 = .ok (.iconst 0, 1) := by decide +kernel
theorem dX12_plan_15 : decode cX12_plan 15 = .ok (.iconst 3, 1) := by decide +kernel
theorem dX12_plan_16 : decode cX12_plan 16 = .ok (.invokevirtual 245, 3) := by decide +kernel
theorem dX12_plan_19 : decode cX12_plan 19 = .ok (.ifCond .eq 34, 3) := by decide +kernel
theorem dX12_plan_22 : decode cX12_plan 22 = .ok (.aload_n 0, 1) := by decide +kernel
theorem dX12_plan_23 : decode cX12_plan 23 = .ok (.iload_n 1, 1) := by decide +kernel
theorem dX12_plan_24 : decode cX12_plan 24 = .ok (.iconst 1, 1) := by decide +kernel
theorem dX12_plan_25 : decode cX12_plan 25 = .ok (.iconst 2, 1) := by decide +kernel
theorem dX12_plan_26 : decode cX12_plan 26 = .ok (.invokevirtual 245, 3) := by decide +kernel
theorem dX12_plan_29 : decode cX12_plan 29 = .ok (.ifCond .eq 11, 3) := by decide +kernel
theorem dX12_plan_32 : decode cX12_plan 32 = .ok (.aload_n 0, 1) := by decide +kernel
theorem dX12_plan_33 : decode cX12_plan 33 = .ok (.iload_n 2, 1) := by decide +kernel
theorem dX12_plan_34 : decode cX12_plan 34 = .ok (.invokevirtual 253, 3) := by decide +kernel
theorem dX12_plan_37 : decode cX12_plan 37 = .ok (.ifCond .eq 16, 3) := by decide +kernel
theorem dX12_plan_40 : decode cX12_plan 40 = .ok (.iload_n 1, 1) := by decide +kernel
theorem dX12_plan_41 : decode cX12_plan 41 = .ok (.iconst 3, 1) := by decide +kernel
theorem dX12_plan_42 : decode cX12_plan 42 = .ok (.if_icmp .ne 13, 3) := by decide +kernel
theorem dX12_plan_45 : decode cX12_plan 45 = .ok (.aload_n 0, 1) := by decide +kernel
theorem dX12_plan_46 : decode cX12_plan 46 = .ok (.iload_n 2, 1) := by decide +kernel
theorem dX12_plan_47 : decode cX12_plan 47 = .ok (.invokevirtual 415, 3) := by decide +kernel
theorem dX12_plan_50 : decode cX12_plan 50 = .ok (.ifCond .ne 5, 3) := by decide +kernel
theorem dX12_plan_53 : decode cX12_plan 53 = .ok (.iconst (-1), 1) := by decide +kernel
theorem dX12_plan_54 : decode cX12_plan 54 = .ok (.ireturn, 1) := by decide +kernel
theorem dX12_plan_55 : decode cX12_plan 55 = .ok (.aload_n 0, 1) := by decide +kernel
theorem dX12_plan_56 : decode cX12_plan 56 = .ok (.getfield 141, 3) := by decide +kernel
theorem dX12_plan_59 : decode cX12_plan 59 = .ok (.bipush 10, 2) := by decide +kernel
theorem dX12_plan_61 : decode cX12_plan 61 = .ok (.if_icmp .ne 6, 3) := by decide +kernel
theorem dX12_plan_64 : decode cX12_plan 64 = .ok (.bipush (-4), 2) := by decide +kernel
theorem dX12_plan_66 : decode cX12_plan 66 = .ok (.ireturn, 1) := by decide +kernel
theorem dX12_plan_67 : decode cX12_plan 67 = .ok (.aload_n 0, 1) := by decide +kernel
theorem dX12_plan_68 : decode cX12_plan 68 = .ok (.getfield 147, 3) := by decide +kernel
theorem dX12_plan_71 : decode cX12_plan 71 = .ok (.aload_n 0, 1) := by decide +kernel
theorem dX12_plan_72 : decode cX12_plan 72 = .ok (.getfield 141, 3) := by decide +kernel
theorem dX12_plan_75 : decode cX12_plan 75 = .ok (.iload_n 1, 1) := by decide +kernel
theorem dX12_plan_76 : decode cX12_plan 76 = .ok (.iastore, 1) := by decide +kernel
theorem dX12_plan_77 : decode cX12_plan 77 = .ok (.aload_n 0, 1) := by decide +kernel
theorem dX12_plan_78 : decode cX12_plan 78 = .ok (.getfield 150, 3) := by decide +kernel
theorem dX12_plan_81 : decode cX12_plan 81 = .ok (.aload_n 0, 1) := by decide +kernel
theorem dX12_plan_82 : decode cX12_plan 82 = .ok (.getfield 141, 3) := by decide +kernel
theorem dX12_plan_85 : decode cX12_plan 85 = .ok (.iload_n 1, 1) := by decide +kernel
theorem dX12_plan_86 : decode cX12_plan 86 = .ok (.ifCond .le 7, 3) := by decide +kernel
theorem dX12_plan_89 : decode cX12_plan 89 = .ok (.iload_n 2, 1) := by decide +kernel
theorem dX12_plan_90 : decode cX12_plan 90 = .ok (.goto 4, 3) := by decide +kernel
theorem dX12_plan_93 : decode cX12_plan 93 = .ok (.iconst 0, 1) := by decide +kernel
theorem dX12_plan_94 : decode cX12_plan 94 = .ok (.iastore, 1) := by decide +kernel
theorem dX12_plan_95 : decode cX12_plan 95 = .ok (.aload_n 0, 1) := by decide +kernel
theorem dX12_plan_96 : decode cX12_plan 96 = .ok (.dup, 1) := by decide +kernel
theorem dX12_plan_97 : decode cX12_plan 97 = .ok (.getfield 141, 3) := by decide +kernel
theorem dX12_plan_100 : decode cX12_plan 100 = .ok (.iconst 1, 1) := by decide +kernel
theorem dX12_plan_101 : decode cX12_plan 101 = .ok (.iadd, 1) := by decide +kernel
theorem dX12_plan_102 : decode cX12_plan 102 = .ok (.putfield 141, 3) := by decide +kernel
theorem dX12_plan_105 : decode cX12_plan 105 = .ok (.aload_n 0, 1) := by decide +kernel
theorem dX12_plan_106 : decode cX12_plan 106 = .ok (.getfield 141, 3) := by decide +kernel
theorem dX12_plan_109 : decode cX12_plan 109 = .ok (.ireturn, 1) := by decide +kernel
theorem dX12_goPlan_0 : decode cX12_goPlan 0 = .ok (.iload_n 1, 1) := by decide +kernel
theorem dX12_goPlan_1 : decode cX12_goPlan 1 = .ok (.ifCond .ne 7, 3) := by decide +kernel
theorem dX12_goPlan_4 : decode cX12_goPlan 4 = .ok (.aload_n 0, 1) := by decide +kernel
theorem dX12_goPlan_5 : decode cX12_goPlan 5 = .ok (.invokevirtual 358, 3) := by decide +kernel
theorem dX12_goPlan_8 : decode cX12_goPlan 8 = .ok (.aload_n 0, 1) := by decide +kernel
theorem dX12_goPlan_9 : decode cX12_goPlan 9 = .ok (.iload_n 1, 1) := by decide +kernel
theorem dX12_goPlan_10 : decode cX12_goPlan 10 = .ok (.iconst 1, 1) := by decide +kernel
theorem dX12_goPlan_11 : decode cX12_goPlan 11 = .ok (.iconst 2, 1) := by decide +kernel
theorem dX12_goPlan_12 : decode cX12_goPlan 12 = .ok (.invokevirtual 245, 3) := by decide +kernel
theorem dX12_goPlan_15 : decode cX12_goPlan 15 = .ok (.ifCond .eq 18, 3) := by decide +kernel
theorem dX12_goPlan_18 : decode cX12_goPlan 18 = .ok (.aload_n 0, 1) := by decide +kernel
theorem dX12_goPlan_19 : decode cX12_goPlan 19 = .ok (.iload_n 2, 1) := by decide +kernel
theorem dX12_goPlan_20 : decode cX12_goPlan 20 = .ok (.iload_n 1, 1) := by decide +kernel
theorem dX12_goPlan_21 : decode cX12_goPlan 21 = .ok (.iconst 1, 1) := by decide +kernel
theorem dX12_goPlan_22 : decode cX12_goPlan 22 = .ok (.if_icmp .ne 7, 3) := by decide +kernel
theorem dX12_goPlan_25 : decode cX12_goPlan 25 = .ok (.iconst 1, 1) := by decide +kernel
theorem dX12_goPlan_26 : decode cX12_goPlan 26 = .ok (.goto 4, 3) := by decide +kernel
theorem dX12_goPlan_29 : decode cX12_goPlan 29 = .ok (.iconst 0, 1) := by decide +kernel
theorem dX12_goPlan_30 : decode cX12_goPlan 30 = .ok (.invokevirtual 267, 3) := by decide +kernel
theorem dX12_goPlan_33 : decode cX12_goPlan 33 = .ok (.iload_n 1, 1) := by decide +kernel
theorem dX12_goPlan_34 : decode cX12_goPlan 34 = .ok (.iconst 3, 1) := by decide +kernel
theorem dX12_goPlan_35 : decode cX12_goPlan 35 = .ok (.if_icmp .ne 28, 3) := by decide +kernel
theorem dX12_goPlan_38 : decode cX12_goPlan 38 = .ok (.aload_n 0, 1) := by decide +kernel
theorem dX12_goPlan_39 : decode cX12_goPlan 39 = .ok (.iload_n 2, 1) := by decide +kernel
theorem dX12_goPlan_40 : decode cX12_goPlan 40 = .ok (.bipush 10, 2) := by decide +kernel
theorem dX12_goPlan_42 : decode cX12_goPlan 42 = .ok (.idiv, 1) := by decide +kernel
theorem dX12_goPlan_43 : decode cX12_goPlan 43 = .ok (.iload_n 2, 1) := by decide +kernel
theorem dX12_goPlan_44 : decode cX12_goPlan 44 = .ok (.bipush 10, 2) := by decide +kernel
theorem dX12_goPlan_46 : decode cX12_goPlan 46 = .ok (.irem, 1) := by decide +kernel
theorem dX12_goPlan_47 : decode cX12_goPlan 47 = .ok (.bipush 9, 2) := by decide +kernel
theorem dX12_goPlan_49 : decode cX12_goPlan 49 = .ok (.if_icmp .ne 7, 3) := by decide +kernel
theorem dX12_goPlan_52 : decode cX12_goPlan 52 = .ok (.iconst (-1), 1) := by decide +kernel
theorem dX12_goPlan_53 : decode cX12_goPlan 53 = .ok (.goto 7, 3) := by decide +kernel
theorem dX12_goPlan_56 : decode cX12_goPlan 56 = .ok (.iload_n 2, 1) := by decide +kernel
theorem dX12_goPlan_57 : decode cX12_goPlan 57 = .ok (.bipush 10, 2) := by decide +kernel
theorem dX12_goPlan_59 : decode cX12_goPlan 59 = .ok (.irem, 1) := by decide +kernel
theorem dX12_goPlan_60 : decode cX12_goPlan 60 = .ok (.invokevirtual 259, 3) := by decide +kernel
theorem dX12_goPlan_63 : decode cX12_goPlan 63 = .ok (.return_, 1) := by decide +kernel
theorem dX12_ends_0 : decode cX12_ends 0 = .ok (.aload_n 0, 1) := by decide +kernel
theorem dX12_ends_1 : decode cX12_ends 1 = .ok (.iload_n 1, 1) := by decide +kernel
theorem dX12_ends_2 : decode cX12_ends 2 = .ok (.iconst 0, 1) := by decide +kernel
theorem dX12_ends_3 : decode cX12_ends 3 = .ok (.iconst 1, 1) := by decide +kernel
theorem dX12_ends_4 : decode cX12_ends 4 = .ok (.invokevirtual 245, 3) := by decide +kernel
theorem dX12_ends_7 : decode cX12_ends 7 = .ok (.ifCond .ne 5, 3) := by decide +kernel
theorem dX12_ends_10 : decode cX12_ends 10 = .ok (.iconst (-1), 1) := by decide +kernel
theorem dX12_ends_11 : decode cX12_ends 11 = .ok (.ireturn, 1) := by decide +kernel
theorem dX12_ends_12 : decode cX12_ends 12 = .ok (.aload_n 0, 1) := by decide +kernel
theorem dX12_ends_13 : decode cX12_ends 13 = .ok (.invokevirtual 368, 3) := by decide +kernel
theorem dX12_ends_16 : decode cX12_ends 16 = .ok (.iconst 0, 1) := by decide +kernel
theorem dX12_ends_17 : decode cX12_ends 17 = .ok (.istore_n 2, 1) := by decide +kernel
theorem dX12_ends_18 : decode cX12_ends 18 = .ok (.iload_n 2, 1) := by decide +kernel
theorem dX12_ends_19 : decode cX12_ends 19 = .ok (.aload_n 0, 1) := by decide +kernel
theorem dX12_ends_20 : decode cX12_ends 20 = .ok (.getfield 141, 3) := by decide +kernel
theorem dX12_ends_23 : decode cX12_ends 23 = .ok (.if_icmp .ge 25, 3) := by decide +kernel
theorem dX12_ends_26 : decode cX12_ends 26 = .ok (.aload_n 0, 1) := by decide +kernel
theorem dX12_ends_27 : decode cX12_ends 27 = .ok (.aload_n 0, 1) := by decide +kernel
theorem dX12_ends_28 : decode cX12_ends 28 = .ok (.getfield 147, 3) := by decide +kernel
theorem dX12_ends_31 : decode cX12_ends 31 = .ok (.iload_n 2, 1) := by decide +kernel
theorem dX12_ends_32 : decode cX12_ends 32 = .ok (.iaload, 1) := by decide +kernel
theorem dX12_ends_33 : decode cX12_ends 33 = .ok (.aload_n 0, 1) := by decide +kernel
theorem dX12_ends_34 : decode cX12_ends 34 = .ok (.getfield 150, 3) := by decide +kernel
theorem dX12_ends_37 : decode cX12_ends 37 = .ok (.iload_n 2, 1) := by decide +kernel
theorem dX12_ends_38 : decode cX12_ends 38 = .ok (.iaload, 1) := by decide +kernel
theorem dX12_ends_39 : decode cX12_ends 39 = .ok (.invokevirtual 418, 3) := by decide +kernel
theorem dX12_ends_42 : decode cX12_ends 42 = .ok (.iinc 2 1, 3) := by decide +kernel
theorem dX12_ends_45 : decode cX12_ends 45 = .ok (.goto (-27), 3) := by decide +kernel
theorem dX12_ends_48 : decode cX12_ends 48 = .ok (.iload_n 1, 1) := by decide +kernel
theorem dX12_ends_49 : decode cX12_ends 49 = .ok (.ifCond .ne 10, 3) := by decide +kernel
theorem dX12_ends_52 : decode cX12_ends 52 = .ok (.aload_n 0, 1) := by decide +kernel
theorem dX12_ends_53 : decode cX12_ends 53 = .ok (.invokevirtual 390, 3) := by decide +kernel
theorem dX12_ends_56 : decode cX12_ends 56 = .ok (.goto 7, 3) := by decide +kernel
theorem dX12_ends_59 : decode cX12_ends 59 = .ok (.aload_n 0, 1) := by decide +kernel
theorem dX12_ends_60 : decode cX12_ends 60 = .ok (.invokevirtual 421, 3) := by decide +kernel
theorem dX12_ends_63 : decode cX12_ends 63 = .ok (.istore_n 2, 1) := by decide +kernel
theorem dX12_ends_64 : decode cX12_ends 64 = .ok (.aload_n 0, 1) := by decide +kernel
theorem dX12_ends_65 : decode cX12_ends 65 = .ok (.invokevirtual 371, 3) := by decide +kernel
theorem dX12_ends_68 : decode cX12_ends 68 = .ok (.iload_n 2, 1) := by decide +kernel
theorem dX12_ends_69 : decode cX12_ends 69 = .ok (.ireturn, 1) := by decide +kernel
theorem dX12_book_0 : decode cX12_book 0 = .ok (.iload_n 1, 1) := by decide +kernel
theorem dX12_book_1 : decode cX12_book 1 = .ok (.iconst (-1), 1) := by decide +kernel
theorem dX12_book_2 : decode cX12_book 2 = .ok (.if_icmp .ne 10, 3) := by decide +kernel
theorem dX12_book_5 : decode cX12_book 5 = .ok (.aload_n 0, 1) := by decide +kernel
theorem dX12_book_6 : decode cX12_book 6 = .ok (.iconst 0, 1) := by decide +kernel
theorem dX12_book_7 : decode cX12_book 7 = .ok (.putfield 144, 3) := by decide +kernel
theorem dX12_book_10 : decode cX12_book 10 = .ok (.iconst 0, 1) := by decide +kernel
theorem dX12_book_11 : decode cX12_book 11 = .ok (.ireturn, 1) := by decide +kernel
theorem dX12_book_12 : decode cX12_book 12 = .ok (.aload_n 0, 1) := by decide +kernel
theorem dX12_book_13 : decode cX12_book 13 = .ok (.iload_n 1, 1) := by decide +kernel
theorem dX12_book_14 : decode cX12_book 14 = .ok (.invokevirtual 256, 3) := by decide +kernel
theorem dX12_book_17 : decode cX12_book 17 = .ok (.ifCond .ne 5, 3) := by decide +kernel
theorem dX12_book_20 : decode cX12_book 20 = .ok (.iconst (-1), 1) := by decide +kernel
theorem dX12_book_21 : decode cX12_book 21 = .ok (.ireturn, 1) := by decide +kernel
theorem dX12_book_22 : decode cX12_book 22 = .ok (.aload_n 0, 1) := by decide +kernel
theorem dX12_book_23 : decode cX12_book 23 = .ok (.iload_n 2, 1) := by decide +kernel
theorem dX12_book_24 : decode cX12_book 24 = .ok (.iconst 0, 1) := by decide +kernel
theorem dX12_book_25 : decode cX12_book 25 = .ok (.sipush 9999, 3) := by decide +kernel
theorem dX12_book_28 : decode cX12_book 28 = .ok (.invokevirtual 245, 3) := by decide +kernel
theorem dX12_book_31 : decode cX12_book 31 = .ok (.ifCond .ne 6, 3) := by decide +kernel
theorem dX12_book_34 : decode cX12_book 34 = .ok (.bipush (-2), 2) := by decide +kernel
theorem dX12_book_36 : decode cX12_book 36 = .ok (.ireturn, 1) := by decide +kernel
theorem dX12_book_37 : decode cX12_book 37 = .ok (.aload_n 0, 1) := by decide +kernel
theorem dX12_book_38 : decode cX12_book 38 = .ok (.getfield 144, 3) := by decide +kernel
theorem dX12_book_41 : decode cX12_book 41 = .ok (.bipush 8, 2) := by decide +kernel
theorem dX12_book_43 : decode cX12_book 43 = .ok (.if_icmp .ne 6, 3) := by decide +kernel
theorem dX12_book_46 : decode cX12_book 46 = .ok (.bipush (-4), 2) := by decide +kernel
theorem dX12_book_48 : decode cX12_book 48 = .ok (.ireturn, 1) := by decide +kernel
theorem dX12_book_49 : decode cX12_book 49 = .ok (.aload_n 0, 1) := by decide +kernel
theorem dX12_book_50 : decode cX12_book 50 = .ok (.getfield 153, 3) := by decide +kernel
theorem dX12_book_53 : decode cX12_book 53 = .ok (.aload_n 0, 1) := by decide +kernel
theorem dX12_book_54 : decode cX12_book 54 = .ok (.getfield 144, 3) := by decide +kernel
theorem dX12_book_57 : decode cX12_book 57 = .ok (.iload_n 1, 1) := by decide +kernel
theorem dX12_book_58 : decode cX12_book 58 = .ok (.iastore, 1) := by decide +kernel
theorem dX12_book_59 : decode cX12_book 59 = .ok (.aload_n 0, 1) := by decide +kernel
theorem dX12_book_60 : decode cX12_book 60 = .ok (.getfield 156, 3) := by decide +kernel
theorem dX12_book_63 : decode cX12_book 63 = .ok (.aload_n 0, 1) := by decide +kernel
theorem dX12_book_64 : decode cX12_book 64 = .ok (.getfield 144, 3) := by decide +kernel
theorem dX12_book_67 : decode cX12_book 67 = .ok (.iload_n 2, 1) := by decide +kernel
theorem dX12_book_68 : decode cX12_book 68 = .ok (.iastore, 1) := by decide +kernel
theorem dX12_book_69 : decode cX12_book 69 = .ok (.aload_n 0, 1) := by decide +kernel
theorem dX12_book_70 : decode cX12_book 70 = .ok (.dup, 1) := by decide +kernel
theorem dX12_book_71 : decode cX12_book 71 = .ok (.getfield 144, 3) := by decide +kernel
theorem dX12_book_74 : decode cX12_book 74 = .ok (.iconst 1, 1) := by decide +kernel
theorem dX12_book_75 : decode cX12_book 75 = .ok (.iadd, 1) := by decide +kernel
theorem dX12_book_76 : decode cX12_book 76 = .ok (.putfield 144, 3) := by decide +kernel
theorem dX12_book_79 : decode cX12_book 79 = .ok (.aload_n 0, 1) := by decide +kernel
theorem dX12_book_80 : decode cX12_book 80 = .ok (.getfield 144, 3) := by decide +kernel
theorem dX12_book_83 : decode cX12_book 83 = .ok (.ireturn, 1) := by decide +kernel
theorem dX12_looked_0 : decode cX12_looked 0 = .ok (.iconst 0, 1) := by decide +kernel
theorem dX12_looked_1 : decode cX12_looked 1 = .ok (.istore_n 1, 1) := by decide +kernel
theorem dX12_looked_2 : decode cX12_looked 2 = .ok (.iload_n 1, 1) := by decide +kernel
theorem dX12_looked_3 : decode cX12_looked 3 = .ok (.aload_n 0, 1) := by decide +kernel
theorem dX12_looked_4 : decode cX12_looked 4 = .ok (.getfield 144, 3) := by decide +kernel
theorem dX12_looked_7 : decode cX12_looked 7 = .ok (.if_icmp .ge 31, 3) := by decide +kernel
theorem dX12_looked_10 : decode cX12_looked 10 = .ok (.aload_n 0, 1) := by decide +kernel
theorem dX12_looked_11 : decode cX12_looked 11 = .ok (.getfield 32, 3) := by decide +kernel
theorem dX12_looked_14 : decode cX12_looked 14 = .ok (.aload_n 0, 1) := by decide +kernel
theorem dX12_looked_15 : decode cX12_looked 15 = .ok (.getfield 153, 3) := by decide +kernel
theorem dX12_looked_18 : decode cX12_looked 18 = .ok (.iload_n 1, 1) := by decide +kernel
theorem dX12_looked_19 : decode cX12_looked 19 = .ok (.iaload, 1) := by decide +kernel
theorem dX12_looked_20 : decode cX12_looked 20 = .ok (.iaload, 1) := by decide +kernel
theorem dX12_looked_21 : decode cX12_looked 21 = .ok (.aload_n 0, 1) := by decide +kernel
theorem dX12_looked_22 : decode cX12_looked 22 = .ok (.getfield 156, 3) := by decide +kernel
theorem dX12_looked_25 : decode cX12_looked 25 = .ok (.iload_n 1, 1) := by decide +kernel
theorem dX12_looked_26 : decode cX12_looked 26 = .ok (.iaload, 1) := by decide +kernel
theorem dX12_looked_27 : decode cX12_looked 27 = .ok (.if_icmp .eq 5, 3) := by decide +kernel
theorem dX12_looked_30 : decode cX12_looked 30 = .ok (.iload_n 1, 1) := by decide +kernel
theorem dX12_looked_31 : decode cX12_looked 31 = .ok (.ireturn, 1) := by decide +kernel
theorem dX12_looked_32 : decode cX12_looked 32 = .ok (.iinc 1 1, 3) := by decide +kernel
theorem dX12_looked_35 : decode cX12_looked 35 = .ok (.goto (-33), 3) := by decide +kernel
theorem dX12_looked_38 : decode cX12_looked 38 = .ok (.bipush (-5), 2) := by decide +kernel
theorem dX12_looked_40 : decode cX12_looked 40 = .ok (.ireturn, 1) := by decide +kernel
theorem dX12_judge_0 : decode cX12_judge 0 = .ok (.aload_n 0, 1) := by decide +kernel
theorem dX12_judge_1 : decode cX12_judge 1 = .ok (.iload_n 1, 1) := by decide +kernel
theorem dX12_judge_2 : decode cX12_judge 2 = .ok (.invokevirtual 424, 3) := by decide +kernel
theorem dX12_judge_5 : decode cX12_judge 5 = .ok (.ifCond .ne 5, 3) := by decide +kernel
theorem dX12_judge_8 : decode cX12_judge 8 = .ok (.iconst (-1), 1) := by decide +kernel
theorem dX12_judge_9 : decode cX12_judge 9 = .ok (.ireturn, 1) := by decide +kernel
theorem dX12_judge_10 : decode cX12_judge 10 = .ok (.aload_n 0, 1) := by decide +kernel
theorem dX12_judge_11 : decode cX12_judge 11 = .ok (.getfield 232, 3) := by decide +kernel
theorem dX12_judge_14 : decode cX12_judge 14 = .ok (.iload_n 1, 1) := by decide +kernel
theorem dX12_judge_15 : decode cX12_judge 15 = .ok (.iaload, 1) := by decide +kernel
theorem dX12_judge_16 : decode cX12_judge 16 = .ok (.ifCond .lt 16, 3) := by decide +kernel
theorem dX12_judge_19 : decode cX12_judge 19 = .ok (.aload_n 0, 1) := by decide +kernel
theorem dX12_judge_20 : decode cX12_judge 20 = .ok (.getfield 232, 3) := by decide +kernel
theorem dX12_judge_23 : decode cX12_judge 23 = .ok (.iload_n 1, 1) := by decide +kernel
theorem dX12_judge_24 : decode cX12_judge 24 = .ok (.iaload, 1) := by decide +kernel
theorem dX12_judge_25 : decode cX12_judge 25 = .ok (.iconst 3, 1) := by decide +kernel
theorem dX12_judge_26 : decode cX12_judge 26 = .ok (.if_icmp .eq 6, 3) := by decide +kernel
theorem dX12_judge_29 : decode cX12_judge 29 = .ok (.bipush (-12), 2) := by decide +kernel
theorem dX12_judge_31 : decode cX12_judge 31 = .ok (.ireturn, 1) := by decide +kernel
theorem dX12_judge_32 : decode cX12_judge 32 = .ok (.iconst 0, 1) := by decide +kernel
theorem dX12_judge_33 : decode cX12_judge 33 = .ok (.istore_n 3, 1) := by decide +kernel
theorem dX12_judge_34 : decode cX12_judge 34 = .ok (.iload_n 3, 1) := by decide +kernel
theorem dX12_judge_35 : decode cX12_judge 35 = .ok (.iconst 5, 1) := by decide +kernel
theorem dX12_judge_36 : decode cX12_judge 36 = .ok (.if_icmp .ge 67, 3) := by decide +kernel
theorem dX12_judge_39 : decode cX12_judge 39 = .ok (.aload_n 0, 1) := by decide +kernel
theorem dX12_judge_40 : decode cX12_judge 40 = .ok (.getfield 232, 3) := by decide +kernel
theorem dX12_judge_43 : decode cX12_judge 43 = .ok (.iload_n 1, 1) := by decide +kernel
theorem dX12_judge_44 : decode cX12_judge 44 = .ok (.iaload, 1) := by decide +kernel
theorem dX12_judge_45 : decode cX12_judge 45 = .ok (.ifCond .lt 21, 3) := by decide +kernel
theorem dX12_judge_48 : decode cX12_judge 48 = .ok (.iload_n 2, 1) := by decide +kernel
theorem dX12_judge_49 : decode cX12_judge 49 = .ok (.ifCond .lt 17, 3) := by decide +kernel
theorem dX12_judge_52 : decode cX12_judge 52 = .ok (.iload_n 2, 1) := by decide +kernel
theorem dX12_judge_53 : decode cX12_judge 53 = .ok (.aload_n 0, 1) := by decide +kernel
theorem dX12_judge_54 : decode cX12_judge 54 = .ok (.getfield 235, 3) := by decide +kernel
theorem dX12_judge_57 : decode cX12_judge 57 = .ok (.iload_n 1, 1) := by decide +kernel
theorem dX12_judge_58 : decode cX12_judge 58 = .ok (.iaload, 1) := by decide +kernel
theorem dX12_judge_59 : decode cX12_judge 59 = .ok (.iload_n 3, 1) := by decide +kernel
theorem dX12_judge_60 : decode cX12_judge 60 = .ok (.isub, 1) := by decide +kernel
theorem dX12_judge_61 : decode cX12_judge 61 = .ok (.iconst 1, 1) := by decide +kernel
theorem dX12_judge_62 : decode cX12_judge 62 = .ok (.isub, 1) := by decide +kernel
theorem dX12_judge_63 : decode cX12_judge 63 = .ok (.if_icmp .le 8, 3) := by decide +kernel
theorem dX12_judge_66 : decode cX12_judge 66 = .ok (.bipush 100, 2) := by decide +kernel
theorem dX12_judge_68 : decode cX12_judge 68 = .ok (.iload_n 3, 1) := by decide +kernel
theorem dX12_judge_69 : decode cX12_judge 69 = .ok (.iadd, 1) := by decide +kernel
theorem dX12_judge_70 : decode cX12_judge 70 = .ok (.ireturn, 1) := by decide +kernel
theorem dX12_judge_71 : decode cX12_judge 71 = .ok (.aload_n 0, 1) := by decide +kernel
theorem dX12_judge_72 : decode cX12_judge 72 = .ok (.getfield 238, 3) := by decide +kernel
theorem dX12_judge_75 : decode cX12_judge 75 = .ok (.bipush 60, 2) := by decide +kernel
theorem dX12_judge_77 : decode cX12_judge 77 = .ok (.iload_n 1, 1) := by decide +kernel
theorem dX12_judge_78 : decode cX12_judge 78 = .ok (.imul, 1) := by decide +kernel
theorem dX12_judge_79 : decode cX12_judge 79 = .ok (.iload_n 2, 1) := by decide +kernel
theorem dX12_judge_80 : decode cX12_judge 80 = .ok (.iadd, 1) := by decide +kernel
theorem dX12_judge_81 : decode cX12_judge 81 = .ok (.iload_n 3, 1) := by decide +kernel
theorem dX12_judge_82 : decode cX12_judge 82 = .ok (.iadd, 1) := by decide +kernel
theorem dX12_judge_83 : decode cX12_judge 83 = .ok (.laload, 1) := by decide +kernel
theorem dX12_judge_84 : decode cX12_judge 84 = .ok (.aload_n 0, 1) := by decide +kernel
theorem dX12_judge_85 : decode cX12_judge 85 = .ok (.getfield 32, 3) := by decide +kernel
theorem dX12_judge_88 : decode cX12_judge 88 = .ok (.iload_n 3, 1) := by decide +kernel
theorem dX12_judge_89 : decode cX12_judge 89 = .ok (.iaload, 1) := by decide +kernel
theorem dX12_judge_90 : decode cX12_judge 90 = .ok (.i2l, 1) := by decide +kernel
theorem dX12_judge_91 : decode cX12_judge 91 = .ok (.lcmp, 1) := by decide +kernel
theorem dX12_judge_92 : decode cX12_judge 92 = .ok (.ifCond .eq 5, 3) := by decide +kernel
theorem dX12_judge_95 : decode cX12_judge 95 = .ok (.iload_n 3, 1) := by decide +kernel
theorem dX12_judge_96 : decode cX12_judge 96 = .ok (.ireturn, 1) := by decide +kernel
theorem dX12_judge_97 : decode cX12_judge 97 = .ok (.iinc 3 1, 3) := by decide +kernel
theorem dX12_judge_100 : decode cX12_judge 100 = .ok (.goto (-66), 3) := by decide +kernel
theorem dX12_judge_103 : decode cX12_judge 103 = .ok (.bipush (-5), 2) := by decide +kernel
theorem dX12_judge_105 : decode cX12_judge 105 = .ok (.ireturn, 1) := by decide +kernel
theorem dX12_image_0 : decode cX12_image 0 = .ok (.aload_n 0, 1) := by decide +kernel
theorem dX12_image_1 : decode cX12_image 1 = .ok (.iconst 1, 1) := by decide +kernel
theorem dX12_image_2 : decode cX12_image 2 = .ok (.putfield 159, 3) := by decide +kernel
theorem dX12_image_5 : decode cX12_image 5 = .ok (.aload_n 0, 1) := by decide +kernel
theorem dX12_image_6 : decode cX12_image 6 = .ok (.aload_n 0, 1) := by decide +kernel
theorem dX12_image_7 : decode cX12_image 7 = .ok (.getfield 41, 3) := by decide +kernel
theorem dX12_image_10 : decode cX12_image 10 = .ok (.putfield 163, 3) := by decide +kernel
theorem dX12_image_13 : decode cX12_image 13 = .ok (.aload_n 0, 1) := by decide +kernel
theorem dX12_image_14 : decode cX12_image 14 = .ok (.aload_n 0, 1) := by decide +kernel
theorem dX12_image_15 : decode cX12_image 15 = .ok (.getfield 7, 3) := by decide +kernel
theorem dX12_image_18 : decode cX12_image 18 = .ok (.putfield 166, 3) := by decide +kernel
theorem dX12_image_21 : decode cX12_image 21 = .ok (.aload_n 0, 1) := by decide +kernel
theorem dX12_image_22 : decode cX12_image 22 = .ok (.aload_n 0, 1) := by decide +kernel
theorem dX12_image_23 : decode cX12_image 23 = .ok (.getfield 13, 3) := by decide +kernel
theorem dX12_image_26 : decode cX12_image 26 = .ok (.putfield 169, 3) := by decide +kernel
theorem dX12_image_29 : decode cX12_image 29 = .ok (.aload_n 0, 1) := by decide +kernel
theorem dX12_image_30 : decode cX12_image 30 = .ok (.aload_n 0, 1) := by decide +kernel
theorem dX12_image_31 : decode cX12_image 31 = .ok (.getfield 16, 3) := by decide +kernel
theorem dX12_image_34 : decode cX12_image 34 = .ok (.putfield 172, 3) := by decide +kernel
theorem dX12_image_37 : decode cX12_image 37 = .ok (.aload_n 0, 1) := by decide +kernel
theorem dX12_image_38 : decode cX12_image 38 = .ok (.aload_n 0, 1) := by decide +kernel
theorem dX12_image_39 : decode cX12_image 39 = .ok (.getfield 126, 3) := by decide +kernel
theorem dX12_image_42 : decode cX12_image 42 = .ok (.putfield 175, 3) := by decide +kernel
theorem dX12_image_45 : decode cX12_image 45 = .ok (.aload_n 0, 1) := by decide +kernel
theorem dX12_image_46 : decode cX12_image 46 = .ok (.aload_n 0, 1) := by decide +kernel
theorem dX12_image_47 : decode cX12_image 47 = .ok (.getfield 141, 3) := by decide +kernel
theorem dX12_image_50 : decode cX12_image 50 = .ok (.putfield 178, 3) := by decide +kernel
theorem dX12_image_53 : decode cX12_image 53 = .ok (.aload_n 0, 1) := by decide +kernel
theorem dX12_image_54 : decode cX12_image 54 = .ok (.aload_n 0, 1) := by decide +kernel
theorem dX12_image_55 : decode cX12_image 55 = .ok (.getfield 144, 3) := by decide +kernel
theorem dX12_image_58 : decode cX12_image 58 = .ok (.putfield 181, 3) := by decide +kernel
theorem dX12_image_61 : decode cX12_image 61 = .ok (.iconst 0, 1) := by decide +kernel
theorem dX12_image_62 : decode cX12_image 62 = .ok (.istore_n 1, 1) := by decide +kernel
theorem dX12_image_63 : decode cX12_image 63 = .ok (.iload_n 1, 1) := by decide +kernel
theorem dX12_image_64 : decode cX12_image 64 = .ok (.bipush 6, 2) := by decide +kernel
theorem dX12_image_66 : decode cX12_image 66 = .ok (.if_icmp .ge 33, 3) := by decide +kernel
theorem dX12_image_69 : decode cX12_image 69 = .ok (.aload_n 0, 1) := by decide +kernel
theorem dX12_image_70 : decode cX12_image 70 = .ok (.getfield 184, 3) := by decide +kernel
theorem dX12_image_73 : decode cX12_image 73 = .ok (.iload_n 1, 1) := by decide +kernel
theorem dX12_image_74 : decode cX12_image 74 = .ok (.aload_n 0, 1) := by decide +kernel
theorem dX12_image_75 : decode cX12_image 75 = .ok (.getfield 19, 3) := by decide +kernel
theorem dX12_image_78 : decode cX12_image 78 = .ok (.iload_n 1, 1) := by decide +kernel
theorem dX12_image_79 : decode cX12_image 79 = .ok (.iaload, 1) := by decide +kernel
theorem dX12_image_80 : decode cX12_image 80 = .ok (.iastore, 1) := by decide +kernel
theorem dX12_image_81 : decode cX12_image 81 = .ok (.aload_n 0, 1) := by decide +kernel
theorem dX12_image_82 : decode cX12_image 82 = .ok (.getfield 187, 3) := by decide +kernel
theorem dX12_image_85 : decode cX12_image 85 = .ok (.iload_n 1, 1) := by decide +kernel
theorem dX12_image_86 : decode cX12_image 86 = .ok (.aload_n 0, 1) := by decide +kernel
theorem dX12_image_87 : decode cX12_image 87 = .ok (.getfield 23, 3) := by decide +kernel
theorem dX12_image_90 : decode cX12_image 90 = .ok (.iload_n 1, 1) := by decide +kernel
theorem dX12_image_91 : decode cX12_image 91 = .ok (.iaload, 1) := by decide +kernel
theorem dX12_image_92 : decode cX12_image 92 = .ok (.iastore, 1) := by decide +kernel
theorem dX12_image_93 : decode cX12_image 93 = .ok (.iinc 1 1, 3) := by decide +kernel
theorem dX12_image_96 : decode cX12_image 96 = .ok (.goto (-33), 3) := by decide +kernel
theorem dX12_image_99 : decode cX12_image 99 = .ok (.iconst 0, 1) := by decide +kernel
theorem dX12_image_100 : decode cX12_image 100 = .ok (.istore_n 1, 1) := by decide +kernel
theorem dX12_image_101 : decode cX12_image 101 = .ok (.iload_n 1, 1) := by decide +kernel
theorem dX12_image_102 : decode cX12_image 102 = .ok (.bipush 30, 2) := by decide +kernel
theorem dX12_image_104 : decode cX12_image 104 = .ok (.if_icmp .ge 21, 3) := by decide +kernel
theorem dX12_image_107 : decode cX12_image 107 = .ok (.aload_n 0, 1) := by decide +kernel
theorem dX12_image_108 : decode cX12_image 108 = .ok (.getfield 190, 3) := by decide +kernel
theorem dX12_image_111 : decode cX12_image 111 = .ok (.iload_n 1, 1) := by decide +kernel
theorem dX12_image_112 : decode cX12_image 112 = .ok (.aload_n 0, 1) := by decide +kernel
theorem dX12_image_113 : decode cX12_image 113 = .ok (.getfield 26, 3) := by decide +kernel
theorem dX12_image_116 : decode cX12_image 116 = .ok (.iload_n 1, 1) := by decide +kernel
theorem dX12_image_117 : decode cX12_image 117 = .ok (.iaload, 1) := by decide +kernel
theorem dX12_image_118 : decode cX12_image 118 = .ok (.iastore, 1) := by decide +kernel
theorem dX12_image_119 : decode cX12_image 119 = .ok (.iinc 1 1, 3) := by decide +kernel
theorem dX12_image_122 : decode cX12_image 122 = .ok (.goto (-21), 3) := by decide +kernel
theorem dX12_image_125 : decode cX12_image 125 = .ok (.iconst 0, 1) := by decide +kernel
theorem dX12_image_126 : decode cX12_image 126 = .ok (.istore_n 1, 1) := by decide +kernel
theorem dX12_image_127 : decode cX12_image 127 = .ok (.iload_n 1, 1) := by decide +kernel
theorem dX12_image_128 : decode cX12_image 128 = .ok (.bipush 24, 2) := by decide +kernel
theorem dX12_image_130 : decode cX12_image 130 = .ok (.if_icmp .ge 21, 3) := by decide +kernel
theorem dX12_image_133 : decode cX12_image 133 = .ok (.aload_n 0, 1) := by decide +kernel
theorem dX12_image_134 : decode cX12_image 134 = .ok (.getfield 193, 3) := by decide +kernel
theorem dX12_image_137 : decode cX12_image 137 = .ok (.iload_n 1, 1) := by decide +kernel
theorem dX12_image_138 : decode cX12_image 138 = .ok (.aload_n 0, 1) := by decide +kernel
theorem dX12_image_139 : decode cX12_image 139 = .ok (.getfield 29, 3) := by decide +kernel
theorem dX12_image_142 : decode cX12_image 142 = .ok (.iload_n 1, 1) := by decide +kernel
theorem dX12_image_143 : decode cX12_image 143 = .ok (.iaload, 1) := by decide +kernel
theorem dX12_image_144 : decode cX12_image 144 = .ok (.iastore, 1) := by decide +kernel
theorem dX12_image_145 : decode cX12_image 145 = .ok (.iinc 1 1, 3) := by decide +kernel
theorem dX12_image_148 : decode cX12_image 148 = .ok (.goto (-21), 3) := by decide +kernel
theorem dX12_image_151 : decode cX12_image 151 = .ok (.iconst 0, 1) := by decide +kernel
theorem dX12_image_152 : decode cX12_image 152 = .ok (.istore_n 1, 1) := by decide +kernel
theorem dX12_image_153 : decode cX12_image 153 = .ok (.iload_n 1, 1) := by decide +kernel
theorem dX12_image_154 : decode cX12_image 154 = .ok (.iconst 5, 1) := by decide +kernel
theorem dX12_image_155 : decode cX12_image 155 = .ok (.if_icmp .ge 81, 3) := by decide +kernel
theorem dX12_image_158 : decode cX12_image 158 = .ok (.aload_n 0, 1) := by decide +kernel
theorem dX12_image_159 : decode cX12_image 159 = .ok (.getfield 196, 3) := by decide +kernel
theorem dX12_image_162 : decode cX12_image 162 = .ok (.iload_n 1, 1) := by decide +kernel
theorem dX12_image_163 : decode cX12_image 163 = .ok (.aload_n 0, 1) := by decide +kernel
theorem dX12_image_164 : decode cX12_image 164 = .ok (.getfield 32, 3) := by decide +kernel
theorem dX12_image_167 : decode cX12_image 167 = .ok (.iload_n 1, 1) := by decide +kernel
theorem dX12_image_168 : decode cX12_image 168 = .ok (.iaload, 1) := by decide +kernel
theorem dX12_image_169 : decode cX12_image 169 = .ok (.iastore, 1) := by decide +kernel
theorem dX12_image_170 : decode cX12_image 170 = .ok (.aload_n 0, 1) := by decide +kernel
theorem dX12_image_171 : decode cX12_image 171 = .ok (.getfield 199, 3) := by decide +kernel
theorem dX12_image_174 : decode cX12_image 174 = .ok (.iload_n 1, 1) := by decide +kernel
theorem dX12_image_175 : decode cX12_image 175 = .ok (.aload_n 0, 1) := by decide +kernel
theorem dX12_image_176 : decode cX12_image 176 = .ok (.getfield 35, 3) := by decide +kernel
theorem dX12_image_179 : decode cX12_image 179 = .ok (.iload_n 1, 1) := by decide +kernel
theorem dX12_image_180 : decode cX12_image 180 = .ok (.iaload, 1) := by decide +kernel
theorem dX12_image_181 : decode cX12_image 181 = .ok (.iastore, 1) := by decide +kernel
theorem dX12_image_182 : decode cX12_image 182 = .ok (.aload_n 0, 1) := by decide +kernel
theorem dX12_image_183 : decode cX12_image 183 = .ok (.getfield 202, 3) := by decide +kernel
theorem dX12_image_186 : decode cX12_image 186 = .ok (.iload_n 1, 1) := by decide +kernel
theorem dX12_image_187 : decode cX12_image 187 = .ok (.aload_n 0, 1) := by decide +kernel
theorem dX12_image_188 : decode cX12_image 188 = .ok (.getfield 129, 3) := by decide +kernel
theorem dX12_image_191 : decode cX12_image 191 = .ok (.iload_n 1, 1) := by decide +kernel
theorem dX12_image_192 : decode cX12_image 192 = .ok (.iaload, 1) := by decide +kernel
theorem dX12_image_193 : decode cX12_image 193 = .ok (.iastore, 1) := by decide +kernel
theorem dX12_image_194 : decode cX12_image 194 = .ok (.aload_n 0, 1) := by decide +kernel
theorem dX12_image_195 : decode cX12_image 195 = .ok (.getfield 205, 3) := by decide +kernel
theorem dX12_image_198 : decode cX12_image 198 = .ok (.iload_n 1, 1) := by decide +kernel
theorem dX12_image_199 : decode cX12_image 199 = .ok (.aload_n 0, 1) := by decide +kernel
theorem dX12_image_200 : decode cX12_image 200 = .ok (.getfield 132, 3) := by decide +kernel
theorem dX12_image_203 : decode cX12_image 203 = .ok (.iload_n 1, 1) := by decide +kernel
theorem dX12_image_204 : decode cX12_image 204 = .ok (.iaload, 1) := by decide +kernel
theorem dX12_image_205 : decode cX12_image 205 = .ok (.iastore, 1) := by decide +kernel
theorem dX12_image_206 : decode cX12_image 206 = .ok (.aload_n 0, 1) := by decide +kernel
theorem dX12_image_207 : decode cX12_image 207 = .ok (.getfield 208, 3) := by decide +kernel
theorem dX12_image_210 : decode cX12_image 210 = .ok (.iload_n 1, 1) := by decide +kernel
theorem dX12_image_211 : decode cX12_image 211 = .ok (.aload_n 0, 1) := by decide +kernel
theorem dX12_image_212 : decode cX12_image 212 = .ok (.getfield 135, 3) := by decide +kernel
theorem dX12_image_215 : decode cX12_image 215 = .ok (.iload_n 1, 1) := by decide +kernel
theorem dX12_image_216 : decode cX12_image 216 = .ok (.iaload, 1) := by decide +kernel
theorem dX12_image_217 : decode cX12_image 217 = .ok (.iastore, 1) := by decide +kernel
theorem dX12_image_218 : decode cX12_image 218 = .ok (.aload_n 0, 1) := by decide +kernel
theorem dX12_image_219 : decode cX12_image 219 = .ok (.getfield 223, 3) := by decide +kernel
theorem dX12_image_222 : decode cX12_image 222 = .ok (.iload_n 1, 1) := by decide +kernel
theorem dX12_image_223 : decode cX12_image 223 = .ok (.aload_n 0, 1) := by decide +kernel
theorem dX12_image_224 : decode cX12_image 224 = .ok (.getfield 138, 3) := by decide +kernel
theorem dX12_image_227 : decode cX12_image 227 = .ok (.iload_n 1, 1) := by decide +kernel
theorem dX12_image_228 : decode cX12_image 228 = .ok (.baload, 1) := by decide +kernel
theorem dX12_image_229 : decode cX12_image 229 = .ok (.bastore, 1) := by decide +kernel
theorem dX12_image_230 : decode cX12_image 230 = .ok (.iinc 1 1, 3) := by decide +kernel
theorem dX12_image_233 : decode cX12_image 233 = .ok (.goto (-80), 3) := by decide +kernel
theorem dX12_image_236 : decode cX12_image 236 = .ok (.iconst 0, 1) := by decide +kernel
theorem dX12_image_237 : decode cX12_image 237 = .ok (.istore_n 1, 1) := by decide +kernel
theorem dX12_image_238 : decode cX12_image 238 = .ok (.iload_n 1, 1) := by decide +kernel
theorem dX12_image_239 : decode cX12_image 239 = .ok (.bipush 10, 2) := by decide +kernel
theorem dX12_image_241 : decode cX12_image 241 = .ok (.if_icmp .ge 33, 3) := by decide +kernel
theorem dX12_image_244 : decode cX12_image 244 = .ok (.aload_n 0, 1) := by decide +kernel
theorem dX12_image_245 : decode cX12_image 245 = .ok (.getfield 211, 3) := by decide +kernel
theorem dX12_image_248 : decode cX12_image 248 = .ok (.iload_n 1, 1) := by decide +kernel
theorem dX12_image_249 : decode cX12_image 249 = .ok (.aload_n 0, 1) := by decide +kernel
theorem dX12_image_250 : decode cX12_image 250 = .ok (.getfield 147, 3) := by decide +kernel
theorem dX12_image_253 : decode cX12_image 253 = .ok (.iload_n 1, 1) := by decide +kernel
theorem dX12_image_254 : decode cX12_image 254 = .ok (.iaload, 1) := by decide +kernel
theorem dX12_image_255 : decode cX12_image 255 = .ok (.iastore, 1) := by decide +kernel
theorem dX12_image_256 : decode cX12_image 256 = .ok (.aload_n 0, 1) := by decide +kernel
theorem dX12_image_257 : decode cX12_image 257 = .ok (.getfield 214, 3) := by decide +kernel
theorem dX12_image_260 : decode cX12_image 260 = .ok (.iload_n 1, 1) := by decide +kernel
theorem dX12_image_261 : decode cX12_image 261 = .ok (.aload_n 0, 1) := by decide +kernel
theorem dX12_image_262 : decode cX12_image 262 = .ok (.getfield 150, 3) := by decide +kernel
theorem dX12_image_265 : decode cX12_image 265 = .ok (.iload_n 1, 1) := by decide +kernel
theorem dX12_image_266 : decode cX12_image 266 = .ok (.iaload, 1) := by decide +kernel
theorem dX12_image_267 : decode cX12_image 267 = .ok (.iastore, 1) := by decide +kernel
theorem dX12_image_268 : decode cX12_image 268 = .ok (.iinc 1 1, 3) := by decide +kernel
theorem dX12_image_271 : decode cX12_image 271 = .ok (.goto (-33), 3) := by decide +kernel
theorem dX12_image_274 : decode cX12_image 274 = .ok (.iconst 0, 1) := by decide +kernel
theorem dX12_image_275 : decode cX12_image 275 = .ok (.istore_n 1, 1) := by decide +kernel
theorem dX12_image_276 : decode cX12_image 276 = .ok (.iload_n 1, 1) := by decide +kernel
theorem dX12_image_277 : decode cX12_image 277 = .ok (.bipush 8, 2) := by decide +kernel
theorem dX12_image_279 : decode cX12_image 279 = .ok (.if_icmp .ge 33, 3) := by decide +kernel
theorem dX12_image_282 : decode cX12_image 282 = .ok (.aload_n 0, 1) := by decide +kernel
theorem dX12_image_283 : decode cX12_image 283 = .ok (.getfield 217, 3) := by decide +kernel
theorem dX12_image_286 : decode cX12_image 286 = .ok (.iload_n 1, 1) := by decide +kernel
theorem dX12_image_287 : decode cX12_image 287 = .ok (.aload_n 0, 1) := by decide +kernel
theorem dX12_image_288 : decode cX12_image 288 = .ok (.getfield 153, 3) := by decide +kernel
theorem dX12_image_291 : decode cX12_image 291 = .ok (.iload_n 1, 1) := by decide +kernel
theorem dX12_image_292 : decode cX12_image 292 = .ok (.iaload, 1) := by decide +kernel
theorem dX12_image_293 : decode cX12_image 293 = .ok (.iastore, 1) := by decide +kernel
theorem dX12_image_294 : decode cX12_image 294 = .ok (.aload_n 0, 1) := by decide +kernel
theorem dX12_image_295 : decode cX12_image 295 = .ok (.getfield 220, 3) := by decide +kernel
theorem dX12_image_298 : decode cX12_image 298 = .ok (.iload_n 1, 1) := by decide +kernel
theorem dX12_image_299 : decode cX12_image 299 = .ok (.aload_n 0, 1) := by decide +kernel
theorem dX12_image_300 : decode cX12_image 300 = .ok (.getfield 156, 3) := by decide +kernel
theorem dX12_image_303 : decode cX12_image 303 = .ok (.iload_n 1, 1) := by decide +kernel
theorem dX12_image_304 : decode cX12_image 304 = .ok (.iaload, 1) := by decide +kernel
theorem dX12_image_305 : decode cX12_image 305 = .ok (.iastore, 1) := by decide +kernel
theorem dX12_image_306 : decode cX12_image 306 = .ok (.iinc 1 1, 3) := by decide +kernel
theorem dX12_image_309 : decode cX12_image 309 = .ok (.goto (-33), 3) := by decide +kernel
theorem dX12_image_312 : decode cX12_image 312 = .ok (.aload_n 0, 1) := by decide +kernel
theorem dX12_image_313 : decode cX12_image 313 = .ok (.getfield 7, 3) := by decide +kernel
theorem dX12_image_316 : decode cX12_image 316 = .ok (.ireturn, 1) := by decide +kernel
theorem dX12_undo_0 : decode cX12_undo 0 = .ok (.aload_n 0, 1) := by decide +kernel
theorem dX12_undo_1 : decode cX12_undo 1 = .ok (.getfield 159, 3) := by decide +kernel
theorem dX12_undo_4 : decode cX12_undo 4 = .ok (.ifCond .ne 6, 3) := by decide +kernel
theorem dX12_undo_7 : decode cX12_undo 7 = .ok (.bipush (-3), 2) := by decide +kernel
theorem dX12_undo_9 : decode cX12_undo 9 = .ok (.ireturn, 1) := by decide +kernel
theorem dX12_undo_10 : decode cX12_undo 10 = .ok (.aload_n 0, 1) := by decide +kernel
theorem dX12_undo_11 : decode cX12_undo 11 = .ok (.aload_n 0, 1) := by decide +kernel
theorem dX12_undo_12 : decode cX12_undo 12 = .ok (.getfield 163, 3) := by decide +kernel
theorem dX12_undo_15 : decode cX12_undo 15 = .ok (.putfield 41, 3) := by decide +kernel
theorem dX12_undo_18 : decode cX12_undo 18 = .ok (.aload_n 0, 1) := by decide +kernel
theorem dX12_undo_19 : decode cX12_undo 19 = .ok (.aload_n 0, 1) := by decide +kernel
theorem dX12_undo_20 : decode cX12_undo 20 = .ok (.getfield 166, 3) := by decide +kernel
theorem dX12_undo_23 : decode cX12_undo 23 = .ok (.putfield 7, 3) := by decide +kernel
theorem dX12_undo_26 : decode cX12_undo 26 = .ok (.aload_n 0, 1) := by decide +kernel
theorem dX12_undo_27 : decode cX12_undo 27 = .ok (.aload_n 0, 1) := by decide +kernel
theorem dX12_undo_28 : decode cX12_undo 28 = .ok (.getfield 169, 3) := by decide +kernel
theorem dX12_undo_31 : decode cX12_undo 31 = .ok (.putfield 13, 3) := by decide +kernel
theorem dX12_undo_34 : decode cX12_undo 34 = .ok (.aload_n 0, 1) := by decide +kernel
theorem dX12_undo_35 : decode cX12_undo 35 = .ok (.aload_n 0, 1) := by decide +kernel
theorem dX12_undo_36 : decode cX12_undo 36 = .ok (.getfield 172, 3) := by decide +kernel
theorem dX12_undo_39 : decode cX12_undo 39 = .ok (.putfield 16, 3) := by decide +kernel
theorem dX12_undo_42 : decode cX12_undo 42 = .ok (.aload_n 0, 1) := by decide +kernel
theorem dX12_undo_43 : decode cX12_undo 43 = .ok (.aload_n 0, 1) := by decide +kernel
theorem dX12_undo_44 : decode cX12_undo 44 = .ok (.getfield 175, 3) := by decide +kernel
theorem dX12_undo_47 : decode cX12_undo 47 = .ok (.putfield 126, 3) := by decide +kernel
theorem dX12_undo_50 : decode cX12_undo 50 = .ok (.aload_n 0, 1) := by decide +kernel
theorem dX12_undo_51 : decode cX12_undo 51 = .ok (.aload_n 0, 1) := by decide +kernel
theorem dX12_undo_52 : decode cX12_undo 52 = .ok (.getfield 178, 3) := by decide +kernel
theorem dX12_undo_55 : decode cX12_undo 55 = .ok (.putfield 141, 3) := by decide +kernel
theorem dX12_undo_58 : decode cX12_undo 58 = .ok (.aload_n 0, 1) := by decide +kernel
theorem dX12_undo_59 : decode cX12_undo 59 = .ok (.aload_n 0, 1) := by decide +kernel
theorem dX12_undo_60 : decode cX12_undo 60 = .ok (.getfield 181, 3) := by decide +kernel
theorem dX12_undo_63 : decode cX12_undo 63 = .ok (.putfield 144, 3) := by decide +kernel
theorem dX12_undo_66 : decode cX12_undo 66 = .ok (.iconst 0, 1) := by decide +kernel
theorem dX12_undo_67 : decode cX12_undo 67 = .ok (.istore_n 1, 1) := by decide +kernel
theorem dX12_undo_68 : decode cX12_undo 68 = .ok (.iload_n 1, 1) := by decide +kernel
theorem dX12_undo_69 : decode cX12_undo 69 = .ok (.bipush 6, 2) := by decide +kernel
theorem dX12_undo_71 : decode cX12_undo 71 = .ok (.if_icmp .ge 33, 3) := by decide +kernel
theorem dX12_undo_74 : decode cX12_undo 74 = .ok (.aload_n 0, 1) := by decide +kernel
theorem dX12_undo_75 : decode cX12_undo 75 = .ok (.getfield 19, 3) := by decide +kernel
theorem dX12_undo_78 : decode cX12_undo 78 = .ok (.iload_n 1, 1) := by decide +kernel
theorem dX12_undo_79 : decode cX12_undo 79 = .ok (.aload_n 0, 1) := by decide +kernel
theorem dX12_undo_80 : decode cX12_undo 80 = .ok (.getfield 184, 3) := by decide +kernel
theorem dX12_undo_83 : decode cX12_undo 83 = .ok (.iload_n 1, 1) := by decide +kernel
theorem dX12_undo_84 : decode cX12_undo 84 = .ok (.iaload, 1) := by decide +kernel
theorem dX12_undo_85 : decode cX12_undo 85 = .ok (.iastore, 1) := by decide +kernel
theorem dX12_undo_86 : decode cX12_undo 86 = .ok (.aload_n 0, 1) := by decide +kernel
theorem dX12_undo_87 : decode cX12_undo 87 = .ok (.getfield 23, 3) := by decide +kernel
theorem dX12_undo_90 : decode cX12_undo 90 = .ok (.iload_n 1, 1) := by decide +kernel
theorem dX12_undo_91 : decode cX12_undo 91 = .ok (.aload_n 0, 1) := by decide +kernel
theorem dX12_undo_92 : decode cX12_undo 92 = .ok (.getfield 187, 3) := by decide +kernel
theorem dX12_undo_95 : decode cX12_undo 95 = .ok (.iload_n 1, 1) := by decide +kernel
theorem dX12_undo_96 : decode cX12_undo 96 = .ok (.iaload, 1) := by decide +kernel
theorem dX12_undo_97 : decode cX12_undo 97 = .ok (.iastore, 1) := by decide +kernel
theorem dX12_undo_98 : decode cX12_undo 98 = .ok (.iinc 1 1, 3) := by decide +kernel
theorem dX12_undo_101 : decode cX12_undo 101 = .ok (.goto (-33), 3) := by decide +kernel
theorem dX12_undo_104 : decode cX12_undo 104 = .ok (.iconst 0, 1) := by decide +kernel
theorem dX12_undo_105 : decode cX12_undo 105 = .ok (.istore_n 1, 1) := by decide +kernel
theorem dX12_undo_106 : decode cX12_undo 106 = .ok (.iload_n 1, 1) := by decide +kernel
theorem dX12_undo_107 : decode cX12_undo 107 = .ok (.bipush 30, 2) := by decide +kernel
theorem dX12_undo_109 : decode cX12_undo 109 = .ok (.if_icmp .ge 21, 3) := by decide +kernel
theorem dX12_undo_112 : decode cX12_undo 112 = .ok (.aload_n 0, 1) := by decide +kernel
theorem dX12_undo_113 : decode cX12_undo 113 = .ok (.getfield 26, 3) := by decide +kernel
theorem dX12_undo_116 : decode cX12_undo 116 = .ok (.iload_n 1, 1) := by decide +kernel
theorem dX12_undo_117 : decode cX12_undo 117 = .ok (.aload_n 0, 1) := by decide +kernel
theorem dX12_undo_118 : decode cX12_undo 118 = .ok (.getfield 190, 3) := by decide +kernel
theorem dX12_undo_121 : decode cX12_undo 121 = .ok (.iload_n 1, 1) := by decide +kernel
theorem dX12_undo_122 : decode cX12_undo 122 = .ok (.iaload, 1) := by decide +kernel
theorem dX12_undo_123 : decode cX12_undo 123 = .ok (.iastore, 1) := by decide +kernel
theorem dX12_undo_124 : decode cX12_undo 124 = .ok (.iinc 1 1, 3) := by decide +kernel
theorem dX12_undo_127 : decode cX12_undo 127 = .ok (.goto (-21), 3) := by decide +kernel
theorem dX12_undo_130 : decode cX12_undo 130 = .ok (.iconst 0, 1) := by decide +kernel
theorem dX12_undo_131 : decode cX12_undo 131 = .ok (.istore_n 1, 1) := by decide +kernel
theorem dX12_undo_132 : decode cX12_undo 132 = .ok (.iload_n 1, 1) := by decide +kernel
theorem dX12_undo_133 : decode cX12_undo 133 = .ok (.bipush 24, 2) := by decide +kernel
theorem dX12_undo_135 : decode cX12_undo 135 = .ok (.if_icmp .ge 21, 3) := by decide +kernel
theorem dX12_undo_138 : decode cX12_undo 138 = .ok (.aload_n 0, 1) := by decide +kernel
theorem dX12_undo_139 : decode cX12_undo 139 = .ok (.getfield 29, 3) := by decide +kernel
theorem dX12_undo_142 : decode cX12_undo 142 = .ok (.iload_n 1, 1) := by decide +kernel
theorem dX12_undo_143 : decode cX12_undo 143 = .ok (.aload_n 0, 1) := by decide +kernel
theorem dX12_undo_144 : decode cX12_undo 144 = .ok (.getfield 193, 3) := by decide +kernel
theorem dX12_undo_147 : decode cX12_undo 147 = .ok (.iload_n 1, 1) := by decide +kernel
theorem dX12_undo_148 : decode cX12_undo 148 = .ok (.iaload, 1) := by decide +kernel
theorem dX12_undo_149 : decode cX12_undo 149 = .ok (.iastore, 1) := by decide +kernel
theorem dX12_undo_150 : decode cX12_undo 150 = .ok (.iinc 1 1, 3) := by decide +kernel
theorem dX12_undo_153 : decode cX12_undo 153 = .ok (.goto (-21), 3) := by decide +kernel
theorem dX12_undo_156 : decode cX12_undo 156 = .ok (.iconst 0, 1) := by decide +kernel
theorem dX12_undo_157 : decode cX12_undo 157 = .ok (.istore_n 1, 1) := by decide +kernel
theorem dX12_undo_158 : decode cX12_undo 158 = .ok (.iload_n 1, 1) := by decide +kernel
theorem dX12_undo_159 : decode cX12_undo 159 = .ok (.iconst 5, 1) := by decide +kernel
theorem dX12_undo_160 : decode cX12_undo 160 = .ok (.if_icmp .ge 81, 3) := by decide +kernel
theorem dX12_undo_163 : decode cX12_undo 163 = .ok (.aload_n 0, 1) := by decide +kernel
theorem dX12_undo_164 : decode cX12_undo 164 = .ok (.getfield 32, 3) := by decide +kernel
theorem dX12_undo_167 : decode cX12_undo 167 = .ok (.iload_n 1, 1) := by decide +kernel
theorem dX12_undo_168 : decode cX12_undo 168 = .ok (.aload_n 0, 1) := by decide +kernel
theorem dX12_undo_169 : decode cX12_undo 169 = .ok (.getfield 196, 3) := by decide +kernel
theorem dX12_undo_172 : decode cX12_undo 172 = .ok (.iload_n 1, 1) := by decide +kernel
theorem dX12_undo_173 : decode cX12_undo 173 = .ok (.iaload, 1) := by decide +kernel
theorem dX12_undo_174 : decode cX12_undo 174 = .ok (.iastore, 1) := by decide +kernel
theorem dX12_undo_175 : decode cX12_undo 175 = .ok (.aload_n 0, 1) := by decide +kernel
theorem dX12_undo_176 : decode cX12_undo 176 = .ok (.getfield 35, 3) := by decide +kernel
theorem dX12_undo_179 : decode cX12_undo 179 = .ok (.iload_n 1, 1) := by decide +kernel
theorem dX12_undo_180 : decode cX12_undo 180 = .ok (.aload_n 0, 1) := by decide +kernel
theorem dX12_undo_181 : decode cX12_undo 181 = .ok (.getfield 199, 3) := by decide +kernel
theorem dX12_undo_184 : decode cX12_undo 184 = .ok (.iload_n 1, 1) := by decide +kernel
theorem dX12_undo_185 : decode cX12_undo 185 = .ok (.iaload, 1) := by decide +kernel
theorem dX12_undo_186 : decode cX12_undo 186 = .ok (.iastore, 1) := by decide +kernel
theorem dX12_undo_187 : decode cX12_undo 187 = .ok (.aload_n 0, 1) := by decide +kernel
theorem dX12_undo_188 : decode cX12_undo 188 = .ok (.getfield 129, 3) := by decide +kernel
theorem dX12_undo_191 : decode cX12_undo 191 = .ok (.iload_n 1, 1) := by decide +kernel
theorem dX12_undo_192 : decode cX12_undo 192 = .ok (.aload_n 0, 1) := by decide +kernel
theorem dX12_undo_193 : decode cX12_undo 193 = .ok (.getfield 202, 3) := by decide +kernel
theorem dX12_undo_196 : decode cX12_undo 196 = .ok (.iload_n 1, 1) := by decide +kernel
theorem dX12_undo_197 : decode cX12_undo 197 = .ok (.iaload, 1) := by decide +kernel
theorem dX12_undo_198 : decode cX12_undo 198 = .ok (.iastore, 1) := by decide +kernel
theorem dX12_undo_199 : decode cX12_undo 199 = .ok (.aload_n 0, 1) := by decide +kernel
theorem dX12_undo_200 : decode cX12_undo 200 = .ok (.getfield 132, 3) := by decide +kernel
theorem dX12_undo_203 : decode cX12_undo 203 = .ok (.iload_n 1, 1) := by decide +kernel
theorem dX12_undo_204 : decode cX12_undo 204 = .ok (.aload_n 0, 1) := by decide +kernel
theorem dX12_undo_205 : decode cX12_undo 205 = .ok (.getfield 205, 3) := by decide +kernel
theorem dX12_undo_208 : decode cX12_undo 208 = .ok (.iload_n 1, 1) := by decide +kernel
theorem dX12_undo_209 : decode cX12_undo 209 = .ok (.iaload, 1) := by decide +kernel
theorem dX12_undo_210 : decode cX12_undo 210 = .ok (.iastore, 1) := by decide +kernel
theorem dX12_undo_211 : decode cX12_undo 211 = .ok (.aload_n 0, 1) := by decide +kernel
theorem dX12_undo_212 : decode cX12_undo 212 = .ok (.getfield 135, 3) := by decide +kernel
theorem dX12_undo_215 : decode cX12_undo 215 = .ok (.iload_n 1, 1) := by decide +kernel
theorem dX12_undo_216 : decode cX12_undo 216 = .ok (.aload_n 0, 1) := by decide +kernel
theorem dX12_undo_217 : decode cX12_undo 217 = .ok (.getfield 208, 3) := by decide +kernel
theorem dX12_undo_220 : decode cX12_undo 220 = .ok (.iload_n 1, 1) := by decide +kernel
theorem dX12_undo_221 : decode cX12_undo 221 = .ok (.iaload, 1) := by decide +kernel
theorem dX12_undo_222 : decode cX12_undo 222 = .ok (.iastore, 1) := by decide +kernel
theorem dX12_undo_223 : decode cX12_undo 223 = .ok (.aload_n 0, 1) := by decide +kernel
theorem dX12_undo_224 : decode cX12_undo 224 = .ok (.getfield 138, 3) := by decide +kernel
theorem dX12_undo_227 : decode cX12_undo 227 = .ok (.iload_n 1, 1) := by decide +kernel
theorem dX12_undo_228 : decode cX12_undo 228 = .ok (.aload_n 0, 1) := by decide +kernel
theorem dX12_undo_229 : decode cX12_undo 229 = .ok (.getfield 223, 3) := by decide +kernel
theorem dX12_undo_232 : decode cX12_undo 232 = .ok (.iload_n 1, 1) := by decide +kernel
theorem dX12_undo_233 : decode cX12_undo 233 = .ok (.baload, 1) := by decide +kernel
theorem dX12_undo_234 : decode cX12_undo 234 = .ok (.bastore, 1) := by decide +kernel
theorem dX12_undo_235 : decode cX12_undo 235 = .ok (.iinc 1 1, 3) := by decide +kernel
theorem dX12_undo_238 : decode cX12_undo 238 = .ok (.goto (-80), 3) := by decide +kernel
theorem dX12_undo_241 : decode cX12_undo 241 = .ok (.iconst 0, 1) := by decide +kernel
theorem dX12_undo_242 : decode cX12_undo 242 = .ok (.istore_n 1, 1) := by decide +kernel
theorem dX12_undo_243 : decode cX12_undo 243 = .ok (.iload_n 1, 1) := by decide +kernel
theorem dX12_undo_244 : decode cX12_undo 244 = .ok (.bipush 10, 2) := by decide +kernel
theorem dX12_undo_246 : decode cX12_undo 246 = .ok (.if_icmp .ge 33, 3) := by decide +kernel
theorem dX12_undo_249 : decode cX12_undo 249 = .ok (.aload_n 0, 1) := by decide +kernel
theorem dX12_undo_250 : decode cX12_undo 250 = .ok (.getfield 147, 3) := by decide +kernel
theorem dX12_undo_253 : decode cX12_undo 253 = .ok (.iload_n 1, 1) := by decide +kernel
theorem dX12_undo_254 : decode cX12_undo 254 = .ok (.aload_n 0, 1) := by decide +kernel
theorem dX12_undo_255 : decode cX12_undo 255 = .ok (.getfield 211, 3) := by decide +kernel
theorem dX12_undo_258 : decode cX12_undo 258 = .ok (.iload_n 1, 1) := by decide +kernel
theorem dX12_undo_259 : decode cX12_undo 259 = .ok (.iaload, 1) := by decide +kernel
theorem dX12_undo_260 : decode cX12_undo 260 = .ok (.iastore, 1) := by decide +kernel
theorem dX12_undo_261 : decode cX12_undo 261 = .ok (.aload_n 0, 1) := by decide +kernel
theorem dX12_undo_262 : decode cX12_undo 262 = .ok (.getfield 150, 3) := by decide +kernel
theorem dX12_undo_265 : decode cX12_undo 265 = .ok (.iload_n 1, 1) := by decide +kernel
theorem dX12_undo_266 : decode cX12_undo 266 = .ok (.aload_n 0, 1) := by decide +kernel
theorem dX12_undo_267 : decode cX12_undo 267 = .ok (.getfield 214, 3) := by decide +kernel
theorem dX12_undo_270 : decode cX12_undo 270 = .ok (.iload_n 1, 1) := by decide +kernel
theorem dX12_undo_271 : decode cX12_undo 271 = .ok (.iaload, 1) := by decide +kernel
theorem dX12_undo_272 : decode cX12_undo 272 = .ok (.iastore, 1) := by decide +kernel
theorem dX12_undo_273 : decode cX12_undo 273 = .ok (.iinc 1 1, 3) := by decide +kernel
theorem dX12_undo_276 : decode cX12_undo 276 = .ok (.goto (-33), 3) := by decide +kernel
theorem dX12_undo_279 : decode cX12_undo 279 = .ok (.iconst 0, 1) := by decide +kernel
theorem dX12_undo_280 : decode cX12_undo 280 = .ok (.istore_n 1, 1) := by decide +kernel
theorem dX12_undo_281 : decode cX12_undo 281 = .ok (.iload_n 1, 1) := by decide +kernel
theorem dX12_undo_282 : decode cX12_undo 282 = .ok (.bipush 8, 2) := by decide +kernel
theorem dX12_undo_284 : decode cX12_undo 284 = .ok (.if_icmp .ge 33, 3) := by decide +kernel
theorem dX12_undo_287 : decode cX12_undo 287 = .ok (.aload_n 0, 1) := by decide +kernel
theorem dX12_undo_288 : decode cX12_undo 288 = .ok (.getfield 153, 3) := by decide +kernel
theorem dX12_undo_291 : decode cX12_undo 291 = .ok (.iload_n 1, 1) := by decide +kernel
theorem dX12_undo_292 : decode cX12_undo 292 = .ok (.aload_n 0, 1) := by decide +kernel
theorem dX12_undo_293 : decode cX12_undo 293 = .ok (.getfield 217, 3) := by decide +kernel
theorem dX12_undo_296 : decode cX12_undo 296 = .ok (.iload_n 1, 1) := by decide +kernel
theorem dX12_undo_297 : decode cX12_undo 297 = .ok (.iaload, 1) := by decide +kernel
theorem dX12_undo_298 : decode cX12_undo 298 = .ok (.iastore, 1) := by decide +kernel
theorem dX12_undo_299 : decode cX12_undo 299 = .ok (.aload_n 0, 1) := by decide +kernel
theorem dX12_undo_300 : decode cX12_undo 300 = .ok (.getfield 156, 3) := by decide +kernel
theorem dX12_undo_303 : decode cX12_undo 303 = .ok (.iload_n 1, 1) := by decide +kernel
theorem dX12_undo_304 : decode cX12_undo 304 = .ok (.aload_n 0, 1) := by decide +kernel
theorem dX12_undo_305 : decode cX12_undo 305 = .ok (.getfield 220, 3) := by decide +kernel
theorem dX12_undo_308 : decode cX12_undo 308 = .ok (.iload_n 1, 1) := by decide +kernel
theorem dX12_undo_309 : decode cX12_undo 309 = .ok (.iaload, 1) := by decide +kernel
theorem dX12_undo_310 : decode cX12_undo 310 = .ok (.iastore, 1) := by decide +kernel
theorem dX12_undo_311 : decode cX12_undo 311 = .ok (.iinc 1 1, 3) := by decide +kernel
theorem dX12_undo_314 : decode cX12_undo 314 = .ok (.goto (-33), 3) := by decide +kernel
theorem dX12_undo_317 : decode cX12_undo 317 = .ok (.aload_n 0, 1) := by decide +kernel
theorem dX12_undo_318 : decode cX12_undo 318 = .ok (.getfield 7, 3) := by decide +kernel
theorem dX12_undo_321 : decode cX12_undo 321 = .ok (.ireturn, 1) := by decide +kernel
theorem dX12_body_0 : decode cX12_body 0 = .ok (.aload_n 0, 1) := by decide +kernel
theorem dX12_body_1 : decode cX12_body 1 = .ok (.getfield 226, 3) := by decide +kernel
theorem dX12_body_4 : decode cX12_body 4 = .ok (.bipush 20, 2) := by decide +kernel
theorem dX12_body_6 : decode cX12_body 6 = .ok (.if_icmp .ge 13, 3) := by decide +kernel
theorem dX12_body_9 : decode cX12_body 9 = .ok (.aload_n 0, 1) := by decide +kernel
theorem dX12_body_10 : decode cX12_body 10 = .ok (.getfield 229, 3) := by decide +kernel
theorem dX12_body_13 : decode cX12_body 13 = .ok (.aload_n 0, 1) := by decide +kernel
theorem dX12_body_14 : decode cX12_body 14 = .ok (.getfield 226, 3) := by decide +kernel
theorem dX12_body_17 : decode cX12_body 17 = .ok (.iload_n 1, 1) := by decide +kernel
theorem dX12_body_18 : decode cX12_body 18 = .ok (.iastore, 1) := by decide +kernel
theorem dX12_body_19 : decode cX12_body 19 = .ok (.aload_n 0, 1) := by decide +kernel
theorem dX12_body_20 : decode cX12_body 20 = .ok (.dup, 1) := by decide +kernel
theorem dX12_body_21 : decode cX12_body 21 = .ok (.getfield 226, 3) := by decide +kernel
theorem dX12_body_24 : decode cX12_body 24 = .ok (.iconst 1, 1) := by decide +kernel
theorem dX12_body_25 : decode cX12_body 25 = .ok (.iadd, 1) := by decide +kernel
theorem dX12_body_26 : decode cX12_body 26 = .ok (.putfield 226, 3) := by decide +kernel
theorem dX12_body_29 : decode cX12_body 29 = .ok (.return_, 1) := by decide +kernel
theorem dX12_haterSings_0 : decode cX12_haterSings 0 = .ok (.aload_n 0, 1) := by decide +kernel
theorem dX12_haterSings_1 : decode cX12_haterSings 1 = .ok (.bipush 10, 2) := by decide +kernel
theorem dX12_haterSings_3 : decode cX12_haterSings 3 = .ok (.invokevirtual 427, 3) := by decide +kernel
theorem dX12_haterSings_6 : decode cX12_haterSings 6 = .ok (.iload_n 2, 1) := by decide +kernel
theorem dX12_haterSings_7 : decode cX12_haterSings 7 = .ok (.iload_n 1, 1) := by decide +kernel
theorem dX12_haterSings_8 : decode cX12_haterSings 8 = .ok (.iadd, 1) := by decide +kernel
theorem dX12_haterSings_9 : decode cX12_haterSings 9 = .ok (.ireturn, 1) := by decide +kernel
theorem dX12_singsAct_0 : decode cX12_singsAct 0 = .ok (.aload_n 0, 1) := by decide +kernel
theorem dX12_singsAct_1 : decode cX12_singsAct 1 = .ok (.getfield 19, 3) := by decide +kernel
theorem dX12_singsAct_4 : decode cX12_singsAct 4 = .ok (.iload_n 1, 1) := by decide +kernel
theorem dX12_singsAct_5 : decode cX12_singsAct 5 = .ok (.iaload, 1) := by decide +kernel
theorem dX12_singsAct_6 : decode cX12_singsAct 6 = .ok (.tableswitch 83 2 6 #[34, 83, 49, 34, 63], 34) := by decide +kernel
theorem dX12_singsAct_40 : decode cX12_singsAct 40 = .ok (.aload_n 0, 1) := by decide +kernel
theorem dX12_singsAct_41 : decode cX12_singsAct 41 = .ok (.bipush 30, 2) := by decide +kernel
theorem dX12_singsAct_43 : decode cX12_singsAct 43 = .ok (.invokevirtual 427, 3) := by decide +kernel
theorem dX12_singsAct_46 : decode cX12_singsAct 46 = .ok (.aload_n 0, 1) := by decide +kernel
theorem dX12_singsAct_47 : decode cX12_singsAct 47 = .ok (.iload_n 1, 1) := by decide +kernel
theorem dX12_singsAct_48 : decode cX12_singsAct 48 = .ok (.iload_n 2, 1) := by decide +kernel
theorem dX12_singsAct_49 : decode cX12_singsAct 49 = .ok (.iconst 3, 1) := by decide +kernel
theorem dX12_singsAct_50 : decode cX12_singsAct 50 = .ok (.imul, 1) := by decide +kernel
theorem dX12_singsAct_51 : decode cX12_singsAct 51 = .ok (.invokevirtual 430, 3) := by decide +kernel
theorem dX12_singsAct_54 : decode cX12_singsAct 54 = .ok (.ireturn, 1) := by decide +kernel
theorem dX12_singsAct_55 : decode cX12_singsAct 55 = .ok (.aload_n 0, 1) := by decide +kernel
theorem dX12_singsAct_56 : decode cX12_singsAct 56 = .ok (.bipush 50, 2) := by decide +kernel
theorem dX12_singsAct_58 : decode cX12_singsAct 58 = .ok (.invokevirtual 427, 3) := by decide +kernel
theorem dX12_singsAct_61 : decode cX12_singsAct 61 = .ok (.aload_n 0, 1) := by decide +kernel
theorem dX12_singsAct_62 : decode cX12_singsAct 62 = .ok (.iload_n 1, 1) := by decide +kernel
theorem dX12_singsAct_63 : decode cX12_singsAct 63 = .ok (.iload_n 2, 1) := by decide +kernel
theorem dX12_singsAct_64 : decode cX12_singsAct 64 = .ok (.invokevirtual 430, 3) := by decide +kernel
theorem dX12_singsAct_67 : decode cX12_singsAct 67 = .ok (.ineg, 1) := by decide +kernel
theorem dX12_singsAct_68 : decode cX12_singsAct 68 = .ok (.ireturn, 1) := by decide +kernel
theorem dX12_singsAct_69 : decode cX12_singsAct 69 = .ok (.aload_n 0, 1) := by decide +kernel
theorem dX12_singsAct_70 : decode cX12_singsAct 70 = .ok (.bipush 71, 2) := by decide +kernel
theorem dX12_singsAct_72 : decode cX12_singsAct 72 = .ok (.invokevirtual 427, 3) := by decide +kernel
theorem dX12_singsAct_75 : decode cX12_singsAct 75 = .ok (.aload_n 0, 1) := by decide +kernel
theorem dX12_singsAct_76 : decode cX12_singsAct 76 = .ok (.iload_n 1, 1) := by decide +kernel
theorem dX12_singsAct_77 : decode cX12_singsAct 77 = .ok (.iload_n 2, 1) := by decide +kernel
theorem dX12_singsAct_78 : decode cX12_singsAct 78 = .ok (.invokevirtual 430, 3) := by decide +kernel
theorem dX12_singsAct_81 : decode cX12_singsAct 81 = .ok (.aload_n 0, 1) := by decide +kernel
theorem dX12_singsAct_82 : decode cX12_singsAct 82 = .ok (.getfield 23, 3) := by decide +kernel
theorem dX12_singsAct_85 : decode cX12_singsAct 85 = .ok (.iload_n 1, 1) := by decide +kernel
theorem dX12_singsAct_86 : decode cX12_singsAct 86 = .ok (.iaload, 1) := by decide +kernel
theorem dX12_singsAct_87 : decode cX12_singsAct 87 = .ok (.ixor, 1) := by decide +kernel
theorem dX12_singsAct_88 : decode cX12_singsAct 88 = .ok (.ireturn, 1) := by decide +kernel
theorem dX12_singsAct_89 : decode cX12_singsAct 89 = .ok (.aload_n 0, 1) := by decide +kernel
theorem dX12_singsAct_90 : decode cX12_singsAct 90 = .ok (.iload_n 1, 1) := by decide +kernel
theorem dX12_singsAct_91 : decode cX12_singsAct 91 = .ok (.iload_n 2, 1) := by decide +kernel
theorem dX12_singsAct_92 : decode cX12_singsAct 92 = .ok (.invokevirtual 430, 3) := by decide +kernel
theorem dX12_singsAct_95 : decode cX12_singsAct 95 = .ok (.ireturn, 1) := by decide +kernel
theorem dX12_haterSpits_0 : decode cX12_haterSpits 0 = .ok (.aload_n 0, 1) := by decide +kernel
theorem dX12_haterSpits_1 : decode cX12_haterSpits 1 = .ok (.bipush 11, 2) := by decide +kernel
theorem dX12_haterSpits_3 : decode cX12_haterSpits 3 = .ok (.invokevirtual 427, 3) := by decide +kernel
theorem dX12_haterSpits_6 : decode cX12_haterSpits 6 = .ok (.aload_n 0, 1) := by decide +kernel
theorem dX12_haterSpits_7 : decode cX12_haterSpits 7 = .ok (.iload_n 1, 1) := by decide +kernel
theorem dX12_haterSpits_8 : decode cX12_haterSpits 8 = .ok (.iload_n 2, 1) := by decide +kernel
theorem dX12_haterSpits_9 : decode cX12_haterSpits 9 = .ok (.invokevirtual 433, 3) := by decide +kernel
theorem dX12_haterSpits_12 : decode cX12_haterSpits 12 = .ok (.aload_n 0, 1) := by decide +kernel
theorem dX12_haterSpits_13 : decode cX12_haterSpits 13 = .ok (.getfield 23, 3) := by decide +kernel
theorem dX12_haterSpits_16 : decode cX12_haterSpits 16 = .ok (.iload_n 1, 1) := by decide +kernel
theorem dX12_haterSpits_17 : decode cX12_haterSpits 17 = .ok (.iaload, 1) := by decide +kernel
theorem dX12_haterSpits_18 : decode cX12_haterSpits 18 = .ok (.isub, 1) := by decide +kernel
theorem dX12_haterSpits_19 : decode cX12_haterSpits 19 = .ok (.ireturn, 1) := by decide +kernel
theorem dX12_uncleSpits_0 : decode cX12_uncleSpits 0 = .ok (.aload_n 0, 1) := by decide +kernel
theorem dX12_uncleSpits_1 : decode cX12_uncleSpits 1 = .ok (.bipush 20, 2) := by decide +kernel
theorem dX12_uncleSpits_3 : decode cX12_uncleSpits 3 = .ok (.invokevirtual 427, 3) := by decide +kernel
theorem dX12_uncleSpits_6 : decode cX12_uncleSpits 6 = .ok (.aload_n 0, 1) := by decide +kernel
theorem dX12_uncleSpits_7 : decode cX12_uncleSpits 7 = .ok (.iload_n 1, 1) := by decide +kernel
theorem dX12_uncleSpits_8 : decode cX12_uncleSpits 8 = .ok (.iload_n 2, 1) := by decide +kernel
theorem dX12_uncleSpits_9 : decode cX12_uncleSpits 9 = .ok (.invokevirtual 436, 3) := by decide +kernel
theorem dX12_uncleSpits_12 : decode cX12_uncleSpits 12 = .ok (.bipush 6, 2) := by decide +kernel
theorem dX12_uncleSpits_14 : decode cX12_uncleSpits 14 = .ok (.ixor, 1) := by decide +kernel
theorem dX12_uncleSpits_15 : decode cX12_uncleSpits 15 = .ok (.ireturn, 1) := by decide +kernel
theorem dX12_spitsAct_0 : decode cX12_spitsAct 0 = .ok (.aload_n 0, 1) := by decide +kernel
theorem dX12_spitsAct_1 : decode cX12_spitsAct 1 = .ok (.getfield 19, 3) := by decide +kernel
theorem dX12_spitsAct_4 : decode cX12_spitsAct 4 = .ok (.iload_n 1, 1) := by decide +kernel
theorem dX12_spitsAct_5 : decode cX12_spitsAct 5 = .ok (.iaload, 1) := by decide +kernel
theorem dX12_spitsAct_6 : decode cX12_spitsAct 6 = .ok (.lookupswitch 78 #[(1, 34), (4, 41), (6, 56)], 34) := by decide +kernel
theorem dX12_spitsAct_40 : decode cX12_spitsAct 40 = .ok (.aload_n 0, 1) := by decide +kernel
theorem dX12_spitsAct_41 : decode cX12_spitsAct 41 = .ok (.iload_n 1, 1) := by decide +kernel
theorem dX12_spitsAct_42 : decode cX12_spitsAct 42 = .ok (.iload_n 2, 1) := by decide +kernel
theorem dX12_spitsAct_43 : decode cX12_spitsAct 43 = .ok (.invokevirtual 439, 3) := by decide +kernel
theorem dX12_spitsAct_46 : decode cX12_spitsAct 46 = .ok (.ireturn, 1) := by decide +kernel
theorem dX12_spitsAct_47 : decode cX12_spitsAct 47 = .ok (.aload_n 0, 1) := by decide +kernel
theorem dX12_spitsAct_48 : decode cX12_spitsAct 48 = .ok (.bipush 51, 2) := by decide +kernel
theorem dX12_spitsAct_50 : decode cX12_spitsAct 50 = .ok (.invokevirtual 427, 3) := by decide +kernel
theorem dX12_spitsAct_53 : decode cX12_spitsAct 53 = .ok (.aload_n 0, 1) := by decide +kernel
theorem dX12_spitsAct_54 : decode cX12_spitsAct 54 = .ok (.iload_n 1, 1) := by decide +kernel
theorem dX12_spitsAct_55 : decode cX12_spitsAct 55 = .ok (.iload_n 2, 1) := by decide +kernel
theorem dX12_spitsAct_56 : decode cX12_spitsAct 56 = .ok (.iconst 1, 1) := by decide +kernel
theorem dX12_spitsAct_57 : decode cX12_spitsAct 57 = .ok (.iadd, 1) := by decide +kernel
theorem dX12_spitsAct_58 : decode cX12_spitsAct 58 = .ok (.invokevirtual 439, 3) := by decide +kernel
theorem dX12_spitsAct_61 : decode cX12_spitsAct 61 = .ok (.ireturn, 1) := by decide +kernel
theorem dX12_spitsAct_62 : decode cX12_spitsAct 62 = .ok (.aload_n 0, 1) := by decide +kernel
theorem dX12_spitsAct_63 : decode cX12_spitsAct 63 = .ok (.bipush 70, 2) := by decide +kernel
theorem dX12_spitsAct_65 : decode cX12_spitsAct 65 = .ok (.invokevirtual 427, 3) := by decide +kernel
theorem dX12_spitsAct_68 : decode cX12_spitsAct 68 = .ok (.aload_n 0, 1) := by decide +kernel
theorem dX12_spitsAct_69 : decode cX12_spitsAct 69 = .ok (.iload_n 1, 1) := by decide +kernel
theorem dX12_spitsAct_70 : decode cX12_spitsAct 70 = .ok (.iload_n 2, 1) := by decide +kernel
theorem dX12_spitsAct_71 : decode cX12_spitsAct 71 = .ok (.invokevirtual 436, 3) := by decide +kernel
theorem dX12_spitsAct_74 : decode cX12_spitsAct 74 = .ok (.istore_n 3, 1) := by decide +kernel
theorem dX12_spitsAct_75 : decode cX12_spitsAct 75 = .ok (.iload_n 3, 1) := by decide +kernel
theorem dX12_spitsAct_76 : decode cX12_spitsAct 76 = .ok (.aload_n 0, 1) := by decide +kernel
theorem dX12_spitsAct_77 : decode cX12_spitsAct 77 = .ok (.iload_n 1, 1) := by decide +kernel
theorem dX12_spitsAct_78 : decode cX12_spitsAct 78 = .ok (.iconst 2, 1) := by decide +kernel
theorem dX12_spitsAct_79 : decode cX12_spitsAct 79 = .ok (.invokevirtual 430, 3) := by decide +kernel
theorem dX12_spitsAct_82 : decode cX12_spitsAct 82 = .ok (.iadd, 1) := by decide +kernel
theorem dX12_spitsAct_83 : decode cX12_spitsAct 83 = .ok (.ireturn, 1) := by decide +kernel
theorem dX12_spitsAct_84 : decode cX12_spitsAct 84 = .ok (.aload_n 0, 1) := by decide +kernel
theorem dX12_spitsAct_85 : decode cX12_spitsAct 85 = .ok (.iload_n 1, 1) := by decide +kernel
theorem dX12_spitsAct_86 : decode cX12_spitsAct 86 = .ok (.iload_n 2, 1) := by decide +kernel
theorem dX12_spitsAct_87 : decode cX12_spitsAct 87 = .ok (.invokevirtual 436, 3) := by decide +kernel
theorem dX12_spitsAct_90 : decode cX12_spitsAct 90 = .ok (.ireturn, 1) := by decide +kernel
theorem dX12_haterTells_0 : decode cX12_haterTells 0 = .ok (.aload_n 0, 1) := by decide +kernel
theorem dX12_haterTells_1 : decode cX12_haterTells 1 = .ok (.bipush 12, 2) := by decide +kernel
theorem dX12_haterTells_3 : decode cX12_haterTells 3 = .ok (.invokevirtual 427, 3) := by decide +kernel
theorem dX12_haterTells_6 : decode cX12_haterTells 6 = .ok (.aload_n 0, 1) := by decide +kernel
theorem dX12_haterTells_7 : decode cX12_haterTells 7 = .ok (.iload_n 1, 1) := by decide +kernel
theorem dX12_haterTells_8 : decode cX12_haterTells 8 = .ok (.iload_n 2, 1) := by decide +kernel
theorem dX12_haterTells_9 : decode cX12_haterTells 9 = .ok (.invokevirtual 442, 3) := by decide +kernel
theorem dX12_haterTells_12 : decode cX12_haterTells 12 = .ok (.iconst 2, 1) := by decide +kernel
theorem dX12_haterTells_13 : decode cX12_haterTells 13 = .ok (.imul, 1) := by decide +kernel
theorem dX12_haterTells_14 : decode cX12_haterTells 14 = .ok (.ireturn, 1) := by decide +kernel
theorem dX12_tellsAct_0 : decode cX12_tellsAct 0 = .ok (.aload_n 0, 1) := by decide +kernel
theorem dX12_tellsAct_1 : decode cX12_tellsAct 1 = .ok (.getfield 19, 3) := by decide +kernel
theorem dX12_tellsAct_4 : decode cX12_tellsAct 4 = .ok (.iload_n 1, 1) := by decide +kernel
theorem dX12_tellsAct_5 : decode cX12_tellsAct 5 = .ok (.iaload, 1) := by decide +kernel
theorem dX12_tellsAct_6 : decode cX12_tellsAct 6 = .ok (.tableswitch 67 3 6 #[30, 67, 52, 30], 30) := by decide +kernel
theorem dX12_tellsAct_36 : decode cX12_tellsAct 36 = .ok (.aload_n 0, 1) := by decide +kernel
theorem dX12_tellsAct_37 : decode cX12_tellsAct 37 = .ok (.bipush 40, 2) := by decide +kernel
theorem dX12_tellsAct_39 : decode cX12_tellsAct 39 = .ok (.invokevirtual 427, 3) := by decide +kernel
theorem dX12_tellsAct_42 : decode cX12_tellsAct 42 = .ok (.aload_n 0, 1) := by decide +kernel
theorem dX12_tellsAct_43 : decode cX12_tellsAct 43 = .ok (.iload_n 1, 1) := by decide +kernel
theorem dX12_tellsAct_44 : decode cX12_tellsAct 44 = .ok (.iload_n 2, 1) := by decide +kernel
theorem dX12_tellsAct_45 : decode cX12_tellsAct 45 = .ok (.invokevirtual 445, 3) := by decide +kernel
theorem dX12_tellsAct_48 : decode cX12_tellsAct 48 = .ok (.istore_n 3, 1) := by decide +kernel
theorem dX12_tellsAct_49 : decode cX12_tellsAct 49 = .ok (.iload_n 3, 1) := by decide +kernel
theorem dX12_tellsAct_50 : decode cX12_tellsAct 50 = .ok (.aload_n 0, 1) := by decide +kernel
theorem dX12_tellsAct_51 : decode cX12_tellsAct 51 = .ok (.iload_n 1, 1) := by decide +kernel
theorem dX12_tellsAct_52 : decode cX12_tellsAct 52 = .ok (.iconst 1, 1) := by decide +kernel
theorem dX12_tellsAct_53 : decode cX12_tellsAct 53 = .ok (.invokevirtual 442, 3) := by decide +kernel
theorem dX12_tellsAct_56 : decode cX12_tellsAct 56 = .ok (.iadd, 1) := by decide +kernel
theorem dX12_tellsAct_57 : decode cX12_tellsAct 57 = .ok (.ireturn, 1) := by decide +kernel
theorem dX12_tellsAct_58 : decode cX12_tellsAct 58 = .ok (.aload_n 0, 1) := by decide +kernel
theorem dX12_tellsAct_59 : decode cX12_tellsAct 59 = .ok (.bipush 60, 2) := by decide +kernel
theorem dX12_tellsAct_61 : decode cX12_tellsAct 61 = .ok (.invokevirtual 427, 3) := by decide +kernel
theorem dX12_tellsAct_64 : decode cX12_tellsAct 64 = .ok (.aload_n 0, 1) := by decide +kernel
theorem dX12_tellsAct_65 : decode cX12_tellsAct 65 = .ok (.iload_n 1, 1) := by decide +kernel
theorem dX12_tellsAct_66 : decode cX12_tellsAct 66 = .ok (.iload_n 2, 1) := by decide +kernel
theorem dX12_tellsAct_67 : decode cX12_tellsAct 67 = .ok (.iload_n 1, 1) := by decide +kernel
theorem dX12_tellsAct_68 : decode cX12_tellsAct 68 = .ok (.isub, 1) := by decide +kernel
theorem dX12_tellsAct_69 : decode cX12_tellsAct 69 = .ok (.invokevirtual 445, 3) := by decide +kernel
theorem dX12_tellsAct_72 : decode cX12_tellsAct 72 = .ok (.ireturn, 1) := by decide +kernel
theorem dX12_tellsAct_73 : decode cX12_tellsAct 73 = .ok (.aload_n 0, 1) := by decide +kernel
theorem dX12_tellsAct_74 : decode cX12_tellsAct 74 = .ok (.iload_n 1, 1) := by decide +kernel
theorem dX12_tellsAct_75 : decode cX12_tellsAct 75 = .ok (.iload_n 2, 1) := by decide +kernel
theorem dX12_tellsAct_76 : decode cX12_tellsAct 76 = .ok (.invokevirtual 445, 3) := by decide +kernel
theorem dX12_tellsAct_79 : decode cX12_tellsAct 79 = .ok (.ireturn, 1) := by decide +kernel
theorem dX12_act_0 : decode cX12_act 0 = .ok (.aload_n 0, 1) := by decide +kernel
theorem dX12_act_1 : decode cX12_act 1 = .ok (.iconst 0, 1) := by decide +kernel
theorem dX12_act_2 : decode cX12_act 2 = .ok (.putfield 226, 3) := by decide +kernel
theorem dX12_act_5 : decode cX12_act 5 = .ok (.aload_n 0, 1) := by decide +kernel
theorem dX12_act_6 : decode cX12_act 6 = .ok (.iload_n 1, 1) := by decide +kernel
theorem dX12_act_7 : decode cX12_act 7 = .ok (.invokevirtual 253, 3) := by decide +kernel
theorem dX12_act_10 : decode cX12_act 10 = .ok (.ifCond .eq 13, 3) := by decide +kernel
theorem dX12_act_13 : decode cX12_act 13 = .ok (.aload_n 0, 1) := by decide +kernel
theorem dX12_act_14 : decode cX12_act 14 = .ok (.iload_n 2, 1) := by decide +kernel
theorem dX12_act_15 : decode cX12_act 15 = .ok (.iconst 0, 1) := by decide +kernel
theorem dX12_act_16 : decode cX12_act 16 = .ok (.iconst 2, 1) := by decide +kernel
theorem dX12_act_17 : decode cX12_act 17 = .ok (.invokevirtual 245, 3) := by decide +kernel
theorem dX12_act_20 : decode cX12_act 20 = .ok (.ifCond .ne 5, 3) := by decide +kernel
theorem dX12_act_23 : decode cX12_act 23 = .ok (.iconst 0, 1) := by decide +kernel
theorem dX12_act_24 : decode cX12_act 24 = .ok (.ireturn, 1) := by decide +kernel
theorem dX12_act_25 : decode cX12_act 25 = .ok (.iload_n 2, 1) := by decide +kernel
theorem dX12_act_26 : decode cX12_act 26 = .ok (.ifCond .ne 12, 3) := by decide +kernel
theorem dX12_act_29 : decode cX12_act 29 = .ok (.aload_n 0, 1) := by decide +kernel
theorem dX12_act_30 : decode cX12_act 30 = .ok (.iload_n 1, 1) := by decide +kernel
theorem dX12_act_31 : decode cX12_act 31 = .ok (.iload_n 3, 1) := by decide +kernel
theorem dX12_act_32 : decode cX12_act 32 = .ok (.invokevirtual 433, 3) := by decide +kernel
theorem dX12_act_35 : decode cX12_act 35 = .ok (.goto 23, 3) := by decide +kernel
theorem dX12_act_38 : decode cX12_act 38 = .ok (.iload_n 2, 1) := by decide +kernel
theorem dX12_act_39 : decode cX12_act 39 = .ok (.iconst 1, 1) := by decide +kernel
theorem dX12_act_40 : decode cX12_act 40 = .ok (.if_icmp .ne 12, 3) := by decide +kernel
theorem dX12_act_43 : decode cX12_act 43 = .ok (.aload_n 0, 1) := by decide +kernel
theorem dX12_act_44 : decode cX12_act 44 = .ok (.iload_n 1, 1) := by decide +kernel
theorem dX12_act_45 : decode cX12_act 45 = .ok (.iload_n 3, 1) := by decide +kernel
theorem dX12_act_46 : decode cX12_act 46 = .ok (.invokevirtual 442, 3) := by decide +kernel
theorem dX12_act_49 : decode cX12_act 49 = .ok (.goto 9, 3) := by decide +kernel
theorem dX12_act_52 : decode cX12_act 52 = .ok (.aload_n 0, 1) := by decide +kernel
theorem dX12_act_53 : decode cX12_act 53 = .ok (.iload_n 1, 1) := by decide +kernel
theorem dX12_act_54 : decode cX12_act 54 = .ok (.iload_n 3, 1) := by decide +kernel
theorem dX12_act_55 : decode cX12_act 55 = .ok (.invokevirtual 448, 3) := by decide +kernel
theorem dX12_act_58 : decode cX12_act 58 = .ok (.ireturn, 1) := by decide +kernel
theorem dX12_trace_0 : decode cX12_trace 0 = .ok (.aload_n 0, 1) := by decide +kernel
theorem dX12_trace_1 : decode cX12_trace 1 = .ok (.iload_n 1, 1) := by decide +kernel
theorem dX12_trace_2 : decode cX12_trace 2 = .ok (.iconst 0, 1) := by decide +kernel
theorem dX12_trace_3 : decode cX12_trace 3 = .ok (.bipush 19, 2) := by decide +kernel
theorem dX12_trace_5 : decode cX12_trace 5 = .ok (.invokevirtual 245, 3) := by decide +kernel
theorem dX12_trace_8 : decode cX12_trace 8 = .ok (.ifCond .eq 20, 3) := by decide +kernel
theorem dX12_trace_11 : decode cX12_trace 11 = .ok (.iload_n 1, 1) := by decide +kernel
theorem dX12_trace_12 : decode cX12_trace 12 = .ok (.aload_n 0, 1) := by decide +kernel
theorem dX12_trace_13 : decode cX12_trace 13 = .ok (.getfield 226, 3) := by decide +kernel
theorem dX12_trace_16 : decode cX12_trace 16 = .ok (.if_icmp .ge 12, 3) := by decide +kernel
theorem dX12_trace_19 : decode cX12_trace 19 = .ok (.aload_n 0, 1) := by decide +kernel
theorem dX12_trace_20 : decode cX12_trace 20 = .ok (.getfield 229, 3) := by decide +kernel
theorem dX12_trace_23 : decode cX12_trace 23 = .ok (.iload_n 1, 1) := by decide +kernel
theorem dX12_trace_24 : decode cX12_trace 24 = .ok (.iaload, 1) := by decide +kernel
theorem dX12_trace_25 : decode cX12_trace 25 = .ok (.goto 4, 3) := by decide +kernel
theorem dX12_trace_28 : decode cX12_trace 28 = .ok (.iconst (-1), 1) := by decide +kernel
theorem dX12_trace_29 : decode cX12_trace 29 = .ok (.ireturn, 1) := by decide +kernel
theorem dX12_taken_0 : decode cX12_taken 0 = .ok (.aload_n 0, 1) := by decide +kernel
theorem dX12_taken_1 : decode cX12_taken 1 = .ok (.iload_n 2, 1) := by decide +kernel
theorem dX12_taken_2 : decode cX12_taken 2 = .ok (.iconst 0, 1) := by decide +kernel
theorem dX12_taken_3 : decode cX12_taken 3 = .ok (.bipush 6, 2) := by decide +kernel
theorem dX12_taken_5 : decode cX12_taken 5 = .ok (.invokevirtual 245, 3) := by decide +kernel
theorem dX12_taken_8 : decode cX12_taken 8 = .ok (.ifCond .ne 6, 3) := by decide +kernel
theorem dX12_taken_11 : decode cX12_taken 11 = .ok (.bipush (-2), 2) := by decide +kernel
theorem dX12_taken_13 : decode cX12_taken 13 = .ok (.ireturn, 1) := by decide +kernel
theorem dX12_taken_14 : decode cX12_taken 14 = .ok (.aload_n 0, 1) := by decide +kernel
theorem dX12_taken_15 : decode cX12_taken 15 = .ok (.iload_n 1, 1) := by decide +kernel
theorem dX12_taken_16 : decode cX12_taken 16 = .ok (.invokevirtual 253, 3) := by decide +kernel
theorem dX12_taken_19 : decode cX12_taken 19 = .ok (.ifCond .ne 6, 3) := by decide +kernel
theorem dX12_taken_22 : decode cX12_taken 22 = .ok (.bipush (-11), 2) := by decide +kernel
theorem dX12_taken_24 : decode cX12_taken 24 = .ok (.ireturn, 1) := by decide +kernel
theorem dX12_taken_25 : decode cX12_taken 25 = .ok (.aload_n 0, 1) := by decide +kernel
theorem dX12_taken_26 : decode cX12_taken 26 = .ok (.getfield 19, 3) := by decide +kernel
theorem dX12_taken_29 : decode cX12_taken 29 = .ok (.iload_n 1, 1) := by decide +kernel
theorem dX12_taken_30 : decode cX12_taken 30 = .ok (.iaload, 1) := by decide +kernel
theorem dX12_taken_31 : decode cX12_taken 31 = .ok (.istore_n 3, 1) := by decide +kernel
theorem dX12_taken_32 : decode cX12_taken 32 = .ok (.iload_n 2, 1) := by decide +kernel
theorem dX12_taken_33 : decode cX12_taken 33 = .ok (.ifCond .eq 39, 3) := by decide +kernel
theorem dX12_taken_36 : decode cX12_taken 36 = .ok (.iload_n 3, 1) := by decide +kernel
theorem dX12_taken_37 : decode cX12_taken 37 = .ok (.iload_n 2, 1) := by decide +kernel
theorem dX12_taken_38 : decode cX12_taken 38 = .ok (.if_icmp .eq 34, 3) := by decide +kernel
theorem dX12_taken_41 : decode cX12_taken 41 = .ok (.iload_n 2, 1) := by decide +kernel
theorem dX12_taken_42 : decode cX12_taken 42 = .ok (.iconst 1, 1) := by decide +kernel
theorem dX12_taken_43 : decode cX12_taken 43 = .ok (.if_icmp .ne 8, 3) := by decide +kernel
theorem dX12_taken_46 : decode cX12_taken 46 = .ok (.iload_n 3, 1) := by decide +kernel
theorem dX12_taken_47 : decode cX12_taken 47 = .ok (.iconst 4, 1) := by decide +kernel
theorem dX12_taken_48 : decode cX12_taken 48 = .ok (.if_icmp .eq 24, 3) := by decide +kernel
theorem dX12_taken_51 : decode cX12_taken 51 = .ok (.iload_n 2, 1) := by decide +kernel
theorem dX12_taken_52 : decode cX12_taken 52 = .ok (.iconst 2, 1) := by decide +kernel
theorem dX12_taken_53 : decode cX12_taken 53 = .ok (.if_icmp .ne 8, 3) := by decide +kernel
theorem dX12_taken_56 : decode cX12_taken 56 = .ok (.iload_n 3, 1) := by decide +kernel
theorem dX12_taken_57 : decode cX12_taken 57 = .ok (.iconst 5, 1) := by decide +kernel
theorem dX12_taken_58 : decode cX12_taken 58 = .ok (.if_icmp .eq 14, 3) := by decide +kernel
theorem dX12_taken_61 : decode cX12_taken 61 = .ok (.iload_n 2, 1) := by decide +kernel
theorem dX12_taken_62 : decode cX12_taken 62 = .ok (.iconst 3, 1) := by decide +kernel
theorem dX12_taken_63 : decode cX12_taken 63 = .ok (.if_icmp .ne 13, 3) := by decide +kernel
theorem dX12_taken_66 : decode cX12_taken 66 = .ok (.iload_n 3, 1) := by decide +kernel
theorem dX12_taken_67 : decode cX12_taken 67 = .ok (.bipush 6, 2) := by decide +kernel
theorem dX12_taken_69 : decode cX12_taken 69 = .ok (.if_icmp .ne 7, 3) := by decide +kernel
theorem dX12_taken_72 : decode cX12_taken 72 = .ok (.iload_n 3, 1) := by decide +kernel
theorem dX12_taken_73 : decode cX12_taken 73 = .ok (.goto 5, 3) := by decide +kernel
theorem dX12_taken_76 : decode cX12_taken 76 = .ok (.bipush (-12), 2) := by decide +kernel
theorem dX12_taken_78 : decode cX12_taken 78 = .ok (.ireturn, 1) := by decide +kernel
theorem dX12_count_0 : decode cX12_count 0 = .ok (.iload_n 1, 1) := by decide +kernel
theorem dX12_count_1 : decode cX12_count 1 = .ok (.tableswitch 78 0 6 #[43, 48, 53, 58, 63, 68, 73], 43) := by decide +kernel
theorem dX12_count_44 : decode cX12_count 44 = .ok (.aload_n 0, 1) := by decide +kernel
theorem dX12_count_45 : decode cX12_count 45 = .ok (.getfield 7, 3) := by decide +kernel
theorem dX12_count_48 : decode cX12_count 48 = .ok (.ireturn, 1) := by decide +kernel
theorem dX12_count_49 : decode cX12_count 49 = .ok (.aload_n 0, 1) := by decide +kernel
theorem dX12_count_50 : decode cX12_count 50 = .ok (.getfield 38, 3) := by decide +kernel
theorem dX12_count_53 : decode cX12_count 53 = .ok (.ireturn, 1) := by decide +kernel
theorem dX12_count_54 : decode cX12_count 54 = .ok (.aload_n 0, 1) := by decide +kernel
theorem dX12_count_55 : decode cX12_count 55 = .ok (.getfield 126, 3) := by decide +kernel
theorem dX12_count_58 : decode cX12_count 58 = .ok (.ireturn, 1) := by decide +kernel
theorem dX12_count_59 : decode cX12_count 59 = .ok (.aload_n 0, 1) := by decide +kernel
theorem dX12_count_60 : decode cX12_count 60 = .ok (.getfield 141, 3) := by decide +kernel
theorem dX12_count_63 : decode cX12_count 63 = .ok (.ireturn, 1) := by decide +kernel
theorem dX12_count_64 : decode cX12_count 64 = .ok (.aload_n 0, 1) := by decide +kernel
theorem dX12_count_65 : decode cX12_count 65 = .ok (.getfield 144, 3) := by decide +kernel
theorem dX12_count_68 : decode cX12_count 68 = .ok (.ireturn, 1) := by decide +kernel
theorem dX12_count_69 : decode cX12_count 69 = .ok (.aload_n 0, 1) := by decide +kernel
theorem dX12_count_70 : decode cX12_count 70 = .ok (.getfield 44, 3) := by decide +kernel
theorem dX12_count_73 : decode cX12_count 73 = .ok (.ireturn, 1) := by decide +kernel
theorem dX12_count_74 : decode cX12_count 74 = .ok (.aload_n 0, 1) := by decide +kernel
theorem dX12_count_75 : decode cX12_count 75 = .ok (.getfield 226, 3) := by decide +kernel
theorem dX12_count_78 : decode cX12_count 78 = .ok (.ireturn, 1) := by decide +kernel
theorem dX12_count_79 : decode cX12_count 79 = .ok (.bipush (-2), 2) := by decide +kernel
theorem dX12_count_81 : decode cX12_count 81 = .ok (.ireturn, 1) := by decide +kernel
theorem dX12_isTape_0 : decode cX12_isTape 0 = .ok (.aload_n 0, 1) := by decide +kernel
theorem dX12_isTape_1 : decode cX12_isTape 1 = .ok (.iload_n 1, 1) := by decide +kernel
theorem dX12_isTape_2 : decode cX12_isTape 2 = .ok (.iconst 0, 1) := by decide +kernel
theorem dX12_isTape_3 : decode cX12_isTape 3 = .ok (.iconst 5, 1) := by decide +kernel
theorem dX12_isTape_4 : decode cX12_isTape 4 = .ok (.invokevirtual 245, 3) := by decide +kernel
theorem dX12_isTape_7 : decode cX12_isTape 7 = .ok (.ireturn, 1) := by decide +kernel
theorem dX12_tape_0 : decode cX12_tape 0 = .ok (.aload_n 0, 1) := by decide +kernel
theorem dX12_tape_1 : decode cX12_tape 1 = .ok (.iload_n 1, 1) := by decide +kernel
theorem dX12_tape_2 : decode cX12_tape 2 = .ok (.invokevirtual 424, 3) := by decide +kernel
theorem dX12_tape_5 : decode cX12_tape 5 = .ok (.ifCond .ne 5, 3) := by decide +kernel
theorem dX12_tape_8 : decode cX12_tape 8 = .ok (.iconst (-1), 1) := by decide +kernel
theorem dX12_tape_9 : decode cX12_tape 9 = .ok (.ireturn, 1) := by decide +kernel
theorem dX12_tape_10 : decode cX12_tape 10 = .ok (.aload_n 0, 1) := by decide +kernel
theorem dX12_tape_11 : decode cX12_tape 11 = .ok (.iload_n 2, 1) := by decide +kernel
theorem dX12_tape_12 : decode cX12_tape 12 = .ok (.iconst (-1), 1) := by decide +kernel
theorem dX12_tape_13 : decode cX12_tape 13 = .ok (.iconst 4, 1) := by decide +kernel
theorem dX12_tape_14 : decode cX12_tape 14 = .ok (.invokevirtual 245, 3) := by decide +kernel
theorem dX12_tape_17 : decode cX12_tape 17 = .ok (.ifCond .eq 13, 3) := by decide +kernel
theorem dX12_tape_20 : decode cX12_tape 20 = .ok (.iload_n 2, 1) := by decide +kernel
theorem dX12_tape_21 : decode cX12_tape 21 = .ok (.ifCond .lt 12, 3) := by decide +kernel
theorem dX12_tape_24 : decode cX12_tape 24 = .ok (.iload_n 3, 1) := by decide +kernel
theorem dX12_tape_25 : decode cX12_tape 25 = .ok (.bipush 60, 2) := by decide +kernel
theorem dX12_tape_27 : decode cX12_tape 27 = .ok (.if_icmp .le 6, 3) := by decide +kernel
theorem dX12_tape_30 : decode cX12_tape 30 = .ok (.bipush (-2), 2) := by decide +kernel
theorem dX12_tape_32 : decode cX12_tape 32 = .ok (.ireturn, 1) := by decide +kernel
theorem dX12_tape_33 : decode cX12_tape 33 = .ok (.iload_n 2, 1) := by decide +kernel
theorem dX12_tape_34 : decode cX12_tape 34 = .ok (.ifCond .lt 10, 3) := by decide +kernel
theorem dX12_tape_37 : decode cX12_tape 37 = .ok (.iload_n 3, 1) := by decide +kernel
theorem dX12_tape_38 : decode cX12_tape 38 = .ok (.ifCond .ge 6, 3) := by decide +kernel
theorem dX12_tape_41 : decode cX12_tape 41 = .ok (.bipush (-14), 2) := by decide +kernel
theorem dX12_tape_43 : decode cX12_tape 43 = .ok (.ireturn, 1) := by decide +kernel
theorem dX12_tape_44 : decode cX12_tape 44 = .ok (.aload_n 0, 1) := by decide +kernel
theorem dX12_tape_45 : decode cX12_tape 45 = .ok (.getfield 232, 3) := by decide +kernel
theorem dX12_tape_48 : decode cX12_tape 48 = .ok (.iload_n 1, 1) := by decide +kernel
theorem dX12_tape_49 : decode cX12_tape 49 = .ok (.iload_n 2, 1) := by decide +kernel
theorem dX12_tape_50 : decode cX12_tape 50 = .ok (.iastore, 1) := by decide +kernel
theorem dX12_tape_51 : decode cX12_tape 51 = .ok (.aload_n 0, 1) := by decide +kernel
theorem dX12_tape_52 : decode cX12_tape 52 = .ok (.getfield 235, 3) := by decide +kernel
theorem dX12_tape_55 : decode cX12_tape 55 = .ok (.iload_n 1, 1) := by decide +kernel
theorem dX12_tape_56 : decode cX12_tape 56 = .ok (.iload_n 2, 1) := by decide +kernel
theorem dX12_tape_57 : decode cX12_tape 57 = .ok (.ifCond .ge 7, 3) := by decide +kernel
theorem dX12_tape_60 : decode cX12_tape 60 = .ok (.iconst 0, 1) := by decide +kernel
theorem dX12_tape_61 : decode cX12_tape 61 = .ok (.goto 4, 3) := by decide +kernel
theorem dX12_tape_64 : decode cX12_tape 64 = .ok (.iload_n 3, 1) := by decide +kernel
theorem dX12_tape_65 : decode cX12_tape 65 = .ok (.iastore, 1) := by decide +kernel
theorem dX12_tape_66 : decode cX12_tape 66 = .ok (.iconst 0, 1) := by decide +kernel
theorem dX12_tape_67 : decode cX12_tape 67 = .ok (.istore 4, 2) := by decide +kernel
theorem dX12_tape_69 : decode cX12_tape 69 = .ok (.iload 4, 2) := by decide +kernel
theorem dX12_tape_71 : decode cX12_tape 71 = .ok (.bipush 60, 2) := by decide +kernel
theorem dX12_tape_73 : decode cX12_tape 73 = .ok (.if_icmp .ge 22, 3) := by decide +kernel
theorem dX12_tape_76 : decode cX12_tape 76 = .ok (.aload_n 0, 1) := by decide +kernel
theorem dX12_tape_77 : decode cX12_tape 77 = .ok (.getfield 238, 3) := by decide +kernel
theorem dX12_tape_80 : decode cX12_tape 80 = .ok (.bipush 60, 2) := by decide +kernel
theorem dX12_tape_82 : decode cX12_tape 82 = .ok (.iload_n 1, 1) := by decide +kernel
theorem dX12_tape_83 : decode cX12_tape 83 = .ok (.imul, 1) := by decide +kernel
theorem dX12_tape_84 : decode cX12_tape 84 = .ok (.iload 4, 2) := by decide +kernel
theorem dX12_tape_86 : decode cX12_tape 86 = .ok (.iadd, 1) := by decide +kernel
theorem dX12_tape_87 : decode cX12_tape 87 = .ok (.lconst 0, 1) := by decide +kernel
theorem dX12_tape_88 : decode cX12_tape 88 = .ok (.lastore, 1) := by decide +kernel
theorem dX12_tape_89 : decode cX12_tape 89 = .ok (.iinc 4 1, 3) := by decide +kernel
theorem dX12_tape_92 : decode cX12_tape 92 = .ok (.goto (-23), 3) := by decide +kernel
theorem dX12_tape_95 : decode cX12_tape 95 = .ok (.iconst 1, 1) := by decide +kernel
theorem dX12_tape_96 : decode cX12_tape 96 = .ok (.ireturn, 1) := by decide +kernel
theorem dX12_narrow_0 : decode cX12_narrow 0 = .ok (.iload_n 1, 1) := by decide +kernel
theorem dX12_narrow_1 : decode cX12_narrow 1 = .ok (.ifCond .ne 10, 3) := by decide +kernel
theorem dX12_narrow_4 : decode cX12_narrow 4 = .ok (.lload_n 2, 1) := by decide +kernel
theorem dX12_narrow_5 : decode cX12_narrow 5 = .ok (.l2i, 1) := by decide +kernel
theorem dX12_narrow_6 : decode cX12_narrow 6 = .ok (.i2b, 1) := by decide +kernel
theorem dX12_narrow_7 : decode cX12_narrow 7 = .ok (.i2l, 1) := by decide +kernel
theorem dX12_narrow_8 : decode cX12_narrow 8 = .ok (.goto 46, 3) := by decide +kernel
theorem dX12_narrow_11 : decode cX12_narrow 11 = .ok (.iload_n 1, 1) := by decide +kernel
theorem dX12_narrow_12 : decode cX12_narrow 12 = .ok (.iconst 1, 1) := by decide +kernel
theorem dX12_narrow_13 : decode cX12_narrow 13 = .ok (.if_icmp .ne 10, 3) := by decide +kernel
theorem dX12_narrow_16 : decode cX12_narrow 16 = .ok (.lload_n 2, 1) := by decide +kernel
theorem dX12_narrow_17 : decode cX12_narrow 17 = .ok (.l2i, 1) := by decide +kernel
theorem dX12_narrow_18 : decode cX12_narrow 18 = .ok (.i2s, 1) := by decide +kernel
theorem dX12_narrow_19 : decode cX12_narrow 19 = .ok (.i2l, 1) := by decide +kernel
theorem dX12_narrow_20 : decode cX12_narrow 20 = .ok (.goto 34, 3) := by decide +kernel
theorem dX12_narrow_23 : decode cX12_narrow 23 = .ok (.iload_n 1, 1) := by decide +kernel
theorem dX12_narrow_24 : decode cX12_narrow 24 = .ok (.iconst 2, 1) := by decide +kernel
theorem dX12_narrow_25 : decode cX12_narrow 25 = .ok (.if_icmp .ne 9, 3) := by decide +kernel
theorem dX12_narrow_28 : decode cX12_narrow 28 = .ok (.lload_n 2, 1) := by decide +kernel
theorem dX12_narrow_29 : decode cX12_narrow 29 = .ok (.l2i, 1) := by decide +kernel
theorem dX12_narrow_30 : decode cX12_narrow 30 = .ok (.i2l, 1) := by decide +kernel
theorem dX12_narrow_31 : decode cX12_narrow 31 = .ok (.goto 23, 3) := by decide +kernel
theorem dX12_narrow_34 : decode cX12_narrow 34 = .ok (.iload_n 1, 1) := by decide +kernel
theorem dX12_narrow_35 : decode cX12_narrow 35 = .ok (.iconst 4, 1) := by decide +kernel
theorem dX12_narrow_36 : decode cX12_narrow 36 = .ok (.if_icmp .ne 17, 3) := by decide +kernel
theorem dX12_narrow_39 : decode cX12_narrow 39 = .ok (.lload_n 2, 1) := by decide +kernel
theorem dX12_narrow_40 : decode cX12_narrow 40 = .ok (.lconst 0, 1) := by decide +kernel
theorem dX12_narrow_41 : decode cX12_narrow 41 = .ok (.lcmp, 1) := by decide +kernel
theorem dX12_narrow_42 : decode cX12_narrow 42 = .ok (.ifCond .eq 7, 3) := by decide +kernel
theorem dX12_narrow_45 : decode cX12_narrow 45 = .ok (.lconst 1, 1) := by decide +kernel
theorem dX12_narrow_46 : decode cX12_narrow 46 = .ok (.goto 8, 3) := by decide +kernel
theorem dX12_narrow_49 : decode cX12_narrow 49 = .ok (.lconst 0, 1) := by decide +kernel
theorem dX12_narrow_50 : decode cX12_narrow 50 = .ok (.goto 4, 3) := by decide +kernel
theorem dX12_narrow_53 : decode cX12_narrow 53 = .ok (.lload_n 2, 1) := by decide +kernel
theorem dX12_narrow_54 : decode cX12_narrow 54 = .ok (.lreturn, 1) := by decide +kernel
theorem dX12_item_0 : decode cX12_item 0 = .ok (.aload_n 0, 1) := by decide +kernel
theorem dX12_item_1 : decode cX12_item 1 = .ok (.iload_n 1, 1) := by decide +kernel
theorem dX12_item_2 : decode cX12_item 2 = .ok (.invokevirtual 424, 3) := by decide +kernel
theorem dX12_item_5 : decode cX12_item 5 = .ok (.ifCond .ne 5, 3) := by decide +kernel
theorem dX12_item_8 : decode cX12_item 8 = .ok (.iconst (-1), 1) := by decide +kernel
theorem dX12_item_9 : decode cX12_item 9 = .ok (.ireturn, 1) := by decide +kernel
theorem dX12_item_10 : decode cX12_item 10 = .ok (.aload_n 0, 1) := by decide +kernel
theorem dX12_item_11 : decode cX12_item 11 = .ok (.getfield 232, 3) := by decide +kernel
theorem dX12_item_14 : decode cX12_item 14 = .ok (.iload_n 1, 1) := by decide +kernel
theorem dX12_item_15 : decode cX12_item 15 = .ok (.iaload, 1) := by decide +kernel
theorem dX12_item_16 : decode cX12_item 16 = .ok (.ifCond .ge 6, 3) := by decide +kernel
theorem dX12_item_19 : decode cX12_item 19 = .ok (.bipush (-11), 2) := by decide +kernel
theorem dX12_item_21 : decode cX12_item 21 = .ok (.ireturn, 1) := by decide +kernel
theorem dX12_item_22 : decode cX12_item 22 = .ok (.aload_n 0, 1) := by decide +kernel
theorem dX12_item_23 : decode cX12_item 23 = .ok (.iload_n 2, 1) := by decide +kernel
theorem dX12_item_24 : decode cX12_item 24 = .ok (.iconst 0, 1) := by decide +kernel
theorem dX12_item_25 : decode cX12_item 25 = .ok (.aload_n 0, 1) := by decide +kernel
theorem dX12_item_26 : decode cX12_item 26 = .ok (.getfield 235, 3) := by decide +kernel
theorem dX12_item_29 : decode cX12_item 29 = .ok (.iload_n 1, 1) := by decide +kernel
theorem dX12_item_30 : decode cX12_item 30 = .ok (.iaload, 1) := by decide +kernel
theorem dX12_item_31 : decode cX12_item 31 = .ok (.iconst 1, 1) := by decide +kernel
theorem dX12_item_32 : decode cX12_item 32 = .ok (.isub, 1) := by decide +kernel
theorem dX12_item_33 : decode cX12_item 33 = .ok (.invokevirtual 245, 3) := by decide +kernel
theorem dX12_item_36 : decode cX12_item 36 = .ok (.ifCond .ne 6, 3) := by decide +kernel
theorem dX12_item_39 : decode cX12_item 39 = .ok (.bipush (-13), 2) := by decide +kernel
theorem dX12_item_41 : decode cX12_item 41 = .ok (.ireturn, 1) := by decide +kernel
theorem dX12_item_42 : decode cX12_item 42 = .ok (.aload_n 0, 1) := by decide +kernel
theorem dX12_item_43 : decode cX12_item 43 = .ok (.getfield 238, 3) := by decide +kernel
theorem dX12_item_46 : decode cX12_item 46 = .ok (.bipush 60, 2) := by decide +kernel
theorem dX12_item_48 : decode cX12_item 48 = .ok (.iload_n 1, 1) := by decide +kernel
theorem dX12_item_49 : decode cX12_item 49 = .ok (.imul, 1) := by decide +kernel
theorem dX12_item_50 : decode cX12_item 50 = .ok (.iload_n 2, 1) := by decide +kernel
theorem dX12_item_51 : decode cX12_item 51 = .ok (.iadd, 1) := by decide +kernel
theorem dX12_item_52 : decode cX12_item 52 = .ok (.aload_n 0, 1) := by decide +kernel
theorem dX12_item_53 : decode cX12_item 53 = .ok (.aload_n 0, 1) := by decide +kernel
theorem dX12_item_54 : decode cX12_item 54 = .ok (.getfield 232, 3) := by decide +kernel
theorem dX12_item_57 : decode cX12_item 57 = .ok (.iload_n 1, 1) := by decide +kernel
theorem dX12_item_58 : decode cX12_item 58 = .ok (.iaload, 1) := by decide +kernel
theorem dX12_item_59 : decode cX12_item 59 = .ok (.lload_n 3, 1) := by decide +kernel
theorem dX12_item_60 : decode cX12_item 60 = .ok (.invokevirtual 451, 3) := by decide +kernel
theorem dX12_item_63 : decode cX12_item 63 = .ok (.lastore, 1) := by decide +kernel
theorem dX12_item_64 : decode cX12_item 64 = .ok (.iconst 1, 1) := by decide +kernel
theorem dX12_item_65 : decode cX12_item 65 = .ok (.ireturn, 1) := by decide +kernel
theorem dX12_read_0 : decode cX12_read 0 = .ok (.aload_n 0, 1) := by decide +kernel
theorem dX12_read_1 : decode cX12_read 1 = .ok (.iload_n 1, 1) := by decide +kernel
theorem dX12_read_2 : decode cX12_read 2 = .ok (.invokevirtual 424, 3) := by decide +kernel
theorem dX12_read_5 : decode cX12_read 5 = .ok (.ifCond .eq 29, 3) := by decide +kernel
theorem dX12_read_8 : decode cX12_read 8 = .ok (.aload_n 0, 1) := by decide +kernel
theorem dX12_read_9 : decode cX12_read 9 = .ok (.getfield 232, 3) := by decide +kernel
theorem dX12_read_12 : decode cX12_read 12 = .ok (.iload_n 1, 1) := by decide +kernel
theorem dX12_read_13 : decode cX12_read 13 = .ok (.iaload, 1) := by decide +kernel
theorem dX12_read_14 : decode cX12_read 14 = .ok (.ifCond .lt 20, 3) := by decide +kernel
theorem dX12_read_17 : decode cX12_read 17 = .ok (.aload_n 0, 1) := by decide +kernel
theorem dX12_read_18 : decode cX12_read 18 = .ok (.iload_n 2, 1) := by decide +kernel
theorem dX12_read_19 : decode cX12_read 19 = .ok (.iconst 0, 1) := by decide +kernel
theorem dX12_read_20 : decode cX12_read 20 = .ok (.aload_n 0, 1) := by decide +kernel
theorem dX12_read_21 : decode cX12_read 21 = .ok (.getfield 235, 3) := by decide +kernel
theorem dX12_read_24 : decode cX12_read 24 = .ok (.iload_n 1, 1) := by decide +kernel
theorem dX12_read_25 : decode cX12_read 25 = .ok (.iaload, 1) := by decide +kernel
theorem dX12_read_26 : decode cX12_read 26 = .ok (.iconst 1, 1) := by decide +kernel
theorem dX12_read_27 : decode cX12_read 27 = .ok (.isub, 1) := by decide +kernel
theorem dX12_read_28 : decode cX12_read 28 = .ok (.invokevirtual 245, 3) := by decide +kernel
theorem dX12_read_31 : decode cX12_read 31 = .ok (.ifCond .ne 9, 3) := by decide +kernel
theorem dX12_read_34 : decode cX12_read 34 = .ok (.ldc2_w 409, 3) := by decide +kernel
theorem dX12_read_37 : decode cX12_read 37 = .ok (.goto 14, 3) := by decide +kernel
theorem dX12_read_40 : decode cX12_read 40 = .ok (.aload_n 0, 1) := by decide +kernel
theorem dX12_read_41 : decode cX12_read 41 = .ok (.getfield 238, 3) := by decide +kernel
theorem dX12_read_44 : decode cX12_read 44 = .ok (.bipush 60, 2) := by decide +kernel
theorem dX12_read_46 : decode cX12_read 46 = .ok (.iload_n 1, 1) := by decide +kernel
theorem dX12_read_47 : decode cX12_read 47 = .ok (.imul, 1) := by decide +kernel
theorem dX12_read_48 : decode cX12_read 48 = .ok (.iload_n 2, 1) := by decide +kernel
theorem dX12_read_49 : decode cX12_read 49 = .ok (.iadd, 1) := by decide +kernel
theorem dX12_read_50 : decode cX12_read 50 = .ok (.laload, 1) := by decide +kernel
theorem dX12_read_51 : decode cX12_read 51 = .ok (.lreturn, 1) := by decide +kernel
theorem dX12_shift_0 : decode cX12_shift 0 = .ok (.aload_n 0, 1) := by decide +kernel
theorem dX12_shift_1 : decode cX12_shift 1 = .ok (.iload_n 1, 1) := by decide +kernel
theorem dX12_shift_2 : decode cX12_shift 2 = .ok (.invokevirtual 424, 3) := by decide +kernel
theorem dX12_shift_5 : decode cX12_shift 5 = .ok (.ifCond .eq 11, 3) := by decide +kernel
theorem dX12_shift_8 : decode cX12_shift 8 = .ok (.aload_n 0, 1) := by decide +kernel
theorem dX12_shift_9 : decode cX12_shift 9 = .ok (.iload_n 3, 1) := by decide +kernel
theorem dX12_shift_10 : decode cX12_shift 10 = .ok (.invokevirtual 424, 3) := by decide +kernel
theorem dX12_shift_13 : decode cX12_shift 13 = .ok (.ifCond .ne 5, 3) := by decide +kernel
theorem dX12_shift_16 : decode cX12_shift 16 = .ok (.iconst (-1), 1) := by decide +kernel
theorem dX12_shift_17 : decode cX12_shift 17 = .ok (.ireturn, 1) := by decide +kernel
theorem dX12_shift_18 : decode cX12_shift 18 = .ok (.aload_n 0, 1) := by decide +kernel
theorem dX12_shift_19 : decode cX12_shift 19 = .ok (.getfield 232, 3) := by decide +kernel
theorem dX12_shift_22 : decode cX12_shift 22 = .ok (.iload_n 1, 1) := by decide +kernel
theorem dX12_shift_23 : decode cX12_shift 23 = .ok (.iaload, 1) := by decide +kernel
theorem dX12_shift_24 : decode cX12_shift 24 = .ok (.ifCond .lt 12, 3) := by decide +kernel
theorem dX12_shift_27 : decode cX12_shift 27 = .ok (.aload_n 0, 1) := by decide +kernel
theorem dX12_shift_28 : decode cX12_shift 28 = .ok (.getfield 232, 3) := by decide +kernel
theorem dX12_shift_31 : decode cX12_shift 31 = .ok (.iload_n 3, 1) := by decide +kernel
theorem dX12_shift_32 : decode cX12_shift 32 = .ok (.iaload, 1) := by decide +kernel
theorem dX12_shift_33 : decode cX12_shift 33 = .ok (.ifCond .ge 6, 3) := by decide +kernel
theorem dX12_shift_36 : decode cX12_shift 36 = .ok (.bipush (-11), 2) := by decide +kernel
theorem dX12_shift_38 : decode cX12_shift 38 = .ok (.ireturn, 1) := by decide +kernel
theorem dX12_shift_39 : decode cX12_shift 39 = .ok (.aload_n 0, 1) := by decide +kernel
theorem dX12_shift_40 : decode cX12_shift 40 = .ok (.getfield 232, 3) := by decide +kernel
theorem dX12_shift_43 : decode cX12_shift 43 = .ok (.iload_n 1, 1) := by decide +kernel
theorem dX12_shift_44 : decode cX12_shift 44 = .ok (.iaload, 1) := by decide +kernel
theorem dX12_shift_45 : decode cX12_shift 45 = .ok (.aload_n 0, 1) := by decide +kernel
theorem dX12_shift_46 : decode cX12_shift 46 = .ok (.getfield 232, 3) := by decide +kernel
theorem dX12_shift_49 : decode cX12_shift 49 = .ok (.iload_n 3, 1) := by decide +kernel
theorem dX12_shift_50 : decode cX12_shift 50 = .ok (.iaload, 1) := by decide +kernel
theorem dX12_shift_51 : decode cX12_shift 51 = .ok (.if_icmp .eq 6, 3) := by decide +kernel
theorem dX12_shift_54 : decode cX12_shift 54 = .ok (.bipush (-12), 2) := by decide +kernel
theorem dX12_shift_56 : decode cX12_shift 56 = .ok (.ireturn, 1) := by decide +kernel
theorem dX12_shift_57 : decode cX12_shift 57 = .ok (.iload 5, 2) := by decide +kernel
theorem dX12_shift_59 : decode cX12_shift 59 = .ok (.ifCond .lt 39, 3) := by decide +kernel
theorem dX12_shift_62 : decode cX12_shift 62 = .ok (.iload_n 2, 1) := by decide +kernel
theorem dX12_shift_63 : decode cX12_shift 63 = .ok (.ifCond .lt 35, 3) := by decide +kernel
theorem dX12_shift_66 : decode cX12_shift 66 = .ok (.iload 4, 2) := by decide +kernel
theorem dX12_shift_68 : decode cX12_shift 68 = .ok (.ifCond .lt 30, 3) := by decide +kernel
theorem dX12_shift_71 : decode cX12_shift 71 = .ok (.iload_n 2, 1) := by decide +kernel
theorem dX12_shift_72 : decode cX12_shift 72 = .ok (.aload_n 0, 1) := by decide +kernel
theorem dX12_shift_73 : decode cX12_shift 73 = .ok (.getfield 235, 3) := by decide +kernel
theorem dX12_shift_76 : decode cX12_shift 76 = .ok (.iload_n 1, 1) := by decide +kernel
theorem dX12_shift_77 : decode cX12_shift 77 = .ok (.iaload, 1) := by decide +kernel
theorem dX12_shift_78 : decode cX12_shift 78 = .ok (.iload 5, 2) := by decide +kernel
theorem dX12_shift_80 : decode cX12_shift 80 = .ok (.isub, 1) := by decide +kernel
theorem dX12_shift_81 : decode cX12_shift 81 = .ok (.if_icmp .gt 17, 3) := by decide +kernel
theorem dX12_shift_84 : decode cX12_shift 84 = .ok (.iload 4, 2) := by decide +kernel
theorem dX12_shift_86 : decode cX12_shift 86 = .ok (.aload_n 0, 1) := by decide +kernel
theorem dX12_shift_87 : decode cX12_shift 87 = .ok (.getfield 235, 3) := by decide +kernel
theorem dX12_shift_90 : decode cX12_shift 90 = .ok (.iload_n 3, 1) := by decide +kernel
theorem dX12_shift_91 : decode cX12_shift 91 = .ok (.iaload, 1) := by decide +kernel
theorem dX12_shift_92 : decode cX12_shift 92 = .ok (.iload 5, 2) := by decide +kernel
theorem dX12_shift_94 : decode cX12_shift 94 = .ok (.isub, 1) := by decide +kernel
theorem dX12_shift_95 : decode cX12_shift 95 = .ok (.if_icmp .le 6, 3) := by decide +kernel
theorem dX12_shift_98 : decode cX12_shift 98 = .ok (.bipush (-13), 2) := by decide +kernel
theorem dX12_shift_100 : decode cX12_shift 100 = .ok (.ireturn, 1) := by decide +kernel
theorem dX12_shift_101 : decode cX12_shift 101 = .ok (.iconst 0, 1) := by decide +kernel
theorem dX12_shift_102 : decode cX12_shift 102 = .ok (.istore 6, 2) := by decide +kernel
theorem dX12_shift_104 : decode cX12_shift 104 = .ok (.iload 6, 2) := by decide +kernel
theorem dX12_shift_106 : decode cX12_shift 106 = .ok (.iload 5, 2) := by decide +kernel
theorem dX12_shift_108 : decode cX12_shift 108 = .ok (.if_icmp .ge 30, 3) := by decide +kernel
theorem dX12_shift_111 : decode cX12_shift 111 = .ok (.aload_n 0, 1) := by decide +kernel
theorem dX12_shift_112 : decode cX12_shift 112 = .ok (.getfield 242, 3) := by decide +kernel
theorem dX12_shift_115 : decode cX12_shift 115 = .ok (.iload 6, 2) := by decide +kernel
theorem dX12_shift_117 : decode cX12_shift 117 = .ok (.aload_n 0, 1) := by decide +kernel
theorem dX12_shift_118 : decode cX12_shift 118 = .ok (.getfield 238, 3) := by decide +kernel
theorem dX12_shift_121 : decode cX12_shift 121 = .ok (.bipush 60, 2) := by decide +kernel
theorem dX12_shift_123 : decode cX12_shift 123 = .ok (.iload_n 1, 1) := by decide +kernel
theorem dX12_shift_124 : decode cX12_shift 124 = .ok (.imul, 1) := by decide +kernel
theorem dX12_shift_125 : decode cX12_shift 125 = .ok (.iload_n 2, 1) := by decide +kernel
theorem dX12_shift_126 : decode cX12_shift 126 = .ok (.iadd, 1) := by decide +kernel
theorem dX12_shift_127 : decode cX12_shift 127 = .ok (.iload 6, 2) := by decide +kernel
theorem dX12_shift_129 : decode cX12_shift 129 = .ok (.iadd, 1) := by decide +kernel
theorem dX12_shift_130 : decode cX12_shift 130 = .ok (.laload, 1) := by decide +kernel
theorem dX12_shift_131 : decode cX12_shift 131 = .ok (.lastore, 1) := by decide +kernel
theorem dX12_shift_132 : decode cX12_shift 132 = .ok (.iinc 6 1, 3) := by decide +kernel
theorem dX12_shift_135 : decode cX12_shift 135 = .ok (.goto (-31), 3) := by decide +kernel
theorem dX12_shift_138 : decode cX12_shift 138 = .ok (.iconst 0, 1) := by decide +kernel
theorem dX12_shift_139 : decode cX12_shift 139 = .ok (.istore 6, 2) := by decide +kernel
theorem dX12_shift_141 : decode cX12_shift 141 = .ok (.iload 6, 2) := by decide +kernel
theorem dX12_shift_143 : decode cX12_shift 143 = .ok (.iload 5, 2) := by decide +kernel
theorem dX12_shift_145 : decode cX12_shift 145 = .ok (.if_icmp .ge 31, 3) := by decide +kernel
theorem dX12_shift_148 : decode cX12_shift 148 = .ok (.aload_n 0, 1) := by decide +kernel
theorem dX12_shift_149 : decode cX12_shift 149 = .ok (.getfield 238, 3) := by decide +kernel
theorem dX12_shift_152 : decode cX12_shift 152 = .ok (.bipush 60, 2) := by decide +kernel
theorem dX12_shift_154 : decode cX12_shift 154 = .ok (.iload_n 3, 1) := by decide +kernel
theorem dX12_shift_155 : decode cX12_shift 155 = .ok (.imul, 1) := by decide +kernel
theorem dX12_shift_156 : decode cX12_shift 156 = .ok (.iload 4, 2) := by decide +kernel
theorem dX12_shift_158 : decode cX12_shift 158 = .ok (.iadd, 1) := by decide +kernel
theorem dX12_shift_159 : decode cX12_shift 159 = .ok (.iload 6, 2) := by decide +kernel
theorem dX12_shift_161 : decode cX12_shift 161 = .ok (.iadd, 1) := by decide +kernel
theorem dX12_shift_162 : decode cX12_shift 162 = .ok (.aload_n 0, 1) := by decide +kernel
theorem dX12_shift_163 : decode cX12_shift 163 = .ok (.getfield 242, 3) := by decide +kernel
theorem dX12_shift_166 : decode cX12_shift 166 = .ok (.iload 6, 2) := by decide +kernel
theorem dX12_shift_168 : decode cX12_shift 168 = .ok (.laload, 1) := by decide +kernel
theorem dX12_shift_169 : decode cX12_shift 169 = .ok (.lastore, 1) := by decide +kernel
theorem dX12_shift_170 : decode cX12_shift 170 = .ok (.iinc 6 1, 3) := by decide +kernel
theorem dX12_shift_173 : decode cX12_shift 173 = .ok (.goto (-32), 3) := by decide +kernel
theorem dX12_shift_176 : decode cX12_shift 176 = .ok (.iload 5, 2) := by decide +kernel
theorem dX12_shift_178 : decode cX12_shift 178 = .ok (.ireturn, 1) := by decide +kernel
theorem dJ11_isValidCodePoint_9a6ad_0 : decode cJ11_isValidCodePoint_9a6ad 0 = .ok (.iload_n 0, 1) := by decide +kernel
theorem dJ11_isValidCodePoint_9a6ad_1 : decode cJ11_isValidCodePoint_9a6ad 1 = .ok (.bipush 16, 2) := by decide +kernel
theorem dJ11_isValidCodePoint_9a6ad_3 : decode cJ11_isValidCodePoint_9a6ad 3 = .ok (.iushr, 1) := by decide +kernel
theorem dJ11_isValidCodePoint_9a6ad_4 : decode cJ11_isValidCodePoint_9a6ad 4 = .ok (.istore_n 1, 1) := by decide +kernel
theorem dJ11_isValidCodePoint_9a6ad_5 : decode cJ11_isValidCodePoint_9a6ad 5 = .ok (.iload_n 1, 1) := by decide +kernel
theorem dJ11_isValidCodePoint_9a6ad_6 : decode cJ11_isValidCodePoint_9a6ad 6 = .ok (.bipush 17, 2) := by decide +kernel
theorem dJ11_isValidCodePoint_9a6ad_8 : decode cJ11_isValidCodePoint_9a6ad 8 = .ok (.if_icmp .ge 7, 3) := by decide +kernel
theorem dJ11_isValidCodePoint_9a6ad_11 : decode cJ11_isValidCodePoint_9a6ad 11 = .ok (.iconst 1, 1) := by decide +kernel
theorem dJ11_isValidCodePoint_9a6ad_12 : decode cJ11_isValidCodePoint_9a6ad 12 = .ok (.goto 4, 3) := by decide +kernel
theorem dJ11_isValidCodePoint_9a6ad_15 : decode cJ11_isValidCodePoint_9a6ad 15 = .ok (.iconst 0, 1) := by decide +kernel
theorem dJ11_isValidCodePoint_9a6ad_16 : decode cJ11_isValidCodePoint_9a6ad 16 = .ok (.ireturn, 1) := by decide +kernel
theorem dJ11_highSurrogate_5068e_0 : decode cJ11_highSurrogate_5068e 0 = .ok (.iload_n 0, 1) := by decide +kernel
theorem dJ11_highSurrogate_5068e_1 : decode cJ11_highSurrogate_5068e 1 = .ok (.bipush 10, 2) := by decide +kernel
theorem dJ11_highSurrogate_5068e_3 : decode cJ11_highSurrogate_5068e 3 = .ok (.iushr, 1) := by decide +kernel
theorem dJ11_highSurrogate_5068e_4 : decode cJ11_highSurrogate_5068e 4 = .ok (.ldc 110, 2) := by decide +kernel
theorem dJ11_highSurrogate_5068e_6 : decode cJ11_highSurrogate_5068e 6 = .ok (.iadd, 1) := by decide +kernel
theorem dJ11_highSurrogate_5068e_7 : decode cJ11_highSurrogate_5068e 7 = .ok (.i2c, 1) := by decide +kernel
theorem dJ11_highSurrogate_5068e_8 : decode cJ11_highSurrogate_5068e 8 = .ok (.ireturn, 1) := by decide +kernel
theorem dJ11_lowSurrogate_5068e_0 : decode cJ11_lowSurrogate_5068e 0 = .ok (.iload_n 0, 1) := by decide +kernel
theorem dJ11_lowSurrogate_5068e_1 : decode cJ11_lowSurrogate_5068e 1 = .ok (.sipush 1023, 3) := by decide +kernel
theorem dJ11_lowSurrogate_5068e_4 : decode cJ11_lowSurrogate_5068e 4 = .ok (.iand, 1) := by decide +kernel
theorem dJ11_lowSurrogate_5068e_5 : decode cJ11_lowSurrogate_5068e 5 = .ok (.ldc 76, 2) := by decide +kernel
theorem dJ11_lowSurrogate_5068e_7 : decode cJ11_lowSurrogate_5068e 7 = .ok (.iadd, 1) := by decide +kernel
theorem dJ11_lowSurrogate_5068e_8 : decode cJ11_lowSurrogate_5068e 8 = .ok (.i2c, 1) := by decide +kernel
theorem dJ11_lowSurrogate_5068e_9 : decode cJ11_lowSurrogate_5068e 9 = .ok (.ireturn, 1) := by decide +kernel
theorem dJ6_valueOf_2dffe_0 : decode cJ6_valueOf_2dffe 0 = .ok (.iload_n 0, 1) := by decide +kernel
theorem dJ6_valueOf_2dffe_1 : decode cJ6_valueOf_2dffe 1 = .ok (.bipush (-128), 2) := by decide +kernel
theorem dJ6_valueOf_2dffe_3 : decode cJ6_valueOf_2dffe 3 = .ok (.if_icmp .lt 20, 3) := by decide +kernel
theorem dJ6_valueOf_2dffe_6 : decode cJ6_valueOf_2dffe 6 = .ok (.iload_n 0, 1) := by decide +kernel
theorem dJ6_valueOf_2dffe_7 : decode cJ6_valueOf_2dffe 7 = .ok (.getstatic 191, 3) := by decide +kernel
theorem dJ6_valueOf_2dffe_10 : decode cJ6_valueOf_2dffe 10 = .ok (.if_icmp .gt 13, 3) := by decide +kernel
theorem dJ6_valueOf_2dffe_13 : decode cJ6_valueOf_2dffe 13 = .ok (.getstatic 195, 3) := by decide +kernel
theorem dJ6_valueOf_2dffe_16 : decode cJ6_valueOf_2dffe 16 = .ok (.iload_n 0, 1) := by decide +kernel
theorem dJ6_valueOf_2dffe_17 : decode cJ6_valueOf_2dffe 17 = .ok (.sipush 128, 3) := by decide +kernel
theorem dJ6_valueOf_2dffe_20 : decode cJ6_valueOf_2dffe 20 = .ok (.iadd, 1) := by decide +kernel
theorem dJ6_valueOf_2dffe_21 : decode cJ6_valueOf_2dffe 21 = .ok (.aaload, 1) := by decide +kernel
theorem dJ6_valueOf_2dffe_22 : decode cJ6_valueOf_2dffe 22 = .ok (.areturn, 1) := by decide +kernel
theorem dJ6_valueOf_2dffe_23 : decode cJ6_valueOf_2dffe 23 = .ok (.new 1, 3) := by decide +kernel
theorem dJ6_valueOf_2dffe_26 : decode cJ6_valueOf_2dffe 26 = .ok (.dup, 1) := by decide +kernel
theorem dJ6_valueOf_2dffe_27 : decode cJ6_valueOf_2dffe 27 = .ok (.iload_n 0, 1) := by decide +kernel
theorem dJ6_valueOf_2dffe_28 : decode cJ6_valueOf_2dffe 28 = .ok (.invokespecial 199, 3) := by decide +kernel
theorem dJ6_valueOf_2dffe_31 : decode cJ6_valueOf_2dffe 31 = .ok (.areturn, 1) := by decide +kernel
theorem dJ6_init_d00df_0 : decode cJ6_init_d00df 0 = .ok (.aload_n 0, 1) := by decide +kernel
theorem dJ6_init_d00df_1 : decode cJ6_init_d00df 1 = .ok (.invokespecial 202, 3) := by decide +kernel
theorem dJ6_init_d00df_4 : decode cJ6_init_d00df 4 = .ok (.aload_n 0, 1) := by decide +kernel
theorem dJ6_init_d00df_5 : decode cJ6_init_d00df 5 = .ok (.iload_n 1, 1) := by decide +kernel
theorem dJ6_init_d00df_6 : decode cJ6_init_d00df 6 = .ok (.putfield 205, 3) := by decide +kernel
theorem dJ6_init_d00df_9 : decode cJ6_init_d00df 9 = .ok (.return_, 1) := by decide +kernel
theorem dJ6_intValue_8abf5_0 : decode cJ6_intValue_8abf5 0 = .ok (.aload_n 0, 1) := by decide +kernel
theorem dJ6_intValue_8abf5_1 : decode cJ6_intValue_8abf5 1 = .ok (.getfield 205, 3) := by decide +kernel
theorem dJ6_intValue_8abf5_4 : decode cJ6_intValue_8abf5 4 = .ok (.ireturn, 1) := by decide +kernel
theorem dJ9_max_7cf53_0 : decode cJ9_max_7cf53 0 = .ok (.iload_n 0, 1) := by decide +kernel
theorem dJ9_max_7cf53_1 : decode cJ9_max_7cf53 1 = .ok (.iload_n 1, 1) := by decide +kernel
theorem dJ9_max_7cf53_2 : decode cJ9_max_7cf53 2 = .ok (.if_icmp .lt 7, 3) := by decide +kernel
theorem dJ9_max_7cf53_5 : decode cJ9_max_7cf53 5 = .ok (.iload_n 0, 1) := by decide +kernel
theorem dJ9_max_7cf53_6 : decode cJ9_max_7cf53 6 = .ok (.goto 4, 3) := by decide +kernel
theorem dJ9_max_7cf53_9 : decode cJ9_max_7cf53 9 = .ok (.iload_n 1, 1) := by decide +kernel
theorem dJ9_max_7cf53_10 : decode cJ9_max_7cf53 10 = .ok (.ireturn, 1) := by decide +kernel
theorem dJ9_min_7cf53_0 : decode cJ9_min_7cf53 0 = .ok (.iload_n 0, 1) := by decide +kernel
theorem dJ9_min_7cf53_1 : decode cJ9_min_7cf53 1 = .ok (.iload_n 1, 1) := by decide +kernel
theorem dJ9_min_7cf53_2 : decode cJ9_min_7cf53 2 = .ok (.if_icmp .gt 7, 3) := by decide +kernel
theorem dJ9_min_7cf53_5 : decode cJ9_min_7cf53 5 = .ok (.iload_n 0, 1) := by decide +kernel
theorem dJ9_min_7cf53_6 : decode cJ9_min_7cf53 6 = .ok (.goto 4, 3) := by decide +kernel
theorem dJ9_min_7cf53_9 : decode cJ9_min_7cf53 9 = .ok (.iload_n 1, 1) := by decide +kernel
theorem dJ9_min_7cf53_10 : decode cJ9_min_7cf53 10 = .ok (.ireturn, 1) := by decide +kernel
theorem dJxd2413_init_da8c8_0 : decode cJxd2413_init_da8c8 0 = .ok (.aload_n 0, 1) := by decide +kernel
theorem dJxd2413_init_da8c8_1 : decode cJxd2413_init_da8c8 1 = .ok (.invokespecial 1, 3) := by decide +kernel
theorem dJxd2413_init_da8c8_4 : decode cJxd2413_init_da8c8 4 = .ok (.return_, 1) := by decide +kernel
theorem dJ0_length_8abf5_0 : decode cJ0_length_8abf5 0 = .ok (.aload_n 0, 1) := by decide +kernel
theorem dJ0_length_8abf5_1 : decode cJ0_length_8abf5 1 = .ok (.getfield 9, 3) := by decide +kernel
theorem dJ0_length_8abf5_4 : decode cJ0_length_8abf5 4 = .ok (.arraylength, 1) := by decide +kernel
theorem dJ0_length_8abf5_5 : decode cJ0_length_8abf5 5 = .ok (.aload_n 0, 1) := by decide +kernel
theorem dJ0_length_8abf5_6 : decode cJ0_length_8abf5 6 = .ok (.invokevirtual 335, 3) := by decide +kernel
theorem dJ0_length_8abf5_9 : decode cJ0_length_8abf5 9 = .ok (.ishr, 1) := by decide +kernel
theorem dJ0_length_8abf5_10 : decode cJ0_length_8abf5 10 = .ok (.ireturn, 1) := by decide +kernel
theorem dJ0_charAt_5068e_0 : decode cJ0_charAt_5068e 0 = .ok (.aload_n 0, 1) := by decide +kernel
theorem dJ0_charAt_5068e_1 : decode cJ0_charAt_5068e 1 = .ok (.invokevirtual 492, 3) := by decide +kernel
theorem dJ0_charAt_5068e_4 : decode cJ0_charAt_5068e 4 = .ok (.ifCond .eq 12, 3) := by decide +kernel
theorem dJ0_charAt_5068e_7 : decode cJ0_charAt_5068e 7 = .ok (.aload_n 0, 1) := by decide +kernel
theorem dJ0_charAt_5068e_8 : decode cJ0_charAt_5068e 8 = .ok (.getfield 9, 3) := by decide +kernel
theorem dJ0_charAt_5068e_11 : decode cJ0_charAt_5068e 11 = .ok (.iload_n 1, 1) := by decide +kernel
theorem dJ0_charAt_5068e_12 : decode cJ0_charAt_5068e 12 = .ok (.invokestatic 495, 3) := by decide +kernel
theorem dJ0_charAt_5068e_15 : decode cJ0_charAt_5068e 15 = .ok (.ireturn, 1) := by decide +kernel
theorem dJ0_charAt_5068e_16 : decode cJ0_charAt_5068e 16 = .ok (.aload_n 0, 1) := by decide +kernel
theorem dJ0_charAt_5068e_17 : decode cJ0_charAt_5068e 17 = .ok (.getfield 9, 3) := by decide +kernel
theorem dJ0_charAt_5068e_20 : decode cJ0_charAt_5068e 20 = .ok (.iload_n 1, 1) := by decide +kernel
theorem dJ0_charAt_5068e_21 : decode cJ0_charAt_5068e 21 = .ok (.invokestatic 498, 3) := by decide +kernel
theorem dJ0_charAt_5068e_24 : decode cJ0_charAt_5068e 24 = .ok (.ireturn, 1) := by decide +kernel
theorem dJ0_indexOf_0f7a4_0 : decode cJ0_indexOf_0f7a4 0 = .ok (.aload_n 0, 1) := by decide +kernel
theorem dJ0_indexOf_0f7a4_1 : decode cJ0_indexOf_0f7a4 1 = .ok (.iload_n 1, 1) := by decide +kernel
theorem dJ0_indexOf_0f7a4_2 : decode cJ0_indexOf_0f7a4 2 = .ok (.iconst 0, 1) := by decide +kernel
theorem dJ0_indexOf_0f7a4_3 : decode cJ0_indexOf_0f7a4 3 = .ok (.invokevirtual 633, 3) := by decide +kernel
theorem dJ0_indexOf_0f7a4_6 : decode cJ0_indexOf_0f7a4 6 = .ok (.ireturn, 1) := by decide +kernel
theorem dJ0_indexOf_7cf53_0 : decode cJ0_indexOf_7cf53 0 = .ok (.aload_n 0, 1) := by decide +kernel
theorem dJ0_indexOf_7cf53_1 : decode cJ0_indexOf_7cf53 1 = .ok (.invokevirtual 492, 3) := by decide +kernel
theorem dJ0_indexOf_7cf53_4 : decode cJ0_indexOf_7cf53 4 = .ok (.ifCond .eq 19, 3) := by decide +kernel
theorem dJ0_indexOf_7cf53_7 : decode cJ0_indexOf_7cf53 7 = .ok (.aload_n 0, 1) := by decide +kernel
theorem dJ0_indexOf_7cf53_8 : decode cJ0_indexOf_7cf53 8 = .ok (.getfield 9, 3) := by decide +kernel
theorem dJ0_indexOf_7cf53_11 : decode cJ0_indexOf_7cf53 11 = .ok (.iload_n 1, 1) := by decide +kernel
theorem dJ0_indexOf_7cf53_12 : decode cJ0_indexOf_7cf53 12 = .ok (.iload_n 2, 1) := by decide +kernel
theorem dJ0_indexOf_7cf53_13 : decode cJ0_indexOf_7cf53 13 = .ok (.aload_n 0, 1) := by decide +kernel
theorem dJ0_indexOf_7cf53_14 : decode cJ0_indexOf_7cf53 14 = .ok (.invokevirtual 505, 3) := by decide +kernel
theorem dJ0_indexOf_7cf53_17 : decode cJ0_indexOf_7cf53 17 = .ok (.invokestatic 637, 3) := by decide +kernel
theorem dJ0_indexOf_7cf53_20 : decode cJ0_indexOf_7cf53 20 = .ok (.goto 16, 3) := by decide +kernel
theorem dJ0_indexOf_7cf53_23 : decode cJ0_indexOf_7cf53 23 = .ok (.aload_n 0, 1) := by decide +kernel
theorem dJ0_indexOf_7cf53_24 : decode cJ0_indexOf_7cf53 24 = .ok (.getfield 9, 3) := by decide +kernel
theorem dJ0_indexOf_7cf53_27 : decode cJ0_indexOf_7cf53 27 = .ok (.iload_n 1, 1) := by decide +kernel
theorem dJ0_indexOf_7cf53_28 : decode cJ0_indexOf_7cf53 28 = .ok (.iload_n 2, 1) := by decide +kernel
theorem dJ0_indexOf_7cf53_29 : decode cJ0_indexOf_7cf53 29 = .ok (.aload_n 0, 1) := by decide +kernel
theorem dJ0_indexOf_7cf53_30 : decode cJ0_indexOf_7cf53 30 = .ok (.invokevirtual 505, 3) := by decide +kernel
theorem dJ0_indexOf_7cf53_33 : decode cJ0_indexOf_7cf53 33 = .ok (.invokestatic 640, 3) := by decide +kernel
theorem dJ0_indexOf_7cf53_36 : decode cJ0_indexOf_7cf53 36 = .ok (.ireturn, 1) := by decide +kernel
theorem dJ0_coder_7d493_0 : decode cJ0_coder_7d493 0 = .ok (.getstatic 38, 3) := by decide +kernel
theorem dJ0_coder_7d493_3 : decode cJ0_coder_7d493 3 = .ok (.ifCond .eq 10, 3) := by decide +kernel
theorem dJ0_coder_7d493_6 : decode cJ0_coder_7d493 6 = .ok (.aload_n 0, 1) := by decide +kernel
theorem dJ0_coder_7d493_7 : decode cJ0_coder_7d493 7 = .ok (.getfield 15, 3) := by decide +kernel
theorem dJ0_coder_7d493_10 : decode cJ0_coder_7d493 10 = .ok (.goto 4, 3) := by decide +kernel
theorem dJ0_coder_7d493_13 : decode cJ0_coder_7d493 13 = .ok (.iconst 1, 1) := by decide +kernel
theorem dJ0_coder_7d493_14 : decode cJ0_coder_7d493 14 = .ok (.ireturn, 1) := by decide +kernel
theorem dJ0_isLatin1_aae02_0 : decode cJ0_isLatin1_aae02 0 = .ok (.getstatic 38, 3) := by decide +kernel
theorem dJ0_isLatin1_aae02_3 : decode cJ0_isLatin1_aae02 3 = .ok (.ifCond .eq 14, 3) := by decide +kernel
theorem dJ0_isLatin1_aae02_6 : decode cJ0_isLatin1_aae02 6 = .ok (.aload_n 0, 1) := by decide +kernel
theorem dJ0_isLatin1_aae02_7 : decode cJ0_isLatin1_aae02 7 = .ok (.getfield 15, 3) := by decide +kernel
theorem dJ0_isLatin1_aae02_10 : decode cJ0_isLatin1_aae02 10 = .ok (.ifCond .ne 7, 3) := by decide +kernel
theorem dJ0_isLatin1_aae02_13 : decode cJ0_isLatin1_aae02 13 = .ok (.iconst 1, 1) := by decide +kernel
theorem dJ0_isLatin1_aae02_14 : decode cJ0_isLatin1_aae02 14 = .ok (.goto 4, 3) := by decide +kernel
theorem dJ0_isLatin1_aae02_17 : decode cJ0_isLatin1_aae02 17 = .ok (.iconst 0, 1) := by decide +kernel
theorem dJ0_isLatin1_aae02_18 : decode cJ0_isLatin1_aae02 18 = .ok (.ireturn, 1) := by decide +kernel
theorem dJ0_checkIndex_df160_0 : decode cJ0_checkIndex_df160 0 = .ok (.iload_n 0, 1) := by decide +kernel
theorem dJ0_checkIndex_df160_1 : decode cJ0_checkIndex_df160 1 = .ok (.iload_n 1, 1) := by decide +kernel
theorem dJ0_checkIndex_df160_2 : decode cJ0_checkIndex_df160 2 = .ok (.getstatic 1053, 3) := by decide +kernel
theorem dJ0_checkIndex_df160_5 : decode cJ0_checkIndex_df160 5 = .ok (.invokestatic 1059, 3) := by decide +kernel
theorem dJ0_checkIndex_df160_8 : decode cJ0_checkIndex_df160 8 = .ok (.pop, 1) := by decide +kernel
theorem dJ0_checkIndex_df160_9 : decode cJ0_checkIndex_df160 9 = .ok (.return_, 1) := by decide +kernel
theorem dJ0_checkBoundsBeginEnd_23922_0 : decode cJ0_checkBoundsBeginEnd_23922 0 = .ok (.iload_n 0, 1) := by decide +kernel
theorem dJ0_checkBoundsBeginEnd_23922_1 : decode cJ0_checkBoundsBeginEnd_23922 1 = .ok (.iload_n 1, 1) := by decide +kernel
theorem dJ0_checkBoundsBeginEnd_23922_2 : decode cJ0_checkBoundsBeginEnd_23922 2 = .ok (.iload_n 2, 1) := by decide +kernel
theorem dJ0_checkBoundsBeginEnd_23922_3 : decode cJ0_checkBoundsBeginEnd_23922 3 = .ok (.getstatic 1053, 3) := by decide +kernel
theorem dJ0_checkBoundsBeginEnd_23922_6 : decode cJ0_checkBoundsBeginEnd_23922 6 = .ok (.invokestatic 1062, 3) := by decide +kernel
theorem dJ0_checkBoundsBeginEnd_23922_9 : decode cJ0_checkBoundsBeginEnd_23922 9 = .ok (.pop, 1) := by decide +kernel
theorem dJ0_checkBoundsBeginEnd_23922_10 : decode cJ0_checkBoundsBeginEnd_23922 10 = .ok (.return_, 1) := by decide +kernel
theorem dJ1_charAt_3b067_0 : decode cJ1_charAt_3b067 0 = .ok (.iload_n 1, 1) := by decide +kernel
theorem dJ1_charAt_3b067_1 : decode cJ1_charAt_3b067 1 = .ok (.aload_n 0, 1) := by decide +kernel
theorem dJ1_charAt_3b067_2 : decode cJ1_charAt_3b067 2 = .ok (.arraylength, 1) := by decide +kernel
theorem dJ1_charAt_3b067_3 : decode cJ1_charAt_3b067 3 = .ok (.invokestatic 9, 3) := by decide +kernel
theorem dJ1_charAt_3b067_6 : decode cJ1_charAt_3b067 6 = .ok (.aload_n 0, 1) := by decide +kernel
theorem dJ1_charAt_3b067_7 : decode cJ1_charAt_3b067 7 = .ok (.iload_n 1, 1) := by decide +kernel
theorem dJ1_charAt_3b067_8 : decode cJ1_charAt_3b067 8 = .ok (.baload, 1) := by decide +kernel
theorem dJ1_charAt_3b067_9 : decode cJ1_charAt_3b067 9 = .ok (.sipush 255, 3) := by decide +kernel
theorem dJ1_charAt_3b067_12 : decode cJ1_charAt_3b067 12 = .ok (.iand, 1) := by decide +kernel
theorem dJ1_charAt_3b067_13 : decode cJ1_charAt_3b067 13 = .ok (.i2c, 1) := by decide +kernel
theorem dJ1_charAt_3b067_14 : decode cJ1_charAt_3b067 14 = .ok (.ireturn, 1) := by decide +kernel
theorem dJ1_canEncode_9a6ad_0 : decode cJ1_canEncode_9a6ad 0 = .ok (.iload_n 0, 1) := by decide +kernel
theorem dJ1_canEncode_9a6ad_1 : decode cJ1_canEncode_9a6ad 1 = .ok (.ifCond .lt 14, 3) := by decide +kernel
theorem dJ1_canEncode_9a6ad_4 : decode cJ1_canEncode_9a6ad 4 = .ok (.iload_n 0, 1) := by decide +kernel
theorem dJ1_canEncode_9a6ad_5 : decode cJ1_canEncode_9a6ad 5 = .ok (.sipush 255, 3) := by decide +kernel
theorem dJ1_canEncode_9a6ad_8 : decode cJ1_canEncode_9a6ad 8 = .ok (.if_icmp .gt 7, 3) := by decide +kernel
theorem dJ1_canEncode_9a6ad_11 : decode cJ1_canEncode_9a6ad 11 = .ok (.iconst 1, 1) := by decide +kernel
theorem dJ1_canEncode_9a6ad_12 : decode cJ1_canEncode_9a6ad 12 = .ok (.goto 4, 3) := by decide +kernel
theorem dJ1_canEncode_9a6ad_15 : decode cJ1_canEncode_9a6ad 15 = .ok (.iconst 0, 1) := by decide +kernel
theorem dJ1_canEncode_9a6ad_16 : decode cJ1_canEncode_9a6ad 16 = .ok (.ireturn, 1) := by decide +kernel
theorem dJ1_indexOf_4cfef_0 : decode cJ1_indexOf_4cfef 0 = .ok (.iload_n 1, 1) := by decide +kernel
theorem dJ1_indexOf_4cfef_1 : decode cJ1_indexOf_4cfef 1 = .ok (.invokestatic 88, 3) := by decide +kernel
theorem dJ1_indexOf_4cfef_4 : decode cJ1_indexOf_4cfef 4 = .ok (.ifCond .ne 5, 3) := by decide +kernel
theorem dJ1_indexOf_4cfef_7 : decode cJ1_indexOf_4cfef 7 = .ok (.iconst (-1), 1) := by decide +kernel
theorem dJ1_indexOf_4cfef_8 : decode cJ1_indexOf_4cfef 8 = .ok (.ireturn, 1) := by decide +kernel
theorem dJ1_indexOf_4cfef_9 : decode cJ1_indexOf_4cfef 9 = .ok (.iload_n 2, 1) := by decide +kernel
theorem dJ1_indexOf_4cfef_10 : decode cJ1_indexOf_4cfef 10 = .ok (.iconst 0, 1) := by decide +kernel
theorem dJ1_indexOf_4cfef_11 : decode cJ1_indexOf_4cfef 11 = .ok (.invokestatic 92, 3) := by decide +kernel
theorem dJ1_indexOf_4cfef_14 : decode cJ1_indexOf_4cfef 14 = .ok (.istore_n 2, 1) := by decide +kernel
theorem dJ1_indexOf_4cfef_15 : decode cJ1_indexOf_4cfef 15 = .ok (.iload_n 3, 1) := by decide +kernel
theorem dJ1_indexOf_4cfef_16 : decode cJ1_indexOf_4cfef 16 = .ok (.aload_n 0, 1) := by decide +kernel
theorem dJ1_indexOf_4cfef_17 : decode cJ1_indexOf_4cfef 17 = .ok (.arraylength, 1) := by decide +kernel
theorem dJ1_indexOf_4cfef_18 : decode cJ1_indexOf_4cfef 18 = .ok (.invokestatic 38, 3) := by decide +kernel
theorem dJ1_indexOf_4cfef_21 : decode cJ1_indexOf_4cfef 21 = .ok (.istore_n 3, 1) := by decide +kernel
theorem dJ1_indexOf_4cfef_22 : decode cJ1_indexOf_4cfef 22 = .ok (.iload_n 2, 1) := by decide +kernel
theorem dJ1_indexOf_4cfef_23 : decode cJ1_indexOf_4cfef 23 = .ok (.iload_n 3, 1) := by decide +kernel
theorem dJ1_indexOf_4cfef_24 : decode cJ1_indexOf_4cfef 24 = .ok (.if_icmp .lt 5, 3) := by decide +kernel
theorem dJ1_indexOf_4cfef_27 : decode cJ1_indexOf_4cfef 27 = .ok (.iconst (-1), 1) := by decide +kernel
theorem dJ1_indexOf_4cfef_28 : decode cJ1_indexOf_4cfef 28 = .ok (.ireturn, 1) := by decide +kernel
theorem dJ1_indexOf_4cfef_29 : decode cJ1_indexOf_4cfef 29 = .ok (.aload_n 0, 1) := by decide +kernel
theorem dJ1_indexOf_4cfef_30 : decode cJ1_indexOf_4cfef 30 = .ok (.iload_n 1, 1) := by decide +kernel
theorem dJ1_indexOf_4cfef_31 : decode cJ1_indexOf_4cfef 31 = .ok (.iload_n 2, 1) := by decide +kernel
theorem dJ1_indexOf_4cfef_32 : decode cJ1_indexOf_4cfef 32 = .ok (.iload_n 3, 1) := by decide +kernel
theorem dJ1_indexOf_4cfef_33 : decode cJ1_indexOf_4cfef 33 = .ok (.invokestatic 95, 3) := by decide +kernel
theorem dJ1_indexOf_4cfef_36 : decode cJ1_indexOf_4cfef 36 = .ok (.ireturn, 1) := by decide +kernel
theorem dJ1_indexOfChar_4cfef_0 : decode cJ1_indexOfChar_4cfef 0 = .ok (.iload_n 1, 1) := by decide +kernel
theorem dJ1_indexOfChar_4cfef_1 : decode cJ1_indexOfChar_4cfef 1 = .ok (.i2b, 1) := by decide +kernel
theorem dJ1_indexOfChar_4cfef_2 : decode cJ1_indexOfChar_4cfef 2 = .ok (.istore 4, 2) := by decide +kernel
theorem dJ1_indexOfChar_4cfef_4 : decode cJ1_indexOfChar_4cfef 4 = .ok (.iload_n 2, 1) := by decide +kernel
theorem dJ1_indexOfChar_4cfef_5 : decode cJ1_indexOfChar_4cfef 5 = .ok (.istore 5, 2) := by decide +kernel
theorem dJ1_indexOfChar_4cfef_7 : decode cJ1_indexOfChar_4cfef 7 = .ok (.iload 5, 2) := by decide +kernel
theorem dJ1_indexOfChar_4cfef_9 : decode cJ1_indexOfChar_4cfef 9 = .ok (.iload_n 3, 1) := by decide +kernel
theorem dJ1_indexOfChar_4cfef_10 : decode cJ1_indexOfChar_4cfef 10 = .ok (.if_icmp .ge 21, 3) := by decide +kernel
theorem dJ1_indexOfChar_4cfef_13 : decode cJ1_indexOfChar_4cfef 13 = .ok (.aload_n 0, 1) := by decide +kernel
theorem dJ1_indexOfChar_4cfef_14 : decode cJ1_indexOfChar_4cfef 14 = .ok (.iload 5, 2) := by decide +kernel
theorem dJ1_indexOfChar_4cfef_16 : decode cJ1_indexOfChar_4cfef 16 = .ok (.baload, 1) := by decide +kernel
theorem dJ1_indexOfChar_4cfef_17 : decode cJ1_indexOfChar_4cfef 17 = .ok (.iload 4, 2) := by decide +kernel
theorem dJ1_indexOfChar_4cfef_19 : decode cJ1_indexOfChar_4cfef 19 = .ok (.if_icmp .ne 6, 3) := by decide +kernel
theorem dJ1_indexOfChar_4cfef_22 : decode cJ1_indexOfChar_4cfef 22 = .ok (.iload 5, 2) := by decide +kernel
theorem dJ1_indexOfChar_4cfef_24 : decode cJ1_indexOfChar_4cfef 24 = .ok (.ireturn, 1) := by decide +kernel
theorem dJ1_indexOfChar_4cfef_25 : decode cJ1_indexOfChar_4cfef 25 = .ok (.iinc 5 1, 3) := by decide +kernel
theorem dJ1_indexOfChar_4cfef_28 : decode cJ1_indexOfChar_4cfef 28 = .ok (.goto (-21), 3) := by decide +kernel
theorem dJ1_indexOfChar_4cfef_31 : decode cJ1_indexOfChar_4cfef 31 = .ok (.iconst (-1), 1) := by decide +kernel
theorem dJ1_indexOfChar_4cfef_32 : decode cJ1_indexOfChar_4cfef 32 = .ok (.ireturn, 1) := by decide +kernel
theorem dJ2_getChar_3b067_0 : decode cJ2_getChar_3b067 0 = .ok (.getstatic 44, 3) := by decide +kernel
theorem dJ2_getChar_3b067_3 : decode cJ2_getChar_3b067 3 = .ok (.ifCond .ne 25, 3) := by decide +kernel
theorem dJ2_getChar_3b067_6 : decode cJ2_getChar_3b067 6 = .ok (.iload_n 1, 1) := by decide +kernel
theorem dJ2_getChar_3b067_7 : decode cJ2_getChar_3b067 7 = .ok (.ifCond .lt 11, 3) := by decide +kernel
theorem dJ2_getChar_3b067_10 : decode cJ2_getChar_3b067 10 = .ok (.iload_n 1, 1) := by decide +kernel
theorem dJ2_getChar_3b067_11 : decode cJ2_getChar_3b067 11 = .ok (.aload_n 0, 1) := by decide +kernel
theorem dJ2_getChar_3b067_12 : decode cJ2_getChar_3b067 12 = .ok (.invokestatic 48, 3) := by decide +kernel
theorem dJ2_getChar_3b067_15 : decode cJ2_getChar_3b067 15 = .ok (.if_icmp .lt 13, 3) := by decide +kernel
theorem dJ2_getChar_3b067_18 : decode cJ2_getChar_3b067 18 = .ok (.new 52, 3) := by decide +kernel
theorem dJ2_getChar_3b067_21 : decode cJ2_getChar_3b067 21 = .ok (.dup, 1) := by decide +kernel
theorem dJ2_getChar_3b067_22 : decode cJ2_getChar_3b067 22 = .ok (.ldc 54, 2) := by decide +kernel
theorem dJ2_getChar_3b067_24 : decode cJ2_getChar_3b067 24 = .ok (.invokespecial 56, 3) := by decide +kernel
theorem dJ2_getChar_3b067_27 : decode cJ2_getChar_3b067 27 = .ok (.athrow, 1) := by decide +kernel
theorem dJ2_getChar_3b067_28 : decode cJ2_getChar_3b067 28 = .ok (.iload_n 1, 1) := by decide +kernel
theorem dJ2_getChar_3b067_29 : decode cJ2_getChar_3b067 29 = .ok (.iconst 1, 1) := by decide +kernel
theorem dJ2_getChar_3b067_30 : decode cJ2_getChar_3b067 30 = .ok (.ishl, 1) := by decide +kernel
theorem dJ2_getChar_3b067_31 : decode cJ2_getChar_3b067 31 = .ok (.istore_n 1, 1) := by decide +kernel
theorem dJ2_getChar_3b067_32 : decode cJ2_getChar_3b067 32 = .ok (.aload_n 0, 1) := by decide +kernel
theorem dJ2_getChar_3b067_33 : decode cJ2_getChar_3b067 33 = .ok (.iload_n 1, 1) := by decide +kernel
theorem dJ2_getChar_3b067_34 : decode cJ2_getChar_3b067 34 = .ok (.iinc 1 1, 3) := by decide +kernel
theorem dJ2_getChar_3b067_37 : decode cJ2_getChar_3b067 37 = .ok (.baload, 1) := by decide +kernel
theorem dJ2_getChar_3b067_38 : decode cJ2_getChar_3b067 38 = .ok (.sipush 255, 3) := by decide +kernel
theorem dJ2_getChar_3b067_41 : decode cJ2_getChar_3b067 41 = .ok (.iand, 1) := by decide +kernel
theorem dJ2_getChar_3b067_42 : decode cJ2_getChar_3b067 42 = .ok (.getstatic 59, 3) := by decide +kernel
theorem dJ2_getChar_3b067_45 : decode cJ2_getChar_3b067 45 = .ok (.ishl, 1) := by decide +kernel
theorem dJ2_getChar_3b067_46 : decode cJ2_getChar_3b067 46 = .ok (.aload_n 0, 1) := by decide +kernel
theorem dJ2_getChar_3b067_47 : decode cJ2_getChar_3b067 47 = .ok (.iload_n 1, 1) := by decide +kernel
theorem dJ2_getChar_3b067_48 : decode cJ2_getChar_3b067 48 = .ok (.baload, 1) := by decide +kernel
theorem dJ2_getChar_3b067_49 : decode cJ2_getChar_3b067 49 = .ok (.sipush 255, 3) := by decide +kernel
theorem dJ2_getChar_3b067_52 : decode cJ2_getChar_3b067 52 = .ok (.iand, 1) := by decide +kernel
theorem dJ2_getChar_3b067_53 : decode cJ2_getChar_3b067 53 = .ok (.getstatic 63, 3) := by decide +kernel
theorem dJ2_getChar_3b067_56 : decode cJ2_getChar_3b067 56 = .ok (.ishl, 1) := by decide +kernel
theorem dJ2_getChar_3b067_57 : decode cJ2_getChar_3b067 57 = .ok (.ior, 1) := by decide +kernel
theorem dJ2_getChar_3b067_58 : decode cJ2_getChar_3b067 58 = .ok (.i2c, 1) := by decide +kernel
theorem dJ2_getChar_3b067_59 : decode cJ2_getChar_3b067 59 = .ok (.ireturn, 1) := by decide +kernel
theorem dJ2_length_9d52b_0 : decode cJ2_length_9d52b 0 = .ok (.aload_n 0, 1) := by decide +kernel
theorem dJ2_length_9d52b_1 : decode cJ2_length_9d52b 1 = .ok (.arraylength, 1) := by decide +kernel
theorem dJ2_length_9d52b_2 : decode cJ2_length_9d52b 2 = .ok (.iconst 1, 1) := by decide +kernel
theorem dJ2_length_9d52b_3 : decode cJ2_length_9d52b 3 = .ok (.ishr, 1) := by decide +kernel
theorem dJ2_length_9d52b_4 : decode cJ2_length_9d52b 4 = .ok (.ireturn, 1) := by decide +kernel
theorem dJ2_indexOf_4cfef_0 : decode cJ2_indexOf_4cfef 0 = .ok (.iload_n 2, 1) := by decide +kernel
theorem dJ2_indexOf_4cfef_1 : decode cJ2_indexOf_4cfef 1 = .ok (.iconst 0, 1) := by decide +kernel
theorem dJ2_indexOf_4cfef_2 : decode cJ2_indexOf_4cfef 2 = .ok (.invokestatic 224, 3) := by decide +kernel
theorem dJ2_indexOf_4cfef_5 : decode cJ2_indexOf_4cfef 5 = .ok (.istore_n 2, 1) := by decide +kernel
theorem dJ2_indexOf_4cfef_6 : decode cJ2_indexOf_4cfef 6 = .ok (.iload_n 3, 1) := by decide +kernel
theorem dJ2_indexOf_4cfef_7 : decode cJ2_indexOf_4cfef 7 = .ok (.aload_n 0, 1) := by decide +kernel
theorem dJ2_indexOf_4cfef_8 : decode cJ2_indexOf_4cfef 8 = .ok (.arraylength, 1) := by decide +kernel
theorem dJ2_indexOf_4cfef_9 : decode cJ2_indexOf_4cfef 9 = .ok (.iconst 1, 1) := by decide +kernel
theorem dJ2_indexOf_4cfef_10 : decode cJ2_indexOf_4cfef 10 = .ok (.ishr, 1) := by decide +kernel
theorem dJ2_indexOf_4cfef_11 : decode cJ2_indexOf_4cfef 11 = .ok (.invokestatic 183, 3) := by decide +kernel
theorem dJ2_indexOf_4cfef_14 : decode cJ2_indexOf_4cfef 14 = .ok (.istore_n 3, 1) := by decide +kernel
theorem dJ2_indexOf_4cfef_15 : decode cJ2_indexOf_4cfef 15 = .ok (.iload_n 2, 1) := by decide +kernel
theorem dJ2_indexOf_4cfef_16 : decode cJ2_indexOf_4cfef 16 = .ok (.iload_n 3, 1) := by decide +kernel
theorem dJ2_indexOf_4cfef_17 : decode cJ2_indexOf_4cfef 17 = .ok (.if_icmp .lt 5, 3) := by decide +kernel
theorem dJ2_indexOf_4cfef_20 : decode cJ2_indexOf_4cfef 20 = .ok (.iconst (-1), 1) := by decide +kernel
theorem dJ2_indexOf_4cfef_21 : decode cJ2_indexOf_4cfef 21 = .ok (.ireturn, 1) := by decide +kernel
theorem dJ2_indexOf_4cfef_22 : decode cJ2_indexOf_4cfef 22 = .ok (.iload_n 1, 1) := by decide +kernel
theorem dJ2_indexOf_4cfef_23 : decode cJ2_indexOf_4cfef 23 = .ok (.ldc 227, 2) := by decide +kernel
theorem dJ2_indexOf_4cfef_25 : decode cJ2_indexOf_4cfef 25 = .ok (.if_icmp .ge 11, 3) := by decide +kernel
theorem dJ2_indexOf_4cfef_28 : decode cJ2_indexOf_4cfef 28 = .ok (.aload_n 0, 1) := by decide +kernel
theorem dJ2_indexOf_4cfef_29 : decode cJ2_indexOf_4cfef 29 = .ok (.iload_n 1, 1) := by decide +kernel
theorem dJ2_indexOf_4cfef_30 : decode cJ2_indexOf_4cfef 30 = .ok (.iload_n 2, 1) := by decide +kernel
theorem dJ2_indexOf_4cfef_31 : decode cJ2_indexOf_4cfef 31 = .ok (.iload_n 3, 1) := by decide +kernel
theorem dJ2_indexOf_4cfef_32 : decode cJ2_indexOf_4cfef 32 = .ok (.invokestatic 228, 3) := by decide +kernel
theorem dJ2_indexOf_4cfef_35 : decode cJ2_indexOf_4cfef 35 = .ok (.ireturn, 1) := by decide +kernel
theorem dJ2_indexOf_4cfef_36 : decode cJ2_indexOf_4cfef 36 = .ok (.aload_n 0, 1) := by decide +kernel
theorem dJ2_indexOf_4cfef_37 : decode cJ2_indexOf_4cfef 37 = .ok (.iload_n 1, 1) := by decide +kernel
theorem dJ2_indexOf_4cfef_38 : decode cJ2_indexOf_4cfef 38 = .ok (.iload_n 2, 1) := by decide +kernel
theorem dJ2_indexOf_4cfef_39 : decode cJ2_indexOf_4cfef 39 = .ok (.iload_n 3, 1) := by decide +kernel
theorem dJ2_indexOf_4cfef_40 : decode cJ2_indexOf_4cfef 40 = .ok (.invokestatic 232, 3) := by decide +kernel
theorem dJ2_indexOf_4cfef_43 : decode cJ2_indexOf_4cfef 43 = .ok (.ireturn, 1) := by decide +kernel
theorem dJ2_indexOfChar_4cfef_0 : decode cJ2_indexOfChar_4cfef 0 = .ok (.iload_n 2, 1) := by decide +kernel
theorem dJ2_indexOfChar_4cfef_1 : decode cJ2_indexOfChar_4cfef 1 = .ok (.iload_n 3, 1) := by decide +kernel
theorem dJ2_indexOfChar_4cfef_2 : decode cJ2_indexOfChar_4cfef 2 = .ok (.aload_n 0, 1) := by decide +kernel
theorem dJ2_indexOfChar_4cfef_3 : decode cJ2_indexOfChar_4cfef 3 = .ok (.invokestatic 96, 3) := by decide +kernel
theorem dJ2_indexOfChar_4cfef_6 : decode cJ2_indexOfChar_4cfef 6 = .ok (.aload_n 0, 1) := by decide +kernel
theorem dJ2_indexOfChar_4cfef_7 : decode cJ2_indexOfChar_4cfef 7 = .ok (.iload_n 1, 1) := by decide +kernel
theorem dJ2_indexOfChar_4cfef_8 : decode cJ2_indexOfChar_4cfef 8 = .ok (.iload_n 2, 1) := by decide +kernel
theorem dJ2_indexOfChar_4cfef_9 : decode cJ2_indexOfChar_4cfef 9 = .ok (.iload_n 3, 1) := by decide +kernel
theorem dJ2_indexOfChar_4cfef_10 : decode cJ2_indexOfChar_4cfef 10 = .ok (.invokestatic 244, 3) := by decide +kernel
theorem dJ2_indexOfChar_4cfef_13 : decode cJ2_indexOfChar_4cfef 13 = .ok (.ireturn, 1) := by decide +kernel
theorem dJ2_indexOfCharUnsafe_4cfef_0 : decode cJ2_indexOfCharUnsafe_4cfef 0 = .ok (.iload_n 2, 1) := by decide +kernel
theorem dJ2_indexOfCharUnsafe_4cfef_1 : decode cJ2_indexOfCharUnsafe_4cfef 1 = .ok (.istore 4, 2) := by decide +kernel
theorem dJ2_indexOfCharUnsafe_4cfef_3 : decode cJ2_indexOfCharUnsafe_4cfef 3 = .ok (.iload 4, 2) := by decide +kernel
theorem dJ2_indexOfCharUnsafe_4cfef_5 : decode cJ2_indexOfCharUnsafe_4cfef 5 = .ok (.iload_n 3, 1) := by decide +kernel
theorem dJ2_indexOfCharUnsafe_4cfef_6 : decode cJ2_indexOfCharUnsafe_4cfef 6 = .ok (.if_icmp .ge 22, 3) := by decide +kernel
theorem dJ2_indexOfCharUnsafe_4cfef_9 : decode cJ2_indexOfCharUnsafe_4cfef 9 = .ok (.aload_n 0, 1) := by decide +kernel
theorem dJ2_indexOfCharUnsafe_4cfef_10 : decode cJ2_indexOfCharUnsafe_4cfef 10 = .ok (.iload 4, 2) := by decide +kernel
theorem dJ2_indexOfCharUnsafe_4cfef_12 : decode cJ2_indexOfCharUnsafe_4cfef 12 = .ok (.invokestatic 71, 3) := by decide +kernel
theorem dJ2_indexOfCharUnsafe_4cfef_15 : decode cJ2_indexOfCharUnsafe_4cfef 15 = .ok (.iload_n 1, 1) := by decide +kernel
theorem dJ2_indexOfCharUnsafe_4cfef_16 : decode cJ2_indexOfCharUnsafe_4cfef 16 = .ok (.if_icmp .ne 6, 3) := by decide +kernel
theorem dJ2_indexOfCharUnsafe_4cfef_19 : decode cJ2_indexOfCharUnsafe_4cfef 19 = .ok (.iload 4, 2) := by decide +kernel
theorem dJ2_indexOfCharUnsafe_4cfef_21 : decode cJ2_indexOfCharUnsafe_4cfef 21 = .ok (.ireturn, 1) := by decide +kernel
theorem dJ2_indexOfCharUnsafe_4cfef_22 : decode cJ2_indexOfCharUnsafe_4cfef 22 = .ok (.iinc 4 1, 3) := by decide +kernel
theorem dJ2_indexOfCharUnsafe_4cfef_25 : decode cJ2_indexOfCharUnsafe_4cfef 25 = .ok (.goto (-22), 3) := by decide +kernel
theorem dJ2_indexOfCharUnsafe_4cfef_28 : decode cJ2_indexOfCharUnsafe_4cfef 28 = .ok (.iconst (-1), 1) := by decide +kernel
theorem dJ2_indexOfCharUnsafe_4cfef_29 : decode cJ2_indexOfCharUnsafe_4cfef 29 = .ok (.ireturn, 1) := by decide +kernel
theorem dJ2_indexOfSupplementary_4cfef_0 : decode cJ2_indexOfSupplementary_4cfef 0 = .ok (.iload_n 1, 1) := by decide +kernel
theorem dJ2_indexOfSupplementary_4cfef_1 : decode cJ2_indexOfSupplementary_4cfef 1 = .ok (.invokestatic 164, 3) := by decide +kernel
theorem dJ2_indexOfSupplementary_4cfef_4 : decode cJ2_indexOfSupplementary_4cfef 4 = .ok (.ifCond .eq 65, 3) := by decide +kernel
theorem dJ2_indexOfSupplementary_4cfef_7 : decode cJ2_indexOfSupplementary_4cfef 7 = .ok (.iload_n 1, 1) := by decide +kernel
theorem dJ2_indexOfSupplementary_4cfef_8 : decode cJ2_indexOfSupplementary_4cfef 8 = .ok (.invokestatic 157, 3) := by decide +kernel
theorem dJ2_indexOfSupplementary_4cfef_11 : decode cJ2_indexOfSupplementary_4cfef 11 = .ok (.istore 4, 2) := by decide +kernel
theorem dJ2_indexOfSupplementary_4cfef_13 : decode cJ2_indexOfSupplementary_4cfef 13 = .ok (.iload_n 1, 1) := by decide +kernel
theorem dJ2_indexOfSupplementary_4cfef_14 : decode cJ2_indexOfSupplementary_4cfef 14 = .ok (.invokestatic 161, 3) := by decide +kernel
theorem dJ2_indexOfSupplementary_4cfef_17 : decode cJ2_indexOfSupplementary_4cfef 17 = .ok (.istore 5, 2) := by decide +kernel
theorem dJ2_indexOfSupplementary_4cfef_19 : decode cJ2_indexOfSupplementary_4cfef 19 = .ok (.iload_n 2, 1) := by decide +kernel
theorem dJ2_indexOfSupplementary_4cfef_20 : decode cJ2_indexOfSupplementary_4cfef 20 = .ok (.iload_n 3, 1) := by decide +kernel
theorem dJ2_indexOfSupplementary_4cfef_21 : decode cJ2_indexOfSupplementary_4cfef 21 = .ok (.aload_n 0, 1) := by decide +kernel
theorem dJ2_indexOfSupplementary_4cfef_22 : decode cJ2_indexOfSupplementary_4cfef 22 = .ok (.invokestatic 96, 3) := by decide +kernel
theorem dJ2_indexOfSupplementary_4cfef_25 : decode cJ2_indexOfSupplementary_4cfef 25 = .ok (.iload_n 2, 1) := by decide +kernel
theorem dJ2_indexOfSupplementary_4cfef_26 : decode cJ2_indexOfSupplementary_4cfef 26 = .ok (.istore 6, 2) := by decide +kernel
theorem dJ2_indexOfSupplementary_4cfef_28 : decode cJ2_indexOfSupplementary_4cfef 28 = .ok (.iload 6, 2) := by decide +kernel
theorem dJ2_indexOfSupplementary_4cfef_30 : decode cJ2_indexOfSupplementary_4cfef 30 = .ok (.iload_n 3, 1) := by decide +kernel
theorem dJ2_indexOfSupplementary_4cfef_31 : decode cJ2_indexOfSupplementary_4cfef 31 = .ok (.iconst 1, 1) := by decide +kernel
theorem dJ2_indexOfSupplementary_4cfef_32 : decode cJ2_indexOfSupplementary_4cfef 32 = .ok (.isub, 1) := by decide +kernel
theorem dJ2_indexOfSupplementary_4cfef_33 : decode cJ2_indexOfSupplementary_4cfef 33 = .ok (.if_icmp .ge 36, 3) := by decide +kernel
theorem dJ2_indexOfSupplementary_4cfef_36 : decode cJ2_indexOfSupplementary_4cfef 36 = .ok (.aload_n 0, 1) := by decide +kernel
theorem dJ2_indexOfSupplementary_4cfef_37 : decode cJ2_indexOfSupplementary_4cfef 37 = .ok (.iload 6, 2) := by decide +kernel
theorem dJ2_indexOfSupplementary_4cfef_39 : decode cJ2_indexOfSupplementary_4cfef 39 = .ok (.invokestatic 71, 3) := by decide +kernel
theorem dJ2_indexOfSupplementary_4cfef_42 : decode cJ2_indexOfSupplementary_4cfef 42 = .ok (.iload 4, 2) := by decide +kernel
theorem dJ2_indexOfSupplementary_4cfef_44 : decode cJ2_indexOfSupplementary_4cfef 44 = .ok (.if_icmp .ne 19, 3) := by decide +kernel
theorem dJ2_indexOfSupplementary_4cfef_47 : decode cJ2_indexOfSupplementary_4cfef 47 = .ok (.aload_n 0, 1) := by decide +kernel
theorem dJ2_indexOfSupplementary_4cfef_48 : decode cJ2_indexOfSupplementary_4cfef 48 = .ok (.iload 6, 2) := by decide +kernel
theorem dJ2_indexOfSupplementary_4cfef_50 : decode cJ2_indexOfSupplementary_4cfef 50 = .ok (.iconst 1, 1) := by decide +kernel
theorem dJ2_indexOfSupplementary_4cfef_51 : decode cJ2_indexOfSupplementary_4cfef 51 = .ok (.iadd, 1) := by decide +kernel
theorem dJ2_indexOfSupplementary_4cfef_52 : decode cJ2_indexOfSupplementary_4cfef 52 = .ok (.invokestatic 71, 3) := by decide +kernel
theorem dJ2_indexOfSupplementary_4cfef_55 : decode cJ2_indexOfSupplementary_4cfef 55 = .ok (.iload 5, 2) := by decide +kernel
theorem dJ2_indexOfSupplementary_4cfef_57 : decode cJ2_indexOfSupplementary_4cfef 57 = .ok (.if_icmp .ne 6, 3) := by decide +kernel
theorem dJ2_indexOfSupplementary_4cfef_60 : decode cJ2_indexOfSupplementary_4cfef 60 = .ok (.iload 6, 2) := by decide +kernel
theorem dJ2_indexOfSupplementary_4cfef_62 : decode cJ2_indexOfSupplementary_4cfef 62 = .ok (.ireturn, 1) := by decide +kernel
theorem dJ2_indexOfSupplementary_4cfef_63 : decode cJ2_indexOfSupplementary_4cfef 63 = .ok (.iinc 6 1, 3) := by decide +kernel
theorem dJ2_indexOfSupplementary_4cfef_66 : decode cJ2_indexOfSupplementary_4cfef 66 = .ok (.goto (-38), 3) := by decide +kernel
theorem dJ2_indexOfSupplementary_4cfef_69 : decode cJ2_indexOfSupplementary_4cfef 69 = .ok (.iconst (-1), 1) := by decide +kernel
theorem dJ2_indexOfSupplementary_4cfef_70 : decode cJ2_indexOfSupplementary_4cfef 70 = .ok (.ireturn, 1) := by decide +kernel
theorem dJ2_charAt_3b067_0 : decode cJ2_charAt_3b067 0 = .ok (.iload_n 1, 1) := by decide +kernel
theorem dJ2_charAt_3b067_1 : decode cJ2_charAt_3b067 1 = .ok (.aload_n 0, 1) := by decide +kernel
theorem dJ2_charAt_3b067_2 : decode cJ2_charAt_3b067 2 = .ok (.invokestatic 67, 3) := by decide +kernel
theorem dJ2_charAt_3b067_5 : decode cJ2_charAt_3b067 5 = .ok (.aload_n 0, 1) := by decide +kernel
theorem dJ2_charAt_3b067_6 : decode cJ2_charAt_3b067 6 = .ok (.iload_n 1, 1) := by decide +kernel
theorem dJ2_charAt_3b067_7 : decode cJ2_charAt_3b067 7 = .ok (.invokestatic 71, 3) := by decide +kernel
theorem dJ2_charAt_3b067_10 : decode cJ2_charAt_3b067 10 = .ok (.ireturn, 1) := by decide +kernel
theorem dJ2_checkIndex_2214a_0 : decode cJ2_checkIndex_2214a 0 = .ok (.iload_n 0, 1) := by decide +kernel
theorem dJ2_checkIndex_2214a_1 : decode cJ2_checkIndex_2214a 1 = .ok (.aload_n 1, 1) := by decide +kernel
theorem dJ2_checkIndex_2214a_2 : decode cJ2_checkIndex_2214a 2 = .ok (.invokestatic 48, 3) := by decide +kernel
theorem dJ2_checkIndex_2214a_5 : decode cJ2_checkIndex_2214a 5 = .ok (.invokestatic 414, 3) := by decide +kernel
theorem dJ2_checkIndex_2214a_8 : decode cJ2_checkIndex_2214a 8 = .ok (.return_, 1) := by decide +kernel
theorem dJ2_checkBoundsBeginEnd_d044e_0 : decode cJ2_checkBoundsBeginEnd_d044e 0 = .ok (.iload_n 0, 1) := by decide +kernel
theorem dJ2_checkBoundsBeginEnd_d044e_1 : decode cJ2_checkBoundsBeginEnd_d044e 1 = .ok (.iload_n 1, 1) := by decide +kernel
theorem dJ2_checkBoundsBeginEnd_d044e_2 : decode cJ2_checkBoundsBeginEnd_d044e 2 = .ok (.aload_n 2, 1) := by decide +kernel
theorem dJ2_checkBoundsBeginEnd_d044e_3 : decode cJ2_checkBoundsBeginEnd_d044e 3 = .ok (.invokestatic 48, 3) := by decide +kernel
theorem dJ2_checkBoundsBeginEnd_d044e_6 : decode cJ2_checkBoundsBeginEnd_d044e 6 = .ok (.invokestatic 241, 3) := by decide +kernel
theorem dJ2_checkBoundsBeginEnd_d044e_9 : decode cJ2_checkBoundsBeginEnd_d044e 9 = .ok (.return_, 1) := by decide +kernel
theorem dJxa1e45_init_da8c8_0 : decode cJxa1e45_init_da8c8 0 = .ok (.aload_n 0, 1) := by decide +kernel
theorem dJxa1e45_init_da8c8_1 : decode cJxa1e45_init_da8c8 1 = .ok (.invokespecial 1, 3) := by decide +kernel
theorem dJxa1e45_init_da8c8_4 : decode cJxa1e45_init_da8c8 4 = .ok (.return_, 1) := by decide +kernel
theorem dJxc12de_init_da8c8_0 : decode cJxc12de_init_da8c8 0 = .ok (.aload_n 0, 1) := by decide +kernel
theorem dJxc12de_init_da8c8_1 : decode cJxc12de_init_da8c8 1 = .ok (.invokespecial 1, 3) := by decide +kernel
theorem dJxc12de_init_da8c8_4 : decode cJxc12de_init_da8c8 4 = .ok (.aload_n 0, 1) := by decide +kernel
theorem dJxc12de_init_da8c8_5 : decode cJxc12de_init_da8c8 5 = .ok (.iconst 0, 1) := by decide +kernel
theorem dJxc12de_init_da8c8_6 : decode cJxc12de_init_da8c8 6 = .ok (.putfield 7, 3) := by decide +kernel
theorem dJxc12de_init_da8c8_9 : decode cJxc12de_init_da8c8 9 = .ok (.return_, 1) := by decide +kernel
theorem dJx4a65c_init_da8c8_0 : decode cJx4a65c_init_da8c8 0 = .ok (.aload_n 0, 1) := by decide +kernel
theorem dJx4a65c_init_da8c8_1 : decode cJx4a65c_init_da8c8 1 = .ok (.invokespecial 1, 3) := by decide +kernel
theorem dJx4a65c_init_da8c8_4 : decode cJx4a65c_init_da8c8 4 = .ok (.aload_n 0, 1) := by decide +kernel
theorem dJx4a65c_init_da8c8_5 : decode cJx4a65c_init_da8c8 5 = .ok (.getstatic 39, 3) := by decide +kernel
theorem dJx4a65c_init_da8c8_8 : decode cJx4a65c_init_da8c8 8 = .ok (.putfield 9, 3) := by decide +kernel
theorem dJx4a65c_init_da8c8_11 : decode cJx4a65c_init_da8c8 11 = .ok (.return_, 1) := by decide +kernel
theorem dJx4a65c_grow_92f84_0 : decode cJx4a65c_grow_92f84 0 = .ok (.aload_n 0, 1) := by decide +kernel
theorem dJx4a65c_grow_92f84_1 : decode cJx4a65c_grow_92f84 1 = .ok (.getfield 9, 3) := by decide +kernel
theorem dJx4a65c_grow_92f84_4 : decode cJx4a65c_grow_92f84 4 = .ok (.arraylength, 1) := by decide +kernel
theorem dJx4a65c_grow_92f84_5 : decode cJx4a65c_grow_92f84 5 = .ok (.istore_n 2, 1) := by decide +kernel
theorem dJx4a65c_grow_92f84_6 : decode cJx4a65c_grow_92f84 6 = .ok (.iload_n 2, 1) := by decide +kernel
theorem dJx4a65c_grow_92f84_7 : decode cJx4a65c_grow_92f84 7 = .ok (.ifCond .gt 13, 3) := by decide +kernel
theorem dJx4a65c_grow_92f84_10 : decode cJx4a65c_grow_92f84 10 = .ok (.aload_n 0, 1) := by decide +kernel
theorem dJx4a65c_grow_92f84_11 : decode cJx4a65c_grow_92f84 11 = .ok (.getfield 9, 3) := by decide +kernel
theorem dJx4a65c_grow_92f84_14 : decode cJx4a65c_grow_92f84 14 = .ok (.getstatic 39, 3) := by decide +kernel
theorem dJx4a65c_grow_92f84_17 : decode cJx4a65c_grow_92f84 17 = .ok (.if_acmp .eq 28, 3) := by decide +kernel
theorem dJx4a65c_grow_92f84_20 : decode cJx4a65c_grow_92f84 20 = .ok (.iload_n 2, 1) := by decide +kernel
theorem dJx4a65c_grow_92f84_21 : decode cJx4a65c_grow_92f84 21 = .ok (.iload_n 1, 1) := by decide +kernel
theorem dJx4a65c_grow_92f84_22 : decode cJx4a65c_grow_92f84 22 = .ok (.iload_n 2, 1) := by decide +kernel
theorem dJx4a65c_grow_92f84_23 : decode cJx4a65c_grow_92f84 23 = .ok (.isub, 1) := by decide +kernel
theorem dJx4a65c_grow_92f84_24 : decode cJx4a65c_grow_92f84 24 = .ok (.iload_n 2, 1) := by decide +kernel
theorem dJx4a65c_grow_92f84_25 : decode cJx4a65c_grow_92f84 25 = .ok (.iconst 1, 1) := by decide +kernel
theorem dJx4a65c_grow_92f84_26 : decode cJx4a65c_grow_92f84 26 = .ok (.ishr, 1) := by decide +kernel
theorem dJx4a65c_grow_92f84_27 : decode cJx4a65c_grow_92f84 27 = .ok (.invokestatic 73, 3) := by decide +kernel
theorem dJx4a65c_grow_92f84_30 : decode cJx4a65c_grow_92f84 30 = .ok (.istore_n 3, 1) := by decide +kernel
theorem dJx4a65c_grow_92f84_31 : decode cJx4a65c_grow_92f84 31 = .ok (.aload_n 0, 1) := by decide +kernel
theorem dJx4a65c_grow_92f84_32 : decode cJx4a65c_grow_92f84 32 = .ok (.aload_n 0, 1) := by decide +kernel
theorem dJx4a65c_grow_92f84_33 : decode cJx4a65c_grow_92f84 33 = .ok (.getfield 9, 3) := by decide +kernel
theorem dJx4a65c_grow_92f84_36 : decode cJx4a65c_grow_92f84 36 = .ok (.iload_n 3, 1) := by decide +kernel
theorem dJx4a65c_grow_92f84_37 : decode cJx4a65c_grow_92f84 37 = .ok (.invokestatic 66, 3) := by decide +kernel
theorem dJx4a65c_grow_92f84_40 : decode cJx4a65c_grow_92f84 40 = .ok (.dup_x1, 1) := by decide +kernel
theorem dJx4a65c_grow_92f84_41 : decode cJx4a65c_grow_92f84 41 = .ok (.putfield 9, 3) := by decide +kernel
theorem dJx4a65c_grow_92f84_44 : decode cJx4a65c_grow_92f84 44 = .ok (.areturn, 1) := by decide +kernel
theorem dJx4a65c_grow_92f84_45 : decode cJx4a65c_grow_92f84 45 = .ok (.aload_n 0, 1) := by decide +kernel
theorem dJx4a65c_grow_92f84_46 : decode cJx4a65c_grow_92f84 46 = .ok (.bipush 10, 2) := by decide +kernel
theorem dJx4a65c_grow_92f84_48 : decode cJx4a65c_grow_92f84 48 = .ok (.iload_n 1, 1) := by decide +kernel
theorem dJx4a65c_grow_92f84_49 : decode cJx4a65c_grow_92f84 49 = .ok (.invokestatic 79, 3) := by decide +kernel
theorem dJx4a65c_grow_92f84_52 : decode cJx4a65c_grow_92f84 52 = .ok (.anewarray 7, 3) := by decide +kernel
theorem dJx4a65c_grow_92f84_55 : decode cJx4a65c_grow_92f84 55 = .ok (.dup_x1, 1) := by decide +kernel
theorem dJx4a65c_grow_92f84_56 : decode cJx4a65c_grow_92f84 56 = .ok (.putfield 9, 3) := by decide +kernel
theorem dJx4a65c_grow_92f84_59 : decode cJx4a65c_grow_92f84 59 = .ok (.areturn, 1) := by decide +kernel
theorem dJx4a65c_grow_d5877_0 : decode cJx4a65c_grow_d5877 0 = .ok (.aload_n 0, 1) := by decide +kernel
theorem dJx4a65c_grow_d5877_1 : decode cJx4a65c_grow_d5877 1 = .ok (.aload_n 0, 1) := by decide +kernel
theorem dJx4a65c_grow_d5877_2 : decode cJx4a65c_grow_d5877 2 = .ok (.getfield 48, 3) := by decide +kernel
theorem dJx4a65c_grow_d5877_5 : decode cJx4a65c_grow_d5877 5 = .ok (.iconst 1, 1) := by decide +kernel
theorem dJx4a65c_grow_d5877_6 : decode cJx4a65c_grow_d5877 6 = .ok (.iadd, 1) := by decide +kernel
theorem dJx4a65c_grow_d5877_7 : decode cJx4a65c_grow_d5877 7 = .ok (.invokevirtual 69, 3) := by decide +kernel
theorem dJx4a65c_grow_d5877_10 : decode cJx4a65c_grow_d5877 10 = .ok (.areturn, 1) := by decide +kernel
theorem dJx4a65c_size_8abf5_0 : decode cJx4a65c_size_8abf5 0 = .ok (.aload_n 0, 1) := by decide +kernel
theorem dJx4a65c_size_8abf5_1 : decode cJx4a65c_size_8abf5 1 = .ok (.getfield 48, 3) := by decide +kernel
theorem dJx4a65c_size_8abf5_4 : decode cJx4a65c_size_8abf5 4 = .ok (.ireturn, 1) := by decide +kernel
theorem dJx4a65c_elementData_915e3_0 : decode cJx4a65c_elementData_915e3 0 = .ok (.aload_n 0, 1) := by decide +kernel
theorem dJx4a65c_elementData_915e3_1 : decode cJx4a65c_elementData_915e3 1 = .ok (.getfield 9, 3) := by decide +kernel
theorem dJx4a65c_elementData_915e3_4 : decode cJx4a65c_elementData_915e3 4 = .ok (.iload_n 1, 1) := by decide +kernel
theorem dJx4a65c_elementData_915e3_5 : decode cJx4a65c_elementData_915e3 5 = .ok (.aaload, 1) := by decide +kernel
theorem dJx4a65c_elementData_915e3_6 : decode cJx4a65c_elementData_915e3 6 = .ok (.areturn, 1) := by decide +kernel
theorem dJx4a65c_get_915e3_0 : decode cJx4a65c_get_915e3 0 = .ok (.iload_n 1, 1) := by decide +kernel
theorem dJx4a65c_get_915e3_1 : decode cJx4a65c_get_915e3 1 = .ok (.aload_n 0, 1) := by decide +kernel
theorem dJx4a65c_get_915e3_2 : decode cJx4a65c_get_915e3 2 = .ok (.getfield 48, 3) := by decide +kernel
theorem dJx4a65c_get_915e3_5 : decode cJx4a65c_get_915e3 5 = .ok (.invokestatic 118, 3) := by decide +kernel
theorem dJx4a65c_get_915e3_8 : decode cJx4a65c_get_915e3 8 = .ok (.pop, 1) := by decide +kernel
theorem dJx4a65c_get_915e3_9 : decode cJx4a65c_get_915e3 9 = .ok (.aload_n 0, 1) := by decide +kernel
theorem dJx4a65c_get_915e3_10 : decode cJx4a65c_get_915e3 10 = .ok (.iload_n 1, 1) := by decide +kernel
theorem dJx4a65c_get_915e3_11 : decode cJx4a65c_get_915e3 11 = .ok (.invokevirtual 123, 3) := by decide +kernel
theorem dJx4a65c_get_915e3_14 : decode cJx4a65c_get_915e3 14 = .ok (.areturn, 1) := by decide +kernel
theorem dJx4a65c_add_72be8_0 : decode cJx4a65c_add_72be8 0 = .ok (.iload_n 3, 1) := by decide +kernel
theorem dJx4a65c_add_72be8_1 : decode cJx4a65c_add_72be8 1 = .ok (.aload_n 2, 1) := by decide +kernel
theorem dJx4a65c_add_72be8_2 : decode cJx4a65c_add_72be8 2 = .ok (.arraylength, 1) := by decide +kernel
theorem dJx4a65c_add_72be8_3 : decode cJx4a65c_add_72be8 3 = .ok (.if_icmp .ne 8, 3) := by decide +kernel
theorem dJx4a65c_add_72be8_6 : decode cJx4a65c_add_72be8 6 = .ok (.aload_n 0, 1) := by decide +kernel
theorem dJx4a65c_add_72be8_7 : decode cJx4a65c_add_72be8 7 = .ok (.invokevirtual 129, 3) := by decide +kernel
theorem dJx4a65c_add_72be8_10 : decode cJx4a65c_add_72be8 10 = .ok (.astore_n 2, 1) := by decide +kernel
theorem dJx4a65c_add_72be8_11 : decode cJx4a65c_add_72be8 11 = .ok (.aload_n 2, 1) := by decide +kernel
theorem dJx4a65c_add_72be8_12 : decode cJx4a65c_add_72be8 12 = .ok (.iload_n 3, 1) := by decide +kernel
theorem dJx4a65c_add_72be8_13 : decode cJx4a65c_add_72be8 13 = .ok (.aload_n 1, 1) := by decide +kernel
theorem dJx4a65c_add_72be8_14 : decode cJx4a65c_add_72be8 14 = .ok (.aastore, 1) := by decide +kernel
theorem dJx4a65c_add_72be8_15 : decode cJx4a65c_add_72be8 15 = .ok (.aload_n 0, 1) := by decide +kernel
theorem dJx4a65c_add_72be8_16 : decode cJx4a65c_add_72be8 16 = .ok (.iload_n 3, 1) := by decide +kernel
theorem dJx4a65c_add_72be8_17 : decode cJx4a65c_add_72be8 17 = .ok (.iconst 1, 1) := by decide +kernel
theorem dJx4a65c_add_72be8_18 : decode cJx4a65c_add_72be8 18 = .ok (.iadd, 1) := by decide +kernel
theorem dJx4a65c_add_72be8_19 : decode cJx4a65c_add_72be8 19 = .ok (.putfield 48, 3) := by decide +kernel
theorem dJx4a65c_add_72be8_22 : decode cJx4a65c_add_72be8 22 = .ok (.return_, 1) := by decide +kernel
theorem dJx4a65c_add_9ea2d_0 : decode cJx4a65c_add_9ea2d 0 = .ok (.aload_n 0, 1) := by decide +kernel
theorem dJx4a65c_add_9ea2d_1 : decode cJx4a65c_add_9ea2d 1 = .ok (.dup, 1) := by decide +kernel
theorem dJx4a65c_add_9ea2d_2 : decode cJx4a65c_add_9ea2d 2 = .ok (.getfield 63, 3) := by decide +kernel
theorem dJx4a65c_add_9ea2d_5 : decode cJx4a65c_add_9ea2d 5 = .ok (.iconst 1, 1) := by decide +kernel
theorem dJx4a65c_add_9ea2d_6 : decode cJx4a65c_add_9ea2d 6 = .ok (.iadd, 1) := by decide +kernel
theorem dJx4a65c_add_9ea2d_7 : decode cJx4a65c_add_9ea2d 7 = .ok (.putfield 63, 3) := by decide +kernel
theorem dJx4a65c_add_9ea2d_10 : decode cJx4a65c_add_9ea2d 10 = .ok (.aload_n 0, 1) := by decide +kernel
theorem dJx4a65c_add_9ea2d_11 : decode cJx4a65c_add_9ea2d 11 = .ok (.aload_n 1, 1) := by decide +kernel
theorem dJx4a65c_add_9ea2d_12 : decode cJx4a65c_add_9ea2d 12 = .ok (.aload_n 0, 1) := by decide +kernel
theorem dJx4a65c_add_9ea2d_13 : decode cJx4a65c_add_9ea2d 13 = .ok (.getfield 9, 3) := by decide +kernel
theorem dJx4a65c_add_9ea2d_16 : decode cJx4a65c_add_9ea2d 16 = .ok (.aload_n 0, 1) := by decide +kernel
theorem dJx4a65c_add_9ea2d_17 : decode cJx4a65c_add_9ea2d 17 = .ok (.getfield 48, 3) := by decide +kernel
theorem dJx4a65c_add_9ea2d_20 : decode cJx4a65c_add_9ea2d 20 = .ok (.invokevirtual 131, 3) := by decide +kernel
theorem dJx4a65c_add_9ea2d_23 : decode cJx4a65c_add_9ea2d 23 = .ok (.iconst 1, 1) := by decide +kernel
theorem dJx4a65c_add_9ea2d_24 : decode cJx4a65c_add_9ea2d 24 = .ok (.ireturn, 1) := by decide +kernel
theorem dJx4a65c_clear_da8c8_0 : decode cJx4a65c_clear_da8c8 0 = .ok (.aload_n 0, 1) := by decide +kernel
theorem dJx4a65c_clear_da8c8_1 : decode cJx4a65c_clear_da8c8 1 = .ok (.dup, 1) := by decide +kernel
theorem dJx4a65c_clear_da8c8_2 : decode cJx4a65c_clear_da8c8 2 = .ok (.getfield 63, 3) := by decide +kernel
theorem dJx4a65c_clear_da8c8_5 : decode cJx4a65c_clear_da8c8 5 = .ok (.iconst 1, 1) := by decide +kernel
theorem dJx4a65c_clear_da8c8_6 : decode cJx4a65c_clear_da8c8 6 = .ok (.iadd, 1) := by decide +kernel
theorem dJx4a65c_clear_da8c8_7 : decode cJx4a65c_clear_da8c8 7 = .ok (.putfield 63, 3) := by decide +kernel
theorem dJx4a65c_clear_da8c8_10 : decode cJx4a65c_clear_da8c8 10 = .ok (.aload_n 0, 1) := by decide +kernel
theorem dJx4a65c_clear_da8c8_11 : decode cJx4a65c_clear_da8c8 11 = .ok (.getfield 9, 3) := by decide +kernel
theorem dJx4a65c_clear_da8c8_14 : decode cJx4a65c_clear_da8c8 14 = .ok (.astore_n 1, 1) := by decide +kernel
theorem dJx4a65c_clear_da8c8_15 : decode cJx4a65c_clear_da8c8 15 = .ok (.aload_n 0, 1) := by decide +kernel
theorem dJx4a65c_clear_da8c8_16 : decode cJx4a65c_clear_da8c8 16 = .ok (.getfield 48, 3) := by decide +kernel
theorem dJx4a65c_clear_da8c8_19 : decode cJx4a65c_clear_da8c8 19 = .ok (.istore_n 2, 1) := by decide +kernel
theorem dJx4a65c_clear_da8c8_20 : decode cJx4a65c_clear_da8c8 20 = .ok (.aload_n 0, 1) := by decide +kernel
theorem dJx4a65c_clear_da8c8_21 : decode cJx4a65c_clear_da8c8 21 = .ok (.iconst 0, 1) := by decide +kernel
theorem dJx4a65c_clear_da8c8_22 : decode cJx4a65c_clear_da8c8 22 = .ok (.dup_x1, 1) := by decide +kernel
theorem dJx4a65c_clear_da8c8_23 : decode cJx4a65c_clear_da8c8 23 = .ok (.putfield 48, 3) := by decide +kernel
theorem dJx4a65c_clear_da8c8_26 : decode cJx4a65c_clear_da8c8 26 = .ok (.istore_n 3, 1) := by decide +kernel
theorem dJx4a65c_clear_da8c8_27 : decode cJx4a65c_clear_da8c8 27 = .ok (.iload_n 3, 1) := by decide +kernel
theorem dJx4a65c_clear_da8c8_28 : decode cJx4a65c_clear_da8c8 28 = .ok (.iload_n 2, 1) := by decide +kernel
theorem dJx4a65c_clear_da8c8_29 : decode cJx4a65c_clear_da8c8 29 = .ok (.if_icmp .ge 13, 3) := by decide +kernel
theorem dJx4a65c_clear_da8c8_32 : decode cJx4a65c_clear_da8c8 32 = .ok (.aload_n 1, 1) := by decide +kernel
theorem dJx4a65c_clear_da8c8_33 : decode cJx4a65c_clear_da8c8 33 = .ok (.iload_n 3, 1) := by decide +kernel
theorem dJx4a65c_clear_da8c8_34 : decode cJx4a65c_clear_da8c8 34 = .ok (.aconst_null, 1) := by decide +kernel
theorem dJx4a65c_clear_da8c8_35 : decode cJx4a65c_clear_da8c8 35 = .ok (.aastore, 1) := by decide +kernel
theorem dJx4a65c_clear_da8c8_36 : decode cJx4a65c_clear_da8c8 36 = .ok (.iinc 3 1, 3) := by decide +kernel
theorem dJx4a65c_clear_da8c8_39 : decode cJx4a65c_clear_da8c8 39 = .ok (.goto (-12), 3) := by decide +kernel
theorem dJx4a65c_clear_da8c8_42 : decode cJx4a65c_clear_da8c8 42 = .ok (.return_, 1) := by decide +kernel
theorem dJ7_fill_d0a16_0 : decode cJ7_fill_d0a16 0 = .ok (.iconst 0, 1) := by decide +kernel
theorem dJ7_fill_d0a16_1 : decode cJ7_fill_d0a16 1 = .ok (.istore_n 3, 1) := by decide +kernel
theorem dJ7_fill_d0a16_2 : decode cJ7_fill_d0a16 2 = .ok (.aload_n 0, 1) := by decide +kernel
theorem dJ7_fill_d0a16_3 : decode cJ7_fill_d0a16 3 = .ok (.arraylength, 1) := by decide +kernel
theorem dJ7_fill_d0a16_4 : decode cJ7_fill_d0a16 4 = .ok (.istore 4, 2) := by decide +kernel
theorem dJ7_fill_d0a16_6 : decode cJ7_fill_d0a16 6 = .ok (.iload_n 3, 1) := by decide +kernel
theorem dJ7_fill_d0a16_7 : decode cJ7_fill_d0a16 7 = .ok (.iload 4, 2) := by decide +kernel
theorem dJ7_fill_d0a16_9 : decode cJ7_fill_d0a16 9 = .ok (.if_icmp .ge 13, 3) := by decide +kernel
theorem dJ7_fill_d0a16_12 : decode cJ7_fill_d0a16 12 = .ok (.aload_n 0, 1) := by decide +kernel
theorem dJ7_fill_d0a16_13 : decode cJ7_fill_d0a16 13 = .ok (.iload_n 3, 1) := by decide +kernel
theorem dJ7_fill_d0a16_14 : decode cJ7_fill_d0a16 14 = .ok (.lload_n 1, 1) := by decide +kernel
theorem dJ7_fill_d0a16_15 : decode cJ7_fill_d0a16 15 = .ok (.lastore, 1) := by decide +kernel
theorem dJ7_fill_d0a16_16 : decode cJ7_fill_d0a16 16 = .ok (.iinc 3 1, 3) := by decide +kernel
theorem dJ7_fill_d0a16_19 : decode cJ7_fill_d0a16 19 = .ok (.goto (-13), 3) := by decide +kernel
theorem dJ7_fill_d0a16_22 : decode cJ7_fill_d0a16 22 = .ok (.return_, 1) := by decide +kernel
theorem dJ7_fill_53178_0 : decode cJ7_fill_53178 0 = .ok (.iconst 0, 1) := by decide +kernel
theorem dJ7_fill_53178_1 : decode cJ7_fill_53178 1 = .ok (.istore_n 2, 1) := by decide +kernel
theorem dJ7_fill_53178_2 : decode cJ7_fill_53178 2 = .ok (.aload_n 0, 1) := by decide +kernel
theorem dJ7_fill_53178_3 : decode cJ7_fill_53178 3 = .ok (.arraylength, 1) := by decide +kernel
theorem dJ7_fill_53178_4 : decode cJ7_fill_53178 4 = .ok (.istore_n 3, 1) := by decide +kernel
theorem dJ7_fill_53178_5 : decode cJ7_fill_53178 5 = .ok (.iload_n 2, 1) := by decide +kernel
theorem dJ7_fill_53178_6 : decode cJ7_fill_53178 6 = .ok (.iload_n 3, 1) := by decide +kernel
theorem dJ7_fill_53178_7 : decode cJ7_fill_53178 7 = .ok (.if_icmp .ge 13, 3) := by decide +kernel
theorem dJ7_fill_53178_10 : decode cJ7_fill_53178 10 = .ok (.aload_n 0, 1) := by decide +kernel
theorem dJ7_fill_53178_11 : decode cJ7_fill_53178 11 = .ok (.iload_n 2, 1) := by decide +kernel
theorem dJ7_fill_53178_12 : decode cJ7_fill_53178 12 = .ok (.iload_n 1, 1) := by decide +kernel
theorem dJ7_fill_53178_13 : decode cJ7_fill_53178 13 = .ok (.iastore, 1) := by decide +kernel
theorem dJ7_fill_53178_14 : decode cJ7_fill_53178 14 = .ok (.iinc 2 1, 3) := by decide +kernel
theorem dJ7_fill_53178_17 : decode cJ7_fill_53178 17 = .ok (.goto (-12), 3) := by decide +kernel
theorem dJ7_fill_53178_20 : decode cJ7_fill_53178 20 = .ok (.return_, 1) := by decide +kernel
theorem dJ7_copyOf_1904c_0 : decode cJ7_copyOf_1904c 0 = .ok (.aload_n 0, 1) := by decide +kernel
theorem dJ7_copyOf_1904c_1 : decode cJ7_copyOf_1904c 1 = .ok (.iload_n 1, 1) := by decide +kernel
theorem dJ7_copyOf_1904c_2 : decode cJ7_copyOf_1904c 2 = .ok (.aload_n 0, 1) := by decide +kernel
theorem dJ7_copyOf_1904c_3 : decode cJ7_copyOf_1904c 3 = .ok (.invokevirtual 86, 3) := by decide +kernel
theorem dJ7_copyOf_1904c_6 : decode cJ7_copyOf_1904c 6 = .ok (.invokestatic 300, 3) := by decide +kernel
theorem dJ7_copyOf_1904c_9 : decode cJ7_copyOf_1904c 9 = .ok (.areturn, 1) := by decide +kernel
theorem dJ7_copyOf_6403c_0 : decode cJ7_copyOf_6403c 0 = .ok (.aload_n 2, 1) := by decide +kernel
theorem dJ7_copyOf_6403c_1 : decode cJ7_copyOf_6403c 1 = .ok (.ldc 110, 2) := by decide +kernel
theorem dJ7_copyOf_6403c_3 : decode cJ7_copyOf_6403c 3 = .ok (.if_acmp .ne 10, 3) := by decide +kernel
theorem dJ7_copyOf_6403c_6 : decode cJ7_copyOf_6403c 6 = .ok (.iload_n 1, 1) := by decide +kernel
theorem dJ7_copyOf_6403c_7 : decode cJ7_copyOf_6403c 7 = .ok (.anewarray 2, 3) := by decide +kernel
theorem dJ7_copyOf_6403c_10 : decode cJ7_copyOf_6403c 10 = .ok (.goto 14, 3) := by decide +kernel
theorem dJ7_copyOf_6403c_13 : decode cJ7_copyOf_6403c 13 = .ok (.aload_n 2, 1) := by decide +kernel
theorem dJ7_copyOf_6403c_14 : decode cJ7_copyOf_6403c 14 = .ok (.invokevirtual 90, 3) := by decide +kernel
theorem dJ7_copyOf_6403c_17 : decode cJ7_copyOf_6403c 17 = .ok (.iload_n 1, 1) := by decide +kernel
theorem dJ7_copyOf_6403c_18 : decode cJ7_copyOf_6403c 18 = .ok (.invokestatic 95, 3) := by decide +kernel
theorem dJ7_copyOf_6403c_21 : decode cJ7_copyOf_6403c 21 = .ok (.checkcast 110, 3) := by decide +kernel
theorem dJ7_copyOf_6403c_24 : decode cJ7_copyOf_6403c 24 = .ok (.astore_n 3, 1) := by decide +kernel
theorem dJ7_copyOf_6403c_25 : decode cJ7_copyOf_6403c 25 = .ok (.aload_n 0, 1) := by decide +kernel
theorem dJ7_copyOf_6403c_26 : decode cJ7_copyOf_6403c 26 = .ok (.iconst 0, 1) := by decide +kernel
theorem dJ7_copyOf_6403c_27 : decode cJ7_copyOf_6403c 27 = .ok (.aload_n 3, 1) := by decide +kernel
theorem dJ7_copyOf_6403c_28 : decode cJ7_copyOf_6403c 28 = .ok (.iconst 0, 1) := by decide +kernel
theorem dJ7_copyOf_6403c_29 : decode cJ7_copyOf_6403c 29 = .ok (.aload_n 0, 1) := by decide +kernel
theorem dJ7_copyOf_6403c_30 : decode cJ7_copyOf_6403c 30 = .ok (.arraylength, 1) := by decide +kernel
theorem dJ7_copyOf_6403c_31 : decode cJ7_copyOf_6403c 31 = .ok (.iload_n 1, 1) := by decide +kernel
theorem dJ7_copyOf_6403c_32 : decode cJ7_copyOf_6403c 32 = .ok (.invokestatic 304, 3) := by decide +kernel
theorem dJ7_copyOf_6403c_35 : decode cJ7_copyOf_6403c 35 = .ok (.invokestatic 150, 3) := by decide +kernel
theorem dJ7_copyOf_6403c_38 : decode cJ7_copyOf_6403c 38 = .ok (.aload_n 3, 1) := by decide +kernel
theorem dJ7_copyOf_6403c_39 : decode cJ7_copyOf_6403c 39 = .ok (.areturn, 1) := by decide +kernel
theorem dJ15_checkIndex_7cf53_0 : decode cJ15_checkIndex_7cf53 0 = .ok (.iload_n 0, 1) := by decide +kernel
theorem dJ15_checkIndex_7cf53_1 : decode cJ15_checkIndex_7cf53 1 = .ok (.iload_n 1, 1) := by decide +kernel
theorem dJ15_checkIndex_7cf53_2 : decode cJ15_checkIndex_7cf53 2 = .ok (.aconst_null, 1) := by decide +kernel
theorem dJ15_checkIndex_7cf53_3 : decode cJ15_checkIndex_7cf53 3 = .ok (.invokestatic 105, 3) := by decide +kernel
theorem dJ15_checkIndex_7cf53_6 : decode cJ15_checkIndex_7cf53 6 = .ok (.ireturn, 1) := by decide +kernel
theorem dJ8_newLength_cabcc_0 : decode cJ8_newLength_cabcc 0 = .ok (.iload_n 0, 1) := by decide +kernel
theorem dJ8_newLength_cabcc_1 : decode cJ8_newLength_cabcc 1 = .ok (.iload_n 1, 1) := by decide +kernel
theorem dJ8_newLength_cabcc_2 : decode cJ8_newLength_cabcc 2 = .ok (.iload_n 2, 1) := by decide +kernel
theorem dJ8_newLength_cabcc_3 : decode cJ8_newLength_cabcc 3 = .ok (.invokestatic 194, 3) := by decide +kernel
theorem dJ8_newLength_cabcc_6 : decode cJ8_newLength_cabcc 6 = .ok (.iadd, 1) := by decide +kernel
theorem dJ8_newLength_cabcc_7 : decode cJ8_newLength_cabcc 7 = .ok (.istore_n 3, 1) := by decide +kernel
theorem dJ8_newLength_cabcc_8 : decode cJ8_newLength_cabcc 8 = .ok (.iconst 0, 1) := by decide +kernel
theorem dJ8_newLength_cabcc_9 : decode cJ8_newLength_cabcc 9 = .ok (.iload_n 3, 1) := by decide +kernel
theorem dJ8_newLength_cabcc_10 : decode cJ8_newLength_cabcc 10 = .ok (.if_icmp .ge 11, 3) := by decide +kernel
theorem dJ8_newLength_cabcc_13 : decode cJ8_newLength_cabcc 13 = .ok (.iload_n 3, 1) := by decide +kernel
theorem dJ8_newLength_cabcc_14 : decode cJ8_newLength_cabcc 14 = .ok (.ldc 200, 2) := by decide +kernel
theorem dJ8_newLength_cabcc_16 : decode cJ8_newLength_cabcc 16 = .ok (.if_icmp .gt 5, 3) := by decide +kernel
theorem dJ8_newLength_cabcc_19 : decode cJ8_newLength_cabcc 19 = .ok (.iload_n 3, 1) := by decide +kernel
theorem dJ8_newLength_cabcc_20 : decode cJ8_newLength_cabcc 20 = .ok (.ireturn, 1) := by decide +kernel
theorem dJ8_newLength_cabcc_21 : decode cJ8_newLength_cabcc 21 = .ok (.iload_n 0, 1) := by decide +kernel
theorem dJ8_newLength_cabcc_22 : decode cJ8_newLength_cabcc 22 = .ok (.iload_n 1, 1) := by decide +kernel
theorem dJ8_newLength_cabcc_23 : decode cJ8_newLength_cabcc 23 = .ok (.invokestatic 201, 3) := by decide +kernel
theorem dJ8_newLength_cabcc_26 : decode cJ8_newLength_cabcc 26 = .ok (.ireturn, 1) := by decide +kernel
theorem dJ8_hugeLength_7cf53_0 : decode cJ8_hugeLength_7cf53 0 = .ok (.iload_n 0, 1) := by decide +kernel
theorem dJ8_hugeLength_7cf53_1 : decode cJ8_hugeLength_7cf53 1 = .ok (.iload_n 1, 1) := by decide +kernel
theorem dJ8_hugeLength_7cf53_2 : decode cJ8_hugeLength_7cf53 2 = .ok (.iadd, 1) := by decide +kernel
theorem dJ8_hugeLength_7cf53_3 : decode cJ8_hugeLength_7cf53 3 = .ok (.istore_n 2, 1) := by decide +kernel
theorem dJ8_hugeLength_7cf53_4 : decode cJ8_hugeLength_7cf53 4 = .ok (.iload_n 2, 1) := by decide +kernel
theorem dJ8_hugeLength_7cf53_5 : decode cJ8_hugeLength_7cf53 5 = .ok (.ifCond .ge 44, 3) := by decide +kernel
theorem dJ8_hugeLength_7cf53_8 : decode cJ8_hugeLength_7cf53 8 = .ok (.new 204, 3) := by decide +kernel
theorem dJ8_hugeLength_7cf53_11 : decode cJ8_hugeLength_7cf53 11 = .ok (.dup, 1) := by decide +kernel
theorem dJ8_hugeLength_7cf53_12 : decode cJ8_hugeLength_7cf53 12 = .ok (.new 89, 3) := by decide +kernel
theorem dJ8_hugeLength_7cf53_15 : decode cJ8_hugeLength_7cf53 15 = .ok (.dup, 1) := by decide +kernel
theorem dJ8_hugeLength_7cf53_16 : decode cJ8_hugeLength_7cf53 16 = .ok (.invokespecial 91, 3) := by decide +kernel
theorem dJ8_hugeLength_7cf53_19 : decode cJ8_hugeLength_7cf53 19 = .ok (.ldc 206, 2) := by decide +kernel
theorem dJ8_hugeLength_7cf53_21 : decode cJ8_hugeLength_7cf53 21 = .ok (.invokevirtual 94, 3) := by decide +kernel
theorem dJ8_hugeLength_7cf53_24 : decode cJ8_hugeLength_7cf53 24 = .ok (.iload_n 0, 1) := by decide +kernel
theorem dJ8_hugeLength_7cf53_25 : decode cJ8_hugeLength_7cf53 25 = .ok (.invokevirtual 98, 3) := by decide +kernel
theorem dJ8_hugeLength_7cf53_28 : decode cJ8_hugeLength_7cf53 28 = .ok (.ldc 208, 2) := by decide +kernel
theorem dJ8_hugeLength_7cf53_30 : decode cJ8_hugeLength_7cf53 30 = .ok (.invokevirtual 94, 3) := by decide +kernel
theorem dJ8_hugeLength_7cf53_33 : decode cJ8_hugeLength_7cf53 33 = .ok (.iload_n 1, 1) := by decide +kernel
theorem dJ8_hugeLength_7cf53_34 : decode cJ8_hugeLength_7cf53 34 = .ok (.invokevirtual 98, 3) := by decide +kernel
theorem dJ8_hugeLength_7cf53_37 : decode cJ8_hugeLength_7cf53 37 = .ok (.ldc 210, 2) := by decide +kernel
theorem dJ8_hugeLength_7cf53_39 : decode cJ8_hugeLength_7cf53 39 = .ok (.invokevirtual 94, 3) := by decide +kernel
theorem dJ8_hugeLength_7cf53_42 : decode cJ8_hugeLength_7cf53 42 = .ok (.invokevirtual 101, 3) := by decide +kernel
theorem dJ8_hugeLength_7cf53_45 : decode cJ8_hugeLength_7cf53 45 = .ok (.invokespecial 212, 3) := by decide +kernel
theorem dJ8_hugeLength_7cf53_48 : decode cJ8_hugeLength_7cf53 48 = .ok (.athrow, 1) := by decide +kernel
theorem dJ8_hugeLength_7cf53_49 : decode cJ8_hugeLength_7cf53 49 = .ok (.iload_n 2, 1) := by decide +kernel
theorem dJ8_hugeLength_7cf53_50 : decode cJ8_hugeLength_7cf53 50 = .ok (.ldc 200, 2) := by decide +kernel
theorem dJ8_hugeLength_7cf53_52 : decode cJ8_hugeLength_7cf53 52 = .ok (.if_icmp .gt 6, 3) := by decide +kernel
theorem dJ8_hugeLength_7cf53_55 : decode cJ8_hugeLength_7cf53 55 = .ok (.ldc 200, 2) := by decide +kernel
theorem dJ8_hugeLength_7cf53_57 : decode cJ8_hugeLength_7cf53 57 = .ok (.ireturn, 1) := by decide +kernel
theorem dJ8_hugeLength_7cf53_58 : decode cJ8_hugeLength_7cf53 58 = .ok (.iload_n 2, 1) := by decide +kernel
theorem dJ8_hugeLength_7cf53_59 : decode cJ8_hugeLength_7cf53 59 = .ok (.ireturn, 1) := by decide +kernel
theorem dJ3_checkIndex_8e157_0 : decode cJ3_checkIndex_8e157 0 = .ok (.iload_n 0, 1) := by decide +kernel
theorem dJ3_checkIndex_8e157_1 : decode cJ3_checkIndex_8e157 1 = .ok (.ifCond .lt 8, 3) := by decide +kernel
theorem dJ3_checkIndex_8e157_4 : decode cJ3_checkIndex_8e157 4 = .ok (.iload_n 0, 1) := by decide +kernel
theorem dJ3_checkIndex_8e157_5 : decode cJ3_checkIndex_8e157 5 = .ok (.iload_n 1, 1) := by decide +kernel
theorem dJ3_checkIndex_8e157_6 : decode cJ3_checkIndex_8e157 6 = .ok (.if_icmp .lt 10, 3) := by decide +kernel
theorem dJ3_checkIndex_8e157_9 : decode cJ3_checkIndex_8e157 9 = .ok (.aload_n 2, 1) := by decide +kernel
theorem dJ3_checkIndex_8e157_10 : decode cJ3_checkIndex_8e157 10 = .ok (.iload_n 0, 1) := by decide +kernel
theorem dJ3_checkIndex_8e157_11 : decode cJ3_checkIndex_8e157 11 = .ok (.iload_n 1, 1) := by decide +kernel
theorem dJ3_checkIndex_8e157_12 : decode cJ3_checkIndex_8e157 12 = .ok (.invokestatic 95, 3) := by decide +kernel
theorem dJ3_checkIndex_8e157_15 : decode cJ3_checkIndex_8e157 15 = .ok (.athrow, 1) := by decide +kernel
theorem dJ3_checkIndex_8e157_16 : decode cJ3_checkIndex_8e157 16 = .ok (.iload_n 0, 1) := by decide +kernel
theorem dJ3_checkIndex_8e157_17 : decode cJ3_checkIndex_8e157 17 = .ok (.ireturn, 1) := by decide +kernel
theorem dJ3_checkFromToIndex_8c36e_0 : decode cJ3_checkFromToIndex_8c36e 0 = .ok (.iload_n 0, 1) := by decide +kernel
theorem dJ3_checkFromToIndex_8c36e_1 : decode cJ3_checkFromToIndex_8c36e 1 = .ok (.ifCond .lt 13, 3) := by decide +kernel
theorem dJ3_checkFromToIndex_8c36e_4 : decode cJ3_checkFromToIndex_8c36e 4 = .ok (.iload_n 0, 1) := by decide +kernel
theorem dJ3_checkFromToIndex_8c36e_5 : decode cJ3_checkFromToIndex_8c36e 5 = .ok (.iload_n 1, 1) := by decide +kernel
theorem dJ3_checkFromToIndex_8c36e_6 : decode cJ3_checkFromToIndex_8c36e 6 = .ok (.if_icmp .gt 8, 3) := by decide +kernel
theorem dJ3_checkFromToIndex_8c36e_9 : decode cJ3_checkFromToIndex_8c36e 9 = .ok (.iload_n 1, 1) := by decide +kernel
theorem dJ3_checkFromToIndex_8c36e_10 : decode cJ3_checkFromToIndex_8c36e 10 = .ok (.iload_n 2, 1) := by decide +kernel
theorem dJ3_checkFromToIndex_8c36e_11 : decode cJ3_checkFromToIndex_8c36e 11 = .ok (.if_icmp .le 11, 3) := by decide +kernel
theorem dJ3_checkFromToIndex_8c36e_14 : decode cJ3_checkFromToIndex_8c36e 14 = .ok (.aload_n 3, 1) := by decide +kernel
theorem dJ3_checkFromToIndex_8c36e_15 : decode cJ3_checkFromToIndex_8c36e 15 = .ok (.iload_n 0, 1) := by decide +kernel
theorem dJ3_checkFromToIndex_8c36e_16 : decode cJ3_checkFromToIndex_8c36e 16 = .ok (.iload_n 1, 1) := by decide +kernel
theorem dJ3_checkFromToIndex_8c36e_17 : decode cJ3_checkFromToIndex_8c36e 17 = .ok (.iload_n 2, 1) := by decide +kernel
theorem dJ3_checkFromToIndex_8c36e_18 : decode cJ3_checkFromToIndex_8c36e 18 = .ok (.invokestatic 99, 3) := by decide +kernel
theorem dJ3_checkFromToIndex_8c36e_21 : decode cJ3_checkFromToIndex_8c36e 21 = .ok (.athrow, 1) := by decide +kernel
theorem dJ3_checkFromToIndex_8c36e_22 : decode cJ3_checkFromToIndex_8c36e 22 = .ok (.iload_n 0, 1) := by decide +kernel
theorem dJ3_checkFromToIndex_8c36e_23 : decode cJ3_checkFromToIndex_8c36e 23 = .ok (.ireturn, 1) := by decide +kernel
theorem dL_law_0 : decode cL_law 0 = .ok (.new 7, 3) := by decide +kernel
theorem dL_law_3 : decode cL_law 3 = .ok (.dup, 1) := by decide +kernel
theorem dL_law_4 : decode cL_law 4 = .ok (.invokespecial 9, 3) := by decide +kernel
theorem dL_law_7 : decode cL_law 7 = .ok (.astore_n 1, 1) := by decide +kernel
theorem dL_law_8 : decode cL_law 8 = .ok (.new 10, 3) := by decide +kernel
theorem dL_law_11 : decode cL_law 11 = .ok (.dup, 1) := by decide +kernel
theorem dL_law_12 : decode cL_law 12 = .ok (.invokespecial 12, 3) := by decide +kernel
theorem dL_law_15 : decode cL_law 15 = .ok (.astore_n 2, 1) := by decide +kernel
theorem dL_law_16 : decode cL_law 16 = .ok (.iconst 0, 1) := by decide +kernel
theorem dL_law_17 : decode cL_law 17 = .ok (.istore_n 3, 1) := by decide +kernel
theorem dL_law_18 : decode cL_law 18 = .ok (.iload_n 3, 1) := by decide +kernel
theorem dL_law_19 : decode cL_law 19 = .ok (.aload_n 0, 1) := by decide +kernel
theorem dL_law_20 : decode cL_law 20 = .ok (.arraylength, 1) := by decide +kernel
theorem dL_law_21 : decode cL_law 21 = .ok (.bipush 6, 2) := by decide +kernel
theorem dL_law_23 : decode cL_law 23 = .ok (.isub, 1) := by decide +kernel
theorem dL_law_24 : decode cL_law 24 = .ok (.if_icmp .gt 1296, 3) := by decide +kernel
theorem dL_law_27 : decode cL_law 27 = .ok (.aload_n 0, 1) := by decide +kernel
theorem dL_law_28 : decode cL_law 28 = .ok (.iload_n 3, 1) := by decide +kernel
theorem dL_law_29 : decode cL_law 29 = .ok (.iaload, 1) := by decide +kernel
theorem dL_law_30 : decode cL_law 30 = .ok (.bipush 63, 2) := by decide +kernel
theorem dL_law_32 : decode cL_law 32 = .ok (.iand, 1) := by decide +kernel
theorem dL_law_33 : decode cL_law 33 = .ok (.tableswitch 1281 0 32 #[147, 190, 223, 266, 299, 348, 391, 414, 427, 450, 473, 506, 529, 572, 641, 684, 717, 751, 785, 818, 841, 874, 887, 920, 933, 946, 989, 1012, 1045, 1068, 1111, 1184, 1218], 147) := by decide +kernel
theorem dL_law_180 : decode cL_law 180 = .ok (.aload_n 1, 1) := by decide +kernel
theorem dL_law_181 : decode cL_law 181 = .ok (.aload_n 0, 1) := by decide +kernel
theorem dL_law_182 : decode cL_law 182 = .ok (.iload_n 3, 1) := by decide +kernel
theorem dL_law_183 : decode cL_law 183 = .ok (.iconst 1, 1) := by decide +kernel
theorem dL_law_184 : decode cL_law 184 = .ok (.iadd, 1) := by decide +kernel
theorem dL_law_185 : decode cL_law 185 = .ok (.iaload, 1) := by decide +kernel
theorem dL_law_186 : decode cL_law 186 = .ok (.aload_n 0, 1) := by decide +kernel
theorem dL_law_187 : decode cL_law 187 = .ok (.iload_n 3, 1) := by decide +kernel
theorem dL_law_188 : decode cL_law 188 = .ok (.iconst 2, 1) := by decide +kernel
theorem dL_law_189 : decode cL_law 189 = .ok (.iadd, 1) := by decide +kernel
theorem dL_law_190 : decode cL_law 190 = .ok (.iaload, 1) := by decide +kernel
theorem dL_law_191 : decode cL_law 191 = .ok (.aload_n 0, 1) := by decide +kernel
theorem dL_law_192 : decode cL_law 192 = .ok (.iload_n 3, 1) := by decide +kernel
theorem dL_law_193 : decode cL_law 193 = .ok (.iconst 3, 1) := by decide +kernel
theorem dL_law_194 : decode cL_law 194 = .ok (.iadd, 1) := by decide +kernel
theorem dL_law_195 : decode cL_law 195 = .ok (.iaload, 1) := by decide +kernel
theorem dL_law_196 : decode cL_law 196 = .ok (.invokevirtual 13, 3) := by decide +kernel
theorem dL_law_199 : decode cL_law 199 = .ok (.aload_n 2, 1) := by decide +kernel
theorem dL_law_200 : decode cL_law 200 = .ok (.aload_n 0, 1) := by decide +kernel
theorem dL_law_201 : decode cL_law 201 = .ok (.iload_n 3, 1) := by decide +kernel
theorem dL_law_202 : decode cL_law 202 = .ok (.iconst 1, 1) := by decide +kernel
theorem dL_law_203 : decode cL_law 203 = .ok (.iadd, 1) := by decide +kernel
theorem dL_law_204 : decode cL_law 204 = .ok (.iaload, 1) := by decide +kernel
theorem dL_law_205 : decode cL_law 205 = .ok (.aload_n 0, 1) := by decide +kernel
theorem dL_law_206 : decode cL_law 206 = .ok (.iload_n 3, 1) := by decide +kernel
theorem dL_law_207 : decode cL_law 207 = .ok (.iconst 2, 1) := by decide +kernel
theorem dL_law_208 : decode cL_law 208 = .ok (.iadd, 1) := by decide +kernel
theorem dL_law_209 : decode cL_law 209 = .ok (.iaload, 1) := by decide +kernel
theorem dL_law_210 : decode cL_law 210 = .ok (.aload_n 0, 1) := by decide +kernel
theorem dL_law_211 : decode cL_law 211 = .ok (.iload_n 3, 1) := by decide +kernel
theorem dL_law_212 : decode cL_law 212 = .ok (.iconst 3, 1) := by decide +kernel
theorem dL_law_213 : decode cL_law 213 = .ok (.iadd, 1) := by decide +kernel
theorem dL_law_214 : decode cL_law 214 = .ok (.iaload, 1) := by decide +kernel
theorem dL_law_215 : decode cL_law 215 = .ok (.invokevirtual 17, 3) := by decide +kernel
theorem dL_law_218 : decode cL_law 218 = .ok (.if_icmp .eq 1096, 3) := by decide +kernel
theorem dL_law_221 : decode cL_law 221 = .ok (.iconst 0, 1) := by decide +kernel
theorem dL_law_222 : decode cL_law 222 = .ok (.ireturn, 1) := by decide +kernel
theorem dL_law_223 : decode cL_law 223 = .ok (.aload_n 1, 1) := by decide +kernel
theorem dL_law_224 : decode cL_law 224 = .ok (.aload_n 0, 1) := by decide +kernel
theorem dL_law_225 : decode cL_law 225 = .ok (.iload_n 3, 1) := by decide +kernel
theorem dL_law_226 : decode cL_law 226 = .ok (.iconst 1, 1) := by decide +kernel
theorem dL_law_227 : decode cL_law 227 = .ok (.iadd, 1) := by decide +kernel
theorem dL_law_228 : decode cL_law 228 = .ok (.iaload, 1) := by decide +kernel
theorem dL_law_229 : decode cL_law 229 = .ok (.aload_n 0, 1) := by decide +kernel
theorem dL_law_230 : decode cL_law 230 = .ok (.iload_n 3, 1) := by decide +kernel
theorem dL_law_231 : decode cL_law 231 = .ok (.iconst 2, 1) := by decide +kernel
theorem dL_law_232 : decode cL_law 232 = .ok (.iadd, 1) := by decide +kernel
theorem dL_law_233 : decode cL_law 233 = .ok (.iaload, 1) := by decide +kernel
theorem dL_law_234 : decode cL_law 234 = .ok (.invokevirtual 18, 3) := by decide +kernel
theorem dL_law_237 : decode cL_law 237 = .ok (.aload_n 2, 1) := by decide +kernel
theorem dL_law_238 : decode cL_law 238 = .ok (.aload_n 0, 1) := by decide +kernel
theorem dL_law_239 : decode cL_law 239 = .ok (.iload_n 3, 1) := by decide +kernel
theorem dL_law_240 : decode cL_law 240 = .ok (.iconst 1, 1) := by decide +kernel
theorem dL_law_241 : decode cL_law 241 = .ok (.iadd, 1) := by decide +kernel
theorem dL_law_242 : decode cL_law 242 = .ok (.iaload, 1) := by decide +kernel
theorem dL_law_243 : decode cL_law 243 = .ok (.aload_n 0, 1) := by decide +kernel
theorem dL_law_244 : decode cL_law 244 = .ok (.iload_n 3, 1) := by decide +kernel
theorem dL_law_245 : decode cL_law 245 = .ok (.iconst 2, 1) := by decide +kernel
theorem dL_law_246 : decode cL_law 246 = .ok (.iadd, 1) := by decide +kernel
theorem dL_law_247 : decode cL_law 247 = .ok (.iaload, 1) := by decide +kernel
theorem dL_law_248 : decode cL_law 248 = .ok (.invokevirtual 22, 3) := by decide +kernel
theorem dL_law_251 : decode cL_law 251 = .ok (.if_icmp .eq 1063, 3) := by decide +kernel
theorem dL_law_254 : decode cL_law 254 = .ok (.iconst 0, 1) := by decide +kernel
theorem dL_law_255 : decode cL_law 255 = .ok (.ireturn, 1) := by decide +kernel
theorem dL_law_256 : decode cL_law 256 = .ok (.aload_n 1, 1) := by decide +kernel
theorem dL_law_257 : decode cL_law 257 = .ok (.aload_n 0, 1) := by decide +kernel
theorem dL_law_258 : decode cL_law 258 = .ok (.iload_n 3, 1) := by decide +kernel
theorem dL_law_259 : decode cL_law 259 = .ok (.iconst 1, 1) := by decide +kernel
theorem dL_law_260 : decode cL_law 260 = .ok (.iadd, 1) := by decide +kernel
theorem dL_law_261 : decode cL_law 261 = .ok (.iaload, 1) := by decide +kernel
theorem dL_law_262 : decode cL_law 262 = .ok (.aload_n 0, 1) := by decide +kernel
theorem dL_law_263 : decode cL_law 263 = .ok (.iload_n 3, 1) := by decide +kernel
theorem dL_law_264 : decode cL_law 264 = .ok (.iconst 2, 1) := by decide +kernel
theorem dL_law_265 : decode cL_law 265 = .ok (.iadd, 1) := by decide +kernel
theorem dL_law_266 : decode cL_law 266 = .ok (.iaload, 1) := by decide +kernel
theorem dL_law_267 : decode cL_law 267 = .ok (.aload_n 0, 1) := by decide +kernel
theorem dL_law_268 : decode cL_law 268 = .ok (.iload_n 3, 1) := by decide +kernel
theorem dL_law_269 : decode cL_law 269 = .ok (.iconst 3, 1) := by decide +kernel
theorem dL_law_270 : decode cL_law 270 = .ok (.iadd, 1) := by decide +kernel
theorem dL_law_271 : decode cL_law 271 = .ok (.iaload, 1) := by decide +kernel
theorem dL_law_272 : decode cL_law 272 = .ok (.invokevirtual 23, 3) := by decide +kernel
theorem dL_law_275 : decode cL_law 275 = .ok (.aload_n 2, 1) := by decide +kernel
theorem dL_law_276 : decode cL_law 276 = .ok (.aload_n 0, 1) := by decide +kernel
theorem dL_law_277 : decode cL_law 277 = .ok (.iload_n 3, 1) := by decide +kernel
theorem dL_law_278 : decode cL_law 278 = .ok (.iconst 1, 1) := by decide +kernel
theorem dL_law_279 : decode cL_law 279 = .ok (.iadd, 1) := by decide +kernel
theorem dL_law_280 : decode cL_law 280 = .ok (.iaload, 1) := by decide +kernel
theorem dL_law_281 : decode cL_law 281 = .ok (.aload_n 0, 1) := by decide +kernel
theorem dL_law_282 : decode cL_law 282 = .ok (.iload_n 3, 1) := by decide +kernel
theorem dL_law_283 : decode cL_law 283 = .ok (.iconst 2, 1) := by decide +kernel
theorem dL_law_284 : decode cL_law 284 = .ok (.iadd, 1) := by decide +kernel
theorem dL_law_285 : decode cL_law 285 = .ok (.iaload, 1) := by decide +kernel
theorem dL_law_286 : decode cL_law 286 = .ok (.aload_n 0, 1) := by decide +kernel
theorem dL_law_287 : decode cL_law 287 = .ok (.iload_n 3, 1) := by decide +kernel
theorem dL_law_288 : decode cL_law 288 = .ok (.iconst 3, 1) := by decide +kernel
theorem dL_law_289 : decode cL_law 289 = .ok (.iadd, 1) := by decide +kernel
theorem dL_law_290 : decode cL_law 290 = .ok (.iaload, 1) := by decide +kernel
theorem dL_law_291 : decode cL_law 291 = .ok (.invokevirtual 26, 3) := by decide +kernel
theorem dL_law_294 : decode cL_law 294 = .ok (.if_icmp .eq 1020, 3) := by decide +kernel
theorem dL_law_297 : decode cL_law 297 = .ok (.iconst 0, 1) := by decide +kernel
theorem dL_law_298 : decode cL_law 298 = .ok (.ireturn, 1) := by decide +kernel
theorem dL_law_299 : decode cL_law 299 = .ok (.aload_n 1, 1) := by decide +kernel
theorem dL_law_300 : decode cL_law 300 = .ok (.aload_n 0, 1) := by decide +kernel
theorem dL_law_301 : decode cL_law 301 = .ok (.iload_n 3, 1) := by decide +kernel
theorem dL_law_302 : decode cL_law 302 = .ok (.iconst 1, 1) := by decide +kernel
theorem dL_law_303 : decode cL_law 303 = .ok (.iadd, 1) := by decide +kernel
theorem dL_law_304 : decode cL_law 304 = .ok (.iaload, 1) := by decide +kernel
theorem dL_law_305 : decode cL_law 305 = .ok (.aload_n 0, 1) := by decide +kernel
theorem dL_law_306 : decode cL_law 306 = .ok (.iload_n 3, 1) := by decide +kernel
theorem dL_law_307 : decode cL_law 307 = .ok (.iconst 2, 1) := by decide +kernel
theorem dL_law_308 : decode cL_law 308 = .ok (.iadd, 1) := by decide +kernel
theorem dL_law_309 : decode cL_law 309 = .ok (.iaload, 1) := by decide +kernel
theorem dL_law_310 : decode cL_law 310 = .ok (.invokevirtual 27, 3) := by decide +kernel
theorem dL_law_313 : decode cL_law 313 = .ok (.aload_n 2, 1) := by decide +kernel
theorem dL_law_314 : decode cL_law 314 = .ok (.aload_n 0, 1) := by decide +kernel
theorem dL_law_315 : decode cL_law 315 = .ok (.iload_n 3, 1) := by decide +kernel
theorem dL_law_316 : decode cL_law 316 = .ok (.iconst 1, 1) := by decide +kernel
theorem dL_law_317 : decode cL_law 317 = .ok (.iadd, 1) := by decide +kernel
theorem dL_law_318 : decode cL_law 318 = .ok (.iaload, 1) := by decide +kernel
theorem dL_law_319 : decode cL_law 319 = .ok (.aload_n 0, 1) := by decide +kernel
theorem dL_law_320 : decode cL_law 320 = .ok (.iload_n 3, 1) := by decide +kernel
theorem dL_law_321 : decode cL_law 321 = .ok (.iconst 2, 1) := by decide +kernel
theorem dL_law_322 : decode cL_law 322 = .ok (.iadd, 1) := by decide +kernel
theorem dL_law_323 : decode cL_law 323 = .ok (.iaload, 1) := by decide +kernel
theorem dL_law_324 : decode cL_law 324 = .ok (.invokevirtual 30, 3) := by decide +kernel
theorem dL_law_327 : decode cL_law 327 = .ok (.if_icmp .eq 987, 3) := by decide +kernel
theorem dL_law_330 : decode cL_law 330 = .ok (.iconst 0, 1) := by decide +kernel
theorem dL_law_331 : decode cL_law 331 = .ok (.ireturn, 1) := by decide +kernel
theorem dL_law_332 : decode cL_law 332 = .ok (.aload_n 1, 1) := by decide +kernel
theorem dL_law_333 : decode cL_law 333 = .ok (.aload_n 0, 1) := by decide +kernel
theorem dL_law_334 : decode cL_law 334 = .ok (.iload_n 3, 1) := by decide +kernel
theorem dL_law_335 : decode cL_law 335 = .ok (.iconst 1, 1) := by decide +kernel
theorem dL_law_336 : decode cL_law 336 = .ok (.iadd, 1) := by decide +kernel
theorem dL_law_337 : decode cL_law 337 = .ok (.iaload, 1) := by decide +kernel
theorem dL_law_338 : decode cL_law 338 = .ok (.aload_n 0, 1) := by decide +kernel
theorem dL_law_339 : decode cL_law 339 = .ok (.iload_n 3, 1) := by decide +kernel
theorem dL_law_340 : decode cL_law 340 = .ok (.iconst 2, 1) := by decide +kernel
theorem dL_law_341 : decode cL_law 341 = .ok (.iadd, 1) := by decide +kernel
theorem dL_law_342 : decode cL_law 342 = .ok (.iaload, 1) := by decide +kernel
theorem dL_law_343 : decode cL_law 343 = .ok (.ifCond .eq 7, 3) := by decide +kernel
theorem dL_law_346 : decode cL_law 346 = .ok (.iconst 1, 1) := by decide +kernel
theorem dL_law_347 : decode cL_law 347 = .ok (.goto 4, 3) := by decide +kernel
theorem dL_law_350 : decode cL_law 350 = .ok (.iconst 0, 1) := by decide +kernel
theorem dL_law_351 : decode cL_law 351 = .ok (.invokevirtual 31, 3) := by decide +kernel
theorem dL_law_354 : decode cL_law 354 = .ok (.aload_n 2, 1) := by decide +kernel
theorem dL_law_355 : decode cL_law 355 = .ok (.aload_n 0, 1) := by decide +kernel
theorem dL_law_356 : decode cL_law 356 = .ok (.iload_n 3, 1) := by decide +kernel
theorem dL_law_357 : decode cL_law 357 = .ok (.iconst 1, 1) := by decide +kernel
theorem dL_law_358 : decode cL_law 358 = .ok (.iadd, 1) := by decide +kernel
theorem dL_law_359 : decode cL_law 359 = .ok (.iaload, 1) := by decide +kernel
theorem dL_law_360 : decode cL_law 360 = .ok (.aload_n 0, 1) := by decide +kernel
theorem dL_law_361 : decode cL_law 361 = .ok (.iload_n 3, 1) := by decide +kernel
theorem dL_law_362 : decode cL_law 362 = .ok (.iconst 2, 1) := by decide +kernel
theorem dL_law_363 : decode cL_law 363 = .ok (.iadd, 1) := by decide +kernel
theorem dL_law_364 : decode cL_law 364 = .ok (.iaload, 1) := by decide +kernel
theorem dL_law_365 : decode cL_law 365 = .ok (.ifCond .eq 7, 3) := by decide +kernel
theorem dL_law_368 : decode cL_law 368 = .ok (.iconst 1, 1) := by decide +kernel
theorem dL_law_369 : decode cL_law 369 = .ok (.goto 4, 3) := by decide +kernel
theorem dL_law_372 : decode cL_law 372 = .ok (.iconst 0, 1) := by decide +kernel
theorem dL_law_373 : decode cL_law 373 = .ok (.invokevirtual 35, 3) := by decide +kernel
theorem dL_law_376 : decode cL_law 376 = .ok (.if_icmp .eq 938, 3) := by decide +kernel
theorem dL_law_379 : decode cL_law 379 = .ok (.iconst 0, 1) := by decide +kernel
theorem dL_law_380 : decode cL_law 380 = .ok (.ireturn, 1) := by decide +kernel
theorem dL_law_381 : decode cL_law 381 = .ok (.aload_n 1, 1) := by decide +kernel
theorem dL_law_382 : decode cL_law 382 = .ok (.aload_n 0, 1) := by decide +kernel
theorem dL_law_383 : decode cL_law 383 = .ok (.iload_n 3, 1) := by decide +kernel
theorem dL_law_384 : decode cL_law 384 = .ok (.iconst 1, 1) := by decide +kernel
theorem dL_law_385 : decode cL_law 385 = .ok (.iadd, 1) := by decide +kernel
theorem dL_law_386 : decode cL_law 386 = .ok (.iaload, 1) := by decide +kernel
theorem dL_law_387 : decode cL_law 387 = .ok (.aload_n 0, 1) := by decide +kernel
theorem dL_law_388 : decode cL_law 388 = .ok (.iload_n 3, 1) := by decide +kernel
theorem dL_law_389 : decode cL_law 389 = .ok (.iconst 2, 1) := by decide +kernel
theorem dL_law_390 : decode cL_law 390 = .ok (.iadd, 1) := by decide +kernel
theorem dL_law_391 : decode cL_law 391 = .ok (.iaload, 1) := by decide +kernel
theorem dL_law_392 : decode cL_law 392 = .ok (.aload_n 0, 1) := by decide +kernel
theorem dL_law_393 : decode cL_law 393 = .ok (.iload_n 3, 1) := by decide +kernel
theorem dL_law_394 : decode cL_law 394 = .ok (.iconst 3, 1) := by decide +kernel
theorem dL_law_395 : decode cL_law 395 = .ok (.iadd, 1) := by decide +kernel
theorem dL_law_396 : decode cL_law 396 = .ok (.iaload, 1) := by decide +kernel
theorem dL_law_397 : decode cL_law 397 = .ok (.invokevirtual 36, 3) := by decide +kernel
theorem dL_law_400 : decode cL_law 400 = .ok (.aload_n 2, 1) := by decide +kernel
theorem dL_law_401 : decode cL_law 401 = .ok (.aload_n 0, 1) := by decide +kernel
theorem dL_law_402 : decode cL_law 402 = .ok (.iload_n 3, 1) := by decide +kernel
theorem dL_law_403 : decode cL_law 403 = .ok (.iconst 1, 1) := by decide +kernel
theorem dL_law_404 : decode cL_law 404 = .ok (.iadd, 1) := by decide +kernel
theorem dL_law_405 : decode cL_law 405 = .ok (.iaload, 1) := by decide +kernel
theorem dL_law_406 : decode cL_law 406 = .ok (.aload_n 0, 1) := by decide +kernel
theorem dL_law_407 : decode cL_law 407 = .ok (.iload_n 3, 1) := by decide +kernel
theorem dL_law_408 : decode cL_law 408 = .ok (.iconst 2, 1) := by decide +kernel
theorem dL_law_409 : decode cL_law 409 = .ok (.iadd, 1) := by decide +kernel
theorem dL_law_410 : decode cL_law 410 = .ok (.iaload, 1) := by decide +kernel
theorem dL_law_411 : decode cL_law 411 = .ok (.aload_n 0, 1) := by decide +kernel
theorem dL_law_412 : decode cL_law 412 = .ok (.iload_n 3, 1) := by decide +kernel
theorem dL_law_413 : decode cL_law 413 = .ok (.iconst 3, 1) := by decide +kernel
theorem dL_law_414 : decode cL_law 414 = .ok (.iadd, 1) := by decide +kernel
theorem dL_law_415 : decode cL_law 415 = .ok (.iaload, 1) := by decide +kernel
theorem dL_law_416 : decode cL_law 416 = .ok (.invokevirtual 39, 3) := by decide +kernel
theorem dL_law_419 : decode cL_law 419 = .ok (.if_icmp .eq 895, 3) := by decide +kernel
theorem dL_law_422 : decode cL_law 422 = .ok (.iconst 0, 1) := by decide +kernel
theorem dL_law_423 : decode cL_law 423 = .ok (.ireturn, 1) := by decide +kernel
theorem dL_law_424 : decode cL_law 424 = .ok (.aload_n 1, 1) := by decide +kernel
theorem dL_law_425 : decode cL_law 425 = .ok (.aload_n 0, 1) := by decide +kernel
theorem dL_law_426 : decode cL_law 426 = .ok (.iload_n 3, 1) := by decide +kernel
theorem dL_law_427 : decode cL_law 427 = .ok (.iconst 1, 1) := by decide +kernel
theorem dL_law_428 : decode cL_law 428 = .ok (.iadd, 1) := by decide +kernel
theorem dL_law_429 : decode cL_law 429 = .ok (.iaload, 1) := by decide +kernel
theorem dL_law_430 : decode cL_law 430 = .ok (.invokevirtual 40, 3) := by decide +kernel
theorem dL_law_433 : decode cL_law 433 = .ok (.aload_n 2, 1) := by decide +kernel
theorem dL_law_434 : decode cL_law 434 = .ok (.aload_n 0, 1) := by decide +kernel
theorem dL_law_435 : decode cL_law 435 = .ok (.iload_n 3, 1) := by decide +kernel
theorem dL_law_436 : decode cL_law 436 = .ok (.iconst 1, 1) := by decide +kernel
theorem dL_law_437 : decode cL_law 437 = .ok (.iadd, 1) := by decide +kernel
theorem dL_law_438 : decode cL_law 438 = .ok (.iaload, 1) := by decide +kernel
theorem dL_law_439 : decode cL_law 439 = .ok (.invokevirtual 44, 3) := by decide +kernel
theorem dL_law_442 : decode cL_law 442 = .ok (.if_icmp .eq 872, 3) := by decide +kernel
theorem dL_law_445 : decode cL_law 445 = .ok (.iconst 0, 1) := by decide +kernel
theorem dL_law_446 : decode cL_law 446 = .ok (.ireturn, 1) := by decide +kernel
theorem dL_law_447 : decode cL_law 447 = .ok (.aload_n 1, 1) := by decide +kernel
theorem dL_law_448 : decode cL_law 448 = .ok (.invokevirtual 45, 3) := by decide +kernel
theorem dL_law_451 : decode cL_law 451 = .ok (.aload_n 2, 1) := by decide +kernel
theorem dL_law_452 : decode cL_law 452 = .ok (.invokevirtual 49, 3) := by decide +kernel
theorem dL_law_455 : decode cL_law 455 = .ok (.if_icmp .eq 859, 3) := by decide +kernel
theorem dL_law_458 : decode cL_law 458 = .ok (.iconst 0, 1) := by decide +kernel
theorem dL_law_459 : decode cL_law 459 = .ok (.ireturn, 1) := by decide +kernel
theorem dL_law_460 : decode cL_law 460 = .ok (.aload_n 1, 1) := by decide +kernel
theorem dL_law_461 : decode cL_law 461 = .ok (.aload_n 0, 1) := by decide +kernel
theorem dL_law_462 : decode cL_law 462 = .ok (.iload_n 3, 1) := by decide +kernel
theorem dL_law_463 : decode cL_law 463 = .ok (.iconst 1, 1) := by decide +kernel
theorem dL_law_464 : decode cL_law 464 = .ok (.iadd, 1) := by decide +kernel
theorem dL_law_465 : decode cL_law 465 = .ok (.iaload, 1) := by decide +kernel
theorem dL_law_466 : decode cL_law 466 = .ok (.invokevirtual 50, 3) := by decide +kernel
theorem dL_law_469 : decode cL_law 469 = .ok (.aload_n 2, 1) := by decide +kernel
theorem dL_law_470 : decode cL_law 470 = .ok (.aload_n 0, 1) := by decide +kernel
theorem dL_law_471 : decode cL_law 471 = .ok (.iload_n 3, 1) := by decide +kernel
theorem dL_law_472 : decode cL_law 472 = .ok (.iconst 1, 1) := by decide +kernel
theorem dL_law_473 : decode cL_law 473 = .ok (.iadd, 1) := by decide +kernel
theorem dL_law_474 : decode cL_law 474 = .ok (.iaload, 1) := by decide +kernel
theorem dL_law_475 : decode cL_law 475 = .ok (.invokevirtual 53, 3) := by decide +kernel
theorem dL_law_478 : decode cL_law 478 = .ok (.if_icmp .eq 836, 3) := by decide +kernel
theorem dL_law_481 : decode cL_law 481 = .ok (.iconst 0, 1) := by decide +kernel
theorem dL_law_482 : decode cL_law 482 = .ok (.ireturn, 1) := by decide +kernel
theorem dL_law_483 : decode cL_law 483 = .ok (.aload_n 1, 1) := by decide +kernel
theorem dL_law_484 : decode cL_law 484 = .ok (.aload_n 0, 1) := by decide +kernel
theorem dL_law_485 : decode cL_law 485 = .ok (.iload_n 3, 1) := by decide +kernel
theorem dL_law_486 : decode cL_law 486 = .ok (.iconst 1, 1) := by decide +kernel
theorem dL_law_487 : decode cL_law 487 = .ok (.iadd, 1) := by decide +kernel
theorem dL_law_488 : decode cL_law 488 = .ok (.iaload, 1) := by decide +kernel
theorem dL_law_489 : decode cL_law 489 = .ok (.invokevirtual 54, 3) := by decide +kernel
theorem dL_law_492 : decode cL_law 492 = .ok (.aload_n 2, 1) := by decide +kernel
theorem dL_law_493 : decode cL_law 493 = .ok (.aload_n 0, 1) := by decide +kernel
theorem dL_law_494 : decode cL_law 494 = .ok (.iload_n 3, 1) := by decide +kernel
theorem dL_law_495 : decode cL_law 495 = .ok (.iconst 1, 1) := by decide +kernel
theorem dL_law_496 : decode cL_law 496 = .ok (.iadd, 1) := by decide +kernel
theorem dL_law_497 : decode cL_law 497 = .ok (.iaload, 1) := by decide +kernel
theorem dL_law_498 : decode cL_law 498 = .ok (.invokevirtual 57, 3) := by decide +kernel
theorem dL_law_501 : decode cL_law 501 = .ok (.if_icmp .eq 813, 3) := by decide +kernel
theorem dL_law_504 : decode cL_law 504 = .ok (.iconst 0, 1) := by decide +kernel
theorem dL_law_505 : decode cL_law 505 = .ok (.ireturn, 1) := by decide +kernel
theorem dL_law_506 : decode cL_law 506 = .ok (.aload_n 1, 1) := by decide +kernel
theorem dL_law_507 : decode cL_law 507 = .ok (.aload_n 0, 1) := by decide +kernel
theorem dL_law_508 : decode cL_law 508 = .ok (.iload_n 3, 1) := by decide +kernel
theorem dL_law_509 : decode cL_law 509 = .ok (.iconst 1, 1) := by decide +kernel
theorem dL_law_510 : decode cL_law 510 = .ok (.iadd, 1) := by decide +kernel
theorem dL_law_511 : decode cL_law 511 = .ok (.iaload, 1) := by decide +kernel
theorem dL_law_512 : decode cL_law 512 = .ok (.aload_n 0, 1) := by decide +kernel
theorem dL_law_513 : decode cL_law 513 = .ok (.iload_n 3, 1) := by decide +kernel
theorem dL_law_514 : decode cL_law 514 = .ok (.iconst 2, 1) := by decide +kernel
theorem dL_law_515 : decode cL_law 515 = .ok (.iadd, 1) := by decide +kernel
theorem dL_law_516 : decode cL_law 516 = .ok (.iaload, 1) := by decide +kernel
theorem dL_law_517 : decode cL_law 517 = .ok (.invokevirtual 58, 3) := by decide +kernel
theorem dL_law_520 : decode cL_law 520 = .ok (.aload_n 2, 1) := by decide +kernel
theorem dL_law_521 : decode cL_law 521 = .ok (.aload_n 0, 1) := by decide +kernel
theorem dL_law_522 : decode cL_law 522 = .ok (.iload_n 3, 1) := by decide +kernel
theorem dL_law_523 : decode cL_law 523 = .ok (.iconst 1, 1) := by decide +kernel
theorem dL_law_524 : decode cL_law 524 = .ok (.iadd, 1) := by decide +kernel
theorem dL_law_525 : decode cL_law 525 = .ok (.iaload, 1) := by decide +kernel
theorem dL_law_526 : decode cL_law 526 = .ok (.aload_n 0, 1) := by decide +kernel
theorem dL_law_527 : decode cL_law 527 = .ok (.iload_n 3, 1) := by decide +kernel
theorem dL_law_528 : decode cL_law 528 = .ok (.iconst 2, 1) := by decide +kernel
theorem dL_law_529 : decode cL_law 529 = .ok (.iadd, 1) := by decide +kernel
theorem dL_law_530 : decode cL_law 530 = .ok (.iaload, 1) := by decide +kernel
theorem dL_law_531 : decode cL_law 531 = .ok (.invokevirtual 61, 3) := by decide +kernel
theorem dL_law_534 : decode cL_law 534 = .ok (.if_icmp .eq 780, 3) := by decide +kernel
theorem dL_law_537 : decode cL_law 537 = .ok (.iconst 0, 1) := by decide +kernel
theorem dL_law_538 : decode cL_law 538 = .ok (.ireturn, 1) := by decide +kernel
theorem dL_law_539 : decode cL_law 539 = .ok (.aload_n 1, 1) := by decide +kernel
theorem dL_law_540 : decode cL_law 540 = .ok (.aload_n 0, 1) := by decide +kernel
theorem dL_law_541 : decode cL_law 541 = .ok (.iload_n 3, 1) := by decide +kernel
theorem dL_law_542 : decode cL_law 542 = .ok (.iconst 1, 1) := by decide +kernel
theorem dL_law_543 : decode cL_law 543 = .ok (.iadd, 1) := by decide +kernel
theorem dL_law_544 : decode cL_law 544 = .ok (.iaload, 1) := by decide +kernel
theorem dL_law_545 : decode cL_law 545 = .ok (.invokevirtual 62, 3) := by decide +kernel
theorem dL_law_548 : decode cL_law 548 = .ok (.aload_n 2, 1) := by decide +kernel
theorem dL_law_549 : decode cL_law 549 = .ok (.aload_n 0, 1) := by decide +kernel
theorem dL_law_550 : decode cL_law 550 = .ok (.iload_n 3, 1) := by decide +kernel
theorem dL_law_551 : decode cL_law 551 = .ok (.iconst 1, 1) := by decide +kernel
theorem dL_law_552 : decode cL_law 552 = .ok (.iadd, 1) := by decide +kernel
theorem dL_law_553 : decode cL_law 553 = .ok (.iaload, 1) := by decide +kernel
theorem dL_law_554 : decode cL_law 554 = .ok (.invokevirtual 65, 3) := by decide +kernel
theorem dL_law_557 : decode cL_law 557 = .ok (.if_icmp .eq 757, 3) := by decide +kernel
theorem dL_law_560 : decode cL_law 560 = .ok (.iconst 0, 1) := by decide +kernel
theorem dL_law_561 : decode cL_law 561 = .ok (.ireturn, 1) := by decide +kernel
theorem dL_law_562 : decode cL_law 562 = .ok (.aload_n 1, 1) := by decide +kernel
theorem dL_law_563 : decode cL_law 563 = .ok (.aload_n 0, 1) := by decide +kernel
theorem dL_law_564 : decode cL_law 564 = .ok (.iload_n 3, 1) := by decide +kernel
theorem dL_law_565 : decode cL_law 565 = .ok (.iconst 1, 1) := by decide +kernel
theorem dL_law_566 : decode cL_law 566 = .ok (.iadd, 1) := by decide +kernel
theorem dL_law_567 : decode cL_law 567 = .ok (.iaload, 1) := by decide +kernel
theorem dL_law_568 : decode cL_law 568 = .ok (.aload_n 0, 1) := by decide +kernel
theorem dL_law_569 : decode cL_law 569 = .ok (.iload_n 3, 1) := by decide +kernel
theorem dL_law_570 : decode cL_law 570 = .ok (.iconst 2, 1) := by decide +kernel
theorem dL_law_571 : decode cL_law 571 = .ok (.iadd, 1) := by decide +kernel
theorem dL_law_572 : decode cL_law 572 = .ok (.iaload, 1) := by decide +kernel
theorem dL_law_573 : decode cL_law 573 = .ok (.aload_n 0, 1) := by decide +kernel
theorem dL_law_574 : decode cL_law 574 = .ok (.iload_n 3, 1) := by decide +kernel
theorem dL_law_575 : decode cL_law 575 = .ok (.iconst 3, 1) := by decide +kernel
theorem dL_law_576 : decode cL_law 576 = .ok (.iadd, 1) := by decide +kernel
theorem dL_law_577 : decode cL_law 577 = .ok (.iaload, 1) := by decide +kernel
theorem dL_law_578 : decode cL_law 578 = .ok (.invokevirtual 66, 3) := by decide +kernel
theorem dL_law_581 : decode cL_law 581 = .ok (.aload_n 2, 1) := by decide +kernel
theorem dL_law_582 : decode cL_law 582 = .ok (.aload_n 0, 1) := by decide +kernel
theorem dL_law_583 : decode cL_law 583 = .ok (.iload_n 3, 1) := by decide +kernel
theorem dL_law_584 : decode cL_law 584 = .ok (.iconst 1, 1) := by decide +kernel
theorem dL_law_585 : decode cL_law 585 = .ok (.iadd, 1) := by decide +kernel
theorem dL_law_586 : decode cL_law 586 = .ok (.iaload, 1) := by decide +kernel
theorem dL_law_587 : decode cL_law 587 = .ok (.aload_n 0, 1) := by decide +kernel
theorem dL_law_588 : decode cL_law 588 = .ok (.iload_n 3, 1) := by decide +kernel
theorem dL_law_589 : decode cL_law 589 = .ok (.iconst 2, 1) := by decide +kernel
theorem dL_law_590 : decode cL_law 590 = .ok (.iadd, 1) := by decide +kernel
theorem dL_law_591 : decode cL_law 591 = .ok (.iaload, 1) := by decide +kernel
theorem dL_law_592 : decode cL_law 592 = .ok (.aload_n 0, 1) := by decide +kernel
theorem dL_law_593 : decode cL_law 593 = .ok (.iload_n 3, 1) := by decide +kernel
theorem dL_law_594 : decode cL_law 594 = .ok (.iconst 3, 1) := by decide +kernel
theorem dL_law_595 : decode cL_law 595 = .ok (.iadd, 1) := by decide +kernel
theorem dL_law_596 : decode cL_law 596 = .ok (.iaload, 1) := by decide +kernel
theorem dL_law_597 : decode cL_law 597 = .ok (.invokevirtual 69, 3) := by decide +kernel
theorem dL_law_600 : decode cL_law 600 = .ok (.if_icmp .eq 714, 3) := by decide +kernel
theorem dL_law_603 : decode cL_law 603 = .ok (.iconst 0, 1) := by decide +kernel
theorem dL_law_604 : decode cL_law 604 = .ok (.ireturn, 1) := by decide +kernel
theorem dL_law_605 : decode cL_law 605 = .ok (.aload_n 1, 1) := by decide +kernel
theorem dL_law_606 : decode cL_law 606 = .ok (.aload_n 0, 1) := by decide +kernel
theorem dL_law_607 : decode cL_law 607 = .ok (.iload_n 3, 1) := by decide +kernel
theorem dL_law_608 : decode cL_law 608 = .ok (.iconst 1, 1) := by decide +kernel
theorem dL_law_609 : decode cL_law 609 = .ok (.iadd, 1) := by decide +kernel
theorem dL_law_610 : decode cL_law 610 = .ok (.iaload, 1) := by decide +kernel
theorem dL_law_611 : decode cL_law 611 = .ok (.aload_n 0, 1) := by decide +kernel
theorem dL_law_612 : decode cL_law 612 = .ok (.iload_n 3, 1) := by decide +kernel
theorem dL_law_613 : decode cL_law 613 = .ok (.iconst 2, 1) := by decide +kernel
theorem dL_law_614 : decode cL_law 614 = .ok (.iadd, 1) := by decide +kernel
theorem dL_law_615 : decode cL_law 615 = .ok (.iaload, 1) := by decide +kernel
theorem dL_law_616 : decode cL_law 616 = .ok (.aload_n 0, 1) := by decide +kernel
theorem dL_law_617 : decode cL_law 617 = .ok (.iload_n 3, 1) := by decide +kernel
theorem dL_law_618 : decode cL_law 618 = .ok (.iconst 3, 1) := by decide +kernel
theorem dL_law_619 : decode cL_law 619 = .ok (.iadd, 1) := by decide +kernel
theorem dL_law_620 : decode cL_law 620 = .ok (.iaload, 1) := by decide +kernel
theorem dL_law_621 : decode cL_law 621 = .ok (.aload_n 0, 1) := by decide +kernel
theorem dL_law_622 : decode cL_law 622 = .ok (.iload_n 3, 1) := by decide +kernel
theorem dL_law_623 : decode cL_law 623 = .ok (.iconst 4, 1) := by decide +kernel
theorem dL_law_624 : decode cL_law 624 = .ok (.iadd, 1) := by decide +kernel
theorem dL_law_625 : decode cL_law 625 = .ok (.iaload, 1) := by decide +kernel
theorem dL_law_626 : decode cL_law 626 = .ok (.ifCond .eq 7, 3) := by decide +kernel
theorem dL_law_629 : decode cL_law 629 = .ok (.iconst 1, 1) := by decide +kernel
theorem dL_law_630 : decode cL_law 630 = .ok (.goto 4, 3) := by decide +kernel
theorem dL_law_633 : decode cL_law 633 = .ok (.iconst 0, 1) := by decide +kernel
theorem dL_law_634 : decode cL_law 634 = .ok (.invokevirtual 70, 3) := by decide +kernel
theorem dL_law_637 : decode cL_law 637 = .ok (.aload_n 2, 1) := by decide +kernel
theorem dL_law_638 : decode cL_law 638 = .ok (.aload_n 0, 1) := by decide +kernel
theorem dL_law_639 : decode cL_law 639 = .ok (.iload_n 3, 1) := by decide +kernel
theorem dL_law_640 : decode cL_law 640 = .ok (.iconst 1, 1) := by decide +kernel
theorem dL_law_641 : decode cL_law 641 = .ok (.iadd, 1) := by decide +kernel
theorem dL_law_642 : decode cL_law 642 = .ok (.iaload, 1) := by decide +kernel
theorem dL_law_643 : decode cL_law 643 = .ok (.aload_n 0, 1) := by decide +kernel
theorem dL_law_644 : decode cL_law 644 = .ok (.iload_n 3, 1) := by decide +kernel
theorem dL_law_645 : decode cL_law 645 = .ok (.iconst 2, 1) := by decide +kernel
theorem dL_law_646 : decode cL_law 646 = .ok (.iadd, 1) := by decide +kernel
theorem dL_law_647 : decode cL_law 647 = .ok (.iaload, 1) := by decide +kernel
theorem dL_law_648 : decode cL_law 648 = .ok (.aload_n 0, 1) := by decide +kernel
theorem dL_law_649 : decode cL_law 649 = .ok (.iload_n 3, 1) := by decide +kernel
theorem dL_law_650 : decode cL_law 650 = .ok (.iconst 3, 1) := by decide +kernel
theorem dL_law_651 : decode cL_law 651 = .ok (.iadd, 1) := by decide +kernel
theorem dL_law_652 : decode cL_law 652 = .ok (.iaload, 1) := by decide +kernel
theorem dL_law_653 : decode cL_law 653 = .ok (.aload_n 0, 1) := by decide +kernel
theorem dL_law_654 : decode cL_law 654 = .ok (.iload_n 3, 1) := by decide +kernel
theorem dL_law_655 : decode cL_law 655 = .ok (.iconst 4, 1) := by decide +kernel
theorem dL_law_656 : decode cL_law 656 = .ok (.iadd, 1) := by decide +kernel
theorem dL_law_657 : decode cL_law 657 = .ok (.iaload, 1) := by decide +kernel
theorem dL_law_658 : decode cL_law 658 = .ok (.ifCond .eq 7, 3) := by decide +kernel
theorem dL_law_661 : decode cL_law 661 = .ok (.iconst 1, 1) := by decide +kernel
theorem dL_law_662 : decode cL_law 662 = .ok (.goto 4, 3) := by decide +kernel
theorem dL_law_665 : decode cL_law 665 = .ok (.iconst 0, 1) := by decide +kernel
theorem dL_law_666 : decode cL_law 666 = .ok (.invokevirtual 74, 3) := by decide +kernel
theorem dL_law_669 : decode cL_law 669 = .ok (.if_icmp .eq 645, 3) := by decide +kernel
theorem dL_law_672 : decode cL_law 672 = .ok (.iconst 0, 1) := by decide +kernel
theorem dL_law_673 : decode cL_law 673 = .ok (.ireturn, 1) := by decide +kernel
theorem dL_law_674 : decode cL_law 674 = .ok (.aload_n 1, 1) := by decide +kernel
theorem dL_law_675 : decode cL_law 675 = .ok (.aload_n 0, 1) := by decide +kernel
theorem dL_law_676 : decode cL_law 676 = .ok (.iload_n 3, 1) := by decide +kernel
theorem dL_law_677 : decode cL_law 677 = .ok (.iconst 1, 1) := by decide +kernel
theorem dL_law_678 : decode cL_law 678 = .ok (.iadd, 1) := by decide +kernel
theorem dL_law_679 : decode cL_law 679 = .ok (.iaload, 1) := by decide +kernel
theorem dL_law_680 : decode cL_law 680 = .ok (.aload_n 0, 1) := by decide +kernel
theorem dL_law_681 : decode cL_law 681 = .ok (.iload_n 3, 1) := by decide +kernel
theorem dL_law_682 : decode cL_law 682 = .ok (.iconst 2, 1) := by decide +kernel
theorem dL_law_683 : decode cL_law 683 = .ok (.iadd, 1) := by decide +kernel
theorem dL_law_684 : decode cL_law 684 = .ok (.iaload, 1) := by decide +kernel
theorem dL_law_685 : decode cL_law 685 = .ok (.aload_n 0, 1) := by decide +kernel
theorem dL_law_686 : decode cL_law 686 = .ok (.iload_n 3, 1) := by decide +kernel
theorem dL_law_687 : decode cL_law 687 = .ok (.iconst 3, 1) := by decide +kernel
theorem dL_law_688 : decode cL_law 688 = .ok (.iadd, 1) := by decide +kernel
theorem dL_law_689 : decode cL_law 689 = .ok (.iaload, 1) := by decide +kernel
theorem dL_law_690 : decode cL_law 690 = .ok (.invokevirtual 75, 3) := by decide +kernel
theorem dL_law_693 : decode cL_law 693 = .ok (.aload_n 2, 1) := by decide +kernel
theorem dL_law_694 : decode cL_law 694 = .ok (.aload_n 0, 1) := by decide +kernel
theorem dL_law_695 : decode cL_law 695 = .ok (.iload_n 3, 1) := by decide +kernel
theorem dL_law_696 : decode cL_law 696 = .ok (.iconst 1, 1) := by decide +kernel
theorem dL_law_697 : decode cL_law 697 = .ok (.iadd, 1) := by decide +kernel
theorem dL_law_698 : decode cL_law 698 = .ok (.iaload, 1) := by decide +kernel
theorem dL_law_699 : decode cL_law 699 = .ok (.aload_n 0, 1) := by decide +kernel
theorem dL_law_700 : decode cL_law 700 = .ok (.iload_n 3, 1) := by decide +kernel
theorem dL_law_701 : decode cL_law 701 = .ok (.iconst 2, 1) := by decide +kernel
theorem dL_law_702 : decode cL_law 702 = .ok (.iadd, 1) := by decide +kernel
theorem dL_law_703 : decode cL_law 703 = .ok (.iaload, 1) := by decide +kernel
theorem dL_law_704 : decode cL_law 704 = .ok (.aload_n 0, 1) := by decide +kernel
theorem dL_law_705 : decode cL_law 705 = .ok (.iload_n 3, 1) := by decide +kernel
theorem dL_law_706 : decode cL_law 706 = .ok (.iconst 3, 1) := by decide +kernel
theorem dL_law_707 : decode cL_law 707 = .ok (.iadd, 1) := by decide +kernel
theorem dL_law_708 : decode cL_law 708 = .ok (.iaload, 1) := by decide +kernel
theorem dL_law_709 : decode cL_law 709 = .ok (.invokevirtual 78, 3) := by decide +kernel
theorem dL_law_712 : decode cL_law 712 = .ok (.if_icmp .eq 602, 3) := by decide +kernel
theorem dL_law_715 : decode cL_law 715 = .ok (.iconst 0, 1) := by decide +kernel
theorem dL_law_716 : decode cL_law 716 = .ok (.ireturn, 1) := by decide +kernel
theorem dL_law_717 : decode cL_law 717 = .ok (.aload_n 1, 1) := by decide +kernel
theorem dL_law_718 : decode cL_law 718 = .ok (.aload_n 0, 1) := by decide +kernel
theorem dL_law_719 : decode cL_law 719 = .ok (.iload_n 3, 1) := by decide +kernel
theorem dL_law_720 : decode cL_law 720 = .ok (.iconst 1, 1) := by decide +kernel
theorem dL_law_721 : decode cL_law 721 = .ok (.iadd, 1) := by decide +kernel
theorem dL_law_722 : decode cL_law 722 = .ok (.iaload, 1) := by decide +kernel
theorem dL_law_723 : decode cL_law 723 = .ok (.aload_n 0, 1) := by decide +kernel
theorem dL_law_724 : decode cL_law 724 = .ok (.iload_n 3, 1) := by decide +kernel
theorem dL_law_725 : decode cL_law 725 = .ok (.iconst 2, 1) := by decide +kernel
theorem dL_law_726 : decode cL_law 726 = .ok (.iadd, 1) := by decide +kernel
theorem dL_law_727 : decode cL_law 727 = .ok (.iaload, 1) := by decide +kernel
theorem dL_law_728 : decode cL_law 728 = .ok (.invokevirtual 79, 3) := by decide +kernel
theorem dL_law_731 : decode cL_law 731 = .ok (.aload_n 2, 1) := by decide +kernel
theorem dL_law_732 : decode cL_law 732 = .ok (.aload_n 0, 1) := by decide +kernel
theorem dL_law_733 : decode cL_law 733 = .ok (.iload_n 3, 1) := by decide +kernel
theorem dL_law_734 : decode cL_law 734 = .ok (.iconst 1, 1) := by decide +kernel
theorem dL_law_735 : decode cL_law 735 = .ok (.iadd, 1) := by decide +kernel
theorem dL_law_736 : decode cL_law 736 = .ok (.iaload, 1) := by decide +kernel
theorem dL_law_737 : decode cL_law 737 = .ok (.aload_n 0, 1) := by decide +kernel
theorem dL_law_738 : decode cL_law 738 = .ok (.iload_n 3, 1) := by decide +kernel
theorem dL_law_739 : decode cL_law 739 = .ok (.iconst 2, 1) := by decide +kernel
theorem dL_law_740 : decode cL_law 740 = .ok (.iadd, 1) := by decide +kernel
theorem dL_law_741 : decode cL_law 741 = .ok (.iaload, 1) := by decide +kernel
theorem dL_law_742 : decode cL_law 742 = .ok (.invokevirtual 82, 3) := by decide +kernel
theorem dL_law_745 : decode cL_law 745 = .ok (.if_icmp .eq 569, 3) := by decide +kernel
theorem dL_law_748 : decode cL_law 748 = .ok (.iconst 0, 1) := by decide +kernel
theorem dL_law_749 : decode cL_law 749 = .ok (.ireturn, 1) := by decide +kernel
theorem dL_law_750 : decode cL_law 750 = .ok (.aload_n 1, 1) := by decide +kernel
theorem dL_law_751 : decode cL_law 751 = .ok (.aload_n 0, 1) := by decide +kernel
theorem dL_law_752 : decode cL_law 752 = .ok (.iload_n 3, 1) := by decide +kernel
theorem dL_law_753 : decode cL_law 753 = .ok (.iconst 1, 1) := by decide +kernel
theorem dL_law_754 : decode cL_law 754 = .ok (.iadd, 1) := by decide +kernel
theorem dL_law_755 : decode cL_law 755 = .ok (.iaload, 1) := by decide +kernel
theorem dL_law_756 : decode cL_law 756 = .ok (.aload_n 0, 1) := by decide +kernel
theorem dL_law_757 : decode cL_law 757 = .ok (.iload_n 3, 1) := by decide +kernel
theorem dL_law_758 : decode cL_law 758 = .ok (.iconst 2, 1) := by decide +kernel
theorem dL_law_759 : decode cL_law 759 = .ok (.iadd, 1) := by decide +kernel
theorem dL_law_760 : decode cL_law 760 = .ok (.iaload, 1) := by decide +kernel
theorem dL_law_761 : decode cL_law 761 = .ok (.invokevirtual 83, 3) := by decide +kernel
theorem dL_law_764 : decode cL_law 764 = .ok (.aload_n 2, 1) := by decide +kernel
theorem dL_law_765 : decode cL_law 765 = .ok (.aload_n 0, 1) := by decide +kernel
theorem dL_law_766 : decode cL_law 766 = .ok (.iload_n 3, 1) := by decide +kernel
theorem dL_law_767 : decode cL_law 767 = .ok (.iconst 1, 1) := by decide +kernel
theorem dL_law_768 : decode cL_law 768 = .ok (.iadd, 1) := by decide +kernel
theorem dL_law_769 : decode cL_law 769 = .ok (.iaload, 1) := by decide +kernel
theorem dL_law_770 : decode cL_law 770 = .ok (.aload_n 0, 1) := by decide +kernel
theorem dL_law_771 : decode cL_law 771 = .ok (.iload_n 3, 1) := by decide +kernel
theorem dL_law_772 : decode cL_law 772 = .ok (.iconst 2, 1) := by decide +kernel
theorem dL_law_773 : decode cL_law 773 = .ok (.iadd, 1) := by decide +kernel
theorem dL_law_774 : decode cL_law 774 = .ok (.iaload, 1) := by decide +kernel
theorem dL_law_775 : decode cL_law 775 = .ok (.invokevirtual 87, 3) := by decide +kernel
theorem dL_law_778 : decode cL_law 778 = .ok (.lcmp, 1) := by decide +kernel
theorem dL_law_779 : decode cL_law 779 = .ok (.ifCond .eq 535, 3) := by decide +kernel
theorem dL_law_782 : decode cL_law 782 = .ok (.iconst 0, 1) := by decide +kernel
theorem dL_law_783 : decode cL_law 783 = .ok (.ireturn, 1) := by decide +kernel
theorem dL_law_784 : decode cL_law 784 = .ok (.aload_n 1, 1) := by decide +kernel
theorem dL_law_785 : decode cL_law 785 = .ok (.aload_n 0, 1) := by decide +kernel
theorem dL_law_786 : decode cL_law 786 = .ok (.iload_n 3, 1) := by decide +kernel
theorem dL_law_787 : decode cL_law 787 = .ok (.iconst 1, 1) := by decide +kernel
theorem dL_law_788 : decode cL_law 788 = .ok (.iadd, 1) := by decide +kernel
theorem dL_law_789 : decode cL_law 789 = .ok (.iaload, 1) := by decide +kernel
theorem dL_law_790 : decode cL_law 790 = .ok (.aload_n 0, 1) := by decide +kernel
theorem dL_law_791 : decode cL_law 791 = .ok (.iload_n 3, 1) := by decide +kernel
theorem dL_law_792 : decode cL_law 792 = .ok (.iconst 2, 1) := by decide +kernel
theorem dL_law_793 : decode cL_law 793 = .ok (.iadd, 1) := by decide +kernel
theorem dL_law_794 : decode cL_law 794 = .ok (.iaload, 1) := by decide +kernel
theorem dL_law_795 : decode cL_law 795 = .ok (.invokevirtual 88, 3) := by decide +kernel
theorem dL_law_798 : decode cL_law 798 = .ok (.aload_n 2, 1) := by decide +kernel
theorem dL_law_799 : decode cL_law 799 = .ok (.aload_n 0, 1) := by decide +kernel
theorem dL_law_800 : decode cL_law 800 = .ok (.iload_n 3, 1) := by decide +kernel
theorem dL_law_801 : decode cL_law 801 = .ok (.iconst 1, 1) := by decide +kernel
theorem dL_law_802 : decode cL_law 802 = .ok (.iadd, 1) := by decide +kernel
theorem dL_law_803 : decode cL_law 803 = .ok (.iaload, 1) := by decide +kernel
theorem dL_law_804 : decode cL_law 804 = .ok (.aload_n 0, 1) := by decide +kernel
theorem dL_law_805 : decode cL_law 805 = .ok (.iload_n 3, 1) := by decide +kernel
theorem dL_law_806 : decode cL_law 806 = .ok (.iconst 2, 1) := by decide +kernel
theorem dL_law_807 : decode cL_law 807 = .ok (.iadd, 1) := by decide +kernel
theorem dL_law_808 : decode cL_law 808 = .ok (.iaload, 1) := by decide +kernel
theorem dL_law_809 : decode cL_law 809 = .ok (.invokevirtual 91, 3) := by decide +kernel
theorem dL_law_812 : decode cL_law 812 = .ok (.lcmp, 1) := by decide +kernel
theorem dL_law_813 : decode cL_law 813 = .ok (.ifCond .eq 501, 3) := by decide +kernel
theorem dL_law_816 : decode cL_law 816 = .ok (.iconst 0, 1) := by decide +kernel
theorem dL_law_817 : decode cL_law 817 = .ok (.ireturn, 1) := by decide +kernel
theorem dL_law_818 : decode cL_law 818 = .ok (.aload_n 1, 1) := by decide +kernel
theorem dL_law_819 : decode cL_law 819 = .ok (.aload_n 0, 1) := by decide +kernel
theorem dL_law_820 : decode cL_law 820 = .ok (.iload_n 3, 1) := by decide +kernel
theorem dL_law_821 : decode cL_law 821 = .ok (.iconst 1, 1) := by decide +kernel
theorem dL_law_822 : decode cL_law 822 = .ok (.iadd, 1) := by decide +kernel
theorem dL_law_823 : decode cL_law 823 = .ok (.iaload, 1) := by decide +kernel
theorem dL_law_824 : decode cL_law 824 = .ok (.aload_n 0, 1) := by decide +kernel
theorem dL_law_825 : decode cL_law 825 = .ok (.iload_n 3, 1) := by decide +kernel
theorem dL_law_826 : decode cL_law 826 = .ok (.iconst 2, 1) := by decide +kernel
theorem dL_law_827 : decode cL_law 827 = .ok (.iadd, 1) := by decide +kernel
theorem dL_law_828 : decode cL_law 828 = .ok (.iaload, 1) := by decide +kernel
theorem dL_law_829 : decode cL_law 829 = .ok (.invokevirtual 92, 3) := by decide +kernel
theorem dL_law_832 : decode cL_law 832 = .ok (.aload_n 2, 1) := by decide +kernel
theorem dL_law_833 : decode cL_law 833 = .ok (.aload_n 0, 1) := by decide +kernel
theorem dL_law_834 : decode cL_law 834 = .ok (.iload_n 3, 1) := by decide +kernel
theorem dL_law_835 : decode cL_law 835 = .ok (.iconst 1, 1) := by decide +kernel
theorem dL_law_836 : decode cL_law 836 = .ok (.iadd, 1) := by decide +kernel
theorem dL_law_837 : decode cL_law 837 = .ok (.iaload, 1) := by decide +kernel
theorem dL_law_838 : decode cL_law 838 = .ok (.aload_n 0, 1) := by decide +kernel
theorem dL_law_839 : decode cL_law 839 = .ok (.iload_n 3, 1) := by decide +kernel
theorem dL_law_840 : decode cL_law 840 = .ok (.iconst 2, 1) := by decide +kernel
theorem dL_law_841 : decode cL_law 841 = .ok (.iadd, 1) := by decide +kernel
theorem dL_law_842 : decode cL_law 842 = .ok (.iaload, 1) := by decide +kernel
theorem dL_law_843 : decode cL_law 843 = .ok (.invokevirtual 95, 3) := by decide +kernel
theorem dL_law_846 : decode cL_law 846 = .ok (.if_icmp .eq 468, 3) := by decide +kernel
theorem dL_law_849 : decode cL_law 849 = .ok (.iconst 0, 1) := by decide +kernel
theorem dL_law_850 : decode cL_law 850 = .ok (.ireturn, 1) := by decide +kernel
theorem dL_law_851 : decode cL_law 851 = .ok (.aload_n 1, 1) := by decide +kernel
theorem dL_law_852 : decode cL_law 852 = .ok (.aload_n 0, 1) := by decide +kernel
theorem dL_law_853 : decode cL_law 853 = .ok (.iload_n 3, 1) := by decide +kernel
theorem dL_law_854 : decode cL_law 854 = .ok (.iconst 1, 1) := by decide +kernel
theorem dL_law_855 : decode cL_law 855 = .ok (.iadd, 1) := by decide +kernel
theorem dL_law_856 : decode cL_law 856 = .ok (.iaload, 1) := by decide +kernel
theorem dL_law_857 : decode cL_law 857 = .ok (.invokevirtual 96, 3) := by decide +kernel
theorem dL_law_860 : decode cL_law 860 = .ok (.aload_n 2, 1) := by decide +kernel
theorem dL_law_861 : decode cL_law 861 = .ok (.aload_n 0, 1) := by decide +kernel
theorem dL_law_862 : decode cL_law 862 = .ok (.iload_n 3, 1) := by decide +kernel
theorem dL_law_863 : decode cL_law 863 = .ok (.iconst 1, 1) := by decide +kernel
theorem dL_law_864 : decode cL_law 864 = .ok (.iadd, 1) := by decide +kernel
theorem dL_law_865 : decode cL_law 865 = .ok (.iaload, 1) := by decide +kernel
theorem dL_law_866 : decode cL_law 866 = .ok (.invokevirtual 99, 3) := by decide +kernel
theorem dL_law_869 : decode cL_law 869 = .ok (.if_icmp .eq 445, 3) := by decide +kernel
theorem dL_law_872 : decode cL_law 872 = .ok (.iconst 0, 1) := by decide +kernel
theorem dL_law_873 : decode cL_law 873 = .ok (.ireturn, 1) := by decide +kernel
theorem dL_law_874 : decode cL_law 874 = .ok (.aload_n 1, 1) := by decide +kernel
theorem dL_law_875 : decode cL_law 875 = .ok (.aload_n 0, 1) := by decide +kernel
theorem dL_law_876 : decode cL_law 876 = .ok (.iload_n 3, 1) := by decide +kernel
theorem dL_law_877 : decode cL_law 877 = .ok (.iconst 1, 1) := by decide +kernel
theorem dL_law_878 : decode cL_law 878 = .ok (.iadd, 1) := by decide +kernel
theorem dL_law_879 : decode cL_law 879 = .ok (.iaload, 1) := by decide +kernel
theorem dL_law_880 : decode cL_law 880 = .ok (.aload_n 0, 1) := by decide +kernel
theorem dL_law_881 : decode cL_law 881 = .ok (.iload_n 3, 1) := by decide +kernel
theorem dL_law_882 : decode cL_law 882 = .ok (.iconst 2, 1) := by decide +kernel
theorem dL_law_883 : decode cL_law 883 = .ok (.iadd, 1) := by decide +kernel
theorem dL_law_884 : decode cL_law 884 = .ok (.iaload, 1) := by decide +kernel
theorem dL_law_885 : decode cL_law 885 = .ok (.invokevirtual 100, 3) := by decide +kernel
theorem dL_law_888 : decode cL_law 888 = .ok (.aload_n 2, 1) := by decide +kernel
theorem dL_law_889 : decode cL_law 889 = .ok (.aload_n 0, 1) := by decide +kernel
theorem dL_law_890 : decode cL_law 890 = .ok (.iload_n 3, 1) := by decide +kernel
theorem dL_law_891 : decode cL_law 891 = .ok (.iconst 1, 1) := by decide +kernel
theorem dL_law_892 : decode cL_law 892 = .ok (.iadd, 1) := by decide +kernel
theorem dL_law_893 : decode cL_law 893 = .ok (.iaload, 1) := by decide +kernel
theorem dL_law_894 : decode cL_law 894 = .ok (.aload_n 0, 1) := by decide +kernel
theorem dL_law_895 : decode cL_law 895 = .ok (.iload_n 3, 1) := by decide +kernel
theorem dL_law_896 : decode cL_law 896 = .ok (.iconst 2, 1) := by decide +kernel
theorem dL_law_897 : decode cL_law 897 = .ok (.iadd, 1) := by decide +kernel
theorem dL_law_898 : decode cL_law 898 = .ok (.iaload, 1) := by decide +kernel
theorem dL_law_899 : decode cL_law 899 = .ok (.invokevirtual 103, 3) := by decide +kernel
theorem dL_law_902 : decode cL_law 902 = .ok (.if_icmp .eq 412, 3) := by decide +kernel
theorem dL_law_905 : decode cL_law 905 = .ok (.iconst 0, 1) := by decide +kernel
theorem dL_law_906 : decode cL_law 906 = .ok (.ireturn, 1) := by decide +kernel
theorem dL_law_907 : decode cL_law 907 = .ok (.aload_n 1, 1) := by decide +kernel
theorem dL_law_908 : decode cL_law 908 = .ok (.invokevirtual 104, 3) := by decide +kernel
theorem dL_law_911 : decode cL_law 911 = .ok (.aload_n 2, 1) := by decide +kernel
theorem dL_law_912 : decode cL_law 912 = .ok (.invokevirtual 107, 3) := by decide +kernel
theorem dL_law_915 : decode cL_law 915 = .ok (.if_icmp .eq 399, 3) := by decide +kernel
theorem dL_law_918 : decode cL_law 918 = .ok (.iconst 0, 1) := by decide +kernel
theorem dL_law_919 : decode cL_law 919 = .ok (.ireturn, 1) := by decide +kernel
theorem dL_law_920 : decode cL_law 920 = .ok (.aload_n 1, 1) := by decide +kernel
theorem dL_law_921 : decode cL_law 921 = .ok (.aload_n 0, 1) := by decide +kernel
theorem dL_law_922 : decode cL_law 922 = .ok (.iload_n 3, 1) := by decide +kernel
theorem dL_law_923 : decode cL_law 923 = .ok (.iconst 1, 1) := by decide +kernel
theorem dL_law_924 : decode cL_law 924 = .ok (.iadd, 1) := by decide +kernel
theorem dL_law_925 : decode cL_law 925 = .ok (.iaload, 1) := by decide +kernel
theorem dL_law_926 : decode cL_law 926 = .ok (.aload_n 0, 1) := by decide +kernel
theorem dL_law_927 : decode cL_law 927 = .ok (.iload_n 3, 1) := by decide +kernel
theorem dL_law_928 : decode cL_law 928 = .ok (.iconst 2, 1) := by decide +kernel
theorem dL_law_929 : decode cL_law 929 = .ok (.iadd, 1) := by decide +kernel
theorem dL_law_930 : decode cL_law 930 = .ok (.iaload, 1) := by decide +kernel
theorem dL_law_931 : decode cL_law 931 = .ok (.invokevirtual 108, 3) := by decide +kernel
theorem dL_law_934 : decode cL_law 934 = .ok (.aload_n 2, 1) := by decide +kernel
theorem dL_law_935 : decode cL_law 935 = .ok (.aload_n 0, 1) := by decide +kernel
theorem dL_law_936 : decode cL_law 936 = .ok (.iload_n 3, 1) := by decide +kernel
theorem dL_law_937 : decode cL_law 937 = .ok (.iconst 1, 1) := by decide +kernel
theorem dL_law_938 : decode cL_law 938 = .ok (.iadd, 1) := by decide +kernel
theorem dL_law_939 : decode cL_law 939 = .ok (.iaload, 1) := by decide +kernel
theorem dL_law_940 : decode cL_law 940 = .ok (.aload_n 0, 1) := by decide +kernel
theorem dL_law_941 : decode cL_law 941 = .ok (.iload_n 3, 1) := by decide +kernel
theorem dL_law_942 : decode cL_law 942 = .ok (.iconst 2, 1) := by decide +kernel
theorem dL_law_943 : decode cL_law 943 = .ok (.iadd, 1) := by decide +kernel
theorem dL_law_944 : decode cL_law 944 = .ok (.iaload, 1) := by decide +kernel
theorem dL_law_945 : decode cL_law 945 = .ok (.invokevirtual 111, 3) := by decide +kernel
theorem dL_law_948 : decode cL_law 948 = .ok (.if_icmp .eq 366, 3) := by decide +kernel
theorem dL_law_951 : decode cL_law 951 = .ok (.iconst 0, 1) := by decide +kernel
theorem dL_law_952 : decode cL_law 952 = .ok (.ireturn, 1) := by decide +kernel
theorem dL_law_953 : decode cL_law 953 = .ok (.aload_n 1, 1) := by decide +kernel
theorem dL_law_954 : decode cL_law 954 = .ok (.invokevirtual 112, 3) := by decide +kernel
theorem dL_law_957 : decode cL_law 957 = .ok (.aload_n 2, 1) := by decide +kernel
theorem dL_law_958 : decode cL_law 958 = .ok (.invokevirtual 115, 3) := by decide +kernel
theorem dL_law_961 : decode cL_law 961 = .ok (.if_icmp .eq 353, 3) := by decide +kernel
theorem dL_law_964 : decode cL_law 964 = .ok (.iconst 0, 1) := by decide +kernel
theorem dL_law_965 : decode cL_law 965 = .ok (.ireturn, 1) := by decide +kernel
theorem dL_law_966 : decode cL_law 966 = .ok (.aload_n 1, 1) := by decide +kernel
theorem dL_law_967 : decode cL_law 967 = .ok (.invokevirtual 116, 3) := by decide +kernel
theorem dL_law_970 : decode cL_law 970 = .ok (.aload_n 2, 1) := by decide +kernel
theorem dL_law_971 : decode cL_law 971 = .ok (.invokevirtual 119, 3) := by decide +kernel
theorem dL_law_974 : decode cL_law 974 = .ok (.if_icmp .eq 340, 3) := by decide +kernel
theorem dL_law_977 : decode cL_law 977 = .ok (.iconst 0, 1) := by decide +kernel
theorem dL_law_978 : decode cL_law 978 = .ok (.ireturn, 1) := by decide +kernel
theorem dL_law_979 : decode cL_law 979 = .ok (.aload_n 1, 1) := by decide +kernel
theorem dL_law_980 : decode cL_law 980 = .ok (.aload_n 0, 1) := by decide +kernel
theorem dL_law_981 : decode cL_law 981 = .ok (.iload_n 3, 1) := by decide +kernel
theorem dL_law_982 : decode cL_law 982 = .ok (.iconst 1, 1) := by decide +kernel
theorem dL_law_983 : decode cL_law 983 = .ok (.iadd, 1) := by decide +kernel
theorem dL_law_984 : decode cL_law 984 = .ok (.iaload, 1) := by decide +kernel
theorem dL_law_985 : decode cL_law 985 = .ok (.aload_n 0, 1) := by decide +kernel
theorem dL_law_986 : decode cL_law 986 = .ok (.iload_n 3, 1) := by decide +kernel
theorem dL_law_987 : decode cL_law 987 = .ok (.iconst 2, 1) := by decide +kernel
theorem dL_law_988 : decode cL_law 988 = .ok (.iadd, 1) := by decide +kernel
theorem dL_law_989 : decode cL_law 989 = .ok (.iaload, 1) := by decide +kernel
theorem dL_law_990 : decode cL_law 990 = .ok (.aload_n 0, 1) := by decide +kernel
theorem dL_law_991 : decode cL_law 991 = .ok (.iload_n 3, 1) := by decide +kernel
theorem dL_law_992 : decode cL_law 992 = .ok (.iconst 3, 1) := by decide +kernel
theorem dL_law_993 : decode cL_law 993 = .ok (.iadd, 1) := by decide +kernel
theorem dL_law_994 : decode cL_law 994 = .ok (.iaload, 1) := by decide +kernel
theorem dL_law_995 : decode cL_law 995 = .ok (.invokevirtual 120, 3) := by decide +kernel
theorem dL_law_998 : decode cL_law 998 = .ok (.aload_n 2, 1) := by decide +kernel
theorem dL_law_999 : decode cL_law 999 = .ok (.aload_n 0, 1) := by decide +kernel
theorem dL_law_1000 : decode cL_law 1000 = .ok (.iload_n 3, 1) := by decide +kernel
theorem dL_law_1001 : decode cL_law 1001 = .ok (.iconst 1, 1) := by decide +kernel
theorem dL_law_1002 : decode cL_law 1002 = .ok (.iadd, 1) := by decide +kernel
theorem dL_law_1003 : decode cL_law 1003 = .ok (.iaload, 1) := by decide +kernel
theorem dL_law_1004 : decode cL_law 1004 = .ok (.aload_n 0, 1) := by decide +kernel
theorem dL_law_1005 : decode cL_law 1005 = .ok (.iload_n 3, 1) := by decide +kernel
theorem dL_law_1006 : decode cL_law 1006 = .ok (.iconst 2, 1) := by decide +kernel
theorem dL_law_1007 : decode cL_law 1007 = .ok (.iadd, 1) := by decide +kernel
theorem dL_law_1008 : decode cL_law 1008 = .ok (.iaload, 1) := by decide +kernel
theorem dL_law_1009 : decode cL_law 1009 = .ok (.aload_n 0, 1) := by decide +kernel
theorem dL_law_1010 : decode cL_law 1010 = .ok (.iload_n 3, 1) := by decide +kernel
theorem dL_law_1011 : decode cL_law 1011 = .ok (.iconst 3, 1) := by decide +kernel
theorem dL_law_1012 : decode cL_law 1012 = .ok (.iadd, 1) := by decide +kernel
theorem dL_law_1013 : decode cL_law 1013 = .ok (.iaload, 1) := by decide +kernel
theorem dL_law_1014 : decode cL_law 1014 = .ok (.invokevirtual 123, 3) := by decide +kernel
theorem dL_law_1017 : decode cL_law 1017 = .ok (.if_icmp .eq 297, 3) := by decide +kernel
theorem dL_law_1020 : decode cL_law 1020 = .ok (.iconst 0, 1) := by decide +kernel
theorem dL_law_1021 : decode cL_law 1021 = .ok (.ireturn, 1) := by decide +kernel
theorem dL_law_1022 : decode cL_law 1022 = .ok (.aload_n 1, 1) := by decide +kernel
theorem dL_law_1023 : decode cL_law 1023 = .ok (.aload_n 0, 1) := by decide +kernel
theorem dL_law_1024 : decode cL_law 1024 = .ok (.iload_n 3, 1) := by decide +kernel
theorem dL_law_1025 : decode cL_law 1025 = .ok (.iconst 1, 1) := by decide +kernel
theorem dL_law_1026 : decode cL_law 1026 = .ok (.iadd, 1) := by decide +kernel
theorem dL_law_1027 : decode cL_law 1027 = .ok (.iaload, 1) := by decide +kernel
theorem dL_law_1028 : decode cL_law 1028 = .ok (.invokevirtual 124, 3) := by decide +kernel
theorem dL_law_1031 : decode cL_law 1031 = .ok (.aload_n 2, 1) := by decide +kernel
theorem dL_law_1032 : decode cL_law 1032 = .ok (.aload_n 0, 1) := by decide +kernel
theorem dL_law_1033 : decode cL_law 1033 = .ok (.iload_n 3, 1) := by decide +kernel
theorem dL_law_1034 : decode cL_law 1034 = .ok (.iconst 1, 1) := by decide +kernel
theorem dL_law_1035 : decode cL_law 1035 = .ok (.iadd, 1) := by decide +kernel
theorem dL_law_1036 : decode cL_law 1036 = .ok (.iaload, 1) := by decide +kernel
theorem dL_law_1037 : decode cL_law 1037 = .ok (.invokevirtual 127, 3) := by decide +kernel
theorem dL_law_1040 : decode cL_law 1040 = .ok (.if_icmp .eq 274, 3) := by decide +kernel
theorem dL_law_1043 : decode cL_law 1043 = .ok (.iconst 0, 1) := by decide +kernel
theorem dL_law_1044 : decode cL_law 1044 = .ok (.ireturn, 1) := by decide +kernel
theorem dL_law_1045 : decode cL_law 1045 = .ok (.aload_n 1, 1) := by decide +kernel
theorem dL_law_1046 : decode cL_law 1046 = .ok (.aload_n 0, 1) := by decide +kernel
theorem dL_law_1047 : decode cL_law 1047 = .ok (.iload_n 3, 1) := by decide +kernel
theorem dL_law_1048 : decode cL_law 1048 = .ok (.iconst 1, 1) := by decide +kernel
theorem dL_law_1049 : decode cL_law 1049 = .ok (.iadd, 1) := by decide +kernel
theorem dL_law_1050 : decode cL_law 1050 = .ok (.iaload, 1) := by decide +kernel
theorem dL_law_1051 : decode cL_law 1051 = .ok (.aload_n 0, 1) := by decide +kernel
theorem dL_law_1052 : decode cL_law 1052 = .ok (.iload_n 3, 1) := by decide +kernel
theorem dL_law_1053 : decode cL_law 1053 = .ok (.iconst 2, 1) := by decide +kernel
theorem dL_law_1054 : decode cL_law 1054 = .ok (.iadd, 1) := by decide +kernel
theorem dL_law_1055 : decode cL_law 1055 = .ok (.iaload, 1) := by decide +kernel
theorem dL_law_1056 : decode cL_law 1056 = .ok (.invokevirtual 128, 3) := by decide +kernel
theorem dL_law_1059 : decode cL_law 1059 = .ok (.aload_n 2, 1) := by decide +kernel
theorem dL_law_1060 : decode cL_law 1060 = .ok (.aload_n 0, 1) := by decide +kernel
theorem dL_law_1061 : decode cL_law 1061 = .ok (.iload_n 3, 1) := by decide +kernel
theorem dL_law_1062 : decode cL_law 1062 = .ok (.iconst 1, 1) := by decide +kernel
theorem dL_law_1063 : decode cL_law 1063 = .ok (.iadd, 1) := by decide +kernel
theorem dL_law_1064 : decode cL_law 1064 = .ok (.iaload, 1) := by decide +kernel
theorem dL_law_1065 : decode cL_law 1065 = .ok (.aload_n 0, 1) := by decide +kernel
theorem dL_law_1066 : decode cL_law 1066 = .ok (.iload_n 3, 1) := by decide +kernel
theorem dL_law_1067 : decode cL_law 1067 = .ok (.iconst 2, 1) := by decide +kernel
theorem dL_law_1068 : decode cL_law 1068 = .ok (.iadd, 1) := by decide +kernel
theorem dL_law_1069 : decode cL_law 1069 = .ok (.iaload, 1) := by decide +kernel
theorem dL_law_1070 : decode cL_law 1070 = .ok (.invokevirtual 131, 3) := by decide +kernel
theorem dL_law_1073 : decode cL_law 1073 = .ok (.if_icmp .eq 241, 3) := by decide +kernel
theorem dL_law_1076 : decode cL_law 1076 = .ok (.iconst 0, 1) := by decide +kernel
theorem dL_law_1077 : decode cL_law 1077 = .ok (.ireturn, 1) := by decide +kernel
theorem dL_law_1078 : decode cL_law 1078 = .ok (.aload_n 1, 1) := by decide +kernel
theorem dL_law_1079 : decode cL_law 1079 = .ok (.aload_n 0, 1) := by decide +kernel
theorem dL_law_1080 : decode cL_law 1080 = .ok (.iload_n 3, 1) := by decide +kernel
theorem dL_law_1081 : decode cL_law 1081 = .ok (.iconst 1, 1) := by decide +kernel
theorem dL_law_1082 : decode cL_law 1082 = .ok (.iadd, 1) := by decide +kernel
theorem dL_law_1083 : decode cL_law 1083 = .ok (.iaload, 1) := by decide +kernel
theorem dL_law_1084 : decode cL_law 1084 = .ok (.invokevirtual 132, 3) := by decide +kernel
theorem dL_law_1087 : decode cL_law 1087 = .ok (.aload_n 2, 1) := by decide +kernel
theorem dL_law_1088 : decode cL_law 1088 = .ok (.aload_n 0, 1) := by decide +kernel
theorem dL_law_1089 : decode cL_law 1089 = .ok (.iload_n 3, 1) := by decide +kernel
theorem dL_law_1090 : decode cL_law 1090 = .ok (.iconst 1, 1) := by decide +kernel
theorem dL_law_1091 : decode cL_law 1091 = .ok (.iadd, 1) := by decide +kernel
theorem dL_law_1092 : decode cL_law 1092 = .ok (.iaload, 1) := by decide +kernel
theorem dL_law_1093 : decode cL_law 1093 = .ok (.invokevirtual 135, 3) := by decide +kernel
theorem dL_law_1096 : decode cL_law 1096 = .ok (.if_icmp .eq 218, 3) := by decide +kernel
theorem dL_law_1099 : decode cL_law 1099 = .ok (.iconst 0, 1) := by decide +kernel
theorem dL_law_1100 : decode cL_law 1100 = .ok (.ireturn, 1) := by decide +kernel
theorem dL_law_1101 : decode cL_law 1101 = .ok (.aload_n 1, 1) := by decide +kernel
theorem dL_law_1102 : decode cL_law 1102 = .ok (.aload_n 0, 1) := by decide +kernel
theorem dL_law_1103 : decode cL_law 1103 = .ok (.iload_n 3, 1) := by decide +kernel
theorem dL_law_1104 : decode cL_law 1104 = .ok (.iconst 1, 1) := by decide +kernel
theorem dL_law_1105 : decode cL_law 1105 = .ok (.iadd, 1) := by decide +kernel
theorem dL_law_1106 : decode cL_law 1106 = .ok (.iaload, 1) := by decide +kernel
theorem dL_law_1107 : decode cL_law 1107 = .ok (.aload_n 0, 1) := by decide +kernel
theorem dL_law_1108 : decode cL_law 1108 = .ok (.iload_n 3, 1) := by decide +kernel
theorem dL_law_1109 : decode cL_law 1109 = .ok (.iconst 2, 1) := by decide +kernel
theorem dL_law_1110 : decode cL_law 1110 = .ok (.iadd, 1) := by decide +kernel
theorem dL_law_1111 : decode cL_law 1111 = .ok (.iaload, 1) := by decide +kernel
theorem dL_law_1112 : decode cL_law 1112 = .ok (.aload_n 0, 1) := by decide +kernel
theorem dL_law_1113 : decode cL_law 1113 = .ok (.iload_n 3, 1) := by decide +kernel
theorem dL_law_1114 : decode cL_law 1114 = .ok (.iconst 3, 1) := by decide +kernel
theorem dL_law_1115 : decode cL_law 1115 = .ok (.iadd, 1) := by decide +kernel
theorem dL_law_1116 : decode cL_law 1116 = .ok (.iaload, 1) := by decide +kernel
theorem dL_law_1117 : decode cL_law 1117 = .ok (.invokevirtual 136, 3) := by decide +kernel
theorem dL_law_1120 : decode cL_law 1120 = .ok (.aload_n 2, 1) := by decide +kernel
theorem dL_law_1121 : decode cL_law 1121 = .ok (.aload_n 0, 1) := by decide +kernel
theorem dL_law_1122 : decode cL_law 1122 = .ok (.iload_n 3, 1) := by decide +kernel
theorem dL_law_1123 : decode cL_law 1123 = .ok (.iconst 1, 1) := by decide +kernel
theorem dL_law_1124 : decode cL_law 1124 = .ok (.iadd, 1) := by decide +kernel
theorem dL_law_1125 : decode cL_law 1125 = .ok (.iaload, 1) := by decide +kernel
theorem dL_law_1126 : decode cL_law 1126 = .ok (.aload_n 0, 1) := by decide +kernel
theorem dL_law_1127 : decode cL_law 1127 = .ok (.iload_n 3, 1) := by decide +kernel
theorem dL_law_1128 : decode cL_law 1128 = .ok (.iconst 2, 1) := by decide +kernel
theorem dL_law_1129 : decode cL_law 1129 = .ok (.iadd, 1) := by decide +kernel
theorem dL_law_1130 : decode cL_law 1130 = .ok (.iaload, 1) := by decide +kernel
theorem dL_law_1131 : decode cL_law 1131 = .ok (.aload_n 0, 1) := by decide +kernel
theorem dL_law_1132 : decode cL_law 1132 = .ok (.iload_n 3, 1) := by decide +kernel
theorem dL_law_1133 : decode cL_law 1133 = .ok (.iconst 3, 1) := by decide +kernel
theorem dL_law_1134 : decode cL_law 1134 = .ok (.iadd, 1) := by decide +kernel
theorem dL_law_1135 : decode cL_law 1135 = .ok (.iaload, 1) := by decide +kernel
theorem dL_law_1136 : decode cL_law 1136 = .ok (.invokevirtual 139, 3) := by decide +kernel
theorem dL_law_1139 : decode cL_law 1139 = .ok (.if_icmp .eq 175, 3) := by decide +kernel
theorem dL_law_1142 : decode cL_law 1142 = .ok (.iconst 0, 1) := by decide +kernel
theorem dL_law_1143 : decode cL_law 1143 = .ok (.ireturn, 1) := by decide +kernel
theorem dL_law_1144 : decode cL_law 1144 = .ok (.aload_n 1, 1) := by decide +kernel
theorem dL_law_1145 : decode cL_law 1145 = .ok (.aload_n 0, 1) := by decide +kernel
theorem dL_law_1146 : decode cL_law 1146 = .ok (.iload_n 3, 1) := by decide +kernel
theorem dL_law_1147 : decode cL_law 1147 = .ok (.iconst 1, 1) := by decide +kernel
theorem dL_law_1148 : decode cL_law 1148 = .ok (.iadd, 1) := by decide +kernel
theorem dL_law_1149 : decode cL_law 1149 = .ok (.iaload, 1) := by decide +kernel
theorem dL_law_1150 : decode cL_law 1150 = .ok (.aload_n 0, 1) := by decide +kernel
theorem dL_law_1151 : decode cL_law 1151 = .ok (.iload_n 3, 1) := by decide +kernel
theorem dL_law_1152 : decode cL_law 1152 = .ok (.iconst 2, 1) := by decide +kernel
theorem dL_law_1153 : decode cL_law 1153 = .ok (.iadd, 1) := by decide +kernel
theorem dL_law_1154 : decode cL_law 1154 = .ok (.iaload, 1) := by decide +kernel
theorem dL_law_1155 : decode cL_law 1155 = .ok (.aload_n 0, 1) := by decide +kernel
theorem dL_law_1156 : decode cL_law 1156 = .ok (.iload_n 3, 1) := by decide +kernel
theorem dL_law_1157 : decode cL_law 1157 = .ok (.iconst 3, 1) := by decide +kernel
theorem dL_law_1158 : decode cL_law 1158 = .ok (.iadd, 1) := by decide +kernel
theorem dL_law_1159 : decode cL_law 1159 = .ok (.iaload, 1) := by decide +kernel
theorem dL_law_1160 : decode cL_law 1160 = .ok (.i2l, 1) := by decide +kernel
theorem dL_law_1161 : decode cL_law 1161 = .ok (.bipush 32, 2) := by decide +kernel
theorem dL_law_1163 : decode cL_law 1163 = .ok (.lshl, 1) := by decide +kernel
theorem dL_law_1164 : decode cL_law 1164 = .ok (.aload_n 0, 1) := by decide +kernel
theorem dL_law_1165 : decode cL_law 1165 = .ok (.iload_n 3, 1) := by decide +kernel
theorem dL_law_1166 : decode cL_law 1166 = .ok (.iconst 4, 1) := by decide +kernel
theorem dL_law_1167 : decode cL_law 1167 = .ok (.iadd, 1) := by decide +kernel
theorem dL_law_1168 : decode cL_law 1168 = .ok (.iaload, 1) := by decide +kernel
theorem dL_law_1169 : decode cL_law 1169 = .ok (.i2l, 1) := by decide +kernel
theorem dL_law_1170 : decode cL_law 1170 = .ok (.ldc2_w 140, 3) := by decide +kernel
theorem dL_law_1173 : decode cL_law 1173 = .ok (.land, 1) := by decide +kernel
theorem dL_law_1174 : decode cL_law 1174 = .ok (.lor, 1) := by decide +kernel
theorem dL_law_1175 : decode cL_law 1175 = .ok (.invokevirtual 142, 3) := by decide +kernel
theorem dL_law_1178 : decode cL_law 1178 = .ok (.aload_n 2, 1) := by decide +kernel
theorem dL_law_1179 : decode cL_law 1179 = .ok (.aload_n 0, 1) := by decide +kernel
theorem dL_law_1180 : decode cL_law 1180 = .ok (.iload_n 3, 1) := by decide +kernel
theorem dL_law_1181 : decode cL_law 1181 = .ok (.iconst 1, 1) := by decide +kernel
theorem dL_law_1182 : decode cL_law 1182 = .ok (.iadd, 1) := by decide +kernel
theorem dL_law_1183 : decode cL_law 1183 = .ok (.iaload, 1) := by decide +kernel
theorem dL_law_1184 : decode cL_law 1184 = .ok (.aload_n 0, 1) := by decide +kernel
theorem dL_law_1185 : decode cL_law 1185 = .ok (.iload_n 3, 1) := by decide +kernel
theorem dL_law_1186 : decode cL_law 1186 = .ok (.iconst 2, 1) := by decide +kernel
theorem dL_law_1187 : decode cL_law 1187 = .ok (.iadd, 1) := by decide +kernel
theorem dL_law_1188 : decode cL_law 1188 = .ok (.iaload, 1) := by decide +kernel
theorem dL_law_1189 : decode cL_law 1189 = .ok (.aload_n 0, 1) := by decide +kernel
theorem dL_law_1190 : decode cL_law 1190 = .ok (.iload_n 3, 1) := by decide +kernel
theorem dL_law_1191 : decode cL_law 1191 = .ok (.iconst 3, 1) := by decide +kernel
theorem dL_law_1192 : decode cL_law 1192 = .ok (.iadd, 1) := by decide +kernel
theorem dL_law_1193 : decode cL_law 1193 = .ok (.iaload, 1) := by decide +kernel
theorem dL_law_1194 : decode cL_law 1194 = .ok (.i2l, 1) := by decide +kernel
theorem dL_law_1195 : decode cL_law 1195 = .ok (.bipush 32, 2) := by decide +kernel
theorem dL_law_1197 : decode cL_law 1197 = .ok (.lshl, 1) := by decide +kernel
theorem dL_law_1198 : decode cL_law 1198 = .ok (.aload_n 0, 1) := by decide +kernel
theorem dL_law_1199 : decode cL_law 1199 = .ok (.iload_n 3, 1) := by decide +kernel
theorem dL_law_1200 : decode cL_law 1200 = .ok (.iconst 4, 1) := by decide +kernel
theorem dL_law_1201 : decode cL_law 1201 = .ok (.iadd, 1) := by decide +kernel
theorem dL_law_1202 : decode cL_law 1202 = .ok (.iaload, 1) := by decide +kernel
theorem dL_law_1203 : decode cL_law 1203 = .ok (.i2l, 1) := by decide +kernel
theorem dL_law_1204 : decode cL_law 1204 = .ok (.ldc2_w 140, 3) := by decide +kernel
theorem dL_law_1207 : decode cL_law 1207 = .ok (.land, 1) := by decide +kernel
theorem dL_law_1208 : decode cL_law 1208 = .ok (.lor, 1) := by decide +kernel
theorem dL_law_1209 : decode cL_law 1209 = .ok (.invokevirtual 146, 3) := by decide +kernel
theorem dL_law_1212 : decode cL_law 1212 = .ok (.if_icmp .eq 102, 3) := by decide +kernel
theorem dL_law_1215 : decode cL_law 1215 = .ok (.iconst 0, 1) := by decide +kernel
theorem dL_law_1216 : decode cL_law 1216 = .ok (.ireturn, 1) := by decide +kernel
theorem dL_law_1217 : decode cL_law 1217 = .ok (.aload_n 1, 1) := by decide +kernel
theorem dL_law_1218 : decode cL_law 1218 = .ok (.aload_n 0, 1) := by decide +kernel
theorem dL_law_1219 : decode cL_law 1219 = .ok (.iload_n 3, 1) := by decide +kernel
theorem dL_law_1220 : decode cL_law 1220 = .ok (.iconst 1, 1) := by decide +kernel
theorem dL_law_1221 : decode cL_law 1221 = .ok (.iadd, 1) := by decide +kernel
theorem dL_law_1222 : decode cL_law 1222 = .ok (.iaload, 1) := by decide +kernel
theorem dL_law_1223 : decode cL_law 1223 = .ok (.aload_n 0, 1) := by decide +kernel
theorem dL_law_1224 : decode cL_law 1224 = .ok (.iload_n 3, 1) := by decide +kernel
theorem dL_law_1225 : decode cL_law 1225 = .ok (.iconst 2, 1) := by decide +kernel
theorem dL_law_1226 : decode cL_law 1226 = .ok (.iadd, 1) := by decide +kernel
theorem dL_law_1227 : decode cL_law 1227 = .ok (.iaload, 1) := by decide +kernel
theorem dL_law_1228 : decode cL_law 1228 = .ok (.invokevirtual 147, 3) := by decide +kernel
theorem dL_law_1231 : decode cL_law 1231 = .ok (.aload_n 2, 1) := by decide +kernel
theorem dL_law_1232 : decode cL_law 1232 = .ok (.aload_n 0, 1) := by decide +kernel
theorem dL_law_1233 : decode cL_law 1233 = .ok (.iload_n 3, 1) := by decide +kernel
theorem dL_law_1234 : decode cL_law 1234 = .ok (.iconst 1, 1) := by decide +kernel
theorem dL_law_1235 : decode cL_law 1235 = .ok (.iadd, 1) := by decide +kernel
theorem dL_law_1236 : decode cL_law 1236 = .ok (.iaload, 1) := by decide +kernel
theorem dL_law_1237 : decode cL_law 1237 = .ok (.aload_n 0, 1) := by decide +kernel
theorem dL_law_1238 : decode cL_law 1238 = .ok (.iload_n 3, 1) := by decide +kernel
theorem dL_law_1239 : decode cL_law 1239 = .ok (.iconst 2, 1) := by decide +kernel
theorem dL_law_1240 : decode cL_law 1240 = .ok (.iadd, 1) := by decide +kernel
theorem dL_law_1241 : decode cL_law 1241 = .ok (.iaload, 1) := by decide +kernel
theorem dL_law_1242 : decode cL_law 1242 = .ok (.invokevirtual 150, 3) := by decide +kernel
theorem dL_law_1245 : decode cL_law 1245 = .ok (.lcmp, 1) := by decide +kernel
theorem dL_law_1246 : decode cL_law 1246 = .ok (.ifCond .eq 68, 3) := by decide +kernel
theorem dL_law_1249 : decode cL_law 1249 = .ok (.iconst 0, 1) := by decide +kernel
theorem dL_law_1250 : decode cL_law 1250 = .ok (.ireturn, 1) := by decide +kernel
theorem dL_law_1251 : decode cL_law 1251 = .ok (.aload_n 1, 1) := by decide +kernel
theorem dL_law_1252 : decode cL_law 1252 = .ok (.aload_n 0, 1) := by decide +kernel
theorem dL_law_1253 : decode cL_law 1253 = .ok (.iload_n 3, 1) := by decide +kernel
theorem dL_law_1254 : decode cL_law 1254 = .ok (.iconst 1, 1) := by decide +kernel
theorem dL_law_1255 : decode cL_law 1255 = .ok (.iadd, 1) := by decide +kernel
theorem dL_law_1256 : decode cL_law 1256 = .ok (.iaload, 1) := by decide +kernel
theorem dL_law_1257 : decode cL_law 1257 = .ok (.aload_n 0, 1) := by decide +kernel
theorem dL_law_1258 : decode cL_law 1258 = .ok (.iload_n 3, 1) := by decide +kernel
theorem dL_law_1259 : decode cL_law 1259 = .ok (.iconst 2, 1) := by decide +kernel
theorem dL_law_1260 : decode cL_law 1260 = .ok (.iadd, 1) := by decide +kernel
theorem dL_law_1261 : decode cL_law 1261 = .ok (.iaload, 1) := by decide +kernel
theorem dL_law_1262 : decode cL_law 1262 = .ok (.aload_n 0, 1) := by decide +kernel
theorem dL_law_1263 : decode cL_law 1263 = .ok (.iload_n 3, 1) := by decide +kernel
theorem dL_law_1264 : decode cL_law 1264 = .ok (.iconst 3, 1) := by decide +kernel
theorem dL_law_1265 : decode cL_law 1265 = .ok (.iadd, 1) := by decide +kernel
theorem dL_law_1266 : decode cL_law 1266 = .ok (.iaload, 1) := by decide +kernel
theorem dL_law_1267 : decode cL_law 1267 = .ok (.aload_n 0, 1) := by decide +kernel
theorem dL_law_1268 : decode cL_law 1268 = .ok (.iload_n 3, 1) := by decide +kernel
theorem dL_law_1269 : decode cL_law 1269 = .ok (.iconst 4, 1) := by decide +kernel
theorem dL_law_1270 : decode cL_law 1270 = .ok (.iadd, 1) := by decide +kernel
theorem dL_law_1271 : decode cL_law 1271 = .ok (.iaload, 1) := by decide +kernel
theorem dL_law_1272 : decode cL_law 1272 = .ok (.aload_n 0, 1) := by decide +kernel
theorem dL_law_1273 : decode cL_law 1273 = .ok (.iload_n 3, 1) := by decide +kernel
theorem dL_law_1274 : decode cL_law 1274 = .ok (.iconst 5, 1) := by decide +kernel
theorem dL_law_1275 : decode cL_law 1275 = .ok (.iadd, 1) := by decide +kernel
theorem dL_law_1276 : decode cL_law 1276 = .ok (.iaload, 1) := by decide +kernel
theorem dL_law_1277 : decode cL_law 1277 = .ok (.invokevirtual 151, 3) := by decide +kernel
theorem dL_law_1280 : decode cL_law 1280 = .ok (.aload_n 2, 1) := by decide +kernel
theorem dL_law_1281 : decode cL_law 1281 = .ok (.aload_n 0, 1) := by decide +kernel
theorem dL_law_1282 : decode cL_law 1282 = .ok (.iload_n 3, 1) := by decide +kernel
theorem dL_law_1283 : decode cL_law 1283 = .ok (.iconst 1, 1) := by decide +kernel
theorem dL_law_1284 : decode cL_law 1284 = .ok (.iadd, 1) := by decide +kernel
theorem dL_law_1285 : decode cL_law 1285 = .ok (.iaload, 1) := by decide +kernel
theorem dL_law_1286 : decode cL_law 1286 = .ok (.aload_n 0, 1) := by decide +kernel
theorem dL_law_1287 : decode cL_law 1287 = .ok (.iload_n 3, 1) := by decide +kernel
theorem dL_law_1288 : decode cL_law 1288 = .ok (.iconst 2, 1) := by decide +kernel
theorem dL_law_1289 : decode cL_law 1289 = .ok (.iadd, 1) := by decide +kernel
theorem dL_law_1290 : decode cL_law 1290 = .ok (.iaload, 1) := by decide +kernel
theorem dL_law_1291 : decode cL_law 1291 = .ok (.aload_n 0, 1) := by decide +kernel
theorem dL_law_1292 : decode cL_law 1292 = .ok (.iload_n 3, 1) := by decide +kernel
theorem dL_law_1293 : decode cL_law 1293 = .ok (.iconst 3, 1) := by decide +kernel
theorem dL_law_1294 : decode cL_law 1294 = .ok (.iadd, 1) := by decide +kernel
theorem dL_law_1295 : decode cL_law 1295 = .ok (.iaload, 1) := by decide +kernel
theorem dL_law_1296 : decode cL_law 1296 = .ok (.aload_n 0, 1) := by decide +kernel
theorem dL_law_1297 : decode cL_law 1297 = .ok (.iload_n 3, 1) := by decide +kernel
theorem dL_law_1298 : decode cL_law 1298 = .ok (.iconst 4, 1) := by decide +kernel
theorem dL_law_1299 : decode cL_law 1299 = .ok (.iadd, 1) := by decide +kernel
theorem dL_law_1300 : decode cL_law 1300 = .ok (.iaload, 1) := by decide +kernel
theorem dL_law_1301 : decode cL_law 1301 = .ok (.aload_n 0, 1) := by decide +kernel
theorem dL_law_1302 : decode cL_law 1302 = .ok (.iload_n 3, 1) := by decide +kernel
theorem dL_law_1303 : decode cL_law 1303 = .ok (.iconst 5, 1) := by decide +kernel
theorem dL_law_1304 : decode cL_law 1304 = .ok (.iadd, 1) := by decide +kernel
theorem dL_law_1305 : decode cL_law 1305 = .ok (.iaload, 1) := by decide +kernel
theorem dL_law_1306 : decode cL_law 1306 = .ok (.invokevirtual 155, 3) := by decide +kernel
theorem dL_law_1309 : decode cL_law 1309 = .ok (.if_icmp .eq 5, 3) := by decide +kernel
theorem dL_law_1312 : decode cL_law 1312 = .ok (.iconst 0, 1) := by decide +kernel
theorem dL_law_1313 : decode cL_law 1313 = .ok (.ireturn, 1) := by decide +kernel
theorem dL_law_1314 : decode cL_law 1314 = .ok (.iinc 3 6, 3) := by decide +kernel
theorem dL_law_1317 : decode cL_law 1317 = .ok (.goto (-1299), 3) := by decide +kernel
theorem dL_law_1320 : decode cL_law 1320 = .ok (.iconst 1, 1) := by decide +kernel
theorem dL_law_1321 : decode cL_law 1321 = .ok (.ireturn, 1) := by decide +kernel
