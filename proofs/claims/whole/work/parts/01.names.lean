-- ===== PART A: goes FIRST, ahead of the names: the tables' words, and 'selects' of the private methods out of them =====
/-- a private method of a class that the tables say can be made, by its rows of tables_1 -/
def lw_okq (q : MethodName × Nat) : Prop := (q.1.cls ≠ "java/lang/invoke/MethodHandle" ∧ q.1.cls ≠ "java/lang/invoke/VarHandle") ∧ Cond.instantiable q.1.cls q.2 ∈ tables_1 ∧ Cond.privateMethod q.1 ∈ tables_1 ∧ Cond.instanceMethod q.1 ∈ tables_1
theorem lw_p0 : lw_okq (⟨"HangsAtLowWater", "refused", "(I)I"⟩, 14) := ⟨⟨by decide +kernel, by decide +kernel⟩, List.mem_of_getElem? (i := 20) (by decide +kernel), List.mem_of_getElem? (i := 287) (by decide +kernel), List.mem_of_getElem? (i := 288) (by decide +kernel)⟩
theorem lw_p1 : lw_okq (⟨"HangsAtLowWater$Letters", "letterAt", "(I)I"⟩, 2) := ⟨⟨by decide +kernel, by decide +kernel⟩, List.mem_of_getElem? (i := 87) (by decide +kernel), List.mem_of_getElem? (i := 303) (by decide +kernel), List.mem_of_getElem? (i := 304) (by decide +kernel)⟩
theorem lw_p2 : lw_okq (⟨"HangsAtLowWater", "takeStatements", "()I"⟩, 14) := ⟨⟨by decide +kernel, by decide +kernel⟩, List.mem_of_getElem? (i := 20) (by decide +kernel), List.mem_of_getElem? (i := 371) (by decide +kernel), List.mem_of_getElem? (i := 372) (by decide +kernel)⟩
theorem lw_p3 : lw_okq (⟨"HangsAtLowWater$Letters", "tellTide", "(ILHangsAtLowWater$Harbour;)Z"⟩, 2) := ⟨⟨by decide +kernel, by decide +kernel⟩, List.mem_of_getElem? (i := 87) (by decide +kernel), List.mem_of_getElem? (i := 392) (by decide +kernel), List.mem_of_getElem? (i := 393) (by decide +kernel)⟩
theorem lw_p4 : lw_okq (⟨"HangsAtLowWater$Letters", "numberAt", "(II)I"⟩, 2) := ⟨⟨by decide +kernel, by decide +kernel⟩, List.mem_of_getElem? (i := 87) (by decide +kernel), List.mem_of_getElem? (i := 396) (by decide +kernel), List.mem_of_getElem? (i := 397) (by decide +kernel)⟩
theorem lw_p5 : lw_okq (⟨"HangsAtLowWater$Letters", "tellWind", "(ILHangsAtLowWater$Harbour;)Z"⟩, 2) := ⟨⟨by decide +kernel, by decide +kernel⟩, List.mem_of_getElem? (i := 87) (by decide +kernel), List.mem_of_getElem? (i := 410) (by decide +kernel), List.mem_of_getElem? (i := 411) (by decide +kernel)⟩
theorem lw_p6 : lw_okq (⟨"HangsAtLowWater$Letters", "tellRing", "(ILHangsAtLowWater$Harbour;)Z"⟩, 2) := ⟨⟨by decide +kernel, by decide +kernel⟩, List.mem_of_getElem? (i := 87) (by decide +kernel), List.mem_of_getElem? (i := 418) (by decide +kernel), List.mem_of_getElem? (i := 419) (by decide +kernel)⟩
theorem lw_p7 : lw_okq (⟨"HangsAtLowWater$Letters", "tellBoat", "(ILHangsAtLowWater$Harbour;)Z"⟩, 2) := ⟨⟨by decide +kernel, by decide +kernel⟩, List.mem_of_getElem? (i := 87) (by decide +kernel), List.mem_of_getElem? (i := 426) (by decide +kernel), List.mem_of_getElem? (i := 427) (by decide +kernel)⟩
theorem lw_p8 : lw_okq (⟨"HangsAtLowWater$Letters", "tellLength", "(ILHangsAtLowWater$Harbour;)Z"⟩, 2) := ⟨⟨by decide +kernel, by decide +kernel⟩, List.mem_of_getElem? (i := 87) (by decide +kernel), List.mem_of_getElem? (i := 438) (by decide +kernel), List.mem_of_getElem? (i := 439) (by decide +kernel)⟩
theorem lw_p9 : lw_okq (⟨"HangsAtLowWater$Letters", "tellEdge", "(ILHangsAtLowWater$Harbour;)Z"⟩, 2) := ⟨⟨by decide +kernel, by decide +kernel⟩, List.mem_of_getElem? (i := 87) (by decide +kernel), List.mem_of_getElem? (i := 446) (by decide +kernel), List.mem_of_getElem? (i := 447) (by decide +kernel)⟩
theorem lw_p10 : lw_okq (⟨"HangsAtLowWater", "refusedFar", "(I)I"⟩, 14) := ⟨⟨by decide +kernel, by decide +kernel⟩, List.mem_of_getElem? (i := 20) (by decide +kernel), List.mem_of_getElem? (i := 475) (by decide +kernel), List.mem_of_getElem? (i := 476) (by decide +kernel)⟩
theorem lw_p11 : lw_okq (⟨"HangsAtLowWater$Mooring", "halfApartSquare", "()I"⟩, 9) := ⟨⟨by decide +kernel, by decide +kernel⟩, List.mem_of_getElem? (i := 132) (by decide +kernel), List.mem_of_getElem? (i := 549) (by decide +kernel), List.mem_of_getElem? (i := 550) (by decide +kernel)⟩
theorem lw_p12 : lw_okq (⟨"HangsAtLowWater$Limits", "leastFrom", "(II)I"⟩, 4) := ⟨⟨by decide +kernel, by decide +kernel⟩, List.mem_of_getElem? (i := 171) (by decide +kernel), List.mem_of_getElem? (i := 627) (by decide +kernel), List.mem_of_getElem? (i := 628) (by decide +kernel)⟩
theorem lw_p13 : lw_okq (⟨"HangsAtLowWater$Limits", "greatestFrom", "(II)I"⟩, 4) := ⟨⟨by decide +kernel, by decide +kernel⟩, List.mem_of_getElem? (i := 171) (by decide +kernel), List.mem_of_getElem? (i := 639) (by decide +kernel), List.mem_of_getElem? (i := 640) (by decide +kernel)⟩
theorem lw_p14 : lw_okq (⟨"HangsAtLowWater", "areTwoBoats", "(II)Z"⟩, 14) := ⟨⟨by decide +kernel, by decide +kernel⟩, List.mem_of_getElem? (i := 20) (by decide +kernel), List.mem_of_getElem? (i := 677) (by decide +kernel), List.mem_of_getElem? (i := 678) (by decide +kernel)⟩
theorem lw_p15 : lw_okq (⟨"HangsAtLowWater$Mooring", "touchesAt", "(ILHangsAtLowWater$Mooring;II)Z"⟩, 9) := ⟨⟨by decide +kernel, by decide +kernel⟩, List.mem_of_getElem? (i := 132) (by decide +kernel), List.mem_of_getElem? (i := 685) (by decide +kernel), List.mem_of_getElem? (i := 686) (by decide +kernel)⟩
def lw_privs_1 : List (MethodName × Nat) := [(⟨"HangsAtLowWater", "refused", "(I)I"⟩, 14), (⟨"HangsAtLowWater$Letters", "letterAt", "(I)I"⟩, 2), (⟨"HangsAtLowWater", "takeStatements", "()I"⟩, 14), (⟨"HangsAtLowWater$Letters", "tellTide", "(ILHangsAtLowWater$Harbour;)Z"⟩, 2), (⟨"HangsAtLowWater$Letters", "numberAt", "(II)I"⟩, 2), (⟨"HangsAtLowWater$Letters", "tellWind", "(ILHangsAtLowWater$Harbour;)Z"⟩, 2), (⟨"HangsAtLowWater$Letters", "tellRing", "(ILHangsAtLowWater$Harbour;)Z"⟩, 2), (⟨"HangsAtLowWater$Letters", "tellBoat", "(ILHangsAtLowWater$Harbour;)Z"⟩, 2), (⟨"HangsAtLowWater$Letters", "tellLength", "(ILHangsAtLowWater$Harbour;)Z"⟩, 2), (⟨"HangsAtLowWater$Letters", "tellEdge", "(ILHangsAtLowWater$Harbour;)Z"⟩, 2), (⟨"HangsAtLowWater", "refusedFar", "(I)I"⟩, 14), (⟨"HangsAtLowWater$Mooring", "halfApartSquare", "()I"⟩, 9), (⟨"HangsAtLowWater$Limits", "leastFrom", "(II)I"⟩, 4), (⟨"HangsAtLowWater$Limits", "greatestFrom", "(II)I"⟩, 4), (⟨"HangsAtLowWater", "areTwoBoats", "(II)Z"⟩, 14), (⟨"HangsAtLowWater$Mooring", "touchesAt", "(ILHangsAtLowWater$Mooring;II)Z"⟩, 9)]
theorem lw_r1 : ∀ q ∈ lw_privs_1, lw_okq q := List.forall_mem_cons.mpr ⟨lw_p0, List.forall_mem_cons.mpr ⟨lw_p1, List.forall_mem_cons.mpr ⟨lw_p2, List.forall_mem_cons.mpr ⟨lw_p3, List.forall_mem_cons.mpr ⟨lw_p4, List.forall_mem_cons.mpr ⟨lw_p5, List.forall_mem_cons.mpr ⟨lw_p6, List.forall_mem_cons.mpr ⟨lw_p7, List.forall_mem_cons.mpr ⟨lw_p8, List.forall_mem_cons.mpr ⟨lw_p9, List.forall_mem_cons.mpr ⟨lw_p10, List.forall_mem_cons.mpr ⟨lw_p11, List.forall_mem_cons.mpr ⟨lw_p12, List.forall_mem_cons.mpr ⟨lw_p13, List.forall_mem_cons.mpr ⟨lw_p14, List.forall_mem_cons.mpr ⟨lw_p15, fun _ h => absurd h List.not_mem_nil⟩⟩⟩⟩⟩⟩⟩⟩⟩⟩⟩⟩⟩⟩⟩⟩
theorem lw_p16 : lw_okq (⟨"HangsAtLowWater", "areCrossed", "(III)Z"⟩, 14) := ⟨⟨by decide +kernel, by decide +kernel⟩, List.mem_of_getElem? (i := 20) (by decide +kernel), List.mem_of_getElem? (i := 697) (by decide +kernel), List.mem_of_getElem? (i := 698) (by decide +kernel)⟩
theorem lw_p17 : lw_okq (⟨"HangsAtLowWater$Choices", "pairOf", "(II)I"⟩, 7) := ⟨⟨by decide +kernel, by decide +kernel⟩, List.mem_of_getElem? (i := 212) (by decide +kernel), List.mem_of_getElem? (i := 716) (by decide +kernel), List.mem_of_getElem? (i := 717) (by decide +kernel)⟩
theorem lw_p18 : lw_okq (⟨"HangsAtLowWater$Choices", "firstSettled", "()I"⟩, 7) := ⟨⟨by decide +kernel, by decide +kernel⟩, List.mem_of_getElem? (i := 212) (by decide +kernel), List.mem_of_getElem? (i := 725) (by decide +kernel), List.mem_of_getElem? (i := 726) (by decide +kernel)⟩
theorem lw_p19 : lw_okq (⟨"HangsAtLowWater$Choices", "isSettled", "(II)Z"⟩, 7) := ⟨⟨by decide +kernel, by decide +kernel⟩, List.mem_of_getElem? (i := 212) (by decide +kernel), List.mem_of_getElem? (i := 729) (by decide +kernel), List.mem_of_getElem? (i := 730) (by decide +kernel)⟩
theorem lw_p20 : lw_okq (⟨"HangsAtLowWater", "orderByNumber", "()V"⟩, 14) := ⟨⟨by decide +kernel, by decide +kernel⟩, List.mem_of_getElem? (i := 20) (by decide +kernel), List.mem_of_getElem? (i := 754) (by decide +kernel), List.mem_of_getElem? (i := 755) (by decide +kernel)⟩
theorem lw_p21 : lw_okq (⟨"HangsAtLowWater", "movesInOrder", "()I"⟩, 14) := ⟨⟨by decide +kernel, by decide +kernel⟩, List.mem_of_getElem? (i := 20) (by decide +kernel), List.mem_of_getElem? (i := 758) (by decide +kernel), List.mem_of_getElem? (i := 759) (by decide +kernel)⟩
theorem lw_p22 : lw_okq (⟨"HangsAtLowWater", "orderLatestInmost", "()V"⟩, 14) := ⟨⟨by decide +kernel, by decide +kernel⟩, List.mem_of_getElem? (i := 20) (by decide +kernel), List.mem_of_getElem? (i := 763) (by decide +kernel), List.mem_of_getElem? (i := 764) (by decide +kernel)⟩
theorem lw_p23 : lw_okq (⟨"HangsAtLowWater", "orderDigits", "()I"⟩, 14) := ⟨⟨by decide +kernel, by decide +kernel⟩, List.mem_of_getElem? (i := 20) (by decide +kernel), List.mem_of_getElem? (i := 767) (by decide +kernel), List.mem_of_getElem? (i := 768) (by decide +kernel)⟩
theorem lw_p24 : lw_okq (⟨"HangsAtLowWater", "isWellAllDay", "()Z"⟩, 14) := ⟨⟨by decide +kernel, by decide +kernel⟩, List.mem_of_getElem? (i := 20) (by decide +kernel), List.mem_of_getElem? (i := 839) (by decide +kernel), List.mem_of_getElem? (i := 840) (by decide +kernel)⟩
theorem lw_p25 : lw_okq (⟨"HangsAtLowWater$Berthing", "leastFor", "(II)I"⟩, 5) := ⟨⟨by decide +kernel, by decide +kernel⟩, List.mem_of_getElem? (i := 190) (by decide +kernel), List.mem_of_getElem? (i := 853) (by decide +kernel), List.mem_of_getElem? (i := 854) (by decide +kernel)⟩
theorem lw_p26 : lw_okq (⟨"HangsAtLowWater$Berthing", "costWith", "(III)I"⟩, 5) := ⟨⟨by decide +kernel, by decide +kernel⟩, List.mem_of_getElem? (i := 190) (by decide +kernel), List.mem_of_getElem? (i := 857) (by decide +kernel), List.mem_of_getElem? (i := 858) (by decide +kernel)⟩
theorem lw_p27 : lw_okq (⟨"HangsAtLowWater$Berthing", "firstBest", "(II)I"⟩, 5) := ⟨⟨by decide +kernel, by decide +kernel⟩, List.mem_of_getElem? (i := 190) (by decide +kernel), List.mem_of_getElem? (i := 870) (by decide +kernel), List.mem_of_getElem? (i := 871) (by decide +kernel)⟩
theorem lw_p28 : lw_okq (⟨"HangsAtLowWater", "wrongOfMarks", "(III)I"⟩, 14) := ⟨⟨by decide +kernel, by decide +kernel⟩, List.mem_of_getElem? (i := 20) (by decide +kernel), List.mem_of_getElem? (i := 883) (by decide +kernel), List.mem_of_getElem? (i := 884) (by decide +kernel)⟩
theorem lw_p29 : lw_okq (⟨"HangsAtLowWater", "leastOnDay", "(I)I"⟩, 14) := ⟨⟨by decide +kernel, by decide +kernel⟩, List.mem_of_getElem? (i := 20) (by decide +kernel), List.mem_of_getElem? (i := 952) (by decide +kernel), List.mem_of_getElem? (i := 953) (by decide +kernel)⟩
theorem lw_p30 : lw_okq (⟨"HangsAtLowWater$Limits", "keepHour", "(III)V"⟩, 4) := ⟨⟨by decide +kernel, by decide +kernel⟩, List.mem_of_getElem? (i := 171) (by decide +kernel), List.mem_of_getElem? (i := 978) (by decide +kernel), List.mem_of_getElem? (i := 979) (by decide +kernel)⟩
theorem lw_p31 : lw_okq (⟨"HangsAtLowWater$Limits", "bestKept", "(I)I"⟩, 4) := ⟨⟨by decide +kernel, by decide +kernel⟩, List.mem_of_getElem? (i := 171) (by decide +kernel), List.mem_of_getElem? (i := 982) (by decide +kernel), List.mem_of_getElem? (i := 983) (by decide +kernel)⟩
def lw_privs_2 : List (MethodName × Nat) := [(⟨"HangsAtLowWater", "areCrossed", "(III)Z"⟩, 14), (⟨"HangsAtLowWater$Choices", "pairOf", "(II)I"⟩, 7), (⟨"HangsAtLowWater$Choices", "firstSettled", "()I"⟩, 7), (⟨"HangsAtLowWater$Choices", "isSettled", "(II)Z"⟩, 7), (⟨"HangsAtLowWater", "orderByNumber", "()V"⟩, 14), (⟨"HangsAtLowWater", "movesInOrder", "()I"⟩, 14), (⟨"HangsAtLowWater", "orderLatestInmost", "()V"⟩, 14), (⟨"HangsAtLowWater", "orderDigits", "()I"⟩, 14), (⟨"HangsAtLowWater", "isWellAllDay", "()Z"⟩, 14), (⟨"HangsAtLowWater$Berthing", "leastFor", "(II)I"⟩, 5), (⟨"HangsAtLowWater$Berthing", "costWith", "(III)I"⟩, 5), (⟨"HangsAtLowWater$Berthing", "firstBest", "(II)I"⟩, 5), (⟨"HangsAtLowWater", "wrongOfMarks", "(III)I"⟩, 14), (⟨"HangsAtLowWater", "leastOnDay", "(I)I"⟩, 14), (⟨"HangsAtLowWater$Limits", "keepHour", "(III)V"⟩, 4), (⟨"HangsAtLowWater$Limits", "bestKept", "(I)I"⟩, 4)]
theorem lw_r2 : ∀ q ∈ lw_privs_2, lw_okq q := List.forall_mem_cons.mpr ⟨lw_p16, List.forall_mem_cons.mpr ⟨lw_p17, List.forall_mem_cons.mpr ⟨lw_p18, List.forall_mem_cons.mpr ⟨lw_p19, List.forall_mem_cons.mpr ⟨lw_p20, List.forall_mem_cons.mpr ⟨lw_p21, List.forall_mem_cons.mpr ⟨lw_p22, List.forall_mem_cons.mpr ⟨lw_p23, List.forall_mem_cons.mpr ⟨lw_p24, List.forall_mem_cons.mpr ⟨lw_p25, List.forall_mem_cons.mpr ⟨lw_p26, List.forall_mem_cons.mpr ⟨lw_p27, List.forall_mem_cons.mpr ⟨lw_p28, List.forall_mem_cons.mpr ⟨lw_p29, List.forall_mem_cons.mpr ⟨lw_p30, List.forall_mem_cons.mpr ⟨lw_p31, fun _ h => absurd h List.not_mem_nil⟩⟩⟩⟩⟩⟩⟩⟩⟩⟩⟩⟩⟩⟩⟩⟩
theorem lw_p32 : lw_okq (⟨"HangsAtLowWater", "lengthsTogether", "()I"⟩, 14) := ⟨⟨by decide +kernel, by decide +kernel⟩, List.mem_of_getElem? (i := 20) (by decide +kernel), List.mem_of_getElem? (i := 998) (by decide +kernel), List.mem_of_getElem? (i := 999) (by decide +kernel)⟩
theorem lw_p33 : lw_okq (⟨"HangsAtLowWater", "boatsHangingNow", "()I"⟩, 14) := ⟨⟨by decide +kernel, by decide +kernel⟩, List.mem_of_getElem? (i := 20) (by decide +kernel), List.mem_of_getElem? (i := 1002) (by decide +kernel), List.mem_of_getElem? (i := 1003) (by decide +kernel)⟩
theorem lw_p34 : lw_okq (⟨"HangsAtLowWaterModel", "no", "(I)I"⟩, 46) := ⟨⟨by decide +kernel, by decide +kernel⟩, List.mem_of_getElem? (i := 1006) (by decide +kernel), List.mem_of_getElem? (i := 1158) (by decide +kernel), List.mem_of_getElem? (i := 1159) (by decide +kernel)⟩
theorem lw_p35 : lw_okq (⟨"HangsAtLowWaterModel", "statement", "()Z"⟩, 46) := ⟨⟨by decide +kernel, by decide +kernel⟩, List.mem_of_getElem? (i := 1006) (by decide +kernel), List.mem_of_getElem? (i := 1166) (by decide +kernel), List.mem_of_getElem? (i := 1167) (by decide +kernel)⟩
theorem lw_p36 : lw_okq (⟨"HangsAtLowWaterModel", "next", "()I"⟩, 46) := ⟨⟨by decide +kernel, by decide +kernel⟩, List.mem_of_getElem? (i := 1006) (by decide +kernel), List.mem_of_getElem? (i := 1170) (by decide +kernel), List.mem_of_getElem? (i := 1171) (by decide +kernel)⟩
theorem lw_p37 : lw_okq (⟨"HangsAtLowWaterModel", "readsAll", "(II)Z"⟩, 46) := ⟨⟨by decide +kernel, by decide +kernel⟩, List.mem_of_getElem? (i := 1006) (by decide +kernel), List.mem_of_getElem? (i := 1174) (by decide +kernel), List.mem_of_getElem? (i := 1175) (by decide +kernel)⟩
theorem lw_p38 : lw_okq (⟨"HangsAtLowWaterModel", "readsDigits", "(II)Z"⟩, 46) := ⟨⟨by decide +kernel, by decide +kernel⟩, List.mem_of_getElem? (i := 1006) (by decide +kernel), List.mem_of_getElem? (i := 1178) (by decide +kernel), List.mem_of_getElem? (i := 1179) (by decide +kernel)⟩
theorem lw_p39 : lw_okq (⟨"HangsAtLowWaterModel", "readsWind", "(I)Z"⟩, 46) := ⟨⟨by decide +kernel, by decide +kernel⟩, List.mem_of_getElem? (i := 1006) (by decide +kernel), List.mem_of_getElem? (i := 1185) (by decide +kernel), List.mem_of_getElem? (i := 1186) (by decide +kernel)⟩
theorem lw_p40 : lw_okq (⟨"HangsAtLowWaterModel", "readsBoat", "(I)Z"⟩, 46) := ⟨⟨by decide +kernel, by decide +kernel⟩, List.mem_of_getElem? (i := 1006) (by decide +kernel), List.mem_of_getElem? (i := 1189) (by decide +kernel), List.mem_of_getElem? (i := 1190) (by decide +kernel)⟩
theorem lw_p41 : lw_okq (⟨"HangsAtLowWaterModel", "passesAll", "(IZ)V"⟩, 46) := ⟨⟨by decide +kernel, by decide +kernel⟩, List.mem_of_getElem? (i := 1006) (by decide +kernel), List.mem_of_getElem? (i := 1193) (by decide +kernel), List.mem_of_getElem? (i := 1194) (by decide +kernel)⟩
theorem lw_p42 : lw_okq (⟨"HangsAtLowWaterModel", "passes", "([I)V"⟩, 46) := ⟨⟨by decide +kernel, by decide +kernel⟩, List.mem_of_getElem? (i := 1006) (by decide +kernel), List.mem_of_getElem? (i := 1197) (by decide +kernel), List.mem_of_getElem? (i := 1198) (by decide +kernel)⟩
theorem lw_p43 : lw_okq (⟨"HangsAtLowWaterModel", "passOne", "(I)I"⟩, 46) := ⟨⟨by decide +kernel, by decide +kernel⟩, List.mem_of_getElem? (i := 1006) (by decide +kernel), List.mem_of_getElem? (i := 1201) (by decide +kernel), List.mem_of_getElem? (i := 1202) (by decide +kernel)⟩
theorem lw_p44 : lw_okq (⟨"HangsAtLowWaterModel", "comes", "(I)Z"⟩, 46) := ⟨⟨by decide +kernel, by decide +kernel⟩, List.mem_of_getElem? (i := 1006) (by decide +kernel), List.mem_of_getElem? (i := 1205) (by decide +kernel), List.mem_of_getElem? (i := 1206) (by decide +kernel)⟩
theorem lw_p45 : lw_okq (⟨"HangsAtLowWaterModel", "comesRing", "(I)Z"⟩, 46) := ⟨⟨by decide +kernel, by decide +kernel⟩, List.mem_of_getElem? (i := 1006) (by decide +kernel), List.mem_of_getElem? (i := 1212) (by decide +kernel), List.mem_of_getElem? (i := 1213) (by decide +kernel)⟩
theorem lw_p46 : lw_okq (⟨"HangsAtLowWaterModel", "comesBoat", "(I)Z"⟩, 46) := ⟨⟨by decide +kernel, by decide +kernel⟩, List.mem_of_getElem? (i := 1006) (by decide +kernel), List.mem_of_getElem? (i := 1216) (by decide +kernel), List.mem_of_getElem? (i := 1217) (by decide +kernel)⟩
theorem lw_p47 : lw_okq (⟨"HangsAtLowWaterModel", "isRing", "(I)Z"⟩, 46) := ⟨⟨by decide +kernel, by decide +kernel⟩, List.mem_of_getElem? (i := 1006) (by decide +kernel), List.mem_of_getElem? (i := 1220) (by decide +kernel), List.mem_of_getElem? (i := 1221) (by decide +kernel)⟩
def lw_privs_3 : List (MethodName × Nat) := [(⟨"HangsAtLowWater", "lengthsTogether", "()I"⟩, 14), (⟨"HangsAtLowWater", "boatsHangingNow", "()I"⟩, 14), (⟨"HangsAtLowWaterModel", "no", "(I)I"⟩, 46), (⟨"HangsAtLowWaterModel", "statement", "()Z"⟩, 46), (⟨"HangsAtLowWaterModel", "next", "()I"⟩, 46), (⟨"HangsAtLowWaterModel", "readsAll", "(II)Z"⟩, 46), (⟨"HangsAtLowWaterModel", "readsDigits", "(II)Z"⟩, 46), (⟨"HangsAtLowWaterModel", "readsWind", "(I)Z"⟩, 46), (⟨"HangsAtLowWaterModel", "readsBoat", "(I)Z"⟩, 46), (⟨"HangsAtLowWaterModel", "passesAll", "(IZ)V"⟩, 46), (⟨"HangsAtLowWaterModel", "passes", "([I)V"⟩, 46), (⟨"HangsAtLowWaterModel", "passOne", "(I)I"⟩, 46), (⟨"HangsAtLowWaterModel", "comes", "(I)Z"⟩, 46), (⟨"HangsAtLowWaterModel", "comesRing", "(I)Z"⟩, 46), (⟨"HangsAtLowWaterModel", "comesBoat", "(I)Z"⟩, 46), (⟨"HangsAtLowWaterModel", "isRing", "(I)Z"⟩, 46)]
theorem lw_r3 : ∀ q ∈ lw_privs_3, lw_okq q := List.forall_mem_cons.mpr ⟨lw_p32, List.forall_mem_cons.mpr ⟨lw_p33, List.forall_mem_cons.mpr ⟨lw_p34, List.forall_mem_cons.mpr ⟨lw_p35, List.forall_mem_cons.mpr ⟨lw_p36, List.forall_mem_cons.mpr ⟨lw_p37, List.forall_mem_cons.mpr ⟨lw_p38, List.forall_mem_cons.mpr ⟨lw_p39, List.forall_mem_cons.mpr ⟨lw_p40, List.forall_mem_cons.mpr ⟨lw_p41, List.forall_mem_cons.mpr ⟨lw_p42, List.forall_mem_cons.mpr ⟨lw_p43, List.forall_mem_cons.mpr ⟨lw_p44, List.forall_mem_cons.mpr ⟨lw_p45, List.forall_mem_cons.mpr ⟨lw_p46, List.forall_mem_cons.mpr ⟨lw_p47, fun _ h => absurd h List.not_mem_nil⟩⟩⟩⟩⟩⟩⟩⟩⟩⟩⟩⟩⟩⟩⟩⟩
theorem lw_p48 : lw_okq (⟨"HangsAtLowWaterModel", "isBoat", "(I)Z"⟩, 46) := ⟨⟨by decide +kernel, by decide +kernel⟩, List.mem_of_getElem? (i := 1006) (by decide +kernel), List.mem_of_getElem? (i := 1224) (by decide +kernel), List.mem_of_getElem? (i := 1225) (by decide +kernel)⟩
theorem lw_p49 : lw_okq (⟨"HangsAtLowWaterModel", "lower", "(I)I"⟩, 46) := ⟨⟨by decide +kernel, by decide +kernel⟩, List.mem_of_getElem? (i := 1006) (by decide +kernel), List.mem_of_getElem? (i := 1244) (by decide +kernel), List.mem_of_getElem? (i := 1245) (by decide +kernel)⟩
theorem lw_p50 : lw_okq (⟨"HangsAtLowWaterModel", "keepsPaid", "(I)V"⟩, 46) := ⟨⟨by decide +kernel, by decide +kernel⟩, List.mem_of_getElem? (i := 1006) (by decide +kernel), List.mem_of_getElem? (i := 1265) (by decide +kernel), List.mem_of_getElem? (i := 1266) (by decide +kernel)⟩
theorem lw_p51 : lw_okq (⟨"HangsAtLowWaterModel", "needsAt", "(II)I"⟩, 46) := ⟨⟨by decide +kernel, by decide +kernel⟩, List.mem_of_getElem? (i := 1006) (by decide +kernel), List.mem_of_getElem? (i := 1289) (by decide +kernel), List.mem_of_getElem? (i := 1290) (by decide +kernel)⟩
theorem lw_p52 : lw_okq (⟨"HangsAtLowWaterModel", "water", "(I)I"⟩, 46) := ⟨⟨by decide +kernel, by decide +kernel⟩, List.mem_of_getElem? (i := 1006) (by decide +kernel), List.mem_of_getElem? (i := 1293) (by decide +kernel), List.mem_of_getElem? (i := 1294) (by decide +kernel)⟩
theorem lw_p53 : lw_okq (⟨"HangsAtLowWaterModel", "outAt", "(II)I"⟩, 46) := ⟨⟨by decide +kernel, by decide +kernel⟩, List.mem_of_getElem? (i := 1006) (by decide +kernel), List.mem_of_getElem? (i := 1301) (by decide +kernel), List.mem_of_getElem? (i := 1302) (by decide +kernel)⟩
theorem lw_p54 : lw_okq (⟨"HangsAtLowWaterModel", "outWith", "(III)I"⟩, 46) := ⟨⟨by decide +kernel, by decide +kernel⟩, List.mem_of_getElem? (i := 1006) (by decide +kernel), List.mem_of_getElem? (i := 1305) (by decide +kernel), List.mem_of_getElem? (i := 1306) (by decide +kernel)⟩
theorem lw_p55 : lw_okq (⟨"HangsAtLowWaterModel", "hangsWith", "(III)Z"⟩, 46) := ⟨⟨by decide +kernel, by decide +kernel⟩, List.mem_of_getElem? (i := 1006) (by decide +kernel), List.mem_of_getElem? (i := 1309) (by decide +kernel), List.mem_of_getElem? (i := 1310) (by decide +kernel)⟩
theorem lw_p56 : lw_okq (⟨"HangsAtLowWaterModel", "middle", "(I)I"⟩, 46) := ⟨⟨by decide +kernel, by decide +kernel⟩, List.mem_of_getElem? (i := 1006) (by decide +kernel), List.mem_of_getElem? (i := 1320) (by decide +kernel), List.mem_of_getElem? (i := 1321) (by decide +kernel)⟩
theorem lw_p57 : lw_okq (⟨"HangsAtLowWaterModel", "isOfTwo", "(I)Z"⟩, 46) := ⟨⟨by decide +kernel, by decide +kernel⟩, List.mem_of_getElem? (i := 1006) (by decide +kernel), List.mem_of_getElem? (i := 1324) (by decide +kernel), List.mem_of_getElem? (i := 1325) (by decide +kernel)⟩
theorem lw_p58 : lw_okq (⟨"HangsAtLowWaterModel", "middleBy", "(II)I"⟩, 46) := ⟨⟨by decide +kernel, by decide +kernel⟩, List.mem_of_getElem? (i := 1006) (by decide +kernel), List.mem_of_getElem? (i := 1328) (by decide +kernel), List.mem_of_getElem? (i := 1329) (by decide +kernel)⟩
theorem lw_p59 : lw_okq (⟨"HangsAtLowWaterModel", "hangHours", "(II)I"⟩, 46) := ⟨⟨by decide +kernel, by decide +kernel⟩, List.mem_of_getElem? (i := 1006) (by decide +kernel), List.mem_of_getElem? (i := 1336) (by decide +kernel), List.mem_of_getElem? (i := 1337) (by decide +kernel)⟩
theorem lw_p60 : lw_okq (⟨"HangsAtLowWaterModel", "farHours", "(II)I"⟩, 46) := ⟨⟨by decide +kernel, by decide +kernel⟩, List.mem_of_getElem? (i := 1006) (by decide +kernel), List.mem_of_getElem? (i := 1340) (by decide +kernel), List.mem_of_getElem? (i := 1341) (by decide +kernel)⟩
theorem lw_p61 : lw_okq (⟨"HangsAtLowWaterModel", "underHours", "()I"⟩, 46) := ⟨⟨by decide +kernel, by decide +kernel⟩, List.mem_of_getElem? (i := 1006) (by decide +kernel), List.mem_of_getElem? (i := 1344) (by decide +kernel), List.mem_of_getElem? (i := 1345) (by decide +kernel)⟩
theorem lw_p62 : lw_okq (⟨"HangsAtLowWaterModel", "wellHours", "(II)I"⟩, 46) := ⟨⟨by decide +kernel, by decide +kernel⟩, List.mem_of_getElem? (i := 1006) (by decide +kernel), List.mem_of_getElem? (i := 1348) (by decide +kernel), List.mem_of_getElem? (i := 1349) (by decide +kernel)⟩
theorem lw_p63 : lw_okq (⟨"HangsAtLowWaterModel", "leastLength", "(I)I"⟩, 46) := ⟨⟨by decide +kernel, by decide +kernel⟩, List.mem_of_getElem? (i := 1006) (by decide +kernel), List.mem_of_getElem? (i := 1356) (by decide +kernel), List.mem_of_getElem? (i := 1357) (by decide +kernel)⟩
def lw_privs_4 : List (MethodName × Nat) := [(⟨"HangsAtLowWaterModel", "isBoat", "(I)Z"⟩, 46), (⟨"HangsAtLowWaterModel", "lower", "(I)I"⟩, 46), (⟨"HangsAtLowWaterModel", "keepsPaid", "(I)V"⟩, 46), (⟨"HangsAtLowWaterModel", "needsAt", "(II)I"⟩, 46), (⟨"HangsAtLowWaterModel", "water", "(I)I"⟩, 46), (⟨"HangsAtLowWaterModel", "outAt", "(II)I"⟩, 46), (⟨"HangsAtLowWaterModel", "outWith", "(III)I"⟩, 46), (⟨"HangsAtLowWaterModel", "hangsWith", "(III)Z"⟩, 46), (⟨"HangsAtLowWaterModel", "middle", "(I)I"⟩, 46), (⟨"HangsAtLowWaterModel", "isOfTwo", "(I)Z"⟩, 46), (⟨"HangsAtLowWaterModel", "middleBy", "(II)I"⟩, 46), (⟨"HangsAtLowWaterModel", "hangHours", "(II)I"⟩, 46), (⟨"HangsAtLowWaterModel", "farHours", "(II)I"⟩, 46), (⟨"HangsAtLowWaterModel", "underHours", "()I"⟩, 46), (⟨"HangsAtLowWaterModel", "wellHours", "(II)I"⟩, 46), (⟨"HangsAtLowWaterModel", "leastLength", "(I)I"⟩, 46)]
theorem lw_r4 : ∀ q ∈ lw_privs_4, lw_okq q := List.forall_mem_cons.mpr ⟨lw_p48, List.forall_mem_cons.mpr ⟨lw_p49, List.forall_mem_cons.mpr ⟨lw_p50, List.forall_mem_cons.mpr ⟨lw_p51, List.forall_mem_cons.mpr ⟨lw_p52, List.forall_mem_cons.mpr ⟨lw_p53, List.forall_mem_cons.mpr ⟨lw_p54, List.forall_mem_cons.mpr ⟨lw_p55, List.forall_mem_cons.mpr ⟨lw_p56, List.forall_mem_cons.mpr ⟨lw_p57, List.forall_mem_cons.mpr ⟨lw_p58, List.forall_mem_cons.mpr ⟨lw_p59, List.forall_mem_cons.mpr ⟨lw_p60, List.forall_mem_cons.mpr ⟨lw_p61, List.forall_mem_cons.mpr ⟨lw_p62, List.forall_mem_cons.mpr ⟨lw_p63, fun _ h => absurd h List.not_mem_nil⟩⟩⟩⟩⟩⟩⟩⟩⟩⟩⟩⟩⟩⟩⟩⟩
theorem lw_p64 : lw_okq (⟨"HangsAtLowWaterModel", "greatestLength", "(I)I"⟩, 46) := ⟨⟨by decide +kernel, by decide +kernel⟩, List.mem_of_getElem? (i := 1006) (by decide +kernel), List.mem_of_getElem? (i := 1360) (by decide +kernel), List.mem_of_getElem? (i := 1361) (by decide +kernel)⟩
theorem lw_p65 : lw_okq (⟨"HangsAtLowWaterModel", "bothLengths", "(I)I"⟩, 46) := ⟨⟨by decide +kernel, by decide +kernel⟩, List.mem_of_getElem? (i := 1006) (by decide +kernel), List.mem_of_getElem? (i := 1364) (by decide +kernel), List.mem_of_getElem? (i := 1365) (by decide +kernel)⟩
theorem lw_p66 : lw_okq (⟨"HangsAtLowWaterModel", "tendedHours", "(I)I"⟩, 46) := ⟨⟨by decide +kernel, by decide +kernel⟩, List.mem_of_getElem? (i := 1006) (by decide +kernel), List.mem_of_getElem? (i := 1372) (by decide +kernel), List.mem_of_getElem? (i := 1373) (by decide +kernel)⟩
theorem lw_p67 : lw_okq (⟨"HangsAtLowWaterModel", "isTended", "(III)Z"⟩, 46) := ⟨⟨by decide +kernel, by decide +kernel⟩, List.mem_of_getElem? (i := 1006) (by decide +kernel), List.mem_of_getElem? (i := 1376) (by decide +kernel), List.mem_of_getElem? (i := 1377) (by decide +kernel)⟩
theorem lw_p68 : lw_okq (⟨"HangsAtLowWaterModel", "areTwo", "(II)Z"⟩, 46) := ⟨⟨by decide +kernel, by decide +kernel⟩, List.mem_of_getElem? (i := 1006) (by decide +kernel), List.mem_of_getElem? (i := 1387) (by decide +kernel), List.mem_of_getElem? (i := 1388) (by decide +kernel)⟩
theorem lw_p69 : lw_okq (⟨"HangsAtLowWaterModel", "touchHours", "(II)I"⟩, 46) := ⟨⟨by decide +kernel, by decide +kernel⟩, List.mem_of_getElem? (i := 1006) (by decide +kernel), List.mem_of_getElem? (i := 1391) (by decide +kernel), List.mem_of_getElem? (i := 1392) (by decide +kernel)⟩
theorem lw_p70 : lw_okq (⟨"HangsAtLowWaterModel", "doTouch", "(III)Z"⟩, 46) := ⟨⟨by decide +kernel, by decide +kernel⟩, List.mem_of_getElem? (i := 1006) (by decide +kernel), List.mem_of_getElem? (i := 1395) (by decide +kernel), List.mem_of_getElem? (i := 1396) (by decide +kernel)⟩
theorem lw_p71 : lw_okq (⟨"HangsAtLowWaterModel", "isRowOfHours", "()Z"⟩, 46) := ⟨⟨by decide +kernel, by decide +kernel⟩, List.mem_of_getElem? (i := 1006) (by decide +kernel), List.mem_of_getElem? (i := 1411) (by decide +kernel), List.mem_of_getElem? (i := 1412) (by decide +kernel)⟩
theorem lw_p72 : lw_okq (⟨"HangsAtLowWaterModel", "findOrder", "()I"⟩, 46) := ⟨⟨by decide +kernel, by decide +kernel⟩, List.mem_of_getElem? (i := 1006) (by decide +kernel), List.mem_of_getElem? (i := 1415) (by decide +kernel), List.mem_of_getElem? (i := 1416) (by decide +kernel)⟩
theorem lw_p73 : lw_okq (⟨"HangsAtLowWaterModel", "laysOrder", "(I)Z"⟩, 46) := ⟨⟨by decide +kernel, by decide +kernel⟩, List.mem_of_getElem? (i := 1006) (by decide +kernel), List.mem_of_getElem? (i := 1419) (by decide +kernel), List.mem_of_getElem? (i := 1420) (by decide +kernel)⟩
theorem lw_p74 : lw_okq (⟨"HangsAtLowWaterModel", "movesBy", "()I"⟩, 46) := ⟨⟨by decide +kernel, by decide +kernel⟩, List.mem_of_getElem? (i := 1006) (by decide +kernel), List.mem_of_getElem? (i := 1423) (by decide +kernel), List.mem_of_getElem? (i := 1424) (by decide +kernel)⟩
theorem lw_p75 : lw_okq (⟨"HangsAtLowWaterModel", "findWellAt", "()V"⟩, 46) := ⟨⟨by decide +kernel, by decide +kernel⟩, List.mem_of_getElem? (i := 1006) (by decide +kernel), List.mem_of_getElem? (i := 1439) (by decide +kernel), List.mem_of_getElem? (i := 1440) (by decide +kernel)⟩
theorem lw_p76 : lw_okq (⟨"HangsAtLowWaterModel", "wellBy", "(I)I"⟩, 46) := ⟨⟨by decide +kernel, by decide +kernel⟩, List.mem_of_getElem? (i := 1006) (by decide +kernel), List.mem_of_getElem? (i := 1443) (by decide +kernel), List.mem_of_getElem? (i := 1444) (by decide +kernel)⟩
theorem lw_p77 : lw_okq (⟨"HangsAtLowWaterModel", "leastOr", "(I)I"⟩, 46) := ⟨⟨by decide +kernel, by decide +kernel⟩, List.mem_of_getElem? (i := 1006) (by decide +kernel), List.mem_of_getElem? (i := 1451) (by decide +kernel), List.mem_of_getElem? (i := 1452) (by decide +kernel)⟩
theorem lw_p78 : lw_okq (⟨"HangsAtLowWaterModel", "tideOn", "(II)I"⟩, 46) := ⟨⟨by decide +kernel, by decide +kernel⟩, List.mem_of_getElem? (i := 1006) (by decide +kernel), List.mem_of_getElem? (i := 1471) (by decide +kernel), List.mem_of_getElem? (i := 1472) (by decide +kernel)⟩
theorem lw_p79 : lw_okq (⟨"HangsAtLowWaterModel", "hangDays", "(II)I"⟩, 46) := ⟨⟨by decide +kernel, by decide +kernel⟩, List.mem_of_getElem? (i := 1006) (by decide +kernel), List.mem_of_getElem? (i := 1479) (by decide +kernel), List.mem_of_getElem? (i := 1480) (by decide +kernel)⟩
def lw_privs_5 : List (MethodName × Nat) := [(⟨"HangsAtLowWaterModel", "greatestLength", "(I)I"⟩, 46), (⟨"HangsAtLowWaterModel", "bothLengths", "(I)I"⟩, 46), (⟨"HangsAtLowWaterModel", "tendedHours", "(I)I"⟩, 46), (⟨"HangsAtLowWaterModel", "isTended", "(III)Z"⟩, 46), (⟨"HangsAtLowWaterModel", "areTwo", "(II)Z"⟩, 46), (⟨"HangsAtLowWaterModel", "touchHours", "(II)I"⟩, 46), (⟨"HangsAtLowWaterModel", "doTouch", "(III)Z"⟩, 46), (⟨"HangsAtLowWaterModel", "isRowOfHours", "()Z"⟩, 46), (⟨"HangsAtLowWaterModel", "findOrder", "()I"⟩, 46), (⟨"HangsAtLowWaterModel", "laysOrder", "(I)Z"⟩, 46), (⟨"HangsAtLowWaterModel", "movesBy", "()I"⟩, 46), (⟨"HangsAtLowWaterModel", "findWellAt", "()V"⟩, 46), (⟨"HangsAtLowWaterModel", "wellBy", "(I)I"⟩, 46), (⟨"HangsAtLowWaterModel", "leastOr", "(I)I"⟩, 46), (⟨"HangsAtLowWaterModel", "tideOn", "(II)I"⟩, 46), (⟨"HangsAtLowWaterModel", "hangDays", "(II)I"⟩, 46)]
theorem lw_r5 : ∀ q ∈ lw_privs_5, lw_okq q := List.forall_mem_cons.mpr ⟨lw_p64, List.forall_mem_cons.mpr ⟨lw_p65, List.forall_mem_cons.mpr ⟨lw_p66, List.forall_mem_cons.mpr ⟨lw_p67, List.forall_mem_cons.mpr ⟨lw_p68, List.forall_mem_cons.mpr ⟨lw_p69, List.forall_mem_cons.mpr ⟨lw_p70, List.forall_mem_cons.mpr ⟨lw_p71, List.forall_mem_cons.mpr ⟨lw_p72, List.forall_mem_cons.mpr ⟨lw_p73, List.forall_mem_cons.mpr ⟨lw_p74, List.forall_mem_cons.mpr ⟨lw_p75, List.forall_mem_cons.mpr ⟨lw_p76, List.forall_mem_cons.mpr ⟨lw_p77, List.forall_mem_cons.mpr ⟨lw_p78, List.forall_mem_cons.mpr ⟨lw_p79, fun _ h => absurd h List.not_mem_nil⟩⟩⟩⟩⟩⟩⟩⟩⟩⟩⟩⟩⟩⟩⟩⟩
theorem lw_p80 : lw_okq (⟨"HangsAtLowWaterModel", "laysDay", "(I)V"⟩, 46) := ⟨⟨by decide +kernel, by decide +kernel⟩, List.mem_of_getElem? (i := 1006) (by decide +kernel), List.mem_of_getElem? (i := 1483) (by decide +kernel), List.mem_of_getElem? (i := 1484) (by decide +kernel)⟩
theorem lw_p81 : lw_okq (⟨"HangsAtLowWaterModel", "watchBy", "(II)I"⟩, 46) := ⟨⟨by decide +kernel, by decide +kernel⟩, List.mem_of_getElem? (i := 1006) (by decide +kernel), List.mem_of_getElem? (i := 1494) (by decide +kernel), List.mem_of_getElem? (i := 1495) (by decide +kernel)⟩
theorem lw_p82 : lw_okq (⟨"HangsAtLowWaterModel", "leastGood", "(III)I"⟩, 46) := ⟨⟨by decide +kernel, by decide +kernel⟩, List.mem_of_getElem? (i := 1006) (by decide +kernel), List.mem_of_getElem? (i := 1498) (by decide +kernel), List.mem_of_getElem? (i := 1499) (by decide +kernel)⟩
theorem lw_p83 : lw_okq (⟨"HangsAtLowWaterModel", "isGood", "(III)Z"⟩, 46) := ⟨⟨by decide +kernel, by decide +kernel⟩, List.mem_of_getElem? (i := 1006) (by decide +kernel), List.mem_of_getElem? (i := 1502) (by decide +kernel), List.mem_of_getElem? (i := 1503) (by decide +kernel)⟩
theorem lw_p84 : lw_okq (⟨"HangsAtLowWaterModel", "findGoodMost", "(I)V"⟩, 46) := ⟨⟨by decide +kernel, by decide +kernel⟩, List.mem_of_getElem? (i := 1006) (by decide +kernel), List.mem_of_getElem? (i := 1514) (by decide +kernel), List.mem_of_getElem? (i := 1515) (by decide +kernel)⟩
theorem lw_p85 : lw_okq (⟨"HangsAtLowWaterModel", "mostTill", "(II)I"⟩, 46) := ⟨⟨by decide +kernel, by decide +kernel⟩, List.mem_of_getElem? (i := 1006) (by decide +kernel), List.mem_of_getElem? (i := 1518) (by decide +kernel), List.mem_of_getElem? (i := 1519) (by decide +kernel)⟩
theorem lw_p86 : lw_okq (⟨"HangsAtLowWaterModel", "isRamp", "(I)Z"⟩, 46) := ⟨⟨by decide +kernel, by decide +kernel⟩, List.mem_of_getElem? (i := 1006) (by decide +kernel), List.mem_of_getElem? (i := 1530) (by decide +kernel), List.mem_of_getElem? (i := 1531) (by decide +kernel)⟩
theorem lw_p87 : lw_okq (⟨"HangsAtLowWaterModel", "slopeBy", "(III)I"⟩, 46) := ⟨⟨by decide +kernel, by decide +kernel⟩, List.mem_of_getElem? (i := 1006) (by decide +kernel), List.mem_of_getElem? (i := 1534) (by decide +kernel), List.mem_of_getElem? (i := 1535) (by decide +kernel)⟩
theorem lw_p88 : lw_okq (⟨"HangsAtLowWaterModel", "openHours", "(III)I"⟩, 46) := ⟨⟨by decide +kernel, by decide +kernel⟩, List.mem_of_getElem? (i := 1006) (by decide +kernel), List.mem_of_getElem? (i := 1542) (by decide +kernel), List.mem_of_getElem? (i := 1543) (by decide +kernel)⟩
theorem lw_p89 : lw_okq (⟨"HangsAtLowWaterModel", "waitsAt", "(II)I"⟩, 46) := ⟨⟨by decide +kernel, by decide +kernel⟩, List.mem_of_getElem? (i := 1006) (by decide +kernel), List.mem_of_getElem? (i := 1557) (by decide +kernel), List.mem_of_getElem? (i := 1558) (by decide +kernel)⟩
theorem lw_p90 : lw_okq (⟨"HangsAtLowWaterModel", "findLeastAt", "()V"⟩, 46) := ⟨⟨by decide +kernel, by decide +kernel⟩, List.mem_of_getElem? (i := 1006) (by decide +kernel), List.mem_of_getElem? (i := 1569) (by decide +kernel), List.mem_of_getElem? (i := 1570) (by decide +kernel)⟩
theorem lw_p91 : lw_okq (⟨"HangsAtLowWaterModel", "lengthsBy", "(I)I"⟩, 46) := ⟨⟨by decide +kernel, by decide +kernel⟩, List.mem_of_getElem? (i := 1006) (by decide +kernel), List.mem_of_getElem? (i := 1573) (by decide +kernel), List.mem_of_getElem? (i := 1574) (by decide +kernel)⟩
theorem lw_p92 : lw_okq (⟨"HangsAtLowWaterModel", "worthTo", "(II)I"⟩, 46) := ⟨⟨by decide +kernel, by decide +kernel⟩, List.mem_of_getElem? (i := 1006) (by decide +kernel), List.mem_of_getElem? (i := 1592) (by decide +kernel), List.mem_of_getElem? (i := 1593) (by decide +kernel)⟩
theorem lw_p93 : lw_okq (⟨"HangsAtLowWaterModel", "rests", "(I)Z"⟩, 46) := ⟨⟨by decide +kernel, by decide +kernel⟩, List.mem_of_getElem? (i := 1006) (by decide +kernel), List.mem_of_getElem? (i := 1596) (by decide +kernel), List.mem_of_getElem? (i := 1597) (by decide +kernel)⟩
theorem lw_p94 : lw_okq (⟨"HangsAtLowWaterModel", "hangNow", "()I"⟩, 46) := ⟨⟨by decide +kernel, by decide +kernel⟩, List.mem_of_getElem? (i := 1006) (by decide +kernel), List.mem_of_getElem? (i := 1623) (by decide +kernel), List.mem_of_getElem? (i := 1624) (by decide +kernel)⟩
def lw_privs_6 : List (MethodName × Nat) := [(⟨"HangsAtLowWaterModel", "laysDay", "(I)V"⟩, 46), (⟨"HangsAtLowWaterModel", "watchBy", "(II)I"⟩, 46), (⟨"HangsAtLowWaterModel", "leastGood", "(III)I"⟩, 46), (⟨"HangsAtLowWaterModel", "isGood", "(III)Z"⟩, 46), (⟨"HangsAtLowWaterModel", "findGoodMost", "(I)V"⟩, 46), (⟨"HangsAtLowWaterModel", "mostTill", "(II)I"⟩, 46), (⟨"HangsAtLowWaterModel", "isRamp", "(I)Z"⟩, 46), (⟨"HangsAtLowWaterModel", "slopeBy", "(III)I"⟩, 46), (⟨"HangsAtLowWaterModel", "openHours", "(III)I"⟩, 46), (⟨"HangsAtLowWaterModel", "waitsAt", "(II)I"⟩, 46), (⟨"HangsAtLowWaterModel", "findLeastAt", "()V"⟩, 46), (⟨"HangsAtLowWaterModel", "lengthsBy", "(I)I"⟩, 46), (⟨"HangsAtLowWaterModel", "worthTo", "(II)I"⟩, 46), (⟨"HangsAtLowWaterModel", "rests", "(I)Z"⟩, 46), (⟨"HangsAtLowWaterModel", "hangNow", "()I"⟩, 46)]
theorem lw_r6 : ∀ q ∈ lw_privs_6, lw_okq q := List.forall_mem_cons.mpr ⟨lw_p80, List.forall_mem_cons.mpr ⟨lw_p81, List.forall_mem_cons.mpr ⟨lw_p82, List.forall_mem_cons.mpr ⟨lw_p83, List.forall_mem_cons.mpr ⟨lw_p84, List.forall_mem_cons.mpr ⟨lw_p85, List.forall_mem_cons.mpr ⟨lw_p86, List.forall_mem_cons.mpr ⟨lw_p87, List.forall_mem_cons.mpr ⟨lw_p88, List.forall_mem_cons.mpr ⟨lw_p89, List.forall_mem_cons.mpr ⟨lw_p90, List.forall_mem_cons.mpr ⟨lw_p91, List.forall_mem_cons.mpr ⟨lw_p92, List.forall_mem_cons.mpr ⟨lw_p93, List.forall_mem_cons.mpr ⟨lw_p94, fun _ h => absurd h List.not_mem_nil⟩⟩⟩⟩⟩⟩⟩⟩⟩⟩⟩⟩⟩⟩⟩
def lw_privs : List (MethodName × Nat) := lw_privs_1 ++ (lw_privs_2 ++ (lw_privs_3 ++ (lw_privs_4 ++ (lw_privs_5 ++ (lw_privs_6)))))
def lw_tbl : List Cond := k2_sels lw_privs ++ tables_1
theorem lw_privs_ok : ∀ q ∈ lw_privs, lw_okq q := by
  show ∀ q ∈ lw_privs_1 ++ (lw_privs_2 ++ (lw_privs_3 ++ (lw_privs_4 ++ (lw_privs_5 ++ (lw_privs_6))))), lw_okq q
  exact List.forall_mem_append.mpr ⟨lw_r1, List.forall_mem_append.mpr ⟨lw_r2, List.forall_mem_append.mpr ⟨lw_r3, List.forall_mem_append.mpr ⟨lw_r4, List.forall_mem_append.mpr ⟨lw_r5, lw_r6⟩⟩⟩⟩⟩
def RX0 : String := "HangsAtLowWater$Berthing"
def TX0 : u_T := fun k => match k with
  | 0 => ("HangsAtLowWater$Berthing", "cost", "[I", true)
  | 1 => ("HangsAtLowWater$Berthing", "best", "[I", true)
  | 2 => ("HangsAtLowWater$Berthing", "boats", "I", false)
  | 3 => ("HangsAtLowWater$Berthing", "rings", "I", false)
  | _ => ("HangsAtLowWater$Berthing", "costOfNone", "I", false)
def tyX0 : Nat → FieldType := fun k => match k with
  | 0 => .array .int
  | 1 => .array .int
  | 2 => .int
  | 3 => .int
  | _ => .int
abbrev wsX00 : List Cond := u_ws RX0 TX0 5
theorem nmX0 : ∀ a, a < 5 → ∀ b, b < 5 → a ≠ b → (TX0 a).2.1 ≠ (TX0 b).2.1 := by decide +kernel
theorem tyX0_ok : ∀ k, k < 5 → parseFieldDescriptor (TX0 k).2.2.1 = some (tyX0 k) := by decide +kernel
abbrev cX0_init : ByteArray := prog_2_method_1_code
def yX0_init : MethodName := ⟨RX0, "<init>", "()V"⟩
abbrev cX0_setCost : ByteArray := prog_2_method_2_code
def yX0_setCost : MethodName := ⟨RX0, "setCost", "(III)V"⟩
abbrev cX0_solve : ByteArray := prog_2_method_3_code
def yX0_solve : MethodName := ⟨RX0, "solve", "(III)V"⟩
abbrev cX0_leastFor : ByteArray := prog_2_method_4_code
def yX0_leastFor : MethodName := ⟨RX0, "leastFor", "(II)I"⟩
abbrev cX0_costWith : ByteArray := prog_2_method_5_code
def yX0_costWith : MethodName := ⟨RX0, "costWith", "(III)I"⟩
abbrev cX0_leastCost : ByteArray := prog_2_method_6_code
def yX0_leastCost : MethodName := ⟨RX0, "leastCost", "()I"⟩
abbrev cX0_ringDigits : ByteArray := prog_2_method_7_code
def yX0_ringDigits : MethodName := ⟨RX0, "ringDigits", "()I"⟩
abbrev cX0_firstBest : ByteArray := prog_2_method_8_code
def yX0_firstBest : MethodName := ⟨RX0, "firstBest", "(II)I"⟩
def RX1 : String := "HangsAtLowWater$Choices"
def TX1 : u_T := fun k => match k with
  | 0 => ("HangsAtLowWater$Choices", "worth", "[I", true)
  | 1 => ("HangsAtLowWater$Choices", "otherWorth", "[I", true)
  | 2 => ("HangsAtLowWater$Choices", "least", "I", false)
  | 3 => ("HangsAtLowWater$Choices", "greatest", "I", false)
  | 4 => ("HangsAtLowWater$Choices", "otherLeast", "I", false)
  | 5 => ("HangsAtLowWater$Choices", "otherGreatest", "I", false)
  | _ => ("HangsAtLowWater$Choices", "settled", "I", false)
def tyX1 : Nat → FieldType := fun k => match k with
  | 0 => .array .int
  | 1 => .array .int
  | 2 => .int
  | 3 => .int
  | 4 => .int
  | 5 => .int
  | _ => .int
abbrev wsX10 : List Cond := u_ws RX1 TX1 7
theorem nmX1 : ∀ a, a < 7 → ∀ b, b < 7 → a ≠ b → (TX1 a).2.1 ≠ (TX1 b).2.1 := by decide +kernel
theorem tyX1_ok : ∀ k, k < 7 → parseFieldDescriptor (TX1 k).2.2.1 = some (tyX1 k) := by decide +kernel
abbrev cX1_init : ByteArray := prog_3_method_1_code
def yX1_init : MethodName := ⟨RX1, "<init>", "()V"⟩
abbrev cX1_weigh : ByteArray := prog_3_method_2_code
def yX1_weigh : MethodName := ⟨RX1, "weigh", "(LHangsAtLowWater$Mooring;LHangsAtLowWater$Mooring;[I)V"⟩
abbrev cX1_worthAlone : ByteArray := prog_3_method_3_code
def yX1_worthAlone : MethodName := ⟨RX1, "worthAlone", "(LHangsAtLowWater$Mooring;I[I)I"⟩
abbrev cX1_pairOf : ByteArray := prog_3_method_4_code
def yX1_pairOf : MethodName := ⟨RX1, "pairOf", "(II)I"⟩
abbrev cX1_firstSettled : ByteArray := prog_3_method_5_code
def yX1_firstSettled : MethodName := ⟨RX1, "firstSettled", "()I"⟩
abbrev cX1_isSettled : ByteArray := prog_3_method_6_code
def yX1_isSettled : MethodName := ⟨RX1, "isSettled", "(II)Z"⟩
abbrev cX1_firstLength : ByteArray := prog_3_method_7_code
def yX1_firstLength : MethodName := ⟨RX1, "firstLength", "()I"⟩
abbrev cX1_otherLength : ByteArray := prog_3_method_8_code
def yX1_otherLength : MethodName := ⟨RX1, "otherLength", "()I"⟩
def RX2 : String := "HangsAtLowWater$Harbour"
def TX2 : u_T := fun k => match k with
  | 0 => ("HangsAtLowWater$Harbour", "tides", "[I", true)
  | 1 => ("HangsAtLowWater$Harbour", "winds", "[I", true)
  | 2 => ("HangsAtLowWater$Harbour", "ringCells", "[I", true)
  | 3 => ("HangsAtLowWater$Harbour", "boatCells", "[I", true)
  | 4 => ("HangsAtLowWater$Harbour", "rampCells", "[I", true)
  | 5 => ("HangsAtLowWater$Harbour", "rings", "I", false)
  | 6 => ("HangsAtLowWater$Harbour", "boats", "I", false)
  | 7 => ("HangsAtLowWater$Harbour", "ramps", "I", false)
  | 8 => ("HangsAtLowWater$Harbour", "edge", "I", false)
  | 9 => ("HangsAtLowWater$Harbour", "bow", "I", false)
  | 10 => ("HangsAtLowWater$Harbour", "hour", "I", false)
  | _ => ("HangsAtLowWater$Harbour", "spring", "I", false)
def tyX2 : Nat → FieldType := fun k => match k with
  | 0 => .array .int
  | 1 => .array .int
  | 2 => .array .int
  | 3 => .array .int
  | 4 => .array .int
  | 5 => .int
  | 6 => .int
  | 7 => .int
  | 8 => .int
  | 9 => .int
  | 10 => .int
  | _ => .int
abbrev wsX20 : List Cond := u_ws RX2 TX2 12
theorem nmX2 : ∀ a, a < 12 → ∀ b, b < 12 → a ≠ b → (TX2 a).2.1 ≠ (TX2 b).2.1 := by decide +kernel
theorem tyX2_ok : ∀ k, k < 12 → parseFieldDescriptor (TX2 k).2.2.1 = some (tyX2 k) := by decide +kernel
abbrev cX2_init : ByteArray := prog_4_method_1_code
def yX2_init : MethodName := ⟨RX2, "<init>", "()V"⟩
abbrev cX2_copyFrom : ByteArray := prog_4_method_2_code
def yX2_copyFrom : MethodName := ⟨RX2, "copyFrom", "(LHangsAtLowWater$Harbour;)V"⟩
abbrev cX2_copyCells : ByteArray := prog_4_method_3_code
def yX2_copyCells : MethodName := ⟨RX2, "copyCells", "([I[I)V"⟩
abbrev cX2_cellAt : ByteArray := prog_4_method_4_code
def yX2_cellAt : MethodName := ⟨RX2, "cellAt", "([II)I"⟩
abbrev cX2_setCell : ByteArray := prog_4_method_5_code
def yX2_setCell : MethodName := ⟨RX2, "setCell", "([III)V"⟩
abbrev cX2_tideAt : ByteArray := prog_4_method_6_code
def yX2_tideAt : MethodName := ⟨RX2, "tideAt", "(I)I"⟩
abbrev cX2_windAt : ByteArray := prog_4_method_7_code
def yX2_windAt : MethodName := ⟨RX2, "windAt", "(I)I"⟩
abbrev cX2_setTide : ByteArray := prog_4_method_8_code
def yX2_setTide : MethodName := ⟨RX2, "setTide", "(II)V"⟩
abbrev cX2_setWind : ByteArray := prog_4_method_9_code
def yX2_setWind : MethodName := ⟨RX2, "setWind", "(II)V"⟩
abbrev cX2_hasRing : ByteArray := prog_4_method_10_code
def yX2_hasRing : MethodName := ⟨RX2, "hasRing", "(I)Z"⟩
abbrev cX2_hasBoat : ByteArray := prog_4_method_11_code
def yX2_hasBoat : MethodName := ⟨RX2, "hasBoat", "(I)Z"⟩
abbrev cX2_hasRamp : ByteArray := prog_4_method_12_code
def yX2_hasRamp : MethodName := ⟨RX2, "hasRamp", "(I)Z"⟩
abbrev cX2_ringCell : ByteArray := prog_4_method_13_code
def yX2_ringCell : MethodName := ⟨RX2, "ringCell", "(II)I"⟩
abbrev cX2_boatCell : ByteArray := prog_4_method_14_code
def yX2_boatCell : MethodName := ⟨RX2, "boatCell", "(II)I"⟩
abbrev cX2_setBoatCell : ByteArray := prog_4_method_15_code
def yX2_setBoatCell : MethodName := ⟨RX2, "setBoatCell", "(III)V"⟩
abbrev cX2_rampCell : ByteArray := prog_4_method_16_code
def yX2_rampCell : MethodName := ⟨RX2, "rampCell", "(II)I"⟩
abbrev cX2_addRing : ByteArray := prog_4_method_17_code
def yX2_addRing : MethodName := ⟨RX2, "addRing", "(II)V"⟩
abbrev cX2_addRamp : ByteArray := prog_4_method_18_code
def yX2_addRamp : MethodName := ⟨RX2, "addRamp", "(II)V"⟩
abbrev cX2_hoursUnder : ByteArray := prog_4_method_19_code
def yX2_hoursUnder : MethodName := ⟨RX2, "hoursUnder", "()I"⟩
abbrev cX2_firstHourWith : ByteArray := prog_4_method_20_code
def yX2_firstHourWith : MethodName := ⟨RX2, "firstHourWith", "(II)I"⟩
abbrev cX2_tideOn : ByteArray := prog_4_method_21_code
def yX2_tideOn : MethodName := ⟨RX2, "tideOn", "(II)I"⟩
abbrev cX2_slopeOf : ByteArray := prog_4_method_22_code
def yX2_slopeOf : MethodName := ⟨RX2, "slopeOf", "(III)I"⟩
abbrev cX2_hoursOpen : ByteArray := prog_4_method_23_code
def yX2_hoursOpen : MethodName := ⟨RX2, "hoursOpen", "(III)I"⟩
def RX3 : String := "HangsAtLowWater$Letters"
def TX3 : u_T := fun k => match k with
  | 0 => ("HangsAtLowWater$Letters", "letters", "[I", true)
  | _ => ("HangsAtLowWater$Letters", "size", "I", false)
def tyX3 : Nat → FieldType := fun k => match k with
  | 0 => .array .int
  | _ => .int
abbrev wsX30 : List Cond := u_ws RX3 TX3 2
theorem nmX3 : ∀ a, a < 2 → ∀ b, b < 2 → a ≠ b → (TX3 a).2.1 ≠ (TX3 b).2.1 := by decide +kernel
theorem tyX3_ok : ∀ k, k < 2 → parseFieldDescriptor (TX3 k).2.2.1 = some (tyX3 k) := by decide +kernel
abbrev cX3_init : ByteArray := prog_5_method_1_code
def yX3_init : MethodName := ⟨RX3, "<init>", "()V"⟩
abbrev cX3_append : ByteArray := prog_5_method_2_code
def yX3_append : MethodName := ⟨RX3, "append", "(I)V"⟩
abbrev cX3_letterAt : ByteArray := prog_5_method_3_code
def yX3_letterAt : MethodName := ⟨RX3, "letterAt", "(I)I"⟩
abbrev cX3_shapeOf : ByteArray := prog_5_method_4_code
def yX3_shapeOf : MethodName := ⟨RX3, "shapeOf", "(I)Ljava/lang/String;"⟩
abbrev cX3_fits : ByteArray := prog_5_method_5_code
def yX3_fits : MethodName := ⟨RX3, "fits", "(Ljava/lang/String;II)Z"⟩
abbrev cX3_strangePlace : ByteArray := prog_5_method_6_code
def yX3_strangePlace : MethodName := ⟨RX3, "strangePlace", "()I"⟩
abbrev cX3_statementSize : ByteArray := prog_5_method_7_code
def yX3_statementSize : MethodName := ⟨RX3, "statementSize", "(I)I"⟩
abbrev cX3_numberAt : ByteArray := prog_5_method_8_code
def yX3_numberAt : MethodName := ⟨RX3, "numberAt", "(II)I"⟩
abbrev cX3_tellStatement : ByteArray := prog_5_method_9_code
def yX3_tellStatement : MethodName := ⟨RX3, "tellStatement", "(ILHangsAtLowWater$Harbour;)Z"⟩
abbrev cX3_tellTide : ByteArray := prog_5_method_10_code
def yX3_tellTide : MethodName := ⟨RX3, "tellTide", "(ILHangsAtLowWater$Harbour;)Z"⟩
abbrev cX3_tellWind : ByteArray := prog_5_method_11_code
def yX3_tellWind : MethodName := ⟨RX3, "tellWind", "(ILHangsAtLowWater$Harbour;)Z"⟩
abbrev cX3_tellRing : ByteArray := prog_5_method_12_code
def yX3_tellRing : MethodName := ⟨RX3, "tellRing", "(ILHangsAtLowWater$Harbour;)Z"⟩
abbrev cX3_tellBoat : ByteArray := prog_5_method_13_code
def yX3_tellBoat : MethodName := ⟨RX3, "tellBoat", "(ILHangsAtLowWater$Harbour;)Z"⟩
abbrev cX3_tellLength : ByteArray := prog_5_method_14_code
def yX3_tellLength : MethodName := ⟨RX3, "tellLength", "(ILHangsAtLowWater$Harbour;)Z"⟩
abbrev cX3_tellEdge : ByteArray := prog_5_method_15_code
def yX3_tellEdge : MethodName := ⟨RX3, "tellEdge", "(ILHangsAtLowWater$Harbour;)Z"⟩
def RX4 : String := "HangsAtLowWater$Limits"
def TX4 : u_T := fun k => match k with
  | 0 => ("HangsAtLowWater$Limits", "least", "[I", true)
  | 1 => ("HangsAtLowWater$Limits", "greatest", "[I", true)
  | 2 => ("HangsAtLowWater$Limits", "kept", "[I", true)
  | _ => ("HangsAtLowWater$Limits", "best", "[I", true)
def tyX4 : Nat → FieldType := fun k => match k with
  | 0 => .array .int
  | 1 => .array .int
  | 2 => .array .int
  | _ => .array .int
abbrev wsX40 : List Cond := u_ws RX4 TX4 4
theorem nmX4 : ∀ a, a < 4 → ∀ b, b < 4 → a ≠ b → (TX4 a).2.1 ≠ (TX4 b).2.1 := by decide +kernel
theorem tyX4_ok : ∀ k, k < 4 → parseFieldDescriptor (TX4 k).2.2.1 = some (tyX4 k) := by decide +kernel
abbrev cX4_init : ByteArray := prog_6_method_1_code
def yX4_init : MethodName := ⟨RX4, "<init>", "()V"⟩
abbrev cX4_measure : ByteArray := prog_6_method_2_code
def yX4_measure : MethodName := ⟨RX4, "measure", "(LHangsAtLowWater$Mooring;[I)V"⟩
abbrev cX4_leastAllDay : ByteArray := prog_6_method_3_code
def yX4_leastAllDay : MethodName := ⟨RX4, "leastAllDay", "()I"⟩
abbrev cX4_greatestAllDay : ByteArray := prog_6_method_4_code
def yX4_greatestAllDay : MethodName := ⟨RX4, "greatestAllDay", "()I"⟩
abbrev cX4_leastFrom : ByteArray := prog_6_method_5_code
def yX4_leastFrom : MethodName := ⟨RX4, "leastFrom", "(II)I"⟩
abbrev cX4_greatestFrom : ByteArray := prog_6_method_6_code
def yX4_greatestFrom : MethodName := ⟨RX4, "greatestFrom", "(II)I"⟩
abbrev cX4_hoursChanged : ByteArray := prog_6_method_7_code
def yX4_hoursChanged : MethodName := ⟨RX4, "hoursChanged", "()I"⟩
abbrev cX4_changesEach : ByteArray := prog_6_method_8_code
def yX4_changesEach : MethodName := ⟨RX4, "changesEach", "(I)I"⟩
abbrev cX4_mostGoodHours : ByteArray := prog_6_method_9_code
def yX4_mostGoodHours : MethodName := ⟨RX4, "mostGoodHours", "(I)I"⟩
abbrev cX4_keepHour : ByteArray := prog_6_method_10_code
def yX4_keepHour : MethodName := ⟨RX4, "keepHour", "(III)V"⟩
abbrev cX4_bestKept : ByteArray := prog_6_method_11_code
def yX4_bestKept : MethodName := ⟨RX4, "bestKept", "(I)I"⟩
def RX5 : String := "HangsAtLowWater$Mooring"
def TX5 : u_T := fun k => match k with
  | 0 => ("HangsAtLowWater$Mooring", "kind", "I", false)
  | 1 => ("HangsAtLowWater$Mooring", "figure", "I", false)
  | 2 => ("HangsAtLowWater$Mooring", "place", "I", false)
  | 3 => ("HangsAtLowWater$Mooring", "height", "I", false)
  | 4 => ("HangsAtLowWater$Mooring", "otherPlace", "I", false)
  | 5 => ("HangsAtLowWater$Mooring", "length", "I", false)
  | 6 => ("HangsAtLowWater$Mooring", "wide", "I", false)
  | 7 => ("HangsAtLowWater$Mooring", "far", "I", false)
  | _ => ("HangsAtLowWater$Mooring", "bow", "I", false)
def tyX5 : Nat → FieldType := fun k => match k with
  | 0 => .int
  | 1 => .int
  | 2 => .int
  | 3 => .int
  | 4 => .int
  | 5 => .int
  | 6 => .int
  | 7 => .int
  | _ => .int
abbrev wsX50 : List Cond := u_ws RX5 TX5 9
theorem nmX5 : ∀ a, a < 9 → ∀ b, b < 9 → a ≠ b → (TX5 a).2.1 ≠ (TX5 b).2.1 := by decide +kernel
theorem tyX5_ok : ∀ k, k < 9 → parseFieldDescriptor (TX5 k).2.2.1 = some (tyX5 k) := by decide +kernel
abbrev cX5_init : ByteArray := prog_7_method_1_code
def yX5_init : MethodName := ⟨RX5, "<init>", "()V"⟩
abbrev cX5_load : ByteArray := prog_7_method_2_code
def yX5_load : MethodName := ⟨RX5, "load", "(LHangsAtLowWater$Harbour;I)V"⟩
abbrev cX5_moveTo : ByteArray := prog_7_method_3_code
def yX5_moveTo : MethodName := ⟨RX5, "moveTo", "(LHangsAtLowWater$Harbour;I)V"⟩
abbrev cX5_squareNeeded : ByteArray := prog_7_method_4_code
def yX5_squareNeeded : MethodName := ⟨RX5, "squareNeeded", "(I)I"⟩
abbrev cX5_halfApartSquare : ByteArray := prog_7_method_5_code
def yX5_halfApartSquare : MethodName := ⟨RX5, "halfApartSquare", "()I"⟩
abbrev cX5_leastAt : ByteArray := prog_7_method_6_code
def yX5_leastAt : MethodName := ⟨RX5, "leastAt", "(I)I"⟩
abbrev cX5_leastFor : ByteArray := prog_7_method_7_code
def yX5_leastFor : MethodName := ⟨RX5, "leastFor", "([I)I"⟩
abbrev cX5_hangs : ByteArray := prog_7_method_8_code
def yX5_hangs : MethodName := ⟨RX5, "hangs", "(II)Z"⟩
abbrev cX5_hangingWith : ByteArray := prog_7_method_9_code
def yX5_hangingWith : MethodName := ⟨RX5, "hangingWith", "(I[I)I"⟩
abbrev cX5_hangingHours : ByteArray := prog_7_method_10_code
def yX5_hangingHours : MethodName := ⟨RX5, "hangingHours", "([I)I"⟩
abbrev cX5_tooFarHours : ByteArray := prog_7_method_11_code
def yX5_tooFarHours : MethodName := ⟨RX5, "tooFarHours", "([I)I"⟩
abbrev cX5_reach : ByteArray := prog_7_method_12_code
def yX5_reach : MethodName := ⟨RX5, "reach", "(II)I"⟩
abbrev cX5_greatestAt : ByteArray := prog_7_method_13_code
def yX5_greatestAt : MethodName := ⟨RX5, "greatestAt", "(I)I"⟩
abbrev cX5_stillMiddle : ByteArray := prog_7_method_14_code
def yX5_stillMiddle : MethodName := ⟨RX5, "stillMiddle", "()I"⟩
abbrev cX5_blownMiddle : ByteArray := prog_7_method_15_code
def yX5_blownMiddle : MethodName := ⟨RX5, "blownMiddle", "(II)I"⟩
abbrev cX5_touching : ByteArray := prog_7_method_16_code
def yX5_touching : MethodName := ⟨RX5, "touching", "(ILHangsAtLowWater$Mooring;I[I)I"⟩
abbrev cX5_touchesAt : ByteArray := prog_7_method_17_code
def yX5_touchesAt : MethodName := ⟨RX5, "touchesAt", "(ILHangsAtLowWater$Mooring;II)Z"⟩
def RX6 : String := "HangsAtLowWater$Numbers"
def TX6 : u_T := fun k => match k with
  | 0 => ("HangsAtLowWater$Numbers", "cells", "[I", true)
  | _ => ("HangsAtLowWater$Numbers", "size", "I", false)
def tyX6 : Nat → FieldType := fun k => match k with
  | 0 => .array .int
  | _ => .int
abbrev wsX60 : List Cond := u_ws RX6 TX6 2
theorem nmX6 : ∀ a, a < 2 → ∀ b, b < 2 → a ≠ b → (TX6 a).2.1 ≠ (TX6 b).2.1 := by decide +kernel
theorem tyX6_ok : ∀ k, k < 2 → parseFieldDescriptor (TX6 k).2.2.1 = some (tyX6 k) := by decide +kernel
abbrev cX6_init : ByteArray := prog_8_method_1_code
def yX6_init : MethodName := ⟨RX6, "<init>", "()V"⟩
abbrev cX6_append : ByteArray := prog_8_method_2_code
def yX6_append : MethodName := ⟨RX6, "append", "(I)V"⟩
abbrev cX6_at : ByteArray := prog_8_method_3_code
def yX6_at : MethodName := ⟨RX6, "at", "(I)I"⟩
abbrev cX6_greatest : ByteArray := prog_8_method_4_code
def yX6_greatest : MethodName := ⟨RX6, "greatest", "()I"⟩
def RX7 : String := "HangsAtLowWater$PaidLengths"
def TX7 : u_T := fun k => match k with
  | 0 => ("HangsAtLowWater$PaidLengths", "boats", "[I", true)
  | 1 => ("HangsAtLowWater$PaidLengths", "lengths", "[I", true)
  | _ => ("HangsAtLowWater$PaidLengths", "size", "I", false)
def tyX7 : Nat → FieldType := fun k => match k with
  | 0 => .array .int
  | 1 => .array .int
  | _ => .int
abbrev wsX70 : List Cond := u_ws RX7 TX7 3
theorem nmX7 : ∀ a, a < 3 → ∀ b, b < 3 → a ≠ b → (TX7 a).2.1 ≠ (TX7 b).2.1 := by decide +kernel
theorem tyX7_ok : ∀ k, k < 3 → parseFieldDescriptor (TX7 k).2.2.1 = some (tyX7 k) := by decide +kernel
abbrev cX7_init : ByteArray := prog_9_method_1_code
def yX7_init : MethodName := ⟨RX7, "<init>", "()V"⟩
abbrev cX7_push : ByteArray := prog_9_method_2_code
def yX7_push : MethodName := ⟨RX7, "push", "(II)V"⟩
abbrev cX7_lastBoat : ByteArray := prog_9_method_3_code
def yX7_lastBoat : MethodName := ⟨RX7, "lastBoat", "()I"⟩
abbrev cX7_lastLength : ByteArray := prog_9_method_4_code
def yX7_lastLength : MethodName := ⟨RX7, "lastLength", "()I"⟩
def RX8 : String := "HangsAtLowWater"
def TX8 : u_T := fun k => match k with
  | 0 => ("HangsAtLowWater", "harbour", "LHangsAtLowWater$Harbour;", true)
  | 1 => ("HangsAtLowWater", "taken", "LHangsAtLowWater$Harbour;", true)
  | 2 => ("HangsAtLowWater", "trial", "LHangsAtLowWater$Harbour;", true)
  | 3 => ("HangsAtLowWater", "isTaken", "Z", false)
  | 4 => ("HangsAtLowWater", "letters", "LHangsAtLowWater$Letters;", true)
  | 5 => ("HangsAtLowWater", "numbers", "LHangsAtLowWater$Numbers;", true)
  | 6 => ("HangsAtLowWater", "paid", "LHangsAtLowWater$PaidLengths;", true)
  | 7 => ("HangsAtLowWater", "refusals", "[I", true)
  | 8 => ("HangsAtLowWater", "mooring", "LHangsAtLowWater$Mooring;", true)
  | 9 => ("HangsAtLowWater", "neighbour", "LHangsAtLowWater$Mooring;", true)
  | 10 => ("HangsAtLowWater", "limits", "LHangsAtLowWater$Limits;", true)
  | 11 => ("HangsAtLowWater", "berthing", "LHangsAtLowWater$Berthing;", true)
  | 12 => ("HangsAtLowWater", "choices", "LHangsAtLowWater$Choices;", true)
  | _ => ("HangsAtLowWater", "order", "[I", true)
def tyX8 : Nat → FieldType := fun k => match k with
  | 0 => .object "HangsAtLowWater$Harbour"
  | 1 => .object "HangsAtLowWater$Harbour"
  | 2 => .object "HangsAtLowWater$Harbour"
  | 3 => .boolean
  | 4 => .object "HangsAtLowWater$Letters"
  | 5 => .object "HangsAtLowWater$Numbers"
  | 6 => .object "HangsAtLowWater$PaidLengths"
  | 7 => .array .int
  | 8 => .object "HangsAtLowWater$Mooring"
  | 9 => .object "HangsAtLowWater$Mooring"
  | 10 => .object "HangsAtLowWater$Limits"
  | 11 => .object "HangsAtLowWater$Berthing"
  | 12 => .object "HangsAtLowWater$Choices"
  | _ => .array .int
abbrev wsX80 : List Cond := u_ws RX8 TX8 14
theorem nmX8 : ∀ a, a < 14 → ∀ b, b < 14 → a ≠ b → (TX8 a).2.1 ≠ (TX8 b).2.1 := by decide +kernel
theorem tyX8_ok : ∀ k, k < 14 → parseFieldDescriptor (TX8 k).2.2.1 = some (tyX8 k) := by decide +kernel
abbrev cX8_init : ByteArray := prog_1_method_1_code
def yX8_init : MethodName := ⟨RX8, "<init>", "()V"⟩
abbrev cX8_feed : ByteArray := prog_1_method_2_code
def yX8_feed : MethodName := ⟨RX8, "feed", "(I)I"⟩
abbrev cX8_quay : ByteArray := prog_1_method_3_code
def yX8_quay : MethodName := ⟨RX8, "quay", "()I"⟩
abbrev cX8_takeStatements : ByteArray := prog_1_method_4_code
def yX8_takeStatements : MethodName := ⟨RX8, "takeStatements", "()I"⟩
abbrev cX8_tide : ByteArray := prog_1_method_5_code
def yX8_tide : MethodName := ⟨RX8, "tide", "(I)I"⟩
abbrev cX8_wind : ByteArray := prog_1_method_6_code
def yX8_wind : MethodName := ⟨RX8, "wind", "(I)I"⟩
abbrev cX8_rises : ByteArray := prog_1_method_7_code
def yX8_rises : MethodName := ⟨RX8, "rises", "(II)I"⟩
abbrev cX8_ring : ByteArray := prog_1_method_8_code
def yX8_ring : MethodName := ⟨RX8, "ring", "(II)I"⟩
abbrev cX8_boat : ByteArray := prog_1_method_9_code
def yX8_boat : MethodName := ⟨RX8, "boat", "(II)I"⟩
abbrev cX8_pay : ByteArray := prog_1_method_10_code
def yX8_pay : MethodName := ⟨RX8, "pay", "(II)I"⟩
abbrev cX8_tie : ByteArray := prog_1_method_11_code
def yX8_tie : MethodName := ⟨RX8, "tie", "(II)I"⟩
abbrev cX8_set : ByteArray := prog_1_method_12_code
def yX8_set : MethodName := ⟨RX8, "set", "(II)I"⟩
abbrev cX8_hour : ByteArray := prog_1_method_13_code
def yX8_hour : MethodName := ⟨RX8, "hour", "()I"⟩
abbrev cX8_needs : ByteArray := prog_1_method_14_code
def yX8_needs : MethodName := ⟨RX8, "needs", "(II)I"⟩
abbrev cX8_out : ByteArray := prog_1_method_15_code
def yX8_out : MethodName := ⟨RX8, "out", "(II)I"⟩
abbrev cX8_lies : ByteArray := prog_1_method_16_code
def yX8_lies : MethodName := ⟨RX8, "lies", "(III)I"⟩
abbrev cX8_hours : ByteArray := prog_1_method_17_code
def yX8_hours : MethodName := ⟨RX8, "hours", "(II)I"⟩
abbrev cX8_length : ByteArray := prog_1_method_18_code
def yX8_length : MethodName := ⟨RX8, "length", "(II)I"⟩
abbrev cX8_tended : ByteArray := prog_1_method_19_code
def yX8_tended : MethodName := ⟨RX8, "tended", "(II)I"⟩
abbrev cX8_slack : ByteArray := prog_1_method_20_code
def yX8_slack : MethodName := ⟨RX8, "slack", "(I)I"⟩
abbrev cX8_saves : ByteArray := prog_1_method_21_code
def yX8_saves : MethodName := ⟨RX8, "saves", "(II)I"⟩
abbrev cX8_touch : ByteArray := prog_1_method_22_code
def yX8_touch : MethodName := ⟨RX8, "touch", "(II)I"⟩
abbrev cX8_clear : ByteArray := prog_1_method_23_code
def yX8_clear : MethodName := ⟨RX8, "clear", "(II)I"⟩
abbrev cX8_crossed : ByteArray := prog_1_method_24_code
def yX8_crossed : MethodName := ⟨RX8, "crossed", "(I)I"⟩
abbrev cX8_areCrossed : ByteArray := prog_1_method_25_code
def yX8_areCrossed : MethodName := ⟨RX8, "areCrossed", "(III)Z"⟩
abbrev cX8_skippers : ByteArray := prog_1_method_26_code
def yX8_skippers : MethodName := ⟨RX8, "skippers", "(III)I"⟩
abbrev cX8_alongside : ByteArray := prog_1_method_27_code
def yX8_alongside : MethodName := ⟨RX8, "alongside", "(I)I"⟩
abbrev cX8_orderByNumber : ByteArray := prog_1_method_28_code
def yX8_orderByNumber : MethodName := ⟨RX8, "orderByNumber", "()V"⟩
abbrev cX8_orderLatestInmost : ByteArray := prog_1_method_29_code
def yX8_orderLatestInmost : MethodName := ⟨RX8, "orderLatestInmost", "()V"⟩
abbrev cX8_movesInOrder : ByteArray := prog_1_method_30_code
def yX8_movesInOrder : MethodName := ⟨RX8, "movesInOrder", "()I"⟩
abbrev cX8_orderDigits : ByteArray := prog_1_method_31_code
def yX8_orderDigits : MethodName := ⟨RX8, "orderDigits", "()I"⟩
abbrev cX8_mud : ByteArray := prog_1_method_32_code
def yX8_mud : MethodName := ⟨RX8, "mud", "(II)I"⟩
abbrev cX8_carry : ByteArray := prog_1_method_33_code
def yX8_carry : MethodName := ⟨RX8, "carry", "(III)I"⟩
abbrev cX8_passes : ByteArray := prog_1_method_34_code
def yX8_passes : MethodName := ⟨RX8, "passes", "(III)I"⟩
abbrev cX8_waited : ByteArray := prog_1_method_35_code
def yX8_waited : MethodName := ⟨RX8, "waited", "(II)I"⟩
abbrev cX8_ramp : ByteArray := prog_1_method_36_code
def yX8_ramp : MethodName := ⟨RX8, "ramp", "(II)I"⟩
abbrev cX8_slope : ByteArray := prog_1_method_37_code
def yX8_slope : MethodName := ⟨RX8, "slope", "(II)I"⟩
abbrev cX8_open : ByteArray := prog_1_method_38_code
def yX8_open : MethodName := ⟨RX8, "open", "(II)I"⟩
abbrev cX8_bridge : ByteArray := prog_1_method_39_code
def yX8_bridge : MethodName := ⟨RX8, "bridge", "(III)I"⟩
abbrev cX8_berths : ByteArray := prog_1_method_40_code
def yX8_berths : MethodName := ⟨RX8, "berths", "(I)I"⟩
abbrev cX8_isWellAllDay : ByteArray := prog_1_method_41_code
def yX8_isWellAllDay : MethodName := ⟨RX8, "isWellAllDay", "()Z"⟩
abbrev cX8_cheapest : ByteArray := prog_1_method_42_code
def yX8_cheapest : MethodName := ⟨RX8, "cheapest", "(I)I"⟩
abbrev cX8_marks : ByteArray := prog_1_method_43_code
def yX8_marks : MethodName := ⟨RX8, "marks", "(III)I"⟩
abbrev cX8_whose : ByteArray := prog_1_method_44_code
def yX8_whose : MethodName := ⟨RX8, "whose", "(I)I"⟩
abbrev cX8_hung : ByteArray := prog_1_method_45_code
def yX8_hung : MethodName := ⟨RX8, "hung", "(III)I"⟩
abbrev cX8_wrongOfMarks : ByteArray := prog_1_method_46_code
def yX8_wrongOfMarks : MethodName := ⟨RX8, "wrongOfMarks", "(III)I"⟩
abbrev cX8_row : ByteArray := prog_1_method_47_code
def yX8_row : MethodName := ⟨RX8, "row", "(I)I"⟩
abbrev cX8_judge : ByteArray := prog_1_method_48_code
def yX8_judge : MethodName := ⟨RX8, "judge", "(I)I"⟩
abbrev cX8_drop : ByteArray := prog_1_method_49_code
def yX8_drop : MethodName := ⟨RX8, "drop", "()I"⟩
abbrev cX8_seeds : ByteArray := prog_1_method_50_code
def yX8_seeds : MethodName := ⟨RX8, "seeds", "(IIII)I"⟩
abbrev cX8_drawBelow : ByteArray := prog_1_method_51_code
def yX8_drawBelow : MethodName := ⟨RX8, "drawBelow", "(II)I"⟩
abbrev cX8_back : ByteArray := prog_1_method_52_code
def yX8_back : MethodName := ⟨RX8, "back", "()I"⟩
abbrev cX8_spring : ByteArray := prog_1_method_53_code
def yX8_spring : MethodName := ⟨RX8, "spring", "(I)I"⟩
abbrev cX8_swells : ByteArray := prog_1_method_54_code
def yX8_swells : MethodName := ⟨RX8, "swells", "(II)I"⟩
abbrev cX8_fortnight : ByteArray := prog_1_method_55_code
def yX8_fortnight : MethodName := ⟨RX8, "fortnight", "(II)I"⟩
abbrev cX8_leastOnDay : ByteArray := prog_1_method_56_code
def yX8_leastOnDay : MethodName := ⟨RX8, "leastOnDay", "(I)I"⟩
abbrev cX8_watch : ByteArray := prog_1_method_57_code
def yX8_watch : MethodName := ⟨RX8, "watch", "(II)I"⟩
abbrev cX8_seldom : ByteArray := prog_1_method_58_code
def yX8_seldom : MethodName := ⟨RX8, "seldom", "(I)I"⟩
abbrev cX8_wake : ByteArray := prog_1_method_59_code
def yX8_wake : MethodName := ⟨RX8, "wake", "(II)I"⟩
abbrev cX8_image : ByteArray := prog_1_method_60_code
def yX8_image : MethodName := ⟨RX8, "image", "()I"⟩
abbrev cX8_restore : ByteArray := prog_1_method_61_code
def yX8_restore : MethodName := ⟨RX8, "restore", "()I"⟩
abbrev cX8_count : ByteArray := prog_1_method_62_code
def yX8_count : MethodName := ⟨RX8, "count", "(I)I"⟩
abbrev cX8_lengthsTogether : ByteArray := prog_1_method_63_code
def yX8_lengthsTogether : MethodName := ⟨RX8, "lengthsTogether", "()I"⟩
abbrev cX8_boatsHangingNow : ByteArray := prog_1_method_64_code
def yX8_boatsHangingNow : MethodName := ⟨RX8, "boatsHangingNow", "()I"⟩
abbrev cX8_refused : ByteArray := prog_1_method_65_code
def yX8_refused : MethodName := ⟨RX8, "refused", "(I)I"⟩
abbrev cX8_refusedFar : ByteArray := prog_1_method_66_code
def yX8_refusedFar : MethodName := ⟨RX8, "refusedFar", "(I)I"⟩
abbrev cX8_isHour : ByteArray := prog_1_method_67_code
def yX8_isHour : MethodName := ⟨RX8, "isHour", "(I)Z"⟩
abbrev cX8_isOneOf : ByteArray := prog_1_method_68_code
def yX8_isOneOf : MethodName := ⟨RX8, "isOneOf", "(II)Z"⟩
abbrev cX8_areTwoBoats : ByteArray := prog_1_method_69_code
def yX8_areTwoBoats : MethodName := ⟨RX8, "areTwoBoats", "(II)Z"⟩
abbrev cX8_lengthOrNone : ByteArray := prog_1_method_70_code
def yX8_lengthOrNone : MethodName := ⟨RX8, "lengthOrNone", "(I)I"⟩
abbrev cX8_rootWithin : ByteArray := prog_1_method_71_code
def yX8_rootWithin : MethodName := ⟨RX8, "rootWithin", "(I)I"⟩
def RX9 : String := "HangsAtLowWaterModel"
def TX9 : u_T := fun k => match k with
  | 0 => ("HangsAtLowWaterModel", "refused", "[I", true)
  | 1 => ("HangsAtLowWaterModel", "tide", "[I", true)
  | 2 => ("HangsAtLowWaterModel", "wind", "[I", true)
  | 3 => ("HangsAtLowWaterModel", "place", "[I", true)
  | 4 => ("HangsAtLowWaterModel", "height", "[I", true)
  | 5 => ("HangsAtLowWaterModel", "setting", "[I", true)
  | 6 => ("HangsAtLowWaterModel", "kind", "[I", true)
  | 7 => ("HangsAtLowWaterModel", "figure", "[I", true)
  | 8 => ("HangsAtLowWaterModel", "ringOf", "[I", true)
  | 9 => ("HangsAtLowWaterModel", "otherRing", "[I", true)
  | 10 => ("HangsAtLowWaterModel", "length", "[I", true)
  | 11 => ("HangsAtLowWaterModel", "lasting", "[I", true)
  | 12 => ("HangsAtLowWaterModel", "farMost", "[I", true)
  | 13 => ("HangsAtLowWaterModel", "rampHeight", "[I", true)
  | 14 => ("HangsAtLowWaterModel", "rampLong", "[I", true)
  | 15 => ("HangsAtLowWaterModel", "rings", "I", false)
  | 16 => ("HangsAtLowWaterModel", "boats", "I", false)
  | 17 => ("HangsAtLowWaterModel", "hour", "I", false)
  | 18 => ("HangsAtLowWaterModel", "spring", "I", false)
  | 19 => ("HangsAtLowWaterModel", "ramps", "I", false)
  | 20 => ("HangsAtLowWaterModel", "tape", "[I", true)
  | 21 => ("HangsAtLowWaterModel", "letter", "[I", true)
  | 22 => ("HangsAtLowWaterModel", "letterAt", "[I", true)
  | 23 => ("HangsAtLowWaterModel", "told", "[I", true)
  | 24 => ("HangsAtLowWaterModel", "taped", "I", false)
  | 25 => ("HangsAtLowWaterModel", "at", "I", false)
  | 26 => ("HangsAtLowWaterModel", "statements", "I", false)
  | 27 => ("HangsAtLowWaterModel", "kept", "[I", true)
  | 28 => ("HangsAtLowWaterModel", "hasImage", "Z", false)
  | 29 => ("HangsAtLowWaterModel", "isKeeping", "Z", false)
  | 30 => ("HangsAtLowWaterModel", "cursor", "I", false)
  | 31 => ("HangsAtLowWaterModel", "backBoat", "[I", true)
  | 32 => ("HangsAtLowWaterModel", "backLength", "[I", true)
  | 33 => ("HangsAtLowWaterModel", "backs", "I", false)
  | 34 => ("HangsAtLowWaterModel", "row", "[I", true)
  | 35 => ("HangsAtLowWaterModel", "order", "[I", true)
  | 36 => ("HangsAtLowWaterModel", "bestOrder", "[I", true)
  | 37 => ("HangsAtLowWaterModel", "rowMany", "I", false)
  | 38 => ("HangsAtLowWaterModel", "way", "[I", true)
  | 39 => ("HangsAtLowWaterModel", "bestWay", "[I", true)
  | 40 => ("HangsAtLowWaterModel", "wellAt", "[I", true)
  | 41 => ("HangsAtLowWaterModel", "plainTide", "[I", true)
  | 42 => ("HangsAtLowWaterModel", "goodMost", "[I", true)
  | 43 => ("HangsAtLowWaterModel", "wakeMost", "[I", true)
  | 44 => ("HangsAtLowWaterModel", "worthOne", "[I", true)
  | _ => ("HangsAtLowWaterModel", "worthOther", "[I", true)
def tyX9 : Nat → FieldType := fun k => match k with
  | 0 => .array .int
  | 1 => .array .int
  | 2 => .array .int
  | 3 => .array .int
  | 4 => .array .int
  | 5 => .array .int
  | 6 => .array .int
  | 7 => .array .int
  | 8 => .array .int
  | 9 => .array .int
  | 10 => .array .int
  | 11 => .array .int
  | 12 => .array .int
  | 13 => .array .int
  | 14 => .array .int
  | 15 => .int
  | 16 => .int
  | 17 => .int
  | 18 => .int
  | 19 => .int
  | 20 => .array .int
  | 21 => .array .int
  | 22 => .array .int
  | 23 => .array .int
  | 24 => .int
  | 25 => .int
  | 26 => .int
  | 27 => .array .int
  | 28 => .boolean
  | 29 => .boolean
  | 30 => .int
  | 31 => .array .int
  | 32 => .array .int
  | 33 => .int
  | 34 => .array .int
  | 35 => .array .int
  | 36 => .array .int
  | 37 => .int
  | 38 => .array .int
  | 39 => .array .int
  | 40 => .array .int
  | 41 => .array .int
  | 42 => .array .int
  | 43 => .array .int
  | 44 => .array .int
  | _ => .array .int
abbrev wsX90 : List Cond := u_ws RX9 TX9 46
theorem nmX9 : ∀ a, a < 46 → ∀ b, b < 46 → a ≠ b → (TX9 a).2.1 ≠ (TX9 b).2.1 := by decide +kernel
theorem tyX9_ok : ∀ k, k < 46 → parseFieldDescriptor (TX9 k).2.2.1 = some (tyX9 k) := by decide +kernel
abbrev cX9_init : ByteArray := prog_11_method_1_code
def yX9_init : MethodName := ⟨RX9, "<init>", "()V"⟩
abbrev cX9_no : ByteArray := prog_11_method_2_code
def yX9_no : MethodName := ⟨RX9, "no", "(I)I"⟩
abbrev cX9_lower : ByteArray := prog_11_method_3_code
def yX9_lower : MethodName := ⟨RX9, "lower", "(I)I"⟩
abbrev cX9_isIn : ByteArray := prog_11_method_4_code
def yX9_isIn : MethodName := ⟨RX9, "isIn", "(III)Z"⟩
abbrev cX9_bound : ByteArray := prog_11_method_5_code
def yX9_bound : MethodName := ⟨RX9, "bound", "(III)I"⟩
abbrev cX9_bits : ByteArray := prog_11_method_6_code
def yX9_bits : MethodName := ⟨RX9, "bits", "(I)I"⟩
abbrev cX9_isHour : ByteArray := prog_11_method_7_code
def yX9_isHour : MethodName := ⟨RX9, "isHour", "(I)Z"⟩
abbrev cX9_isRing : ByteArray := prog_11_method_8_code
def yX9_isRing : MethodName := ⟨RX9, "isRing", "(I)Z"⟩
abbrev cX9_isBoat : ByteArray := prog_11_method_9_code
def yX9_isBoat : MethodName := ⟨RX9, "isBoat", "(I)Z"⟩
abbrev cX9_feed : ByteArray := prog_11_method_10_code
def yX9_feed : MethodName := ⟨RX9, "feed", "(I)I"⟩
abbrev cX9_next : ByteArray := prog_11_method_11_code
def yX9_next : MethodName := ⟨RX9, "next", "()I"⟩
abbrev cX9_readsDigits : ByteArray := prog_11_method_12_code
def yX9_readsDigits : MethodName := ⟨RX9, "readsDigits", "(II)Z"⟩
abbrev cX9_readsWind : ByteArray := prog_11_method_13_code
def yX9_readsWind : MethodName := ⟨RX9, "readsWind", "(I)Z"⟩
abbrev cX9_readsBoat : ByteArray := prog_11_method_14_code
def yX9_readsBoat : MethodName := ⟨RX9, "readsBoat", "(I)Z"⟩
abbrev cX9_readsAll : ByteArray := prog_11_method_15_code
def yX9_readsAll : MethodName := ⟨RX9, "readsAll", "(II)Z"⟩
abbrev cX9_statement : ByteArray := prog_11_method_16_code
def yX9_statement : MethodName := ⟨RX9, "statement", "()Z"⟩
abbrev cX9_comesRing : ByteArray := prog_11_method_17_code
def yX9_comesRing : MethodName := ⟨RX9, "comesRing", "(I)Z"⟩
abbrev cX9_comesBoat : ByteArray := prog_11_method_18_code
def yX9_comesBoat : MethodName := ⟨RX9, "comesBoat", "(I)Z"⟩
abbrev cX9_comes : ByteArray := prog_11_method_19_code
def yX9_comes : MethodName := ⟨RX9, "comes", "(I)Z"⟩
abbrev cX9_quay : ByteArray := prog_11_method_20_code
def yX9_quay : MethodName := ⟨RX9, "quay", "()I"⟩
abbrev cX9_passes : ByteArray := prog_11_method_21_code
def yX9_passes : MethodName := ⟨RX9, "passes", "([I)V"⟩
abbrev cX9_passOne : ByteArray := prog_11_method_22_code
def yX9_passOne : MethodName := ⟨RX9, "passOne", "(I)I"⟩
abbrev cX9_passesAll : ByteArray := prog_11_method_23_code
def yX9_passesAll : MethodName := ⟨RX9, "passesAll", "(IZ)V"⟩
abbrev cX9_image : ByteArray := prog_11_method_24_code
def yX9_image : MethodName := ⟨RX9, "image", "()I"⟩
abbrev cX9_restore : ByteArray := prog_11_method_25_code
def yX9_restore : MethodName := ⟨RX9, "restore", "()I"⟩
abbrev cX9_water : ByteArray := prog_11_method_26_code
def yX9_water : MethodName := ⟨RX9, "water", "(I)I"⟩
abbrev cX9_isOfTwo : ByteArray := prog_11_method_27_code
def yX9_isOfTwo : MethodName := ⟨RX9, "isOfTwo", "(I)Z"⟩
abbrev cX9_needsAt : ByteArray := prog_11_method_28_code
def yX9_needsAt : MethodName := ⟨RX9, "needsAt", "(II)I"⟩
abbrev cX9_rootOf : ByteArray := prog_11_method_29_code
def yX9_rootOf : MethodName := ⟨RX9, "rootOf", "(I)I"⟩
abbrev cX9_hangsWith : ByteArray := prog_11_method_30_code
def yX9_hangsWith : MethodName := ⟨RX9, "hangsWith", "(III)Z"⟩
abbrev cX9_outWith : ByteArray := prog_11_method_31_code
def yX9_outWith : MethodName := ⟨RX9, "outWith", "(III)I"⟩
abbrev cX9_outAt : ByteArray := prog_11_method_32_code
def yX9_outAt : MethodName := ⟨RX9, "outAt", "(II)I"⟩
abbrev cX9_middle : ByteArray := prog_11_method_33_code
def yX9_middle : MethodName := ⟨RX9, "middle", "(I)I"⟩
abbrev cX9_middleBy : ByteArray := prog_11_method_34_code
def yX9_middleBy : MethodName := ⟨RX9, "middleBy", "(II)I"⟩
abbrev cX9_tide : ByteArray := prog_11_method_35_code
def yX9_tide : MethodName := ⟨RX9, "tide", "(I)I"⟩
abbrev cX9_wind : ByteArray := prog_11_method_36_code
def yX9_wind : MethodName := ⟨RX9, "wind", "(I)I"⟩
abbrev cX9_rises : ByteArray := prog_11_method_37_code
def yX9_rises : MethodName := ⟨RX9, "rises", "(II)I"⟩
abbrev cX9_ring : ByteArray := prog_11_method_38_code
def yX9_ring : MethodName := ⟨RX9, "ring", "(II)I"⟩
abbrev cX9_boat : ByteArray := prog_11_method_39_code
def yX9_boat : MethodName := ⟨RX9, "boat", "(II)I"⟩
abbrev cX9_pay : ByteArray := prog_11_method_40_code
def yX9_pay : MethodName := ⟨RX9, "pay", "(II)I"⟩
abbrev cX9_keepsPaid : ByteArray := prog_11_method_41_code
def yX9_keepsPaid : MethodName := ⟨RX9, "keepsPaid", "(I)V"⟩
abbrev cX9_back : ByteArray := prog_11_method_42_code
def yX9_back : MethodName := ⟨RX9, "back", "()I"⟩
abbrev cX9_tie : ByteArray := prog_11_method_43_code
def yX9_tie : MethodName := ⟨RX9, "tie", "(II)I"⟩
abbrev cX9_set : ByteArray := prog_11_method_44_code
def yX9_set : MethodName := ⟨RX9, "set", "(II)I"⟩
abbrev cX9_hour : ByteArray := prog_11_method_45_code
def yX9_hour : MethodName := ⟨RX9, "hour", "()I"⟩
abbrev cX9_needs : ByteArray := prog_11_method_46_code
def yX9_needs : MethodName := ⟨RX9, "needs", "(II)I"⟩
abbrev cX9_out : ByteArray := prog_11_method_47_code
def yX9_out : MethodName := ⟨RX9, "out", "(II)I"⟩
abbrev cX9_lies : ByteArray := prog_11_method_48_code
def yX9_lies : MethodName := ⟨RX9, "lies", "(III)I"⟩
abbrev cX9_hangHours : ByteArray := prog_11_method_49_code
def yX9_hangHours : MethodName := ⟨RX9, "hangHours", "(II)I"⟩
abbrev cX9_farHours : ByteArray := prog_11_method_50_code
def yX9_farHours : MethodName := ⟨RX9, "farHours", "(II)I"⟩
abbrev cX9_underHours : ByteArray := prog_11_method_51_code
def yX9_underHours : MethodName := ⟨RX9, "underHours", "()I"⟩
abbrev cX9_wellHours : ByteArray := prog_11_method_52_code
def yX9_wellHours : MethodName := ⟨RX9, "wellHours", "(II)I"⟩
abbrev cX9_hours : ByteArray := prog_11_method_53_code
def yX9_hours : MethodName := ⟨RX9, "hours", "(II)I"⟩
abbrev cX9_leastLength : ByteArray := prog_11_method_54_code
def yX9_leastLength : MethodName := ⟨RX9, "leastLength", "(I)I"⟩
abbrev cX9_greatestLength : ByteArray := prog_11_method_55_code
def yX9_greatestLength : MethodName := ⟨RX9, "greatestLength", "(I)I"⟩
abbrev cX9_bothLengths : ByteArray := prog_11_method_56_code
def yX9_bothLengths : MethodName := ⟨RX9, "bothLengths", "(I)I"⟩
abbrev cX9_length : ByteArray := prog_11_method_57_code
def yX9_length : MethodName := ⟨RX9, "length", "(II)I"⟩
abbrev cX9_isTended : ByteArray := prog_11_method_58_code
def yX9_isTended : MethodName := ⟨RX9, "isTended", "(III)Z"⟩
abbrev cX9_tendedHours : ByteArray := prog_11_method_59_code
def yX9_tendedHours : MethodName := ⟨RX9, "tendedHours", "(I)I"⟩
abbrev cX9_tended : ByteArray := prog_11_method_60_code
def yX9_tended : MethodName := ⟨RX9, "tended", "(II)I"⟩
abbrev cX9_areTwo : ByteArray := prog_11_method_61_code
def yX9_areTwo : MethodName := ⟨RX9, "areTwo", "(II)Z"⟩
abbrev cX9_doTouch : ByteArray := prog_11_method_62_code
def yX9_doTouch : MethodName := ⟨RX9, "doTouch", "(III)Z"⟩
abbrev cX9_touchHours : ByteArray := prog_11_method_63_code
def yX9_touchHours : MethodName := ⟨RX9, "touchHours", "(II)I"⟩
abbrev cX9_touch : ByteArray := prog_11_method_64_code
def yX9_touch : MethodName := ⟨RX9, "touch", "(II)I"⟩
abbrev cX9_clear : ByteArray := prog_11_method_65_code
def yX9_clear : MethodName := ⟨RX9, "clear", "(II)I"⟩
abbrev cX9_slack : ByteArray := prog_11_method_66_code
def yX9_slack : MethodName := ⟨RX9, "slack", "(I)I"⟩
abbrev cX9_movesBy : ByteArray := prog_11_method_67_code
def yX9_movesBy : MethodName := ⟨RX9, "movesBy", "()I"⟩
abbrev cX9_laysOrder : ByteArray := prog_11_method_68_code
def yX9_laysOrder : MethodName := ⟨RX9, "laysOrder", "(I)Z"⟩
abbrev cX9_findOrder : ByteArray := prog_11_method_69_code
def yX9_findOrder : MethodName := ⟨RX9, "findOrder", "()I"⟩
abbrev cX9_isRowOfHours : ByteArray := prog_11_method_70_code
def yX9_isRowOfHours : MethodName := ⟨RX9, "isRowOfHours", "()Z"⟩
abbrev cX9_alongside : ByteArray := prog_11_method_71_code
def yX9_alongside : MethodName := ⟨RX9, "alongside", "(I)I"⟩
abbrev cX9_mud : ByteArray := prog_11_method_72_code
def yX9_mud : MethodName := ⟨RX9, "mud", "(II)I"⟩
abbrev cX9_carry : ByteArray := prog_11_method_73_code
def yX9_carry : MethodName := ⟨RX9, "carry", "(III)I"⟩
abbrev cX9_findWellAt : ByteArray := prog_11_method_74_code
def yX9_findWellAt : MethodName := ⟨RX9, "findWellAt", "()V"⟩
abbrev cX9_wellBy : ByteArray := prog_11_method_75_code
def yX9_wellBy : MethodName := ⟨RX9, "wellBy", "(I)I"⟩
abbrev cX9_berths : ByteArray := prog_11_method_76_code
def yX9_berths : MethodName := ⟨RX9, "berths", "(I)I"⟩
abbrev cX9_leastOr : ByteArray := prog_11_method_77_code
def yX9_leastOr : MethodName := ⟨RX9, "leastOr", "(I)I"⟩
abbrev cX9_saves : ByteArray := prog_11_method_78_code
def yX9_saves : MethodName := ⟨RX9, "saves", "(II)I"⟩
abbrev cX9_marks : ByteArray := prog_11_method_79_code
def yX9_marks : MethodName := ⟨RX9, "marks", "(III)I"⟩
abbrev cX9_whose : ByteArray := prog_11_method_80_code
def yX9_whose : MethodName := ⟨RX9, "whose", "(I)I"⟩
abbrev cX9_spring : ByteArray := prog_11_method_81_code
def yX9_spring : MethodName := ⟨RX9, "spring", "(I)I"⟩
abbrev cX9_tideOn : ByteArray := prog_11_method_82_code
def yX9_tideOn : MethodName := ⟨RX9, "tideOn", "(II)I"⟩
abbrev cX9_swells : ByteArray := prog_11_method_83_code
def yX9_swells : MethodName := ⟨RX9, "swells", "(II)I"⟩
abbrev cX9_hangDays : ByteArray := prog_11_method_84_code
def yX9_hangDays : MethodName := ⟨RX9, "hangDays", "(II)I"⟩
abbrev cX9_laysDay : ByteArray := prog_11_method_85_code
def yX9_laysDay : MethodName := ⟨RX9, "laysDay", "(I)V"⟩
abbrev cX9_firstOf : ByteArray := prog_11_method_86_code
def yX9_firstOf : MethodName := ⟨RX9, "firstOf", "(I)I"⟩
abbrev cX9_fortnight : ByteArray := prog_11_method_87_code
def yX9_fortnight : MethodName := ⟨RX9, "fortnight", "(II)I"⟩
abbrev cX9_isGood : ByteArray := prog_11_method_88_code
def yX9_isGood : MethodName := ⟨RX9, "isGood", "(III)Z"⟩
abbrev cX9_leastGood : ByteArray := prog_11_method_89_code
def yX9_leastGood : MethodName := ⟨RX9, "leastGood", "(III)I"⟩
abbrev cX9_watchBy : ByteArray := prog_11_method_90_code
def yX9_watchBy : MethodName := ⟨RX9, "watchBy", "(II)I"⟩
abbrev cX9_watch : ByteArray := prog_11_method_91_code
def yX9_watch : MethodName := ⟨RX9, "watch", "(II)I"⟩
abbrev cX9_seldom : ByteArray := prog_11_method_92_code
def yX9_seldom : MethodName := ⟨RX9, "seldom", "(I)I"⟩
abbrev cX9_findGoodMost : ByteArray := prog_11_method_93_code
def yX9_findGoodMost : MethodName := ⟨RX9, "findGoodMost", "(I)V"⟩
abbrev cX9_mostTill : ByteArray := prog_11_method_94_code
def yX9_mostTill : MethodName := ⟨RX9, "mostTill", "(II)I"⟩
abbrev cX9_wake : ByteArray := prog_11_method_95_code
def yX9_wake : MethodName := ⟨RX9, "wake", "(II)I"⟩
abbrev cX9_isRamp : ByteArray := prog_11_method_96_code
def yX9_isRamp : MethodName := ⟨RX9, "isRamp", "(I)Z"⟩
abbrev cX9_ramp : ByteArray := prog_11_method_97_code
def yX9_ramp : MethodName := ⟨RX9, "ramp", "(II)I"⟩
abbrev cX9_slopeBy : ByteArray := prog_11_method_98_code
def yX9_slopeBy : MethodName := ⟨RX9, "slopeBy", "(III)I"⟩
abbrev cX9_slope : ByteArray := prog_11_method_99_code
def yX9_slope : MethodName := ⟨RX9, "slope", "(II)I"⟩
abbrev cX9_openHours : ByteArray := prog_11_method_100_code
def yX9_openHours : MethodName := ⟨RX9, "openHours", "(III)I"⟩
abbrev cX9_open : ByteArray := prog_11_method_101_code
def yX9_open : MethodName := ⟨RX9, "open", "(II)I"⟩
abbrev cX9_bridge : ByteArray := prog_11_method_102_code
def yX9_bridge : MethodName := ⟨RX9, "bridge", "(III)I"⟩
abbrev cX9_waitsAt : ByteArray := prog_11_method_103_code
def yX9_waitsAt : MethodName := ⟨RX9, "waitsAt", "(II)I"⟩
abbrev cX9_notGate : ByteArray := prog_11_method_104_code
def yX9_notGate : MethodName := ⟨RX9, "notGate", "(II)I"⟩
abbrev cX9_passes_ : ByteArray := prog_11_method_105_code
def yX9_passes_ : MethodName := ⟨RX9, "passes", "(III)I"⟩
abbrev cX9_waited : ByteArray := prog_11_method_106_code
def yX9_waited : MethodName := ⟨RX9, "waited", "(II)I"⟩
abbrev cX9_findLeastAt : ByteArray := prog_11_method_107_code
def yX9_findLeastAt : MethodName := ⟨RX9, "findLeastAt", "()V"⟩
abbrev cX9_lengthsBy : ByteArray := prog_11_method_108_code
def yX9_lengthsBy : MethodName := ⟨RX9, "lengthsBy", "(I)I"⟩
abbrev cX9_cheapest : ByteArray := prog_11_method_109_code
def yX9_cheapest : MethodName := ⟨RX9, "cheapest", "(I)I"⟩
abbrev cX9_crossed : ByteArray := prog_11_method_110_code
def yX9_crossed : MethodName := ⟨RX9, "crossed", "(I)I"⟩
abbrev cX9_hung : ByteArray := prog_11_method_111_code
def yX9_hung : MethodName := ⟨RX9, "hung", "(III)I"⟩
abbrev cX9_worthTo : ByteArray := prog_11_method_112_code
def yX9_worthTo : MethodName := ⟨RX9, "worthTo", "(II)I"⟩
abbrev cX9_rests : ByteArray := prog_11_method_113_code
def yX9_rests : MethodName := ⟨RX9, "rests", "(I)Z"⟩
abbrev cX9_choiceOf : ByteArray := prog_11_method_114_code
def yX9_choiceOf : MethodName := ⟨RX9, "choiceOf", "(II)I"⟩
abbrev cX9_skippers : ByteArray := prog_11_method_115_code
def yX9_skippers : MethodName := ⟨RX9, "skippers", "(III)I"⟩
abbrev cX9_row : ByteArray := prog_11_method_116_code
def yX9_row : MethodName := ⟨RX9, "row", "(I)I"⟩
abbrev cX9_judge : ByteArray := prog_11_method_117_code
def yX9_judge : MethodName := ⟨RX9, "judge", "(I)I"⟩
abbrev cX9_drop : ByteArray := prog_11_method_118_code
def yX9_drop : MethodName := ⟨RX9, "drop", "()I"⟩
abbrev cX9_seeds : ByteArray := prog_11_method_119_code
def yX9_seeds : MethodName := ⟨RX9, "seeds", "(IIII)I"⟩
abbrev cX9_hangNow : ByteArray := prog_11_method_120_code
def yX9_hangNow : MethodName := ⟨RX9, "hangNow", "()I"⟩
abbrev cX9_count : ByteArray := prog_11_method_121_code
def yX9_count : MethodName := ⟨RX9, "count", "(I)I"⟩
def RJx145de : String := "java/io/Serializable"
def RJx9f9b0 : String := "java/lang/CharSequence"
def RJxb160c : String := "java/lang/Comparable"
def RJ6 : String := "java/lang/Integer"
abbrev cJ6_compare_7cf53 : ByteArray := prog_12_method_40_code
def yJ6_compare_7cf53 : MethodName := ⟨RJ6, "compare", "(II)I"⟩
abbrev cJ6_bitCount_0f7a4 : ByteArray := prog_12_method_49_code
def yJ6_bitCount_0f7a4 : MethodName := ⟨RJ6, "bitCount", "(I)I"⟩
def RJ9 : String := "java/lang/Math"
abbrev cJ9_floorMod_7cf53 : ByteArray := prog_13_method_50_code
def yJ9_floorMod_7cf53 : MethodName := ⟨RJ9, "floorMod", "(II)I"⟩
abbrev cJ9_abs_0f7a4 : ByteArray := prog_13_method_59_code
def yJ9_abs_0f7a4 : MethodName := ⟨RJ9, "abs", "(I)I"⟩
abbrev cJ9_max_7cf53 : ByteArray := prog_13_method_65_code
def yJ9_max_7cf53 : MethodName := ⟨RJ9, "max", "(II)I"⟩
abbrev cJ9_min_7cf53 : ByteArray := prog_13_method_69_code
def yJ9_min_7cf53 : MethodName := ⟨RJ9, "min", "(II)I"⟩
def RJ0 : String := "java/lang/String"
abbrev cJ0_length_8abf5 : ByteArray := prog_14_method_54_code
def yJ0_length_8abf5 : MethodName := ⟨RJ0, "length", "()I"⟩
abbrev cJ0_isEmpty_aae02 : ByteArray := prog_14_method_55_code
def yJ0_isEmpty_aae02 : MethodName := ⟨RJ0, "isEmpty", "()Z"⟩
abbrev cJ0_charAt_5068e : ByteArray := prog_14_method_56_code
def yJ0_charAt_5068e : MethodName := ⟨RJ0, "charAt", "(I)C"⟩
abbrev cJ0_coder_7d493 : ByteArray := prog_14_method_152_code
def yJ0_coder_7d493 : MethodName := ⟨RJ0, "coder", "()B"⟩
abbrev cJ0_isLatin1_aae02 : ByteArray := prog_14_method_154_code
def yJ0_isLatin1_aae02 : MethodName := ⟨RJ0, "isLatin1", "()Z"⟩
abbrev cJ0_checkIndex_df160 : ByteArray := prog_14_method_155_code
def yJ0_checkIndex_df160 : MethodName := ⟨RJ0, "checkIndex", "(II)V"⟩
def RJ1 : String := "java/lang/StringLatin1"
abbrev cJ1_charAt_3b067 : ByteArray := prog_15_method_2_code
def yJ1_charAt_3b067 : MethodName := ⟨RJ1, "charAt", "([BI)C"⟩
def RJ2 : String := "java/lang/StringUTF16"
abbrev cJ2_getChar_3b067 : ByteArray := prog_16_method_5_code
def yJ2_getChar_3b067 : MethodName := ⟨RJ2, "getChar", "([BI)C"⟩
abbrev cJ2_length_9d52b : ByteArray := prog_16_method_6_code
def yJ2_length_9d52b : MethodName := ⟨RJ2, "length", "([B)I"⟩
abbrev cJ2_charAt_3b067 : ByteArray := prog_16_method_83_code
def yJ2_charAt_3b067 : MethodName := ⟨RJ2, "charAt", "([BI)C"⟩
abbrev cJ2_checkIndex_2214a : ByteArray := prog_16_method_91_code
def yJ2_checkIndex_2214a : MethodName := ⟨RJ2, "checkIndex", "(I[B)V"⟩
def RJ10 : String := "java/lang/System"
def RJxfd54e : String := "java/lang/constant/Constable"
def RJx3cf43 : String := "java/lang/constant/ConstantDesc"
def RJ7 : String := "java/util/Arrays"
abbrev cJ7_fill_53178 : ByteArray := prog_18_method_103_code
def yJ7_fill_53178 : MethodName := ⟨RJ7, "fill", "([II)V"⟩
def RJ3 : String := "jdk/internal/util/Preconditions"
abbrev cJ3_checkIndex_8e157 : ByteArray := prog_19_method_11_code
def yJ3_checkIndex_8e157 : MethodName := ⟨RJ3, "checkIndex", "(IILjava/util/function/BiFunction;)I"⟩
def RL : String := "HangsAtLowWaterLaw"
abbrev cL_law : ByteArray := code
def yL_law : MethodName := ⟨RL, "law", "([I)Z"⟩
abbrev vwCl : List vw_C := [(RX0, TX0, 5), (RX1, TX1, 7), (RX2, TX2, 12), (RX3, TX3, 2), (RX4, TX4, 4), (RX5, TX5, 9), (RX6, TX6, 2), (RX7, TX7, 3), (RX8, TX8, 14), (RX9, TX9, 46)]
