section
-- ===== PART A: goes FIRST, ahead of the names: the tables' words, and 'selects' of the private methods out of them =====
/-- a private method of a class that the tables say can be made, by its rows of tables_1 -/
def lw_okq (q : MethodName × Nat) : Prop := (q.1.cls ≠ "java/lang/invoke/MethodHandle" ∧ q.1.cls ≠ "java/lang/invoke/VarHandle") ∧ Cond.instantiable q.1.cls q.2 ∈ tables_1 ∧ Cond.privateMethod q.1 ∈ tables_1 ∧ Cond.instanceMethod q.1 ∈ tables_1
theorem lw_p0 : lw_okq (⟨"ChairOnTheRoad", "refuseRow", "(I)I"⟩, 12) := ⟨⟨by decide +kernel, by decide +kernel⟩, List.mem_of_getElem? (i := 24) (by decide +kernel), List.mem_of_getElem? (i := 228) (by decide +kernel), List.mem_of_getElem? (i := 229) (by decide +kernel)⟩
theorem lw_p1 : lw_okq (⟨"ChairOnTheRoad", "refuseAllBut", "(II)I"⟩, 12) := ⟨⟨by decide +kernel, by decide +kernel⟩, List.mem_of_getElem? (i := 24) (by decide +kernel), List.mem_of_getElem? (i := 232) (by decide +kernel), List.mem_of_getElem? (i := 233) (by decide +kernel)⟩
theorem lw_p2 : lw_okq (⟨"ChairOnTheRoad", "isTold", "(LChairOnTheRoad$Shelf;I)Z"⟩, 12) := ⟨⟨by decide +kernel, by decide +kernel⟩, List.mem_of_getElem? (i := 24) (by decide +kernel), List.mem_of_getElem? (i := 252) (by decide +kernel), List.mem_of_getElem? (i := 253) (by decide +kernel)⟩
theorem lw_p3 : lw_okq (⟨"ChairOnTheRoad$Province", "carry", "(II)V"⟩, 15) := ⟨⟨by decide +kernel, by decide +kernel⟩, List.mem_of_getElem? (i := 91) (by decide +kernel), List.mem_of_getElem? (i := 443) (by decide +kernel), List.mem_of_getElem? (i := 444) (by decide +kernel)⟩
theorem lw_p4 : lw_okq (⟨"ChairOnTheRoad", "refuseKind", "(I)I"⟩, 12) := ⟨⟨by decide +kernel, by decide +kernel⟩, List.mem_of_getElem? (i := 24) (by decide +kernel), List.mem_of_getElem? (i := 483) (by decide +kernel), List.mem_of_getElem? (i := 484) (by decide +kernel)⟩
theorem lw_p5 : lw_okq (⟨"ChairOnTheRoad", "measureWaysBetween", "()V"⟩, 12) := ⟨⟨by decide +kernel, by decide +kernel⟩, List.mem_of_getElem? (i := 24) (by decide +kernel), List.mem_of_getElem? (i := 582) (by decide +kernel), List.mem_of_getElem? (i := 583) (by decide +kernel)⟩
theorem lw_p6 : lw_okq (⟨"ChairOnTheRoad", "measureLeastRests", "()V"⟩, 12) := ⟨⟨by decide +kernel, by decide +kernel⟩, List.mem_of_getElem? (i := 24) (by decide +kernel), List.mem_of_getElem? (i := 586) (by decide +kernel), List.mem_of_getElem? (i := 587) (by decide +kernel)⟩
theorem lw_p7 : lw_okq (⟨"ChairOnTheRoad", "waysThrough", "(III)I"⟩, 12) := ⟨⟨by decide +kernel, by decide +kernel⟩, List.mem_of_getElem? (i := 24) (by decide +kernel), List.mem_of_getElem? (i := 599) (by decide +kernel), List.mem_of_getElem? (i := 600) (by decide +kernel)⟩
theorem lw_p8 : lw_okq (⟨"ChairOnTheRoad", "matchedSource", "(I)I"⟩, 12) := ⟨⟨by decide +kernel, by decide +kernel⟩, List.mem_of_getElem? (i := 24) (by decide +kernel), List.mem_of_getElem? (i := 604) (by decide +kernel), List.mem_of_getElem? (i := 605) (by decide +kernel)⟩
theorem lw_p9 : lw_okq (⟨"ChairOnTheRoad", "firstBestSource", "(II)I"⟩, 12) := ⟨⟨by decide +kernel, by decide +kernel⟩, List.mem_of_getElem? (i := 24) (by decide +kernel), List.mem_of_getElem? (i := 608) (by decide +kernel), List.mem_of_getElem? (i := 609) (by decide +kernel)⟩
theorem lw_p10 : lw_okq (⟨"ChairOnTheRoad", "frontier", "()I"⟩, 12) := ⟨⟨by decide +kernel, by decide +kernel⟩, List.mem_of_getElem? (i := 24) (by decide +kernel), List.mem_of_getElem? (i := 633) (by decide +kernel), List.mem_of_getElem? (i := 634) (by decide +kernel)⟩
theorem lw_p11 : lw_okq (⟨"ChairOnTheRoad", "longestChain", "()I"⟩, 12) := ⟨⟨by decide +kernel, by decide +kernel⟩, List.mem_of_getElem? (i := 24) (by decide +kernel), List.mem_of_getElem? (i := 637) (by decide +kernel), List.mem_of_getElem? (i := 638) (by decide +kernel)⟩
theorem lw_p12 : lw_okq (⟨"ChairOnTheRoad", "isSeenSo", "(LChairOnTheRoad$Shelf;II)Z"⟩, 12) := ⟨⟨by decide +kernel, by decide +kernel⟩, List.mem_of_getElem? (i := 24) (by decide +kernel), List.mem_of_getElem? (i := 654) (by decide +kernel), List.mem_of_getElem? (i := 655) (by decide +kernel)⟩
theorem lw_p13 : lw_okq (⟨"ChairOnTheRoad", "firstUntrueStock", "(LChairOnTheRoad$Shelf;I)I"⟩, 12) := ⟨⟨by decide +kernel, by decide +kernel⟩, List.mem_of_getElem? (i := 24) (by decide +kernel), List.mem_of_getElem? (i := 668) (by decide +kernel), List.mem_of_getElem? (i := 669) (by decide +kernel)⟩
theorem lw_p14 : lw_okq (⟨"ChairOnTheRoad", "payPair", "(IIII)V"⟩, 12) := ⟨⟨by decide +kernel, by decide +kernel⟩, List.mem_of_getElem? (i := 24) (by decide +kernel), List.mem_of_getElem? (i := 676) (by decide +kernel), List.mem_of_getElem? (i := 677) (by decide +kernel)⟩
theorem lw_p15 : lw_okq (⟨"ChairOnTheRoad", "spreadChances", "(II)J"⟩, 12) := ⟨⟨by decide +kernel, by decide +kernel⟩, List.mem_of_getElem? (i := 24) (by decide +kernel), List.mem_of_getElem? (i := 688) (by decide +kernel), List.mem_of_getElem? (i := 689) (by decide +kernel)⟩
def lw_privs_1 : List (MethodName × Nat) := [(⟨"ChairOnTheRoad", "refuseRow", "(I)I"⟩, 12), (⟨"ChairOnTheRoad", "refuseAllBut", "(II)I"⟩, 12), (⟨"ChairOnTheRoad", "isTold", "(LChairOnTheRoad$Shelf;I)Z"⟩, 12), (⟨"ChairOnTheRoad$Province", "carry", "(II)V"⟩, 15), (⟨"ChairOnTheRoad", "refuseKind", "(I)I"⟩, 12), (⟨"ChairOnTheRoad", "measureWaysBetween", "()V"⟩, 12), (⟨"ChairOnTheRoad", "measureLeastRests", "()V"⟩, 12), (⟨"ChairOnTheRoad", "waysThrough", "(III)I"⟩, 12), (⟨"ChairOnTheRoad", "matchedSource", "(I)I"⟩, 12), (⟨"ChairOnTheRoad", "firstBestSource", "(II)I"⟩, 12), (⟨"ChairOnTheRoad", "frontier", "()I"⟩, 12), (⟨"ChairOnTheRoad", "longestChain", "()I"⟩, 12), (⟨"ChairOnTheRoad", "isSeenSo", "(LChairOnTheRoad$Shelf;II)Z"⟩, 12), (⟨"ChairOnTheRoad", "firstUntrueStock", "(LChairOnTheRoad$Shelf;I)I"⟩, 12), (⟨"ChairOnTheRoad", "payPair", "(IIII)V"⟩, 12), (⟨"ChairOnTheRoad", "spreadChances", "(II)J"⟩, 12)]
theorem lw_r1 : ∀ q ∈ lw_privs_1, lw_okq q := List.forall_mem_cons.mpr ⟨lw_p0, List.forall_mem_cons.mpr ⟨lw_p1, List.forall_mem_cons.mpr ⟨lw_p2, List.forall_mem_cons.mpr ⟨lw_p3, List.forall_mem_cons.mpr ⟨lw_p4, List.forall_mem_cons.mpr ⟨lw_p5, List.forall_mem_cons.mpr ⟨lw_p6, List.forall_mem_cons.mpr ⟨lw_p7, List.forall_mem_cons.mpr ⟨lw_p8, List.forall_mem_cons.mpr ⟨lw_p9, List.forall_mem_cons.mpr ⟨lw_p10, List.forall_mem_cons.mpr ⟨lw_p11, List.forall_mem_cons.mpr ⟨lw_p12, List.forall_mem_cons.mpr ⟨lw_p13, List.forall_mem_cons.mpr ⟨lw_p14, List.forall_mem_cons.mpr ⟨lw_p15, fun _ h => absurd h List.not_mem_nil⟩⟩⟩⟩⟩⟩⟩⟩⟩⟩⟩⟩⟩⟩⟩⟩
theorem lw_p16 : lw_okq (⟨"ChairOnTheRoad", "spreadOneDay", "(I)V"⟩, 12) := ⟨⟨by decide +kernel, by decide +kernel⟩, List.mem_of_getElem? (i := 24) (by decide +kernel), List.mem_of_getElem? (i := 695) (by decide +kernel), List.mem_of_getElem? (i := 696) (by decide +kernel)⟩
theorem lw_p17 : lw_okq (⟨"java/lang/Throwable", "fillInStackTrace", "(I)Ljava/lang/Throwable;"⟩, 6) := ⟨⟨by decide +kernel, by decide +kernel⟩, List.mem_of_getElem? (i := 860) (by decide +kernel), List.mem_of_getElem? (i := 858) (by decide +kernel), List.mem_of_getElem? (i := 859) (by decide +kernel)⟩
theorem lw_p18 : lw_okq (⟨"ChairOnTheRoadModel", "wrongRow", "(I)I"⟩, 35) := ⟨⟨by decide +kernel, by decide +kernel⟩, List.mem_of_getElem? (i := 947) (by decide +kernel), List.mem_of_getElem? (i := 1067) (by decide +kernel), List.mem_of_getElem? (i := 1068) (by decide +kernel)⟩
theorem lw_p19 : lw_okq (⟨"ChairOnTheRoadModel", "readStatement", "()V"⟩, 35) := ⟨⟨by decide +kernel, by decide +kernel⟩, List.mem_of_getElem? (i := 947) (by decide +kernel), List.mem_of_getElem? (i := 1075) (by decide +kernel), List.mem_of_getElem? (i := 1076) (by decide +kernel)⟩
theorem lw_p20 : lw_okq (⟨"ChairOnTheRoadModel", "here", "()I"⟩, 35) := ⟨⟨by decide +kernel, by decide +kernel⟩, List.mem_of_getElem? (i := 947) (by decide +kernel), List.mem_of_getElem? (i := 1079) (by decide +kernel), List.mem_of_getElem? (i := 1080) (by decide +kernel)⟩
theorem lw_p21 : lw_okq (⟨"ChairOnTheRoadModel", "readNumbers", "(II)V"⟩, 35) := ⟨⟨by decide +kernel, by decide +kernel⟩, List.mem_of_getElem? (i := 947) (by decide +kernel), List.mem_of_getElem? (i := 1086) (by decide +kernel), List.mem_of_getElem? (i := 1087) (by decide +kernel)⟩
theorem lw_p22 : lw_okq (⟨"ChairOnTheRoadModel", "readDigits", "(I)I"⟩, 35) := ⟨⟨by decide +kernel, by decide +kernel⟩, List.mem_of_getElem? (i := 947) (by decide +kernel), List.mem_of_getElem? (i := 1090) (by decide +kernel), List.mem_of_getElem? (i := 1091) (by decide +kernel)⟩
theorem lw_p23 : lw_okq (⟨"ChairOnTheRoadModel", "think", "()V"⟩, 35) := ⟨⟨by decide +kernel, by decide +kernel⟩, List.mem_of_getElem? (i := 947) (by decide +kernel), List.mem_of_getElem? (i := 1096) (by decide +kernel), List.mem_of_getElem? (i := 1097) (by decide +kernel)⟩
theorem lw_p24 : lw_okq (⟨"ChairOnTheRoadModel", "carryAll", "([IZ)V"⟩, 35) := ⟨⟨by decide +kernel, by decide +kernel⟩, List.mem_of_getElem? (i := 947) (by decide +kernel), List.mem_of_getElem? (i := 1100) (by decide +kernel), List.mem_of_getElem? (i := 1101) (by decide +kernel)⟩
theorem lw_p25 : lw_okq (⟨"ChairOnTheRoadModel", "carry", "(I)I"⟩, 35) := ⟨⟨by decide +kernel, by decide +kernel⟩, List.mem_of_getElem? (i := 947) (by decide +kernel), List.mem_of_getElem? (i := 1104) (by decide +kernel), List.mem_of_getElem? (i := 1105) (by decide +kernel)⟩
theorem lw_p26 : lw_okq (⟨"ChairOnTheRoadModel", "comesTold", "(I)Z"⟩, 35) := ⟨⟨by decide +kernel, by decide +kernel⟩, List.mem_of_getElem? (i := 947) (by decide +kernel), List.mem_of_getElem? (i := 1108) (by decide +kernel), List.mem_of_getElem? (i := 1109) (by decide +kernel)⟩
theorem lw_p27 : lw_okq (⟨"ChairOnTheRoadModel", "oneComes", "(IIII)Z"⟩, 35) := ⟨⟨by decide +kernel, by decide +kernel⟩, List.mem_of_getElem? (i := 947) (by decide +kernel), List.mem_of_getElem? (i := 1112) (by decide +kernel), List.mem_of_getElem? (i := 1113) (by decide +kernel)⟩
theorem lw_p28 : lw_okq (⟨"ChairOnTheRoadModel", "isOne", "(I)Z"⟩, 35) := ⟨⟨by decide +kernel, by decide +kernel⟩, List.mem_of_getElem? (i := 947) (by decide +kernel), List.mem_of_getElem? (i := 1120) (by decide +kernel), List.mem_of_getElem? (i := 1121) (by decide +kernel)⟩
theorem lw_p29 : lw_okq (⟨"ChairOnTheRoadModel", "daysCome", "(I)Z"⟩, 35) := ⟨⟨by decide +kernel, by decide +kernel⟩, List.mem_of_getElem? (i := 947) (by decide +kernel), List.mem_of_getElem? (i := 1124) (by decide +kernel), List.mem_of_getElem? (i := 1125) (by decide +kernel)⟩
theorem lw_p30 : lw_okq (⟨"ChairOnTheRoadModel", "goDays", "(I)V"⟩, 35) := ⟨⟨by decide +kernel, by decide +kernel⟩, List.mem_of_getElem? (i := 947) (by decide +kernel), List.mem_of_getElem? (i := 1129) (by decide +kernel), List.mem_of_getElem? (i := 1130) (by decide +kernel)⟩
theorem lw_p31 : lw_okq (⟨"ChairOnTheRoadModel", "dayBy", "(Z)V"⟩, 35) := ⟨⟨by decide +kernel, by decide +kernel⟩, List.mem_of_getElem? (i := 947) (by decide +kernel), List.mem_of_getElem? (i := 1133) (by decide +kernel), List.mem_of_getElem? (i := 1134) (by decide +kernel)⟩
def lw_privs_2 : List (MethodName × Nat) := [(⟨"ChairOnTheRoad", "spreadOneDay", "(I)V"⟩, 12), (⟨"java/lang/Throwable", "fillInStackTrace", "(I)Ljava/lang/Throwable;"⟩, 6), (⟨"ChairOnTheRoadModel", "wrongRow", "(I)I"⟩, 35), (⟨"ChairOnTheRoadModel", "readStatement", "()V"⟩, 35), (⟨"ChairOnTheRoadModel", "here", "()I"⟩, 35), (⟨"ChairOnTheRoadModel", "readNumbers", "(II)V"⟩, 35), (⟨"ChairOnTheRoadModel", "readDigits", "(I)I"⟩, 35), (⟨"ChairOnTheRoadModel", "think", "()V"⟩, 35), (⟨"ChairOnTheRoadModel", "carryAll", "([IZ)V"⟩, 35), (⟨"ChairOnTheRoadModel", "carry", "(I)I"⟩, 35), (⟨"ChairOnTheRoadModel", "comesTold", "(I)Z"⟩, 35), (⟨"ChairOnTheRoadModel", "oneComes", "(IIII)Z"⟩, 35), (⟨"ChairOnTheRoadModel", "isOne", "(I)Z"⟩, 35), (⟨"ChairOnTheRoadModel", "daysCome", "(I)Z"⟩, 35), (⟨"ChairOnTheRoadModel", "goDays", "(I)V"⟩, 35), (⟨"ChairOnTheRoadModel", "dayBy", "(Z)V"⟩, 35)]
theorem lw_r2 : ∀ q ∈ lw_privs_2, lw_okq q := List.forall_mem_cons.mpr ⟨lw_p16, List.forall_mem_cons.mpr ⟨lw_p17, List.forall_mem_cons.mpr ⟨lw_p18, List.forall_mem_cons.mpr ⟨lw_p19, List.forall_mem_cons.mpr ⟨lw_p20, List.forall_mem_cons.mpr ⟨lw_p21, List.forall_mem_cons.mpr ⟨lw_p22, List.forall_mem_cons.mpr ⟨lw_p23, List.forall_mem_cons.mpr ⟨lw_p24, List.forall_mem_cons.mpr ⟨lw_p25, List.forall_mem_cons.mpr ⟨lw_p26, List.forall_mem_cons.mpr ⟨lw_p27, List.forall_mem_cons.mpr ⟨lw_p28, List.forall_mem_cons.mpr ⟨lw_p29, List.forall_mem_cons.mpr ⟨lw_p30, List.forall_mem_cons.mpr ⟨lw_p31, fun _ h => absurd h List.not_mem_nil⟩⟩⟩⟩⟩⟩⟩⟩⟩⟩⟩⟩⟩⟩⟩⟩
theorem lw_p32 : lw_okq (⟨"ChairOnTheRoadModel", "isAble", "(I)Z"⟩, 35) := ⟨⟨by decide +kernel, by decide +kernel⟩, List.mem_of_getElem? (i := 947) (by decide +kernel), List.mem_of_getElem? (i := 1137) (by decide +kernel), List.mem_of_getElem? (i := 1138) (by decide +kernel)⟩
theorem lw_p33 : lw_okq (⟨"ChairOnTheRoadModel", "isFetching", "(I)Z"⟩, 35) := ⟨⟨by decide +kernel, by decide +kernel⟩, List.mem_of_getElem? (i := 947) (by decide +kernel), List.mem_of_getElem? (i := 1141) (by decide +kernel), List.mem_of_getElem? (i := 1142) (by decide +kernel)⟩
theorem lw_p34 : lw_okq (⟨"ChairOnTheRoadModel", "wayOf", "(II)I"⟩, 35) := ⟨⟨by decide +kernel, by decide +kernel⟩, List.mem_of_getElem? (i := 947) (by decide +kernel), List.mem_of_getElem? (i := 1145) (by decide +kernel), List.mem_of_getElem? (i := 1146) (by decide +kernel)⟩
theorem lw_p35 : lw_okq (⟨"ChairOnTheRoadModel", "goesOf", "(I)I"⟩, 35) := ⟨⟨by decide +kernel, by decide +kernel⟩, List.mem_of_getElem? (i := 947) (by decide +kernel), List.mem_of_getElem? (i := 1155) (by decide +kernel), List.mem_of_getElem? (i := 1156) (by decide +kernel)⟩
theorem lw_p36 : lw_okq (⟨"ChairOnTheRoadModel", "bringsOf", "(I)I"⟩, 35) := ⟨⟨by decide +kernel, by decide +kernel⟩, List.mem_of_getElem? (i := 947) (by decide +kernel), List.mem_of_getElem? (i := 1159) (by decide +kernel), List.mem_of_getElem? (i := 1160) (by decide +kernel)⟩
theorem lw_p37 : lw_okq (⟨"ChairOnTheRoadModel", "isNodding", "(I)Z"⟩, 35) := ⟨⟨by decide +kernel, by decide +kernel⟩, List.mem_of_getElem? (i := 947) (by decide +kernel), List.mem_of_getElem? (i := 1163) (by decide +kernel), List.mem_of_getElem? (i := 1164) (by decide +kernel)⟩
theorem lw_p38 : lw_okq (⟨"ChairOnTheRoadModel", "eatsOf", "(I)I"⟩, 35) := ⟨⟨by decide +kernel, by decide +kernel⟩, List.mem_of_getElem? (i := 947) (by decide +kernel), List.mem_of_getElem? (i := 1167) (by decide +kernel), List.mem_of_getElem? (i := 1168) (by decide +kernel)⟩
theorem lw_p39 : lw_okq (⟨"ChairOnTheRoadModel", "again", "()V"⟩, 35) := ⟨⟨by decide +kernel, by decide +kernel⟩, List.mem_of_getElem? (i := 947) (by decide +kernel), List.mem_of_getElem? (i := 1171) (by decide +kernel), List.mem_of_getElem? (i := 1172) (by decide +kernel)⟩
theorem lw_p40 : lw_okq (⟨"ChairOnTheRoadModel", "wrongKept", "(I)I"⟩, 35) := ⟨⟨by decide +kernel, by decide +kernel⟩, List.mem_of_getElem? (i := 947) (by decide +kernel), List.mem_of_getElem? (i := 1191) (by decide +kernel), List.mem_of_getElem? (i := 1192) (by decide +kernel)⟩
theorem lw_p41 : lw_okq (⟨"ChairOnTheRoadModel", "allStock", "()I"⟩, 35) := ⟨⟨by decide +kernel, by decide +kernel⟩, List.mem_of_getElem? (i := 947) (by decide +kernel), List.mem_of_getElem? (i := 1222) (by decide +kernel), List.mem_of_getElem? (i := 1223) (by decide +kernel)⟩
theorem lw_p42 : lw_okq (⟨"ChairOnTheRoadModel", "ableBits", "()I"⟩, 35) := ⟨⟨by decide +kernel, by decide +kernel⟩, List.mem_of_getElem? (i := 947) (by decide +kernel), List.mem_of_getElem? (i := 1231) (by decide +kernel), List.mem_of_getElem? (i := 1232) (by decide +kernel)⟩
theorem lw_p43 : lw_okq (⟨"ChairOnTheRoadModel", "hungryIn", "(I)I"⟩, 35) := ⟨⟨by decide +kernel, by decide +kernel⟩, List.mem_of_getElem? (i := 947) (by decide +kernel), List.mem_of_getElem? (i := 1248) (by decide +kernel), List.mem_of_getElem? (i := 1249) (by decide +kernel)⟩
theorem lw_p44 : lw_okq (⟨"ChairOnTheRoadModel", "allWays", "()I"⟩, 35) := ⟨⟨by decide +kernel, by decide +kernel⟩, List.mem_of_getElem? (i := 947) (by decide +kernel), List.mem_of_getElem? (i := 1264) (by decide +kernel), List.mem_of_getElem? (i := 1265) (by decide +kernel)⟩
theorem lw_p45 : lw_okq (⟨"ChairOnTheRoadModel", "layMatch", "()V"⟩, 35) := ⟨⟨by decide +kernel, by decide +kernel⟩, List.mem_of_getElem? (i := 947) (by decide +kernel), List.mem_of_getElem? (i := 1288) (by decide +kernel), List.mem_of_getElem? (i := 1289) (by decide +kernel)⟩
theorem lw_p46 : lw_okq (⟨"ChairOnTheRoadModel", "matchOf", "(II)I"⟩, 35) := ⟨⟨by decide +kernel, by decide +kernel⟩, List.mem_of_getElem? (i := 947) (by decide +kernel), List.mem_of_getElem? (i := 1296) (by decide +kernel), List.mem_of_getElem? (i := 1297) (by decide +kernel)⟩
theorem lw_p47 : lw_okq (⟨"ChairOnTheRoadModel", "hungryMany", "()I"⟩, 35) := ⟨⟨by decide +kernel, by decide +kernel⟩, List.mem_of_getElem? (i := 947) (by decide +kernel), List.mem_of_getElem? (i := 1304) (by decide +kernel), List.mem_of_getElem? (i := 1305) (by decide +kernel)⟩
def lw_privs_3 : List (MethodName × Nat) := [(⟨"ChairOnTheRoadModel", "isAble", "(I)Z"⟩, 35), (⟨"ChairOnTheRoadModel", "isFetching", "(I)Z"⟩, 35), (⟨"ChairOnTheRoadModel", "wayOf", "(II)I"⟩, 35), (⟨"ChairOnTheRoadModel", "goesOf", "(I)I"⟩, 35), (⟨"ChairOnTheRoadModel", "bringsOf", "(I)I"⟩, 35), (⟨"ChairOnTheRoadModel", "isNodding", "(I)Z"⟩, 35), (⟨"ChairOnTheRoadModel", "eatsOf", "(I)I"⟩, 35), (⟨"ChairOnTheRoadModel", "again", "()V"⟩, 35), (⟨"ChairOnTheRoadModel", "wrongKept", "(I)I"⟩, 35), (⟨"ChairOnTheRoadModel", "allStock", "()I"⟩, 35), (⟨"ChairOnTheRoadModel", "ableBits", "()I"⟩, 35), (⟨"ChairOnTheRoadModel", "hungryIn", "(I)I"⟩, 35), (⟨"ChairOnTheRoadModel", "allWays", "()I"⟩, 35), (⟨"ChairOnTheRoadModel", "layMatch", "()V"⟩, 35), (⟨"ChairOnTheRoadModel", "matchOf", "(II)I"⟩, 35), (⟨"ChairOnTheRoadModel", "hungryMany", "()I"⟩, 35)]
theorem lw_r3 : ∀ q ∈ lw_privs_3, lw_okq q := List.forall_mem_cons.mpr ⟨lw_p32, List.forall_mem_cons.mpr ⟨lw_p33, List.forall_mem_cons.mpr ⟨lw_p34, List.forall_mem_cons.mpr ⟨lw_p35, List.forall_mem_cons.mpr ⟨lw_p36, List.forall_mem_cons.mpr ⟨lw_p37, List.forall_mem_cons.mpr ⟨lw_p38, List.forall_mem_cons.mpr ⟨lw_p39, List.forall_mem_cons.mpr ⟨lw_p40, List.forall_mem_cons.mpr ⟨lw_p41, List.forall_mem_cons.mpr ⟨lw_p42, List.forall_mem_cons.mpr ⟨lw_p43, List.forall_mem_cons.mpr ⟨lw_p44, List.forall_mem_cons.mpr ⟨lw_p45, List.forall_mem_cons.mpr ⟨lw_p46, List.forall_mem_cons.mpr ⟨lw_p47, fun _ h => absurd h List.not_mem_nil⟩⟩⟩⟩⟩⟩⟩⟩⟩⟩⟩⟩⟩⟩⟩⟩
theorem lw_p48 : lw_okq (⟨"ChairOnTheRoadModel", "chainOf", "(I)I"⟩, 35) := ⟨⟨by decide +kernel, by decide +kernel⟩, List.mem_of_getElem? (i := 947) (by decide +kernel), List.mem_of_getElem? (i := 1316) (by decide +kernel), List.mem_of_getElem? (i := 1317) (by decide +kernel)⟩
theorem lw_p49 : lw_okq (⟨"ChairOnTheRoadModel", "frontierTwos", "()I"⟩, 35) := ⟨⟨by decide +kernel, by decide +kernel⟩, List.mem_of_getElem? (i := 947) (by decide +kernel), List.mem_of_getElem? (i := 1320) (by decide +kernel), List.mem_of_getElem? (i := 1321) (by decide +kernel)⟩
theorem lw_p50 : lw_okq (⟨"ChairOnTheRoadModel", "isRow", "(II)Z"⟩, 35) := ⟨⟨by decide +kernel, by decide +kernel⟩, List.mem_of_getElem? (i := 947) (by decide +kernel), List.mem_of_getElem? (i := 1333) (by decide +kernel), List.mem_of_getElem? (i := 1334) (by decide +kernel)⟩
theorem lw_p51 : lw_okq (⟨"ChairOnTheRoadModel", "isSkipped", "(II)Z"⟩, 35) := ⟨⟨by decide +kernel, by decide +kernel⟩, List.mem_of_getElem? (i := 947) (by decide +kernel), List.mem_of_getElem? (i := 1337) (by decide +kernel), List.mem_of_getElem? (i := 1338) (by decide +kernel)⟩
theorem lw_p52 : lw_okq (⟨"ChairOnTheRoadModel", "drawBelow", "(I)I"⟩, 35) := ⟨⟨by decide +kernel, by decide +kernel⟩, List.mem_of_getElem? (i := 947) (by decide +kernel), List.mem_of_getElem? (i := 1384) (by decide +kernel), List.mem_of_getElem? (i := 1385) (by decide +kernel)⟩
def lw_privs_4 : List (MethodName × Nat) := [(⟨"ChairOnTheRoadModel", "chainOf", "(I)I"⟩, 35), (⟨"ChairOnTheRoadModel", "frontierTwos", "()I"⟩, 35), (⟨"ChairOnTheRoadModel", "isRow", "(II)Z"⟩, 35), (⟨"ChairOnTheRoadModel", "isSkipped", "(II)Z"⟩, 35), (⟨"ChairOnTheRoadModel", "drawBelow", "(I)I"⟩, 35)]
theorem lw_r4 : ∀ q ∈ lw_privs_4, lw_okq q := List.forall_mem_cons.mpr ⟨lw_p48, List.forall_mem_cons.mpr ⟨lw_p49, List.forall_mem_cons.mpr ⟨lw_p50, List.forall_mem_cons.mpr ⟨lw_p51, List.forall_mem_cons.mpr ⟨lw_p52, fun _ h => absurd h List.not_mem_nil⟩⟩⟩⟩⟩
def lw_privs : List (MethodName × Nat) := lw_privs_1 ++ (lw_privs_2 ++ (lw_privs_3 ++ (lw_privs_4)))
def lw_tbl : List Cond := k2_sels lw_privs ++ tables_1
theorem lw_privs_ok : ∀ q ∈ lw_privs, lw_okq q := by
  show ∀ q ∈ lw_privs_1 ++ (lw_privs_2 ++ (lw_privs_3 ++ (lw_privs_4))), lw_okq q
  exact List.forall_mem_append.mpr ⟨lw_r1, List.forall_mem_append.mpr ⟨lw_r2, List.forall_mem_append.mpr ⟨lw_r3, lw_r4⟩⟩⟩
/-- the words that stay true while the tables warm: one list for every method -/
def zg_tbl : List Cond := lw_tbl.filter goodWord
theorem zg_mem {w : Cond} (h : w ∈ lw_tbl) (g : goodWord w = true) : w ∈ zg_tbl := List.mem_filter.mpr ⟨h, g⟩
theorem zg_good {ws : List Cond} (hm : ∀ w ∈ ws, w ∈ zg_tbl) : GoodIn zg_tbl ws := fun w hw => ⟨hm w hw, good_of_word (List.mem_filter.mp (hm w hw)).2⟩
/-- links to a nest mate's private member: these stay true too, but by laws of their own -/
def zn_is : Cond → Bool
  | .fieldLinkNest _ _ _ _ _ _ => true
  | .methodLinkNest _ _ _ _ => true
  | _ => false
def zn_tbl : List Cond := lw_tbl.filter zn_is
def zn_ok (U : State) : Prop := ∀ w ∈ zn_tbl, va_Nw w U
theorem zn_on {w : Cond} (h : zn_is w = true) : w.onTables = true := by cases w <;> first | rfl | (simp [zn_is] at h)
theorem zn_warm {s U : State} (hW : s.WarmedH U.vm) (h : zn_ok s) : zn_ok U := by
  intro w hw
  have h1 := (List.mem_filter.mp hw).2
  have h2 := h w hw
  cases w <;> first | exact va_Nw.warmF hW h2 | exact va_Nw.warmM hW h2 | (simp [zn_is] at h1)
theorem zn_same {s U : State} (e : s.vm = U.vm) (h : zn_ok s) : zn_ok U := fun w hw => va_Nw.same (zn_on (List.mem_filter.mp hw).2) e (h w hw)
theorem zn_use {w : Cond} {s : State} {args : Array Value} (h : zn_ok s) (hw : w ∈ zn_tbl) : w.before args s = true := va_Nw.use (zn_on (List.mem_filter.mp hw).2) (h w hw)
theorem zn_of {s : State} {args : Array Value} (h : ∀ w ∈ lw_tbl, w.before args s = true) : zn_ok s := fun w hw => va_Nw.of (zn_on (List.mem_filter.mp hw).2) (h w (List.mem_filter.mp hw).1)
theorem zn_at (i : Nat) {w : Cond} (h : lw_tbl[i]? = some w) (g : zn_is w = true) : w ∈ zn_tbl := List.mem_filter.mpr ⟨List.mem_of_getElem? h, g⟩
theorem zg_at (i : Nat) {w : Cond} (h : lw_tbl[i]? = some w) (g : goodWord w = true) : w ∈ zg_tbl := zg_mem (List.mem_of_getElem? h) g
end
section
def RX0 : String := "ChairOnTheRoad$Army"
def TX0 : u_T := fun k => match k with
  | _ => ("", "", "", false)
def tyX0 : Nat → FieldType := fun k => match k with
  | _ => .int
theorem nmX0 : ∀ a, a < 0 → ∀ b, b < 0 → a ≠ b → (TX0 a).2.1 ≠ (TX0 b).2.1 := by decide +kernel
theorem tyX0_ok : ∀ k, k < 0 → parseFieldDescriptor (TX0 k).2.2.1 = some (tyX0 k) := by decide +kernel
def RX1 : String := "ChairOnTheRoad$Baker"
def TX1 : u_T := fun k => match k with
  | _ => ("", "", "", false)
def tyX1 : Nat → FieldType := fun k => match k with
  | _ => .int
theorem nmX1 : ∀ a, a < 0 → ∀ b, b < 0 → a ≠ b → (TX1 a).2.1 ≠ (TX1 b).2.1 := by decide +kernel
theorem tyX1_ok : ∀ k, k < 0 → parseFieldDescriptor (TX1 k).2.2.1 = some (tyX1 k) := by decide +kernel
def RX2 : String := "ChairOnTheRoad$Bishop"
def TX2 : u_T := fun k => match k with
  | _ => ("", "", "", false)
def tyX2 : Nat → FieldType := fun k => match k with
  | _ => .int
theorem nmX2 : ∀ a, a < 0 → ∀ b, b < 0 → a ≠ b → (TX2 a).2.1 ≠ (TX2 b).2.1 := by decide +kernel
theorem tyX2_ok : ∀ k, k < 0 → parseFieldDescriptor (TX2 k).2.2.1 = some (tyX2 k) := by decide +kernel
def RX3 : String := "ChairOnTheRoad$Doctor"
def TX3 : u_T := fun k => match k with
  | _ => ("", "", "", false)
def tyX3 : Nat → FieldType := fun k => match k with
  | _ => .int
theorem nmX3 : ∀ a, a < 0 → ∀ b, b < 0 → a ≠ b → (TX3 a).2.1 ≠ (TX3 b).2.1 := by decide +kernel
theorem tyX3_ok : ∀ k, k < 0 → parseFieldDescriptor (TX3 k).2.2.1 = some (tyX3 k) := by decide +kernel
def RX4 : String := "ChairOnTheRoad$Hearse"
def TX4 : u_T := fun k => match k with
  | _ => ("", "", "", false)
def tyX4 : Nat → FieldType := fun k => match k with
  | _ => .int
theorem nmX4 : ∀ a, a < 0 → ∀ b, b < 0 → a ≠ b → (TX4 a).2.1 ≠ (TX4 b).2.1 := by decide +kernel
theorem tyX4_ok : ∀ k, k < 0 → parseFieldDescriptor (TX4 k).2.2.1 = some (tyX4 k) := by decide +kernel
def RX5 : String := "ChairOnTheRoad$Hermit"
def TX5 : u_T := fun k => match k with
  | _ => ("", "", "", false)
def tyX5 : Nat → FieldType := fun k => match k with
  | _ => .int
theorem nmX5 : ∀ a, a < 0 → ∀ b, b < 0 → a ≠ b → (TX5 a).2.1 ≠ (TX5 b).2.1 := by decide +kernel
theorem tyX5_ok : ∀ k, k < 0 → parseFieldDescriptor (TX5 k).2.2.1 = some (tyX5 k) := by decide +kernel
def RX6 : String := "ChairOnTheRoad$Pedlar"
def TX6 : u_T := fun k => match k with
  | _ => ("", "", "", false)
def tyX6 : Nat → FieldType := fun k => match k with
  | _ => .int
theorem nmX6 : ∀ a, a < 0 → ∀ b, b < 0 → a ≠ b → (TX6 a).2.1 ≠ (TX6 b).2.1 := by decide +kernel
theorem tyX6_ok : ∀ k, k < 0 → parseFieldDescriptor (TX6 k).2.2.1 = some (tyX6 k) := by decide +kernel
def RX7 : String := "ChairOnTheRoad$Province"
def TX7 : u_T := fun k => match k with
  | 0 => ("ChairOnTheRoad$Province", "kinds", "[LChairOnTheRoad$Village;", true)
  | 1 => ("ChairOnTheRoad$Province", "kind", "[I", true)
  | 2 => ("ChairOnTheRoad$Province", "figure", "[I", true)
  | 3 => ("ChairOnTheRoad$Province", "place", "[I", true)
  | 4 => ("ChairOnTheRoad$Province", "from", "[I", true)
  | 5 => ("ChairOnTheRoad$Province", "stock", "[I", true)
  | 6 => ("ChairOnTheRoad$Province", "goes", "[I", true)
  | 7 => ("ChairOnTheRoad$Province", "brings", "[I", true)
  | 8 => ("ChairOnTheRoad$Province", "eats", "[I", true)
  | 9 => ("ChairOnTheRoad$Province", "villages", "I", false)
  | 10 => ("ChairOnTheRoad$Province", "chair", "I", false)
  | 11 => ("ChairOnTheRoad$Province", "step", "I", false)
  | 12 => ("ChairOnTheRoad$Province", "home", "I", false)
  | 13 => ("ChairOnTheRoad$Province", "nods", "I", false)
  | _ => ("ChairOnTheRoad$Province", "day", "I", false)
def tyX7 : Nat → FieldType := fun k => match k with
  | 0 => .array (.object "ChairOnTheRoad$Village")
  | 1 => .array .int
  | 2 => .array .int
  | 3 => .array .int
  | 4 => .array .int
  | 5 => .array .int
  | 6 => .array .int
  | 7 => .array .int
  | 8 => .array .int
  | 9 => .int
  | 10 => .int
  | 11 => .int
  | 12 => .int
  | 13 => .int
  | _ => .int
theorem nmX7 : ∀ a, a < 15 → ∀ b, b < 15 → a ≠ b → (TX7 a).2.1 ≠ (TX7 b).2.1 := by decide +kernel
theorem tyX7_ok : ∀ k, k < 15 → parseFieldDescriptor (TX7 k).2.2.1 = some (tyX7 k) := by decide +kernel
def RX8 : String := "ChairOnTheRoad$Shelf"
def TX8 : u_T := fun k => match k with
  | 0 => ("ChairOnTheRoad$Shelf", "holds", "I", false)
  | 1 => ("ChairOnTheRoad$Shelf", "kind", "I", false)
  | 2 => ("ChairOnTheRoad$Shelf", "figure", "I", false)
  | 3 => ("ChairOnTheRoad$Shelf", "sort", "I", false)
  | 4 => ("ChairOnTheRoad$Shelf", "length", "I", false)
  | _ => ("ChairOnTheRoad$Shelf", "cells", "[I", true)
def tyX8 : Nat → FieldType := fun k => match k with
  | 0 => .int
  | 1 => .int
  | 2 => .int
  | 3 => .int
  | 4 => .int
  | _ => .array .int
theorem nmX8 : ∀ a, a < 6 → ∀ b, b < 6 → a ≠ b → (TX8 a).2.1 ≠ (TX8 b).2.1 := by decide +kernel
theorem tyX8_ok : ∀ k, k < 6 → parseFieldDescriptor (TX8 k).2.2.1 = some (tyX8 k) := by decide +kernel
def RX9 : String := "ChairOnTheRoad$Village"
def TX9 : u_T := fun k => match k with
  | _ => ("", "", "", false)
def tyX9 : Nat → FieldType := fun k => match k with
  | _ => .int
theorem nmX9 : ∀ a, a < 0 → ∀ b, b < 0 → a ≠ b → (TX9 a).2.1 ≠ (TX9 b).2.1 := by decide +kernel
theorem tyX9_ok : ∀ k, k < 0 → parseFieldDescriptor (TX9 k).2.2.1 = some (tyX9 k) := by decide +kernel
def RX10 : String := "ChairOnTheRoad"
def TX10 : u_T := fun k => match k with
  | 0 => ("ChairOnTheRoad", "kinds", "[LChairOnTheRoad$Village;", true)
  | 1 => ("ChairOnTheRoad", "now", "LChairOnTheRoad$Province;", true)
  | 2 => ("ChairOnTheRoad", "mind", "LChairOnTheRoad$Province;", true)
  | 3 => ("ChairOnTheRoad", "image", "LChairOnTheRoad$Province;", true)
  | 4 => ("ChairOnTheRoad", "imageTaken", "Z", false)
  | 5 => ("ChairOnTheRoad", "shelves", "[LChairOnTheRoad$Shelf;", true)
  | 6 => ("ChairOnTheRoad", "wayBetween", "[I", true)
  | 7 => ("ChairOnTheRoad", "leastRest", "[I", true)
  | 8 => ("ChairOnTheRoad", "payOfOne", "[I", true)
  | 9 => ("ChairOnTheRoad", "payOfOther", "[I", true)
  | 10 => ("ChairOnTheRoad", "chances", "[J", true)
  | _ => ("ChairOnTheRoad", "chancesNext", "[J", true)
def tyX10 : Nat → FieldType := fun k => match k with
  | 0 => .array (.object "ChairOnTheRoad$Village")
  | 1 => .object "ChairOnTheRoad$Province"
  | 2 => .object "ChairOnTheRoad$Province"
  | 3 => .object "ChairOnTheRoad$Province"
  | 4 => .boolean
  | 5 => .array (.object "ChairOnTheRoad$Shelf")
  | 6 => .array .int
  | 7 => .array .int
  | 8 => .array .int
  | 9 => .array .int
  | 10 => .array .long
  | _ => .array .long
theorem nmX10 : ∀ a, a < 12 → ∀ b, b < 12 → a ≠ b → (TX10 a).2.1 ≠ (TX10 b).2.1 := by decide +kernel
theorem tyX10_ok : ∀ k, k < 12 → parseFieldDescriptor (TX10 k).2.2.1 = some (tyX10 k) := by decide +kernel
def RX11 : String := "ChairOnTheRoadModel"
def TX11 : u_T := fun k => match k with
  | 0 => ("ChairOnTheRoadModel", "chair", "I", false)
  | 1 => ("ChairOnTheRoadModel", "step0", "I", false)
  | 2 => ("ChairOnTheRoadModel", "home0", "I", false)
  | 3 => ("ChairOnTheRoadModel", "many", "I", false)
  | 4 => ("ChairOnTheRoadModel", "kinds", "[I", true)
  | 5 => ("ChairOnTheRoadModel", "figures", "[I", true)
  | 6 => ("ChairOnTheRoadModel", "places", "[I", true)
  | 7 => ("ChairOnTheRoadModel", "froms", "[I", true)
  | 8 => ("ChairOnTheRoadModel", "stocks0", "[I", true)
  | 9 => ("ChairOnTheRoadModel", "nods", "I", false)
  | 10 => ("ChairOnTheRoadModel", "today", "I", false)
  | 11 => ("ChairOnTheRoadModel", "holdsWhat", "[I", true)
  | 12 => ("ChairOnTheRoadModel", "keptKind", "[I", true)
  | 13 => ("ChairOnTheRoadModel", "keptFigure", "[I", true)
  | 14 => ("ChairOnTheRoadModel", "rowSort", "[I", true)
  | 15 => ("ChairOnTheRoadModel", "rowMany", "[I", true)
  | 16 => ("ChairOnTheRoadModel", "rows", "[J", true)
  | 17 => ("ChairOnTheRoadModel", "thrown", "I", false)
  | 18 => ("ChairOnTheRoadModel", "reading", "I", false)
  | 19 => ("ChairOnTheRoadModel", "place", "I", false)
  | 20 => ("ChairOnTheRoadModel", "isBad", "Z", false)
  | 21 => ("ChairOnTheRoadModel", "statements", "I", false)
  | 22 => ("ChairOnTheRoadModel", "placeIn", "[I", true)
  | 23 => ("ChairOnTheRoadModel", "letterOf", "[I", true)
  | 24 => ("ChairOnTheRoadModel", "told", "[I", true)
  | 25 => ("ChairOnTheRoadModel", "kept", "[I", true)
  | 26 => ("ChairOnTheRoadModel", "imaged", "[I", true)
  | 27 => ("ChairOnTheRoadModel", "hasImage", "Z", false)
  | 28 => ("ChairOnTheRoadModel", "place0", "I", false)
  | 29 => ("ChairOnTheRoadModel", "isTaking", "Z", false)
  | 30 => ("ChairOnTheRoadModel", "keptIn", "[I", false)
  | 31 => ("ChairOnTheRoadModel", "leastBy", "[I", true)
  | 32 => ("ChairOnTheRoadModel", "gains", "[I", true)
  | 33 => ("ChairOnTheRoadModel", "seed", "I", false)
  | _ => ("ChairOnTheRoadModel", "between", "[J", true)
def tyX11 : Nat → FieldType := fun k => match k with
  | 0 => .int
  | 1 => .int
  | 2 => .int
  | 3 => .int
  | 4 => .array .int
  | 5 => .array .int
  | 6 => .array .int
  | 7 => .array .int
  | 8 => .array .int
  | 9 => .int
  | 10 => .int
  | 11 => .array .int
  | 12 => .array .int
  | 13 => .array .int
  | 14 => .array .int
  | 15 => .array .int
  | 16 => .array .long
  | 17 => .int
  | 18 => .int
  | 19 => .int
  | 20 => .boolean
  | 21 => .int
  | 22 => .array .int
  | 23 => .array .int
  | 24 => .array .int
  | 25 => .array .int
  | 26 => .array .int
  | 27 => .boolean
  | 28 => .int
  | 29 => .boolean
  | 30 => .array .int
  | 31 => .array .int
  | 32 => .array .int
  | 33 => .int
  | _ => .array .long
theorem nmX11 : ∀ a, a < 35 → ∀ b, b < 35 → a ≠ b → (TX11 a).2.1 ≠ (TX11 b).2.1 := by decide +kernel
theorem tyX11_ok : ∀ k, k < 35 → parseFieldDescriptor (TX11 k).2.2.1 = some (tyX11 k) := by decide +kernel
abbrev vwCl : List vw_C := [(RX0, TX0, 0), (RX1, TX1, 0), (RX2, TX2, 0), (RX3, TX3, 0), (RX4, TX4, 0), (RX5, TX5, 0), (RX6, TX6, 0), (RX7, TX7, 15), (RX8, TX8, 6), (RX9, TX9, 0), (RX10, TX10, 12), (RX11, TX11, 35)]
end
section
/-! the abstract heap: ints and longs by address and slot; the layout of the 81 cells that the law makes is fixed -/
abbrev zHp : Type := (Nat → Nat → Int32) × (Nat → Nat → Int64)
abbrev zCS : Type := ClassId × ClassId × ClassId × ClassId
def zc_tys (c : zCS) : List (ClassId × FieldType) := [(c.1, .int), (c.2.1, .long), (c.2.2.1, .object "ChairOnTheRoad$Shelf"), (c.2.2.2, .object "ChairOnTheRoad$Village")]
/-- kind (0..11 an object of that class, 12 ints, 13 longs, 14 shelves, 15 villages) and length, by address -/
def zc_lay : List (Nat × Nat) := [(10, 0), (12, 49), (12, 128), (12, 4), (12, 4), (13, 12), (13, 12), (15, 8), (9, 0), (1, 0), (3, 0), (4, 0), (2, 0), (6, 0), (0, 0), (5, 0), (7, 0), (12, 7), (12, 7), (12, 7), (12, 7), (12, 7), (12, 7), (12, 7), (12, 7), (7, 0), (12, 7), (12, 7), (12, 7), (12, 7), (12, 7), (12, 7), (12, 7), (12, 7), (7, 0), (12, 7), (12, 7), (12, 7), (12, 7), (12, 7), (12, 7), (12, 7), (12, 7), (14, 8), (8, 0), (12, 100), (8, 0), (12, 100), (8, 0), (12, 100), (8, 0), (12, 100), (8, 0), (12, 100), (8, 0), (12, 100), (8, 0), (12, 100), (8, 0), (12, 100), (11, 0), (12, 7), (12, 7), (12, 7), (12, 7), (12, 7), (12, 8), (12, 8), (12, 8), (12, 8), (12, 8), (13, 800), (12, 51), (12, 51), (12, 204), (12, 41), (12, 41), (12, 1024), (12, 8), (13, 100), (13, 1)]
def zc_slots : Nat → List (Nat × Nat)
  | 7 => [(1, 7), (2, 1), (2, 2), (2, 3), (2, 4), (2, 5), (2, 6), (2, 7), (2, 8), (0, 0), (0, 0), (0, 0), (0, 0), (0, 0), (0, 0)]
  | 8 => [(0, 0), (0, 0), (0, 0), (0, 0), (0, 0), (2, 1)]
  | 10 => [(1, 7), (1, 16), (1, 25), (1, 34), (0, 0), (1, 43), (1, 1), (1, 2), (1, 3), (1, 4), (1, 5), (1, 6)]
  | 11 => [(0, 0), (0, 0), (0, 0), (0, 0), (1, 61), (1, 62), (1, 63), (1, 64), (1, 65), (0, 0), (0, 0), (1, 66), (1, 67), (1, 68), (1, 69), (1, 70), (1, 71), (0, 0), (0, 0), (0, 0), (0, 0), (0, 0), (1, 72), (1, 73), (1, 74), (1, 75), (1, 76), (0, 0), (0, 0), (0, 0), (3, 0), (1, 77), (1, 78), (0, 0), (1, 79)]
  | _ => []
def zc_val (B a : Nat) (f : Nat → Int32) (k : Nat) (d : Nat × Nat) : Value := match d.1 with
  | 0 => .int (f k)
  | 1 => .ref (B + d.2)
  | 2 => .ref (B + (a + d.2))
  | _ => if f k < 0 then .null else .ref (B + (f k).toNatClampNeg)
def zc_fields (B a : Nat) (f : Nat → Int32) (ds : List (Nat × Nat)) : List Value := ds.zipIdx.map (fun q => zc_val B a f q.2 q.1)
def zc_cell (c : zCS) (B a : Nat) (s : Nat × Nat) (f : Nat → Int32) (g : Nat → Int64) : va_E :=
  if s.1 = 12 then .inl (c.1, s.2, .inl f)
  else if s.1 = 13 then .inl (c.2.1, s.2, .inr (.inl g))
  else if s.1 = 14 then .inl (c.2.2.1, s.2, .inr (.inr (.inr (.inr (fun i => some (B + (a + 1 + 2 * i)))))))
  else if s.1 = 15 then .inl (c.2.2.2, s.2, .inr (.inr (.inr (.inr (fun i => some (B + (a + 1 + i)))))))
  else .inr (s.1, zc_fields B a f (zc_slots s.1))
def zc_wld (c : zCS) (B : Nat) (h : zHp) : va_W := (List.range 81).map (fun a => (B + a, zc_cell c B a (zc_lay.getD a (0, 0)) (h.1 a) (h.2 a)))
def zc_ui (h : zHp) (a k : Nat) (x : Int32) : zHp := (va_up h.1 a (upd (h.1 a) k x), h.2)
def zc_ul (h : zHp) (a k : Nat) (x : Int64) : zHp := (h.1, va_up h.2 a (vp_updL (h.2 a) k x))
def zc_ri (h : zHp) (a : Nat) (f : Nat → Int32) : zHp := (va_up h.1 a f, h.2)
def zc_rl (h : zHp) (a : Nat) (f : Nat → Int64) : zHp := (h.1, va_up h.2 a f)
def zc_ge (B : Nat) : Nat → Prop := fun q => B ≤ q
theorem zc_fields_get {B a k : Nat} {f : Nat → Int32} {ds : List (Nat × Nat)} {d : Nat × Nat} (h : ds[k]? = some d) : (zc_fields B a f ds)[k]? = some (zc_val B a f k d) := by
  simp [zc_fields, List.getElem?_map, List.getElem?_zipIdx, h]
theorem zc_fields_len {B a : Nat} {f : Nat → Int32} {ds : List (Nat × Nat)} : (zc_fields B a f ds).length = ds.length := by simp [zc_fields]
theorem zc_val_ne {B a k j : Nat} {f : Nat → Int32} {x : Int32} {d : Nat × Nat} (h : j ≠ k) : zc_val B a (upd f k x) j d = zc_val B a f j d := by
  have e : upd f k x j = f j := by simp [upd, h]
  simp only [zc_val, e]
theorem zc_fields_set {B a k : Nat} {f : Nat → Int32} {ds : List (Nat × Nat)} {d : Nat × Nat} {x : Int32} {v : Value} (h : ds[k]? = some d) (hv : zc_val B a (upd f k x) k d = v) : (zc_fields B a f ds).set k v = zc_fields B a (upd f k x) ds := by
  have hk : k < ds.length := (List.getElem?_eq_some_iff.mp h).1
  apply List.ext_getElem?
  intro j
  rw [List.getElem?_set]
  by_cases hj : k = j
  · subst hj
    rw [if_pos rfl, if_pos (by rw [zc_fields_len]; exact hk), zc_fields_get h, hv]
  · rw [if_neg hj]
    cases hd : ds[j]? with
    | none =>
      have e1 : (zc_fields B a f ds)[j]? = none := by simp [zc_fields, List.getElem?_map, List.getElem?_zipIdx, hd]
      have e2 : (zc_fields B a (upd f k x) ds)[j]? = none := by simp [zc_fields, List.getElem?_map, List.getElem?_zipIdx, hd]
      rw [e1, e2]
    | some d2 =>
      rw [zc_fields_get hd, zc_fields_get hd, zc_val_ne (fun q => hj q.symm)]
theorem zc_lay_len : zc_lay.length = 81 := rfl
theorem zc_lt {a : Nat} {s : Nat × Nat} (h : zc_lay[a]? = some s) : a < 81 := by
  have := (List.getElem?_eq_some_iff.mp h).1
  rwa [zc_lay_len] at this
theorem zc_wld_get {c : zCS} {B a : Nat} {h : zHp} {s : Nat × Nat} (hs : zc_lay[a]? = some s) : (zc_wld c B h)[a]? = some (B + a, zc_cell c B a s (h.1 a) (h.2 a)) := by
  have hlt := zc_lt hs
  simp [zc_wld, List.getElem?_map, List.getElem?_range, hlt, List.getD, hs]
theorem zc_wld_len {c : zCS} {B : Nat} {h : zHp} : (zc_wld c B h).length = 81 := by simp [zc_wld]
theorem zc_wld_at {c : zCS} {B k : Nat} {h : zHp} {q : Nat × va_E} (hq : (zc_wld c B h)[k]? = some q) : k < 81 ∧ q.1 = B + k := by
  have hk : k < 81 := by
    have := (List.getElem?_eq_some_iff.mp hq).1
    rwa [zc_wld_len] at this
  refine ⟨hk, ?_⟩
  simp [zc_wld, List.getElem?_map, List.getElem?_range, hk] at hq
  rw [← hq]
theorem zc_wld_D {c : zCS} {B : Nat} {h : zHp} : va_D (zc_ge B) (zc_wld c B h) := by
  refine ⟨fun i j p q hp hq e => ?_, fun k q hq => ?_⟩
  · have h1 := (zc_wld_at hp).2
    have h2 := (zc_wld_at hq).2
    omega
  · have h1 := (zc_wld_at hq).2
    show B ≤ q.1
    omega
theorem zc_wld_set {c : zCS} {B a : Nat} {h h2 : zHp} {s : Nat × Nat} {e : va_E} (hs : zc_lay[a]? = some s) (he : zc_cell c B a s (h2.1 a) (h2.2 a) = e) (ho : ∀ b, b ≠ a → h2.1 b = h.1 b ∧ h2.2 b = h.2 b) : (zc_wld c B h).set a (B + a, e) = zc_wld c B h2 := by
  have hlt := zc_lt hs
  apply List.ext_getElem?
  intro j
  rw [List.getElem?_set]
  by_cases hj : a = j
  · subst hj
    rw [if_pos rfl, if_pos (by rw [zc_wld_len]; exact hlt), zc_wld_get hs, he]
  · rw [if_neg hj]
    by_cases hj2 : j < 81
    · simp [zc_wld, List.getElem?_map, List.getElem?_range, hj2, (ho j (fun q => hj q.symm)).1, (ho j (fun q => hj q.symm)).2]
    · simp [zc_wld, List.getElem?_map, List.getElem?_range, hj2]
theorem zc_ui_o {h : zHp} {a k : Nat} {x : Int32} : ∀ b, b ≠ a → (zc_ui h a k x).1 b = h.1 b ∧ (zc_ui h a k x).2 b = h.2 b := fun b hb => ⟨va_up_ne _ _ hb, rfl⟩
theorem zc_ul_o {h : zHp} {a k : Nat} {x : Int64} : ∀ b, b ≠ a → (zc_ul h a k x).1 b = h.1 b ∧ (zc_ul h a k x).2 b = h.2 b := fun b hb => ⟨rfl, va_up_ne _ _ hb⟩
theorem zc_ri_o {h : zHp} {a : Nat} {f : Nat → Int32} : ∀ b, b ≠ a → (zc_ri h a f).1 b = h.1 b ∧ (zc_ri h a f).2 b = h.2 b := fun b hb => ⟨va_up_ne _ _ hb, rfl⟩
theorem zc_rl_o {h : zHp} {a : Nat} {f : Nat → Int64} : ∀ b, b ≠ a → (zc_rl h a f).1 b = h.1 b ∧ (zc_rl h a f).2 b = h.2 b := fun b hb => ⟨rfl, va_up_ne _ _ hb⟩
theorem zc_ui_s {h : zHp} {a k : Nat} {x : Int32} : (zc_ui h a k x).1 a = upd (h.1 a) k x := va_up_self _ _ _
theorem zc_ul_s {h : zHp} {a k : Nat} {x : Int64} : (zc_ul h a k x).2 a = vp_updL (h.2 a) k x := va_up_self _ _ _
theorem zc_ri_s {h : zHp} {a : Nat} {f : Nat → Int32} : (zc_ri h a f).1 a = f := va_up_self _ _ _
theorem zc_rl_s {h : zHp} {a : Nat} {f : Nat → Int64} : (zc_rl h a f).2 a = f := va_up_self _ _ _

/-! methods, contexts, the judgement -/
/-- name, code, maxLocals, return type, frames below, words of locals below -/
abbrev zMI : Type := MethodName × ByteArray × Nat × Option FieldType × Nat × Nat
def zc_room (y : zMI) : Room := { frames := y.2.2.2.2.1, cells := 0, slots := 0, locals := y.2.2.2.2.2 }
def zc_ws (y : zMI) : List Cond := .code y.1 y.2.1 y.2.2.1 y.2.2.2.1 :: zg_tbl
def zc_tr (B : Nat) : Value → Value
  | .ref a => .ref (B + a)
  | v => v
theorem zc_tr_cat (B : Nat) (v : Value) : (zc_tr B v).category = v.category := by cases v <;> rfl
def zc_Cx (y : zMI) (p : Program) (s : State) (m : MethodId) (args : Array Value) (meth : Method) (cd : Code) : Prop :=
  p.tables.exec = Jvm.exec ∧ cd.code = y.2.1 ∧ meth.sig.returnType = y.2.2.2.1 ∧ cd.maxLocals = y.2.2.1 ∧ s.vm.findClass y.1.cls = some m.cls ∧ (∀ w ∈ zg_tbl, w.before args s = true) ∧ meth.locks = false ∧ zn_ok s
def zc_Rp (D : va_G) (c : zCS) (B : Nat) (h : zHp) (t : State) : Prop := va_P D vwCl (zc_wld c B h) t.heap ∧ va_K D vwCl (zc_tys c) t
def zc_Pr (D : va_G) (c : zCS) (B : Nat) (h : zHp) (t : State) : Prop := zc_Rp D c B h t ∧ zn_ok t
def zc_L (nL B : Nat) (ls : List (Option Value)) (ls0 : Array Slot) : Prop := ls0.size = nL ∧ lv_wf ls0 ∧ ∀ (n : Nat) (v : Value), ls[n]? = some (some v) → ls0[n]? = some (.val (zc_tr B v))
abbrev zRT : Type := va_G → zCS → Nat → Array Value → State → Outcome → State → Prop
def zc_mI (x : Int32 × zHp) : zRT := fun D c B => va_Qi (fun r h2 => r = x.1 ∧ h2 = x.2) (zc_Rp D c B) (zc_ge B)
def zc_mL (x : Int64 × zHp) : zRT := fun D c B => va_Ql (fun r h2 => r = x.1 ∧ h2 = x.2) (zc_Rp D c B) (zc_ge B)
def zc_mV (x : zHp) : zRT := fun D c B => va_Qv (fun h2 => h2 = x) (zc_Rp D c B) (zc_ge B)
def zc_W (y : zMI) (T : zRT) (pc : Nat) (ls : List (Option Value)) (st : List Value) (h : zHp) : Prop :=
  ∀ (l : Launch) (D : va_G) (c : zCS) (B : Nat) (p : Program) (e : Env) (s : State) (m : MethodId) (args : Array Value) (below : List Frame) (meth : Method) (cd : Code) (H : Heap) (locs : List Loc) (ls0 : Array Slot),
    zc_Cx y p s m args meth cd → va_P D vwCl (zc_wld c B h) H → va_K D vwCl (zc_tys c) s → va_S (zc_ge B) s.heap H locs → zc_L y.2.2.1 B ls ls0 →
    W p l e (zc_room y) s m args below meth cd H locs 0 0 (MQ below (T D c B) args s 0 0 (zc_ge B)) (F0 m pc ls0 (st.map (zc_tr B)))
/-- at pc, with these locals, this stack and this heap, the machine does what the residual o says, where o says something -/
def zc_G {ρ : Type} (y : zMI) (mk : ρ → zRT) (pc : Nat) (ls : List (Option Value)) (st : List Value) (h : zHp) (o : Option ρ) : Prop := ∀ r, o = some r → zc_W y (mk r) pc ls st h
/-- a method's contract: from these arguments and this heap it does T -/
def zc_Cn (y : zMI) (av : List Value) (h : zHp) (T : zRT) : Prop :=
  ∀ (l : Launch) (D : va_G) (c : zCS) (B : Nat), Met l y.1 (zc_ws y) (zc_room y) (va_Pc (av.map (zc_tr B)) (zc_Pr D c B h)) (T D c B) 0 0 (zc_ge B)
abbrev zc_ix (i : Int32) (n : Nat) : Prop := ¬ (i < 0 ∨ n ≤ i.toNatClampNeg)
abbrev zc_bo (v : Int32) : Prop := v = 0 ∨ v = 1
section ZC
variable {ρ α β : Type} {y : zMI} {mk : ρ → zRT} {pc : Nat} {ls : List (Option Value)} {st : List Value} {h : zHp} {o o1 o2 : Option ρ} {k2 : α → Option ρ} {q q1 q2 : Option α}
theorem zc_none : zc_G y mk pc ls st h (none : Option ρ) := fun r hr => nomatch hr
theorem zc_noneb : zc_G y mk pc ls st h ((none : Option α).bind k2) := fun r hr => nomatch hr
theorem zc_top (k : zc_G y mk pc ls st h (o.bind some)) : zc_G y mk pc ls st h o := fun r hr => k r (by rw [hr]; rfl)
theorem zc_assoc {k1 : β → Option α} {qb : Option β} (k : zc_G y mk pc ls st h (qb.bind (fun x => (k1 x).bind k2))) : zc_G y mk pc ls st h ((qb.bind k1).bind k2) := fun r hr => k r (by rw [← hr]; exact (Option.bind_assoc qb k1 k2).symm)
/-- a join: what comes behind it, for every value with which it is reached
-/
theorem zc_join {k1 : β → Option α} {qb : Option β} (pcJ : Nat) (lsJ : β → List (Option Value)) (stJ : β → List Value) (hJ : β → zHp)
    (J : ∀ v, zc_G y mk pcJ (lsJ v) (stJ v) (hJ v) ((k1 v).bind k2))
    (K : (∀ v, zc_G y mk pcJ (lsJ v) (stJ v) (hJ v) ((k1 v).bind k2)) → zc_G y mk pc ls st h (qb.bind (fun x => (k1 x).bind k2))) : zc_G y mk pc ls st h ((qb.bind k1).bind k2) := zc_assoc (K J)
theorem zc_guard {g : Prop} [Decidable g] (k : g → zc_G y mk pc ls st h (q.bind k2)) : zc_G y mk pc ls st h ((if g then q else none).bind k2) := by
  by_cases hg : g
  · rw [if_pos hg]; exact k hg
  · rw [if_neg hg]; exact zc_noneb
theorem zc_sw {g : Prop} [Decidable g] (k1 : g → zc_G y mk pc ls st h (q1.bind k2)) (k0 : ¬ g → zc_G y mk pc ls st h (q2.bind k2)) : zc_G y mk pc ls st h ((if g then q1 else q2).bind k2) := by
  by_cases hg : g
  · rw [if_pos hg]; exact k1 hg
  · rw [if_neg hg]; exact k0 hg
theorem zc_drop (n : Nat) (k : zc_G y mk pc (ls.set n none) st h o) : zc_G y mk pc ls st h o := by
  intro r hr l D c B p e s m args below meth cd H locs ls0 X hP hK hS hL
  refine k r hr l D c B p e s m args below meth cd H locs ls0 X hP hK hS ⟨hL.1, hL.2.1, fun i v hi => hL.2.2 i v ?_⟩
  rw [List.getElem?_set] at hi
  by_cases hn : n = i
  · rw [if_pos hn] at hi
    split at hi <;> simp at hi
  · rw [if_neg hn] at hi; exact hi
def zc_one (n : Nat) : Option Slot → Option (Nat × Value)
  | some (Slot.val v) => some (n, v)
  | _ => none
def zc_full (nL : Nat) (ls0 : Array Slot) : List (Nat × Value) := (List.range nL).filterMap (fun n => zc_one n ls0[n]?)
theorem zc_Lhas {nL B : Nat} {ls0 : Array Slot} (hL : zc_L nL B ls ls0) : lv_has ls0 nL (zc_full nL ls0) := by
  refine ⟨hL.1, hL.2.1, fun q hq => ?_⟩
  obtain ⟨n, -, hn⟩ := List.mem_filterMap.mp hq
  cases hs : ls0[n]? with
  | none => rw [hs] at hn; cases hn
  | some z =>
    rw [hs] at hn
    cases z with
    | val v => cases hn; exact hs
    | _ => cases hn
theorem zc_Lmem {nL B n : Nat} {v : Value} {ls0 : Array Slot} (hL : zc_L nL B ls ls0) (hn : ls[n]? = some (some v)) : (n, zc_tr B v) ∈ (zc_full nL ls0) := by
  have h1 := hL.2.2 n v hn
  have h2 : n < nL := by rw [← hL.1]; exact lv_lt h1
  exact List.mem_filterMap.mpr ⟨n, List.mem_range.mpr h2, by rw [h1]; rfl⟩
/-- the place below is no long -/
def zc_okS (ls : List (Option Value)) : Nat → Bool
  | 0 => true
  | n + 1 => match ls[n]? with
    | some (some v) => v.category == 1
    | _ => true
theorem zc_okS_at {n i : Nat} {v : Value} (h : zc_okS ls n = true) (hi : i + 1 = n) (hv : ls[i]? = some (some v)) : v.category = 1 := by
  subst hi
  simp only [zc_okS, hv] at h
  simpa using h
theorem zc_Lst1 {nL B i : Nat} {v : Value} {ls0 ls1 : Array Slot} (hL : zc_L nL B ls ls0) (ok : zc_okS ls i = true) (hi : i < ls.length)
    (h1 : lv_has ls1 nL ((i, zc_tr B v) :: (zc_full nL ls0).filter (fun q => !(q.1 == i) && !(q.1 + 1 == i && q.2.category == 2)))) : zc_L nL B (ls.set i (some v)) ls1 := by
  refine ⟨h1.1, h1.2.1, fun n w hn => ?_⟩
  rw [List.getElem?_set] at hn
  by_cases e : i = n
  · subst e
    rw [if_pos rfl, if_pos hi] at hn
    cases hn
    exact h1.2.2 _ List.mem_cons_self
  · rw [if_neg e] at hn
    refine h1.2.2 (n, zc_tr B w) (List.mem_cons_of_mem _ (List.mem_filter.mpr ⟨zc_Lmem hL hn, ?_⟩))
    have e2 : (n == i) = false := by simp; omega
    simp only [e2, Bool.not_false, Bool.true_and, Bool.not_eq_true', Bool.and_eq_false_iff, zc_tr_cat]
    by_cases e3 : n + 1 = i
    · right; rw [zc_okS_at ok e3 hn]; rfl
    · left; simpa using e3
theorem zc_Lst2 {nL B i : Nat} {v : Value} {ls0 ls1 : Array Slot} (hL : zc_L nL B ls ls0) (ok : zc_okS ls i = true) (hi : i < ls.length)
    (h1 : lv_has ls1 nL ((i, zc_tr B v) :: (zc_full nL ls0).filter (fun q => !(q.1 == i) && (!(q.1 == i + 1) && !(q.1 + 1 == i && q.2.category == 2))))) : zc_L nL B ((ls.set i (some v)).set (i + 1) none) ls1 := by
  refine ⟨h1.1, h1.2.1, fun n w hn => ?_⟩
  rw [List.getElem?_set] at hn
  by_cases e1 : i + 1 = n
  · rw [if_pos e1] at hn
    split at hn <;> simp at hn
  · rw [if_neg e1, List.getElem?_set] at hn
    by_cases e : i = n
    · subst e
      rw [if_pos rfl, if_pos hi] at hn
      cases hn
      exact h1.2.2 _ List.mem_cons_self
    · rw [if_neg e] at hn
      refine h1.2.2 (n, zc_tr B w) (List.mem_cons_of_mem _ (List.mem_filter.mpr ⟨zc_Lmem hL hn, ?_⟩))
      have e2 : (n == i) = false := by simp; omega
      have e4 : (n == i + 1) = false := by simp; omega
      simp only [e2, e4, Bool.not_false, Bool.true_and, Bool.not_eq_true', Bool.and_eq_false_iff, zc_tr_cat]
      by_cases e3 : n + 1 = i
      · right; rw [zc_okS_at ok e3 hn]; rfl
      · left; simpa using e3

theorem zc_iconst {n : Int} (v : Int32) (hd : decode y.2.1 pc = .ok (.iconst n, 1)) (hv : Int32.ofInt n = v) (k : zc_G y mk (pc + 1) ls (.int v :: st) h o) : zc_G y mk pc ls (st) h o := by
  intro r hr l D c B p e s m args below meth cd H locs ls0 X hP hK hS hL
  exact lv_iconst X.1 X.2.1 hd hv (k r hr l D c B p e s m args below meth cd H locs ls0 X hP hK hS hL)
theorem zc_bipush {n : Int} (v : Int32) (hd : decode y.2.1 pc = .ok (.bipush n, 2)) (hv : (Int8.ofInt n).toInt32 = v) (k : zc_G y mk (pc + 2) ls (.int v :: st) h o) : zc_G y mk pc ls (st) h o := by
  intro r hr l D c B p e s m args below meth cd H locs ls0 X hP hK hS hL
  exact lv_bipush X.1 X.2.1 hd hv (k r hr l D c B p e s m args below meth cd H locs ls0 X hP hK hS hL)
theorem zc_sipush {n : Int} (v : Int32) (hd : decode y.2.1 pc = .ok (.sipush n, 3)) (hv : (Int16.ofInt n).toInt32 = v) (k : zc_G y mk (pc + 3) ls (.int v :: st) h o) : zc_G y mk pc ls (st) h o := by
  intro r hr l D c B p e s m args below meth cd H locs ls0 X hP hK hS hL
  exact lv_sipush X.1 X.2.1 hd hv (k r hr l D c B p e s m args below meth cd H locs ls0 X hP hK hS hL)
theorem zc_lconst {n : Fin 2} (v : Int64) (hd : decode y.2.1 pc = .ok (.lconst n, 1)) (hv : Int64.ofNat (n : Nat) = v) (k : zc_G y mk (pc + 1) ls (.long v :: st) h o) : zc_G y mk pc ls (st) h o := by
  intro r hr l D c B p e s m args below meth cd H locs ls0 X hP hK hS hL
  exact lv_lconst X.1 X.2.1 hd hv (k r hr l D c B p e s m args below meth cd H locs ls0 X hP hK hS hL)
theorem zc_iload_n {kk : Fin 4} {i : Nat} {x : Int32} (hd : decode y.2.1 pc = .ok (.iload_n kk, 1)) (hi : (kk : Nat) = i) (hl : ls[i]? = some (some (.int x))) (k : zc_G y mk (pc + 1) ls (.int x :: st) h o) : zc_G y mk pc ls (st) h o := by
  intro r hr l D c B p e s m args below meth cd H locs ls0 X hP hK hS hL
  exact lv_iload_n X.1 X.2.1 hd hi (hL.2.2 i _ hl) (k r hr l D c B p e s m args below meth cd H locs ls0 X hP hK hS hL)
theorem zc_iload {i : Nat} {x : Int32} (hd : decode y.2.1 pc = .ok (.iload i, 2)) (hl : ls[i]? = some (some (.int x))) (k : zc_G y mk (pc + 2) ls (.int x :: st) h o) : zc_G y mk pc ls (st) h o := by
  intro r hr l D c B p e s m args below meth cd H locs ls0 X hP hK hS hL
  exact lv_iload X.1 X.2.1 hd (hL.2.2 i _ hl) (k r hr l D c B p e s m args below meth cd H locs ls0 X hP hK hS hL)
theorem zc_lload_n {kk : Fin 4} {i : Nat} {x : Int64} (hd : decode y.2.1 pc = .ok (.lload_n kk, 1)) (hi : (kk : Nat) = i) (hl : ls[i]? = some (some (.long x))) (k : zc_G y mk (pc + 1) ls (.long x :: st) h o) : zc_G y mk pc ls (st) h o := by
  intro r hr l D c B p e s m args below meth cd H locs ls0 X hP hK hS hL
  exact lv_lload_n X.1 X.2.1 hd hi (hL.2.2 i _ hl) (k r hr l D c B p e s m args below meth cd H locs ls0 X hP hK hS hL)
theorem zc_lload {i : Nat} {x : Int64} (hd : decode y.2.1 pc = .ok (.lload i, 2)) (hl : ls[i]? = some (some (.long x))) (k : zc_G y mk (pc + 2) ls (.long x :: st) h o) : zc_G y mk pc ls (st) h o := by
  intro r hr l D c B p e s m args below meth cd H locs ls0 X hP hK hS hL
  exact lv_lload X.1 X.2.1 hd (hL.2.2 i _ hl) (k r hr l D c B p e s m args below meth cd H locs ls0 X hP hK hS hL)
theorem zc_aload_n {kk : Fin 4} {i x : Nat} (hd : decode y.2.1 pc = .ok (.aload_n kk, 1)) (hi : (kk : Nat) = i) (hl : ls[i]? = some (some (.ref x))) (k : zc_G y mk (pc + 1) ls (.ref x :: st) h o) : zc_G y mk pc ls (st) h o := by
  intro r hr l D c B p e s m args below meth cd H locs ls0 X hP hK hS hL
  exact lv_aload_n X.1 X.2.1 hd hi (hL.2.2 i _ hl) (k r hr l D c B p e s m args below meth cd H locs ls0 X hP hK hS hL)
theorem zc_aload {i x : Nat} (hd : decode y.2.1 pc = .ok (.aload i, 2)) (hl : ls[i]? = some (some (.ref x))) (k : zc_G y mk (pc + 2) ls (.ref x :: st) h o) : zc_G y mk pc ls (st) h o := by
  intro r hr l D c B p e s m args below meth cd H locs ls0 X hP hK hS hL
  exact lv_aload X.1 X.2.1 hd (hL.2.2 i _ hl) (k r hr l D c B p e s m args below meth cd H locs ls0 X hP hK hS hL)
theorem zc_iadd {a b : Int32} (hd : decode y.2.1 pc = .ok (.iadd, 1)) (k : zc_G y mk (pc + 1) ls (.int (a + b) :: st) h o) : zc_G y mk pc ls (.int b :: .int a :: st) h o := by
  intro r hr l D c B p e s m args below meth cd H locs ls0 X hP hK hS hL
  exact lv_iadd X.1 X.2.1 hd (k r hr l D c B p e s m args below meth cd H locs ls0 X hP hK hS hL)
theorem zc_isub {a b : Int32} (hd : decode y.2.1 pc = .ok (.isub, 1)) (k : zc_G y mk (pc + 1) ls (.int (a - b) :: st) h o) : zc_G y mk pc ls (.int b :: .int a :: st) h o := by
  intro r hr l D c B p e s m args below meth cd H locs ls0 X hP hK hS hL
  exact lv_isub X.1 X.2.1 hd (k r hr l D c B p e s m args below meth cd H locs ls0 X hP hK hS hL)
theorem zc_imul {a b : Int32} (hd : decode y.2.1 pc = .ok (.imul, 1)) (k : zc_G y mk (pc + 1) ls (.int (a * b) :: st) h o) : zc_G y mk pc ls (.int b :: .int a :: st) h o := by
  intro r hr l D c B p e s m args below meth cd H locs ls0 X hP hK hS hL
  exact lv_imul X.1 X.2.1 hd (k r hr l D c B p e s m args below meth cd H locs ls0 X hP hK hS hL)
theorem zc_iand {a b : Int32} (hd : decode y.2.1 pc = .ok (.iand, 1)) (k : zc_G y mk (pc + 1) ls (.int (a &&& b) :: st) h o) : zc_G y mk pc ls (.int b :: .int a :: st) h o := by
  intro r hr l D c B p e s m args below meth cd H locs ls0 X hP hK hS hL
  exact lv_iand X.1 X.2.1 hd (k r hr l D c B p e s m args below meth cd H locs ls0 X hP hK hS hL)
theorem zc_ior {a b : Int32} (hd : decode y.2.1 pc = .ok (.ior, 1)) (k : zc_G y mk (pc + 1) ls (.int (a ||| b) :: st) h o) : zc_G y mk pc ls (.int b :: .int a :: st) h o := by
  intro r hr l D c B p e s m args below meth cd H locs ls0 X hP hK hS hL
  exact lv_ior X.1 X.2.1 hd (k r hr l D c B p e s m args below meth cd H locs ls0 X hP hK hS hL)
theorem zc_ixor {a b : Int32} (hd : decode y.2.1 pc = .ok (.ixor, 1)) (k : zc_G y mk (pc + 1) ls (.int (a ^^^ b) :: st) h o) : zc_G y mk pc ls (.int b :: .int a :: st) h o := by
  intro r hr l D c B p e s m args below meth cd H locs ls0 X hP hK hS hL
  exact lv_ixor X.1 X.2.1 hd (k r hr l D c B p e s m args below meth cd H locs ls0 X hP hK hS hL)
theorem zc_ishl {a b : Int32} (hd : decode y.2.1 pc = .ok (.ishl, 1)) (k : zc_G y mk (pc + 1) ls (.int (a <<< (b &&& 31)) :: st) h o) : zc_G y mk pc ls (.int b :: .int a :: st) h o := by
  intro r hr l D c B p e s m args below meth cd H locs ls0 X hP hK hS hL
  exact lv_ishl X.1 X.2.1 hd (k r hr l D c B p e s m args below meth cd H locs ls0 X hP hK hS hL)
theorem zc_ishr {a b : Int32} (hd : decode y.2.1 pc = .ok (.ishr, 1)) (k : zc_G y mk (pc + 1) ls (.int (a >>> (b &&& 31)) :: st) h o) : zc_G y mk pc ls (.int b :: .int a :: st) h o := by
  intro r hr l D c B p e s m args below meth cd H locs ls0 X hP hK hS hL
  exact lv_ishr X.1 X.2.1 hd (k r hr l D c B p e s m args below meth cd H locs ls0 X hP hK hS hL)
theorem zc_iushr {a b : Int32} (hd : decode y.2.1 pc = .ok (.iushr, 1)) (k : zc_G y mk (pc + 1) ls (.int ((a.toUInt32 >>> (b.toUInt32 &&& Int32.toUInt32 31)).toInt32) :: st) h o) : zc_G y mk pc ls (.int b :: .int a :: st) h o := by
  intro r hr l D c B p e s m args below meth cd H locs ls0 X hP hK hS hL
  exact lv_iushr X.1 X.2.1 hd rfl (k r hr l D c B p e s m args below meth cd H locs ls0 X hP hK hS hL)
theorem zc_ineg {a : Int32} (hd : decode y.2.1 pc = .ok (.ineg, 1)) (k : zc_G y mk (pc + 1) ls (.int (0 - a) :: st) h o) : zc_G y mk pc ls (.int a :: st) h o := by
  intro r hr l D c B p e s m args below meth cd H locs ls0 X hP hK hS hL
  exact lv_ineg X.1 X.2.1 hd (k r hr l D c B p e s m args below meth cd H locs ls0 X hP hK hS hL)
theorem zc_idiv {a b : Int32} (hd : decode y.2.1 pc = .ok (.idiv, 1)) (hne : ¬ b = 0) (k : zc_G y mk (pc + 1) ls (.int (a / b) :: st) h o) : zc_G y mk pc ls (.int b :: .int a :: st) h o := by
  intro r hr l D c B p e s m args below meth cd H locs ls0 X hP hK hS hL
  exact lv_idiv X.1 X.2.1 hd hne (k r hr l D c B p e s m args below meth cd H locs ls0 X hP hK hS hL)
theorem zc_irem {a b : Int32} (hd : decode y.2.1 pc = .ok (.irem, 1)) (hne : ¬ b = 0) (k : zc_G y mk (pc + 1) ls (.int (a - a / b * b) :: st) h o) : zc_G y mk pc ls (.int b :: .int a :: st) h o := by
  intro r hr l D c B p e s m args below meth cd H locs ls0 X hP hK hS hL
  exact lv_irem X.1 X.2.1 hd hne (k r hr l D c B p e s m args below meth cd H locs ls0 X hP hK hS hL)
theorem zc_ladd {a b : Int64} (hd : decode y.2.1 pc = .ok (.ladd, 1)) (k : zc_G y mk (pc + 1) ls (.long (a + b) :: st) h o) : zc_G y mk pc ls (.long b :: .long a :: st) h o := by
  intro r hr l D c B p e s m args below meth cd H locs ls0 X hP hK hS hL
  exact lv_ladd X.1 X.2.1 hd (k r hr l D c B p e s m args below meth cd H locs ls0 X hP hK hS hL)
theorem zc_lsub {a b : Int64} (hd : decode y.2.1 pc = .ok (.lsub, 1)) (k : zc_G y mk (pc + 1) ls (.long (a - b) :: st) h o) : zc_G y mk pc ls (.long b :: .long a :: st) h o := by
  intro r hr l D c B p e s m args below meth cd H locs ls0 X hP hK hS hL
  exact lv_lsub X.1 X.2.1 hd (k r hr l D c B p e s m args below meth cd H locs ls0 X hP hK hS hL)
theorem zc_lmul {a b : Int64} (hd : decode y.2.1 pc = .ok (.lmul, 1)) (k : zc_G y mk (pc + 1) ls (.long (a * b) :: st) h o) : zc_G y mk pc ls (.long b :: .long a :: st) h o := by
  intro r hr l D c B p e s m args below meth cd H locs ls0 X hP hK hS hL
  exact lv_lmul X.1 X.2.1 hd (k r hr l D c B p e s m args below meth cd H locs ls0 X hP hK hS hL)
theorem zc_ldiv {a b : Int64} (hd : decode y.2.1 pc = .ok (.ldiv, 1)) (hne : ¬ b = 0) (k : zc_G y mk (pc + 1) ls (.long (a / b) :: st) h o) : zc_G y mk pc ls (.long b :: .long a :: st) h o := by
  intro r hr l D c B p e s m args below meth cd H locs ls0 X hP hK hS hL
  exact lv_ldiv X.1 X.2.1 hd hne (k r hr l D c B p e s m args below meth cd H locs ls0 X hP hK hS hL)
theorem zc_lrem {a b : Int64} (hd : decode y.2.1 pc = .ok (.lrem, 1)) (hne : ¬ b = 0) (k : zc_G y mk (pc + 1) ls (.long (a - a / b * b) :: st) h o) : zc_G y mk pc ls (.long b :: .long a :: st) h o := by
  intro r hr l D c B p e s m args below meth cd H locs ls0 X hP hK hS hL
  exact lv_lrem X.1 X.2.1 hd hne (k r hr l D c B p e s m args below meth cd H locs ls0 X hP hK hS hL)
theorem zc_i2l {a : Int32} (hd : decode y.2.1 pc = .ok (.i2l, 1)) (k : zc_G y mk (pc + 1) ls (.long a.toInt64 :: st) h o) : zc_G y mk pc ls (.int a :: st) h o := by
  intro r hr l D c B p e s m args below meth cd H locs ls0 X hP hK hS hL
  exact lv_i2l X.1 X.2.1 hd rfl (k r hr l D c B p e s m args below meth cd H locs ls0 X hP hK hS hL)
theorem zc_l2i {a : Int64} (hd : decode y.2.1 pc = .ok (.l2i, 1)) (k : zc_G y mk (pc + 1) ls (.int a.toInt32 :: st) h o) : zc_G y mk pc ls (.long a :: st) h o := by
  intro r hr l D c B p e s m args below meth cd H locs ls0 X hP hK hS hL
  exact lv_l2i X.1 X.2.1 hd rfl (k r hr l D c B p e s m args below meth cd H locs ls0 X hP hK hS hL)
theorem zc_i2b {a : Int32} (hd : decode y.2.1 pc = .ok (.i2b, 1)) (k : zc_G y mk (pc + 1) ls (.int a.toInt8.toInt32 :: st) h o) : zc_G y mk pc ls (.int a :: st) h o := by
  intro r hr l D c B p e s m args below meth cd H locs ls0 X hP hK hS hL
  exact lv_i2b X.1 X.2.1 hd rfl (k r hr l D c B p e s m args below meth cd H locs ls0 X hP hK hS hL)
theorem zc_i2s {a : Int32} (hd : decode y.2.1 pc = .ok (.i2s, 1)) (k : zc_G y mk (pc + 1) ls (.int a.toInt16.toInt32 :: st) h o) : zc_G y mk pc ls (.int a :: st) h o := by
  intro r hr l D c B p e s m args below meth cd H locs ls0 X hP hK hS hL
  exact lv_i2s X.1 X.2.1 hd rfl (k r hr l D c B p e s m args below meth cd H locs ls0 X hP hK hS hL)
theorem zc_lcmp {a b : Int64} (hd : decode y.2.1 pc = .ok (.lcmp, 1)) (k : zc_G y mk (pc + 1) ls (.int (lg_cmp a b) :: st) h o) : zc_G y mk pc ls (.long b :: .long a :: st) h o := by
  intro r hr l D c B p e s m args below meth cd H locs ls0 X hP hK hS hL
  exact W.lcmp X.1 X.2.1 hd (k r hr l D c B p e s m args below meth cd H locs ls0 X hP hK hS hL)
theorem zc_dup {a : Value} (hd : decode y.2.1 pc = .ok (.dup, 1)) (ha : a.category = 1) (k : zc_G y mk (pc + 1) ls (a :: a :: st) h o) : zc_G y mk pc ls (a :: st) h o := by
  intro r hr l D c B p e s m args below meth cd H locs ls0 X hP hK hS hL
  exact lv_dup X.1 X.2.1 hd ((zc_tr_cat B a).trans ha) (k r hr l D c B p e s m args below meth cd H locs ls0 X hP hK hS hL)
theorem zc_pop {a : Value} (hd : decode y.2.1 pc = .ok (.pop, 1)) (ha : a.category = 1) (k : zc_G y mk (pc + 1) ls (st) h o) : zc_G y mk pc ls (a :: st) h o := by
  intro r hr l D c B p e s m args below meth cd H locs ls0 X hP hK hS hL
  exact lv_pop X.1 X.2.1 hd ((zc_tr_cat B a).trans ha) (k r hr l D c B p e s m args below meth cd H locs ls0 X hP hK hS hL)
theorem zc_dup2 {a b : Value} (hd : decode y.2.1 pc = .ok (.dup2, 1)) (ha : a.category = 1) (hb : b.category = 1) (k : zc_G y mk (pc + 1) ls (a :: b :: a :: b :: st) h o) : zc_G y mk pc ls (a :: b :: st) h o := by
  intro r hr l D c B p e s m args below meth cd H locs ls0 X hP hK hS hL
  exact lv_dup2_11 X.1 X.2.1 hd ((zc_tr_cat B a).trans ha) ((zc_tr_cat B b).trans hb) (k r hr l D c B p e s m args below meth cd H locs ls0 X hP hK hS hL)
theorem zc_ldc {idx : Nat} {v : Int32} (hd : decode y.2.1 pc = .ok (.ldc idx, 2)) (hw : Cond.constant y.1.cls idx v ∈ zg_tbl) (k : zc_G y mk (pc + 2) ls (.int v :: st) h o) : zc_G y mk pc ls (st) h o := by
  intro r hr l D c B p e s m args below meth cd H locs ls0 X hP hK hS hL
  exact lv_ldc X.1 X.2.1 X.2.2.2.2.1 (X.2.2.2.2.2.1 _ hw) hd (k r hr l D c B p e s m args below meth cd H locs ls0 X hP hK hS hL)
theorem zc_ldcw {idx : Nat} {v : Int32} (hd : decode y.2.1 pc = .ok (.ldc_w idx, 3)) (hw : Cond.constant y.1.cls idx v ∈ zg_tbl) (k : zc_G y mk (pc + 3) ls (.int v :: st) h o) : zc_G y mk pc ls (st) h o := by
  intro r hr l D c B p e s m args below meth cd H locs ls0 X hP hK hS hL
  exact lv_ldcw X.1 X.2.1 X.2.2.2.2.1 (X.2.2.2.2.2.1 _ hw) hd (k r hr l D c B p e s m args below meth cd H locs ls0 X hP hK hS hL)
theorem zc_ldc2 {idx : Nat} {v : Int64} (hd : decode y.2.1 pc = .ok (.ldc2_w idx, 3)) (hw : Cond.constantLong y.1.cls idx v ∈ zg_tbl) (k : zc_G y mk (pc + 3) ls (.long v :: st) h o) : zc_G y mk pc ls (st) h o := by
  intro r hr l D c B p e s m args below meth cd H locs ls0 X hP hK hS hL
  exact lv_ldc2 X.1 X.2.1 X.2.2.2.2.1 (X.2.2.2.2.2.1 _ hw) hd (k r hr l D c B p e s m args below meth cd H locs ls0 X hP hK hS hL)
theorem zc_istore_n {kk : Fin 4} {i : Nat} {x : Int32} (hd : decode y.2.1 pc = .ok (.istore_n kk, 1)) (hi : (kk : Nat) = i) (hn : i < y.2.2.1) (ok : zc_okS ls i = true) (hlen : i < ls.length) (k : zc_G y mk (pc + 1) (ls.set i (some (.int x))) st h o) : zc_G y mk pc ls (.int x :: st) h o := by
  intro r hr l D c B p e s m args below meth cd H locs ls0 X hP hK hS hL
  exact lv_istore_n X.1 X.2.1 hd hi (zc_Lhas hL) hn rfl (fun ls1 h1 => k r hr l D c B p e s m args below meth cd H locs ls1 X hP hK hS (zc_Lst1 (v := .int x) hL ok hlen h1))
theorem zc_istore {i : Nat} {x : Int32} (hd : decode y.2.1 pc = .ok (.istore i, 2)) (hn : i < y.2.2.1) (ok : zc_okS ls i = true) (hlen : i < ls.length) (k : zc_G y mk (pc + 2) (ls.set i (some (.int x))) st h o) : zc_G y mk pc ls (.int x :: st) h o := by
  intro r hr l D c B p e s m args below meth cd H locs ls0 X hP hK hS hL
  exact lv_istore X.1 X.2.1 hd (zc_Lhas hL) hn rfl (fun ls1 h1 => k r hr l D c B p e s m args below meth cd H locs ls1 X hP hK hS (zc_Lst1 (v := .int x) hL ok hlen h1))
theorem zc_astore_n {kk : Fin 4} {i : Nat} {x : Nat} (hd : decode y.2.1 pc = .ok (.astore_n kk, 1)) (hi : (kk : Nat) = i) (hn : i < y.2.2.1) (ok : zc_okS ls i = true) (hlen : i < ls.length) (k : zc_G y mk (pc + 1) (ls.set i (some (.ref x))) st h o) : zc_G y mk pc ls (.ref x :: st) h o := by
  intro r hr l D c B p e s m args below meth cd H locs ls0 X hP hK hS hL
  exact lv_astore_n X.1 X.2.1 hd hi (zc_Lhas hL) hn rfl (fun ls1 h1 => k r hr l D c B p e s m args below meth cd H locs ls1 X hP hK hS (zc_Lst1 (v := .ref x) hL ok hlen h1))
theorem zc_astore {i : Nat} {x : Nat} (hd : decode y.2.1 pc = .ok (.astore i, 2)) (hn : i < y.2.2.1) (ok : zc_okS ls i = true) (hlen : i < ls.length) (k : zc_G y mk (pc + 2) (ls.set i (some (.ref x))) st h o) : zc_G y mk pc ls (.ref x :: st) h o := by
  intro r hr l D c B p e s m args below meth cd H locs ls0 X hP hK hS hL
  exact lv_astore X.1 X.2.1 hd (zc_Lhas hL) hn rfl (fun ls1 h1 => k r hr l D c B p e s m args below meth cd H locs ls1 X hP hK hS (zc_Lst1 (v := .ref x) hL ok hlen h1))
theorem zc_lstore_n {kk : Fin 4} {i : Nat} {x : Int64} (hd : decode y.2.1 pc = .ok (.lstore_n kk, 1)) (hi : (kk : Nat) = i) (hn : i + 1 < y.2.2.1) (ok : zc_okS ls i = true) (hlen : i < ls.length) (k : zc_G y mk (pc + 1) ((ls.set i (some (.long x))).set (i + 1) none) st h o) : zc_G y mk pc ls (.long x :: st) h o := by
  intro r hr l D c B p e s m args below meth cd H locs ls0 X hP hK hS hL
  exact lv_lstore_n X.1 X.2.1 hd hi (zc_Lhas hL) hn rfl (fun ls1 h1 => k r hr l D c B p e s m args below meth cd H locs ls1 X hP hK hS (zc_Lst2 (v := .long x) hL ok hlen h1))
theorem zc_lstore {i : Nat} {x : Int64} (hd : decode y.2.1 pc = .ok (.lstore i, 2)) (hn : i + 1 < y.2.2.1) (ok : zc_okS ls i = true) (hlen : i < ls.length) (k : zc_G y mk (pc + 2) ((ls.set i (some (.long x))).set (i + 1) none) st h o) : zc_G y mk pc ls (.long x :: st) h o := by
  intro r hr l D c B p e s m args below meth cd H locs ls0 X hP hK hS hL
  exact lv_lstore X.1 X.2.1 hd (zc_Lhas hL) hn rfl (fun ls1 h1 => k r hr l D c B p e s m args below meth cd H locs ls1 X hP hK hS (zc_Lst2 (v := .long x) hL ok hlen h1))
theorem zc_iinc {i : Nat} {n : Int} {x : Int32} (v : Int32) (hd : decode y.2.1 pc = .ok (.iinc i n, 3)) (hv : Int32.ofInt n = v) (hl : ls[i]? = some (some (.int x))) (hn : i < y.2.2.1) (ok : zc_okS ls i = true) (k : zc_G y mk (pc + 3) (ls.set i (some (.int (x + v)))) st h o) : zc_G y mk pc ls st h o := by
  intro r hr l D c B p e s m args below meth cd H locs ls0 X hP hK hS hL
  obtain ⟨j, hj⟩ := List.mem_iff_getElem?.mp (zc_Lmem hL hl)
  exact lv_iinc X.1 X.2.1 hd (zc_Lhas hL) (k := j) hj (by rw [hv]) hn rfl (fun ls1 h1 => k r hr l D c B p e s m args below meth cd H locs ls1 X hP hK hS (zc_Lst1 (v := .int (x + v)) hL ok (List.getElem?_eq_some_iff.mp hl).1 h1))
theorem zc_goto {off : Int} (tgt : Nat) (hd : decode y.2.1 pc = .ok (.goto off, 3)) (ht : (pc : Int) + off = (tgt : Int)) (k : zc_G y mk tgt ls st h o) : zc_G y mk pc ls st h o := by
  intro r hr l D c B p e s m args below meth cd H locs ls0 X hP hK hS hL
  exact lv_goto X.1 X.2.1 hd ht (k r hr l D c B p e s m args below meth cd H locs ls0 X hP hK hS hL)
theorem zc_if_eq {x : Int32} {off : Int} (tgt : Nat) (hd : decode y.2.1 pc = .ok (.ifCond .eq off, 3)) (ht : (pc : Int) + off = (tgt : Int)) (ka : x = 0 → zc_G y mk tgt ls st h (q1.bind k2)) (kb : ¬ x = 0 → zc_G y mk (pc + 3) ls st h (q2.bind k2)) : zc_G y mk pc ls (.int x :: st) h ((if x = 0 then q1 else q2).bind k2) := by
  intro r hr l D c B p e s m args below meth cd H locs ls0 X hP hK hS hL
  exact lv_if_eq X.1 X.2.1 hd ht (fun hc => ka hc r (by rw [if_pos hc] at hr; exact hr) l D c B p e s m args below meth cd H locs ls0 X hP hK hS hL) (fun hc => kb hc r (by rw [if_neg hc] at hr; exact hr) l D c B p e s m args below meth cd H locs ls0 X hP hK hS hL)
theorem zc_if_ne {x : Int32} {off : Int} (tgt : Nat) (hd : decode y.2.1 pc = .ok (.ifCond .ne off, 3)) (ht : (pc : Int) + off = (tgt : Int)) (ka : x = 0 → zc_G y mk (pc + 3) ls st h (q1.bind k2)) (kb : ¬ x = 0 → zc_G y mk tgt ls st h (q2.bind k2)) : zc_G y mk pc ls (.int x :: st) h ((if x = 0 then q1 else q2).bind k2) := by
  intro r hr l D c B p e s m args below meth cd H locs ls0 X hP hK hS hL
  exact lv_if_ne X.1 X.2.1 hd ht (fun hc => kb hc r (by rw [if_neg hc] at hr; exact hr) l D c B p e s m args below meth cd H locs ls0 X hP hK hS hL) (fun hc => ka hc r (by rw [if_pos hc] at hr; exact hr) l D c B p e s m args below meth cd H locs ls0 X hP hK hS hL)
theorem zc_if_lt {x : Int32} {off : Int} (tgt : Nat) (hd : decode y.2.1 pc = .ok (.ifCond .lt off, 3)) (ht : (pc : Int) + off = (tgt : Int)) (ka : x < 0 → zc_G y mk tgt ls st h (q1.bind k2)) (kb : ¬ x < 0 → zc_G y mk (pc + 3) ls st h (q2.bind k2)) : zc_G y mk pc ls (.int x :: st) h ((if x < 0 then q1 else q2).bind k2) := by
  intro r hr l D c B p e s m args below meth cd H locs ls0 X hP hK hS hL
  exact lv_if_lt X.1 X.2.1 hd ht (fun hc => ka hc r (by rw [if_pos hc] at hr; exact hr) l D c B p e s m args below meth cd H locs ls0 X hP hK hS hL) (fun hc => kb hc r (by rw [if_neg hc] at hr; exact hr) l D c B p e s m args below meth cd H locs ls0 X hP hK hS hL)
theorem zc_if_ge {x : Int32} {off : Int} (tgt : Nat) (hd : decode y.2.1 pc = .ok (.ifCond .ge off, 3)) (ht : (pc : Int) + off = (tgt : Int)) (ka : 0 ≤ x → zc_G y mk tgt ls st h (q1.bind k2)) (kb : ¬ 0 ≤ x → zc_G y mk (pc + 3) ls st h (q2.bind k2)) : zc_G y mk pc ls (.int x :: st) h ((if 0 ≤ x then q1 else q2).bind k2) := by
  intro r hr l D c B p e s m args below meth cd H locs ls0 X hP hK hS hL
  exact lv_if_ge X.1 X.2.1 hd ht (fun hc => ka hc r (by rw [if_pos hc] at hr; exact hr) l D c B p e s m args below meth cd H locs ls0 X hP hK hS hL) (fun hc => kb hc r (by rw [if_neg hc] at hr; exact hr) l D c B p e s m args below meth cd H locs ls0 X hP hK hS hL)
theorem zc_if_gt {x : Int32} {off : Int} (tgt : Nat) (hd : decode y.2.1 pc = .ok (.ifCond .gt off, 3)) (ht : (pc : Int) + off = (tgt : Int)) (ka : 0 < x → zc_G y mk tgt ls st h (q1.bind k2)) (kb : ¬ 0 < x → zc_G y mk (pc + 3) ls st h (q2.bind k2)) : zc_G y mk pc ls (.int x :: st) h ((if 0 < x then q1 else q2).bind k2) := by
  intro r hr l D c B p e s m args below meth cd H locs ls0 X hP hK hS hL
  exact lv_if_gt X.1 X.2.1 hd ht (fun hc => ka hc r (by rw [if_pos hc] at hr; exact hr) l D c B p e s m args below meth cd H locs ls0 X hP hK hS hL) (fun hc => kb hc r (by rw [if_neg hc] at hr; exact hr) l D c B p e s m args below meth cd H locs ls0 X hP hK hS hL)
theorem zc_if_le {x : Int32} {off : Int} (tgt : Nat) (hd : decode y.2.1 pc = .ok (.ifCond .le off, 3)) (ht : (pc : Int) + off = (tgt : Int)) (ka : x ≤ 0 → zc_G y mk tgt ls st h (q1.bind k2)) (kb : ¬ x ≤ 0 → zc_G y mk (pc + 3) ls st h (q2.bind k2)) : zc_G y mk pc ls (.int x :: st) h ((if x ≤ 0 then q1 else q2).bind k2) := by
  intro r hr l D c B p e s m args below meth cd H locs ls0 X hP hK hS hL
  exact lv_if_le X.1 X.2.1 hd ht (fun hc => ka hc r (by rw [if_pos hc] at hr; exact hr) l D c B p e s m args below meth cd H locs ls0 X hP hK hS hL) (fun hc => kb hc r (by rw [if_neg hc] at hr; exact hr) l D c B p e s m args below meth cd H locs ls0 X hP hK hS hL)
theorem zc_icmp_eq {x z : Int32} {off : Int} (tgt : Nat) (hd : decode y.2.1 pc = .ok (.if_icmp .eq off, 3)) (ht : (pc : Int) + off = (tgt : Int)) (ka : x = z → zc_G y mk tgt ls st h (q1.bind k2)) (kb : ¬ x = z → zc_G y mk (pc + 3) ls st h (q2.bind k2)) : zc_G y mk pc ls (.int z :: .int x :: st) h ((if x = z then q1 else q2).bind k2) := by
  intro r hr l D c B p e s m args below meth cd H locs ls0 X hP hK hS hL
  exact lv_icmp_eq X.1 X.2.1 hd ht (fun hc => ka hc r (by rw [if_pos hc] at hr; exact hr) l D c B p e s m args below meth cd H locs ls0 X hP hK hS hL) (fun hc => kb hc r (by rw [if_neg hc] at hr; exact hr) l D c B p e s m args below meth cd H locs ls0 X hP hK hS hL)
theorem zc_icmp_ne {x z : Int32} {off : Int} (tgt : Nat) (hd : decode y.2.1 pc = .ok (.if_icmp .ne off, 3)) (ht : (pc : Int) + off = (tgt : Int)) (ka : x = z → zc_G y mk (pc + 3) ls st h (q1.bind k2)) (kb : ¬ x = z → zc_G y mk tgt ls st h (q2.bind k2)) : zc_G y mk pc ls (.int z :: .int x :: st) h ((if x = z then q1 else q2).bind k2) := by
  intro r hr l D c B p e s m args below meth cd H locs ls0 X hP hK hS hL
  exact lv_icmp_ne X.1 X.2.1 hd ht (fun hc => kb hc r (by rw [if_neg hc] at hr; exact hr) l D c B p e s m args below meth cd H locs ls0 X hP hK hS hL) (fun hc => ka hc r (by rw [if_pos hc] at hr; exact hr) l D c B p e s m args below meth cd H locs ls0 X hP hK hS hL)
theorem zc_icmp_lt {x z : Int32} {off : Int} (tgt : Nat) (hd : decode y.2.1 pc = .ok (.if_icmp .lt off, 3)) (ht : (pc : Int) + off = (tgt : Int)) (ka : x < z → zc_G y mk tgt ls st h (q1.bind k2)) (kb : ¬ x < z → zc_G y mk (pc + 3) ls st h (q2.bind k2)) : zc_G y mk pc ls (.int z :: .int x :: st) h ((if x < z then q1 else q2).bind k2) := by
  intro r hr l D c B p e s m args below meth cd H locs ls0 X hP hK hS hL
  exact lv_icmp_lt X.1 X.2.1 hd ht (fun hc => ka hc r (by rw [if_pos hc] at hr; exact hr) l D c B p e s m args below meth cd H locs ls0 X hP hK hS hL) (fun hc => kb hc r (by rw [if_neg hc] at hr; exact hr) l D c B p e s m args below meth cd H locs ls0 X hP hK hS hL)
theorem zc_icmp_ge {x z : Int32} {off : Int} (tgt : Nat) (hd : decode y.2.1 pc = .ok (.if_icmp .ge off, 3)) (ht : (pc : Int) + off = (tgt : Int)) (ka : z ≤ x → zc_G y mk tgt ls st h (q1.bind k2)) (kb : ¬ z ≤ x → zc_G y mk (pc + 3) ls st h (q2.bind k2)) : zc_G y mk pc ls (.int z :: .int x :: st) h ((if z ≤ x then q1 else q2).bind k2) := by
  intro r hr l D c B p e s m args below meth cd H locs ls0 X hP hK hS hL
  exact lv_icmp_ge X.1 X.2.1 hd ht (fun hc => ka hc r (by rw [if_pos hc] at hr; exact hr) l D c B p e s m args below meth cd H locs ls0 X hP hK hS hL) (fun hc => kb hc r (by rw [if_neg hc] at hr; exact hr) l D c B p e s m args below meth cd H locs ls0 X hP hK hS hL)
theorem zc_icmp_gt {x z : Int32} {off : Int} (tgt : Nat) (hd : decode y.2.1 pc = .ok (.if_icmp .gt off, 3)) (ht : (pc : Int) + off = (tgt : Int)) (ka : z < x → zc_G y mk tgt ls st h (q1.bind k2)) (kb : ¬ z < x → zc_G y mk (pc + 3) ls st h (q2.bind k2)) : zc_G y mk pc ls (.int z :: .int x :: st) h ((if z < x then q1 else q2).bind k2) := by
  intro r hr l D c B p e s m args below meth cd H locs ls0 X hP hK hS hL
  exact lv_icmp_gt X.1 X.2.1 hd ht (fun hc => ka hc r (by rw [if_pos hc] at hr; exact hr) l D c B p e s m args below meth cd H locs ls0 X hP hK hS hL) (fun hc => kb hc r (by rw [if_neg hc] at hr; exact hr) l D c B p e s m args below meth cd H locs ls0 X hP hK hS hL)
theorem zc_icmp_le {x z : Int32} {off : Int} (tgt : Nat) (hd : decode y.2.1 pc = .ok (.if_icmp .le off, 3)) (ht : (pc : Int) + off = (tgt : Int)) (ka : x ≤ z → zc_G y mk tgt ls st h (q1.bind k2)) (kb : ¬ x ≤ z → zc_G y mk (pc + 3) ls st h (q2.bind k2)) : zc_G y mk pc ls (.int z :: .int x :: st) h ((if x ≤ z then q1 else q2).bind k2) := by
  intro r hr l D c B p e s m args below meth cd H locs ls0 X hP hK hS hL
  exact lv_icmp_le X.1 X.2.1 hd ht (fun hc => ka hc r (by rw [if_pos hc] at hr; exact hr) l D c B p e s m args below meth cd H locs ls0 X hP hK hS hL) (fun hc => kb hc r (by rw [if_neg hc] at hr; exact hr) l D c B p e s m args below meth cd H locs ls0 X hP hK hS hL)
theorem zc_tblIn {dflt lo hi : Int} {offs : Array Int} {len : Nat} {x v : Int32} {off : Int} (tgt : Nat) (hx : x = v) (hd : decode y.2.1 pc = .ok (.tableswitch dflt lo hi offs, len)) (h12 : ¬ v.toInt < lo ∧ ¬ hi < v.toInt ∧ offs[(v.toInt - lo).toNat]? = some off ∧ (pc : Int) + off = (tgt : Int)) (k : zc_G y mk tgt ls st h o) : zc_G y mk pc ls (.int x :: st) h o := by
  intro r hr l D c B p e s m args below meth cd H locs ls0 X hP hK hS hL
  subst hx
  exact lv_tableIn X.1 X.2.1 hd h12.1 h12.2.1 h12.2.2.1 h12.2.2.2 (k r hr l D c B p e s m args below meth cd H locs ls0 X hP hK hS hL)
theorem zc_tblOut {dflt lo hi : Int} {offs : Array Int} {len : Nat} {x : Int32} (tgt : Nat) (hd : decode y.2.1 pc = .ok (.tableswitch dflt lo hi offs, len)) (hx : x.toInt < lo ∨ hi < x.toInt) (ht : (pc : Int) + dflt = (tgt : Int)) (k : zc_G y mk tgt ls st h o) : zc_G y mk pc ls (.int x :: st) h o := by
  intro r hr l D c B p e s m args below meth cd H locs ls0 X hP hK hS hL
  exact lv_tableOut X.1 X.2.1 hd hx ht (k r hr l D c B p e s m args below meth cd H locs ls0 X hP hK hS hL)
theorem zc_lsw {dflt : Int} {ps : Array (Int × Int)} {len : Nat} {x : Int32} {off : Int} (tgt : Nat) (hd : decode y.2.1 pc = .ok (.lookupswitch dflt ps, len)) (hp : (ps.toList.zip (ps.toList.drop 1)).all (fun (a, next) => a.1 < next.1) = true) (ho : Op.lookupswitch.offset ps.toList dflt x.toInt = off) (ht : (pc : Int) + off = (tgt : Int)) (k : zc_G y mk tgt ls st h o) : zc_G y mk pc ls (.int x :: st) h o := by
  intro r hr l D c B p e s m args below meth cd H locs ls0 X hP hK hS hL
  exact lv_lookup X.1 X.2.1 hd hp ho ht (k r hr l D c B p e s m args below meth cd H locs ls0 X hP hK hS hL)
theorem zc_neI {x : Int32} {v : Int32} (hx : ¬ x = v) : x.toInt ≠ v.toInt := fun e => hx (Int32.toInt_inj.mp e)

end ZC
end
section
/-! fields, arrays, returns, bodies, calls over the abstract heap -/
def zc_F (own : String) (idx ci k : Nat) (d : Nat × Nat) (ty : FieldType) (fin : Bool) : Prop :=
  ∃ (C : String) (T : u_T) (N : Nat) (ty0 : Nat → FieldType), vwCl[ci]? = some (C, T, N) ∧ ci < 12 ∧ k < N ∧ (zc_slots ci)[k]? = some d ∧ (∀ w ∈ u_ws C T N, w ∈ zg_tbl) ∧
    (∀ j, j < N → parseFieldDescriptor (T j).2.2.1 = some (ty0 j)) ∧ (∀ a, a < N → ∀ b, b < N → a ≠ b → (T a).2.1 ≠ (T b).2.1) ∧ C = (T k).1 ∧ parseFieldDescriptor (T k).2.2.1 = some ty ∧ (T k).2.2.2 = fin ∧
    ((Cond.fieldLink own idx C (T k).2.1 (T k).2.2.1 ∈ zg_tbl) ∨ ∃ host, Cond.fieldLinkNest own idx C (T k).2.1 (T k).2.2.1 host ∈ zn_tbl)
theorem zc_obj {c : zCS} {B a ci n0 : Nat} {f : Nat → Int32} {g : Nat → Int64} (h : ci < 12) : zc_cell c B a (ci, n0) f g = .inr (ci, zc_fields B a f (zc_slots ci)) := by
  unfold zc_cell
  rw [if_neg (show ¬ ci = 12 by omega), if_neg (show ¬ ci = 13 by omega), if_neg (show ¬ ci = 14 by omega), if_neg (show ¬ ci = 15 by omega)]
section ZH
variable {ρ α β : Type} {y : zMI} {mk : ρ → zRT} {pc : Nat} {ls : List (Option Value)} {st : List Value} {h : zHp} {o o1 o2 : Option ρ} {k2 : α → Option ρ} {q q1 q2 : Option α}
theorem zc_get {a idx ci n0 k : Nat} {d : Nat × Nat} {ty : FieldType} {fin : Bool} {v : Value} (hF : zc_F y.1.cls idx ci k d ty fin) (hs : zc_lay[a]? = some (ci, n0)) (hv : ∀ B, zc_val B a (h.1 a) k d = zc_tr B v) (hd : decode y.2.1 pc = .ok (.getfield idx, 3)) (kk : zc_G y mk (pc + 3) ls (v :: st) h o) : zc_G y mk pc ls (.ref a :: st) h o := by
  intro r hr l D c B p e s m args below meth cd H locs ls0 X hP hK hS hL
  obtain ⟨C, T, N, ty0, h1, h2, h3, h4, h5, h6, h7, h8, h9, h10, h11⟩ := hF
  have hg := zc_wld_get (c := c) (B := B) (h := h) hs
  rw [zc_obj h2] at hg
  have hv2 : (zc_fields B a (h.1 a) (zc_slots ci))[k]? = some (zc_tr B v) := by rw [zc_fields_get h4, hv B]
  rcases h11 with h11 | ⟨host, h11⟩
  · exact va_get X.1 X.2.1 X.2.2.2.2.2.1 h5 X.2.2.2.2.1 hK hP a hg h1 k h3 (X.2.2.2.2.2.1 _ h11) (fun x hx => by rw [h8]; exact hx) hv2 hd (kk r hr l D c B p e s m args below meth cd H locs ls0 X hP hK hS hL)
  · exact va_getN X.1 X.2.1 X.2.2.2.2.2.1 h5 X.2.2.2.2.1 hK hP a hg h1 k h3 (zn_use X.2.2.2.2.2.2.2 h11) (fun x hx => by rw [h8]; exact hx) hv2 hd (kk r hr l D c B p e s m args below meth cd H locs ls0 X hP hK hS hL)
theorem zc_getI {a idx ci n0 k z : Nat} {ty : FieldType} {fin : Bool} (hF : zc_F y.1.cls idx ci k (0, z) ty fin) (hs : zc_lay[a]? = some (ci, n0)) (hd : decode y.2.1 pc = .ok (.getfield idx, 3)) (kk : zc_G y mk (pc + 3) ls (.int (h.1 a k) :: st) h o) : zc_G y mk pc ls (.ref a :: st) h o := zc_get hF hs (fun B => rfl) hd kk
theorem zc_getC {a idx ci n0 k b : Nat} {ty : FieldType} {fin : Bool} (hF : zc_F y.1.cls idx ci k (1, b) ty fin) (hs : zc_lay[a]? = some (ci, n0)) (hd : decode y.2.1 pc = .ok (.getfield idx, 3)) (kk : zc_G y mk (pc + 3) ls (.ref b :: st) h o) : zc_G y mk pc ls (.ref a :: st) h o := zc_get hF hs (fun B => rfl) hd kk
theorem zc_getO {a idx ci n0 k j : Nat} {ty : FieldType} {fin : Bool} (hF : zc_F y.1.cls idx ci k (2, j) ty fin) (hs : zc_lay[a]? = some (ci, n0)) (hd : decode y.2.1 pc = .ok (.getfield idx, 3)) (kk : zc_G y mk (pc + 3) ls (.ref (a + j) :: st) h o) : zc_G y mk pc ls (.ref a :: st) h o := zc_get hF hs (fun B => rfl) hd kk
theorem zc_getD {a idx ci n0 k z : Nat} {ty : FieldType} {fin : Bool} (hF : zc_F y.1.cls idx ci k (3, z) ty fin) (hs : zc_lay[a]? = some (ci, n0)) (h0 : ¬ h.1 a k < 0) (hd : decode y.2.1 pc = .ok (.getfield idx, 3)) (kk : zc_G y mk (pc + 3) ls (.ref (h.1 a k).toNatClampNeg :: st) h o) : zc_G y mk pc ls (.ref a :: st) h o := zc_get hF hs (fun B => by show (if h.1 a k < 0 then Value.null else _) = _; rw [if_neg h0]; rfl) hd kk
theorem zc_put {a idx ci n0 k : Nat} {d : Nat × Nat} {ty : FieldType} {v : Value} {x : Int32} (hF : zc_F y.1.cls idx ci k d ty false) (hs : zc_lay[a]? = some (ci, n0)) (hv : ∀ B, zc_val B a (upd (h.1 a) k x) k d = zc_tr B v) (hn : ∀ B, narrow ty (zc_tr B v) = zc_tr B v ∧ fits ty (zc_tr B v) = true) (hd : decode y.2.1 pc = .ok (.putfield idx, 3)) (kk : zc_G y mk (pc + 3) ls st (zc_ui h a k x) o) : zc_G y mk pc ls (v :: .ref a :: st) h o := by
  intro r hr l D c B p e s m args below meth cd H locs ls0 X hP hK hS hL
  obtain ⟨C, T, N, ty0, h1, h2, h3, h4, h5, h6, h7, h8, h9, h10, h11⟩ := hF
  have hg := zc_wld_get (c := c) (B := B) (h := h) hs
  rw [zc_obj h2] at hg
  have hk : k < (zc_fields B a (h.1 a) (zc_slots ci)).length := by rw [zc_fields_len]; exact (List.getElem?_eq_some_iff.mp h4).1
  have hset : (zc_wld c B h).set a (B + a, .inr (ci, (zc_fields B a (h.1 a) (zc_slots ci)).set k (zc_tr B v))) = zc_wld c B (zc_ui h a k x) := by
    refine zc_wld_set hs ?_ zc_ui_o
    rw [zc_obj h2, zc_ui_s, zc_fields_set h4 (hv B)]
  rcases h11 with h11 | ⟨host, h11⟩
  · exact va_put X.1 X.2.1 X.2.2.2.2.2.1 h5 ty0 h6 h7 X.2.2.2.2.1 hK hP zc_wld_D hS a hg h1 k h3 (X.2.2.2.2.2.1 _ h11) (fun x hx => by rw [h8]; exact hx) h10 h9 (hn B).1 (hn B).2 hk hd (fun H1 locs1 hP1 hD1 hS1 => kk r hr l D c B p e s m args below meth cd H1 locs1 ls0 X (by rw [hset] at hP1; exact hP1) hK hS1 hL)
  · exact va_putN X.1 X.2.1 X.2.2.2.2.2.1 h5 ty0 h6 h7 X.2.2.2.2.1 hK hP zc_wld_D hS a hg h1 k h3 (zn_use X.2.2.2.2.2.2.2 h11) (fun x hx => by rw [h8]; exact hx) h10 h9 (hn B).1 (hn B).2 hk hd (fun H1 locs1 hP1 hD1 hS1 => kk r hr l D c B p e s m args below meth cd H1 locs1 ls0 X (by rw [hset] at hP1; exact hP1) hK hS1 hL)
theorem zc_putI {a idx ci n0 k z : Nat} {x : Int32} (hF : zc_F y.1.cls idx ci k (0, z) .int false) (hs : zc_lay[a]? = some (ci, n0)) (hd : decode y.2.1 pc = .ok (.putfield idx, 3)) (kk : zc_G y mk (pc + 3) ls st (zc_ui h a k x) o) : zc_G y mk pc ls (.int x :: .ref a :: st) h o :=
  zc_put hF hs (fun B => by show Value.int (upd (h.1 a) k x k) = _; simp [upd, zc_tr]) (fun B => ⟨rfl, rfl⟩) hd kk
theorem zc_bo_and {x : Int32} (hx : zc_bo x) : x &&& 1 = x := by rcases hx with rfl | rfl <;> decide
theorem zc_putZ {a idx ci n0 k z : Nat} {x : Int32} (hF : zc_F y.1.cls idx ci k (0, z) .boolean false) (hs : zc_lay[a]? = some (ci, n0)) (hx : zc_bo x) (hd : decode y.2.1 pc = .ok (.putfield idx, 3)) (kk : zc_G y mk (pc + 3) ls st (zc_ui h a k x) o) : zc_G y mk pc ls (.int x :: .ref a :: st) h o :=
  zc_put hF hs (fun B => by show Value.int (upd (h.1 a) k x k) = _; simp [upd, zc_tr]) (fun B => by rcases hx with rfl | rfl <;> exact ⟨rfl, rfl⟩) hd kk
theorem zc_putD {a idx ci n0 k z b : Nat} {ty2 : FieldType} (hF : zc_F y.1.cls idx ci k (3, z) (.array ty2) false) (hs : zc_lay[a]? = some (ci, n0)) (hb : b < 81) (hd : decode y.2.1 pc = .ok (.putfield idx, 3)) (kk : zc_G y mk (pc + 3) ls st (zc_ui h a k (nI b)) o) : zc_G y mk pc ls (.ref b :: .ref a :: st) h o :=
  zc_put hF hs (fun B => by
    have e1 : upd (h.1 a) k (nI b) k = nI b := by simp [upd]
    show (if upd (h.1 a) k (nI b) k < 0 then Value.null else Value.ref (B + (upd (h.1 a) k (nI b) k).toNatClampNeg)) = _
    rw [e1, if_neg (nI_pos (by omega)), nI_clamp (by omega)]; rfl) (fun B => ⟨rfl, rfl⟩) hd kk
-- arrays
theorem zc_aldi {a n : Nat} {i : Int32} (hs : zc_lay[a]? = some (12, n)) (hi : zc_ix i n) (hd : decode y.2.1 pc = .ok (.iaload, 1)) (kk : zc_G y mk (pc + 1) ls (.int (h.1 a i.toNatClampNeg) :: st) h o) : zc_G y mk pc ls (.int i :: .ref a :: st) h o := by
  intro r hr l D c B p e s m args below meth cd H locs ls0 X hP hK hS hL
  have hg := zc_wld_get (c := c) (B := B) (h := h) hs
  exact va_iald X.1 X.2.1 hK hP a 0 (cA := c.1) hg rfl hi hd (kk r hr l D c B p e s m args below meth cd H locs ls0 X hP hK hS hL)
theorem zc_aldl {a n : Nat} {i : Int32} (hs : zc_lay[a]? = some (13, n)) (hi : zc_ix i n) (hd : decode y.2.1 pc = .ok (.laload, 1)) (kk : zc_G y mk (pc + 1) ls (.long (h.2 a i.toNatClampNeg) :: st) h o) : zc_G y mk pc ls (.int i :: .ref a :: st) h o := by
  intro r hr l D c B p e s m args below meth cd H locs ls0 X hP hK hS hL
  have hg := zc_wld_get (c := c) (B := B) (h := h) hs
  exact va_lald X.1 X.2.1 hK hP a 1 (cA := c.2.1) hg rfl hi hd (kk r hr l D c B p e s m args below meth cd H locs ls0 X hP hK hS hL)
theorem zc_aldS {a n : Nat} {i : Int32} (hs : zc_lay[a]? = some (14, n)) (hi : zc_ix i n) (hd : decode y.2.1 pc = .ok (.aaload, 1)) (kk : zc_G y mk (pc + 1) ls (.ref (a + 1 + 2 * i.toNatClampNeg) :: st) h o) : zc_G y mk pc ls (.int i :: .ref a :: st) h o := by
  intro r hr l D c B p e s m args below meth cd H locs ls0 X hP hK hS hL
  have hg := zc_wld_get (c := c) (B := B) (h := h) hs
  exact va_aldq X.1 X.2.1 hK hP a 2 (cA := c.2.2.1) hg rfl hi hd (kk r hr l D c B p e s m args below meth cd H locs ls0 X hP hK hS hL)
theorem zc_aldV {a n : Nat} {i : Int32} (hs : zc_lay[a]? = some (15, n)) (hi : zc_ix i n) (hd : decode y.2.1 pc = .ok (.aaload, 1)) (kk : zc_G y mk (pc + 1) ls (.ref (a + 1 + i.toNatClampNeg) :: st) h o) : zc_G y mk pc ls (.int i :: .ref a :: st) h o := by
  intro r hr l D c B p e s m args below meth cd H locs ls0 X hP hK hS hL
  have hg := zc_wld_get (c := c) (B := B) (h := h) hs
  exact va_aldq X.1 X.2.1 hK hP a 3 (cA := c.2.2.2) hg rfl hi hd (kk r hr l D c B p e s m args below meth cd H locs ls0 X hP hK hS hL)
theorem zc_asti {a n : Nat} {i x : Int32} (hs : zc_lay[a]? = some (12, n)) (hi : zc_ix i n) (hd : decode y.2.1 pc = .ok (.iastore, 1)) (kk : zc_G y mk (pc + 1) ls st (zc_ui h a i.toNatClampNeg x) o) : zc_G y mk pc ls (.int x :: .int i :: .ref a :: st) h o := by
  intro r hr l D c B p e s m args below meth cd H locs ls0 X hP hK hS hL
  have hg := zc_wld_get (c := c) (B := B) (h := h) hs
  have hset : (zc_wld c B h).set a (B + a, .inl (c.1, n, .inl (upd (h.1 a) i.toNatClampNeg x))) = zc_wld c B (zc_ui h a i.toNatClampNeg x) := by
    refine zc_wld_set hs ?_ zc_ui_o
    rw [zc_ui_s]; rfl
  exact va_iast X.1 X.2.1 hK hP zc_wld_D hS a 0 (cA := c.1) hg rfl hi hd (fun H1 locs1 hP1 hD1 hS1 => kk r hr l D c B p e s m args below meth cd H1 locs1 ls0 X (by rw [hset] at hP1; exact hP1) hK hS1 hL)
theorem zc_astl {a n : Nat} {i : Int32} {x : Int64} (hs : zc_lay[a]? = some (13, n)) (hi : zc_ix i n) (hd : decode y.2.1 pc = .ok (.lastore, 1)) (kk : zc_G y mk (pc + 1) ls st (zc_ul h a i.toNatClampNeg x) o) : zc_G y mk pc ls (.long x :: .int i :: .ref a :: st) h o := by
  intro r hr l D c B p e s m args below meth cd H locs ls0 X hP hK hS hL
  have hg := zc_wld_get (c := c) (B := B) (h := h) hs
  have hset : (zc_wld c B h).set a (B + a, .inl (c.2.1, n, .inr (.inl (vp_updL (h.2 a) i.toNatClampNeg x)))) = zc_wld c B (zc_ul h a i.toNatClampNeg x) := by
    refine zc_wld_set hs ?_ zc_ul_o
    rw [zc_ul_s]; rfl
  exact va_last X.1 X.2.1 hK hP zc_wld_D hS a 1 (cA := c.2.1) hg rfl hi hd (fun H1 locs1 hP1 hD1 hS1 => kk r hr l D c B p e s m args below meth cd H1 locs1 ls0 X (by rw [hset] at hP1; exact hP1) hK hS1 hL)
theorem zc_alenI {a n : Nat} (hs : zc_lay[a]? = some (12, n)) (hd : decode y.2.1 pc = .ok (.arraylength, 1)) (kk : zc_G y mk (pc + 1) ls (.int (Int32.ofNat n) :: st) h o) : zc_G y mk pc ls (.ref a :: st) h o := by
  intro r hr l D c B p e s m args below meth cd H locs ls0 X hP hK hS hL
  have hg := zc_wld_get (c := c) (B := B) (h := h) hs
  exact va_alen X.1 X.2.1 hK hP a 0 (cA := c.1) (x := (n, .inl (h.1 a))) hg rfl rfl hd (kk r hr l D c B p e s m args below meth cd H locs ls0 X hP hK hS hL)
theorem zc_alenL {a n : Nat} (hs : zc_lay[a]? = some (13, n)) (hd : decode y.2.1 pc = .ok (.arraylength, 1)) (kk : zc_G y mk (pc + 1) ls (.int (Int32.ofNat n) :: st) h o) : zc_G y mk pc ls (.ref a :: st) h o := by
  intro r hr l D c B p e s m args below meth cd H locs ls0 X hP hK hS hL
  have hg := zc_wld_get (c := c) (B := B) (h := h) hs
  exact va_alen X.1 X.2.1 hK hP a 1 (cA := c.2.1) (x := (n, .inr (.inl (h.2 a)))) hg rfl rfl hd (kk r hr l D c B p e s m args below meth cd H locs ls0 X hP hK hS hL)
-- returns
theorem zc_iret {x : Int32} {r : ρ} (hd : decode y.2.1 pc = .ok (.ireturn, 1)) (hret : y.2.2.2.1 = some .int) (ho : o = some r) (hm : mk r = zc_mI (x, h)) : zc_G y mk pc ls [.int x] h o := by
  intro r' hr l D c B p e s m args below meth cd H locs ls0 X hP hK hS hL
  have e : r = r' := Option.some.inj (ho.symm.trans hr)
  subst e
  rw [hm]
  exact W.iret (v := x) X.1 X.2.1 (X.2.2.1.trans hret) (fun t ht hW => ⟨⟨x, h, rfl, ⟨rfl, rfl⟩, by rw [ht]; exact hP, va_K.moved hW.alike hK⟩, hS.F ht⟩) hS.2.2 hd X.2.2.2.2.2.2.1
theorem zc_zret {x : Int32} {r : ρ} (hd : decode y.2.1 pc = .ok (.ireturn, 1)) (hret : y.2.2.2.1 = some .boolean) (hx : x &&& 1 = x) (ho : o = some r) (hm : mk r = zc_mI (x, h)) : zc_G y mk pc ls [.int x] h o := by
  intro r' hr l D c B p e s m args below meth cd H locs ls0 X hP hK hS hL
  have e : r = r' := Option.some.inj (ho.symm.trans hr)
  subst e
  rw [hm]
  exact W.zret (v := x) X.1 X.2.1 (X.2.2.1.trans hret) (by show Value.int (x &&& 1) = _; rw [hx]) (fun t ht hW => ⟨⟨x, h, rfl, ⟨rfl, rfl⟩, by rw [ht]; exact hP, va_K.moved hW.alike hK⟩, hS.F ht⟩) hS.2.2 hd X.2.2.2.2.2.2.1
theorem zc_lret {x : Int64} {r : ρ} (hd : decode y.2.1 pc = .ok (.lreturn, 1)) (hret : y.2.2.2.1 = some .long) (ho : o = some r) (hm : mk r = zc_mL (x, h)) : zc_G y mk pc ls [.long x] h o := by
  intro r' hr l D c B p e s m args below meth cd H locs ls0 X hP hK hS hL
  have e : r = r' := Option.some.inj (ho.symm.trans hr)
  subst e
  rw [hm]
  exact W.lret (v := x) X.1 X.2.1 (X.2.2.1.trans hret) (fun t ht hW => ⟨⟨x, h, rfl, ⟨rfl, rfl⟩, by rw [ht]; exact hP, va_K.moved hW.alike hK⟩, hS.F ht⟩) hS.2.2 hd X.2.2.2.2.2.2.1
theorem zc_vret {r : ρ} (hd : decode y.2.1 pc = .ok (.return_, 1)) (hret : y.2.2.2.1 = none) (ho : o = some r) (hm : mk r = zc_mV h) : zc_G y mk pc ls [] h o := by
  intro r' hr l D c B p e s m args below meth cd H locs ls0 X hP hK hS hL
  have e : r = r' := Option.some.inj (ho.symm.trans hr)
  subst e
  rw [hm]
  exact W.vret X.1 X.2.1 (X.2.2.1.trans hret) (fun t ht hW => ⟨⟨h, rfl, rfl, by rw [ht]; exact hP, va_K.moved hW.alike hK⟩, hS.F ht⟩) hS.2.2 hd X.2.2.2.2.2.2.1
-- bodies
def zc_flat : List Value → List (Option Value)
  | [] => []
  | v :: vs => (if v.category = 2 then [some v, none] else [some v]) ++ zc_flat vs
def zc_ent (nL : Nat) (av : List Value) : List (Option Value) := zc_flat av ++ List.replicate (nL - (zc_flat av).length) none
def zc_sl (B : Nat) : Option Value → Slot
  | some v => .val (zc_tr B v)
  | none => .second
theorem zc_flat_sl (B : Nat) : ∀ av : List Value, lg_sl (av.map (zc_tr B)) = (zc_flat av).map (zc_sl B)
  | [] => rfl
  | v :: vs => by
    have ih := zc_flat_sl B vs
    show (if (zc_tr B v).category = 2 then [Slot.val (zc_tr B v), .second] else [.val (zc_tr B v)]) ++ lg_sl (vs.map (zc_tr B)) = _
    rw [ih, zc_flat, List.map_append, zc_tr_cat]
    by_cases hc : v.category = 2
    · rw [if_pos hc, if_pos hc]; rfl
    · rw [if_neg hc, if_neg hc]; rfl
theorem zc_entL {nL B : Nat} {av : List Value} (hlen : (zc_flat av).length ≤ nL) : zc_L nL B (zc_ent nL av) ((lg_sl (av.map (zc_tr B)) ++ List.replicate (nL - (lg_sl (av.map (zc_tr B))).length) Slot.unset).toArray) := by
  have hl2 : (lg_sl (av.map (zc_tr B))).length = (zc_flat av).length := by rw [zc_flat_sl, List.length_map]
  have hE := lv_entry (av.map (zc_tr B)) (n := nL) (by rw [hl2]; exact hlen)
  refine ⟨hE.1, hE.2.1, fun n v hn => ?_⟩
  rw [zc_ent] at hn
  by_cases hlt : n < (zc_flat av).length
  · rw [List.getElem?_append_left hlt] at hn
    have h1 : (lg_sl (av.map (zc_tr B)))[n]? = some (.val (zc_tr B v)) := by
      rw [zc_flat_sl, List.getElem?_map, hn]; rfl
    simp only [List.getElem?_toArray]
    rw [List.getElem?_append_left (by rw [hl2]; exact hlt)]
    exact h1
  · rw [List.getElem?_append_right (by omega), List.getElem?_replicate] at hn
    split at hn <;> simp at hn
theorem zc_body {av : List Value} {T : zRT} (hy : plainName y.1.cls = true) (hlen : (zc_flat av).length ≤ y.2.2.1) (k : zc_W y T 0 (zc_ent y.2.2.1 av) [] h) : zc_Cn y av h T := by
  intro l D c B
  refine Met.ofW (cc := y.2.1) (maxL := y.2.2.1) (ret := y.2.2.2.1) hy rfl ?_
  intro p e s m args below meth cd s₁ Bd hml hv
  obtain ⟨rfl, ⟨hP, hK⟩, hN⟩ := hv
  have hts := atoms_spec (ws := zc_ws y) Bd.pre
  rw [lg_entry_eq]
  exact k l D c B p e s m _ below meth cd s.heap [] _ ⟨Bd.exec, Bd.bytes, Bd.returns, hml, findClass_of_methodNamed Bd.named, fun w hw => hts w (List.mem_cons_of_mem _ hw), Bd.notSynchronized, hN⟩ hP hK va_S.rf (zc_entL hlen)
/-- a method's residual gives its contract -/
theorem zc_meth {av : List Value} {r : ρ} (hy : plainName y.1.cls = true) (hlen : (zc_flat av).length ≤ y.2.2.1) (k : zc_G y mk 0 (zc_ent y.2.2.1 av) [] h (o.bind some)) (ho : o = some r) : zc_Cn y av h (mk r) := zc_body hy hlen (zc_top k r ho)
end ZH
end
section
/-! calls over the abstract heap -/
def zc_okM (y : zMI) (n : Nat) : Prop :=
  Cond.code y.1 y.2.1 y.2.2.1 y.2.2.2.1 ∈ zg_tbl ∧ Cond.initialized y.1.cls ∈ zg_tbl ∧ y.1.cls ≠ "java/lang/invoke/MethodHandle" ∧ y.1.cls ≠ "java/lang/invoke/VarHandle" ∧ (parseMethodDescriptor y.1.desc).map (fun d => d.parameters.length) = some n
def zc_fit (y z : zMI) : Prop := z.2.2.2.2.1 + 1 ≤ y.2.2.2.2.1 ∧ 8 + (z.2.2.1 + 11) + z.2.2.2.2.2 ≤ y.2.2.2.2.2
def zc_Run (y z : zMI) (pc : Nat) (av : List Value) (h : zHp) : Prop :=
  ∀ (l : Launch) (D : va_G) (c : zCS) (B : Nat) (p : Program) (e : Env) (s : State) (m : MethodId) (args : Array Value) (below : List Frame) (meth : Method) (cd : Code) (H : Heap) (locs : List Loc) (ls0 : Array Slot) (rest : List Value) (Qc : Array Value → State → Outcome → State → Prop),
    zc_Cx y p s m args meth cd → va_P D vwCl (zc_wld c B h) H → va_K D vwCl (zc_tys c) s → ls0.size = y.2.2.1 → (rest.map fun v => v.category).sum ≤ 8 →
    Met l z.1 (zc_ws z) (zc_room z) (va_Pc (av.map (zc_tr B)) (zc_Pr D c B h)) Qc 0 0 (zc_ge B) →
    va_Run p l e (zc_room y) s m args below meth cd H locs 0 0 0 0 (F0 m pc ls0 ((av.map (zc_tr B)).reverse ++ rest)) rest (Qc (av.map (zc_tr B)).toArray) (zc_ge B)
theorem zc_blind {D : va_G} {c : zCS} {B : Nat} {h : zHp} {av : List Value} : FrameBlind (va_Pc av (zc_Pr D c B h)) := fun a U g mk q => by
  obtain ⟨q0, ⟨qP, qK⟩, qN⟩ := q
  exact ⟨q0, ⟨qP, va_K.moved (u := U) (U := U.calling g mk a) (Vm.Alike.refl U.vm) qK⟩, zn_same (s := U) (U := U.calling g mk a) rfl qN⟩
theorem zc_inws {z : zMI} {n : Nat} (ok : zc_okM z n) : ∀ w ∈ zc_ws z, w ∈ zg_tbl := fun w hw => (List.mem_cons.mp hw).elim (fun e => e ▸ ok.1) (fun h => h)
section ZR
variable {y z : zMI} {pc : Nat} {h : zHp} {n idx : Nat} {As : List Value}
theorem zc_runS (ok : zc_okM z n) (hfit : zc_fit y z) (hlink : Cond.methodLink y.1.cls idx z.1 ∈ zg_tbl) (hst : Cond.static z.1 ∈ zg_tbl) (hn : As.length = n) (hd : decode y.2.1 pc = .ok (.invokestatic idx, 3)) : zc_Run y z pc As h := by
  intro l D c B p e s m args below meth cd H locs ls0 rest Qc X hP hK hsz h8 hM
  have hts := X.2.2.2.2.2.1
  refine va_runS (nL := y.2.2.1) (Ts := zg_tbl) (own := y.1.cls) (n := n) (bytes := z.2.1) (maxL := z.2.2.1) (ret := z.2.2.2.1) (index := idx) ⟨X.1, X.2.1, X.2.2.2.1, X.2.2.2.2.1, hts⟩ hM ⟨?_, hts _ hst⟩ ⟨zc_blind, ?_⟩ rfl (by rw [List.length_map]; exact hn) hsz rfl (lv_room h8) hd ⟨Nat.le_refl _, Nat.le_refl _⟩
  · exact callB_of n hts (zg_good (zc_inws ok)) rfl rfl rfl (hts _ ok.2.1) (hts _ hlink) ok.2.2 hfit
  · exact fun U hU hW => ⟨rfl, ⟨by rw [hU]; exact hP, va_K.moved hW.alike hK⟩, zn_warm hW X.2.2.2.2.2.2.2⟩
theorem zc_runSN {host : String} (ok : zc_okM z n) (hfit : zc_fit y z) (hlink : Cond.methodLinkNest y.1.cls idx z.1 host ∈ zn_tbl) (hst : Cond.static z.1 ∈ zg_tbl) (hn : As.length = n) (hd : decode y.2.1 pc = .ok (.invokestatic idx, 3)) : zc_Run y z pc As h := by
  intro l D c B p e s m args below meth cd H locs ls0 rest Qc X hP hK hsz h8 hM
  have hts := X.2.2.2.2.2.1
  refine va_runSN (nL := y.2.2.1) (Ts := zg_tbl) (own := y.1.cls) (host := host) (n := n) (bytes := z.2.1) (maxL := z.2.2.1) (ret := z.2.2.2.1) (index := idx) ⟨X.1, X.2.1, X.2.2.2.1, X.2.2.2.2.1, hts⟩ hM ⟨?_, hts _ hst, trivial⟩ ⟨zc_blind, ?_⟩ rfl (by rw [List.length_map]; exact hn) hsz rfl (lv_room h8) hd ⟨Nat.le_refl _, Nat.le_refl _⟩
  · exact va_cnB n hts (zg_good (zc_inws ok)) rfl rfl rfl (X.2.2.2.2.2.2.2 _ hlink) (hts _ ok.2.1) ok.2.2 hfit
  · exact fun U hU hW => ⟨rfl, ⟨by rw [hU]; exact hP, va_K.moved hW.alike hK⟩, zn_warm hW X.2.2.2.2.2.2.2⟩
theorem zc_rcv {D : va_G} {c : zCS} {B a ci n0 : Nat} {s : State} {H : Heap} {q : vw_C} (hP : va_P D vwCl (zc_wld c B h) H) (hK : va_K D vwCl (zc_tys c) s) (hs : zc_lay[a]? = some (ci, n0)) (hci : ci < 12) (hq : vwCl[ci]? = some q) : ∃ cell : Cell, H[B + a]? = some cell ∧ cell.vm.isStatics = false ∧ s.vm.findClass q.1 = some cell.cls := by
  have hg := zc_wld_get (c := c) (B := B) (h := h) hs
  rw [zc_obj hci] at hg
  exact va_recv hK hP hq hg
theorem zc_runV {a ci n0 : Nat} {q : vw_C} (ok : zc_okM z n) (hfit : zc_fit y z) (hlink : Cond.methodLink y.1.cls idx z.1 ∈ zg_tbl) (hin : Cond.instanceMethod z.1 ∈ zg_tbl) (hsel : Cond.selects q.1 z.1 z.1 ∈ zg_tbl) (hs : zc_lay[a]? = some (ci, n0)) (hci : ci < 12) (hq : vwCl[ci]? = some q) (hn : As.length = n) (hd : decode y.2.1 pc = .ok (.invokevirtual idx, 3)) : zc_Run y z pc (.ref a :: As) h := by
  intro l D c B p e s m args below meth cd H locs ls0 rest Qc X hP hK hsz h8 hM
  have hts := X.2.2.2.2.2.1
  refine va_runV (nL := y.2.2.1) (Ts := zg_tbl) (own := y.1.cls) (C := q.1) (b := B + a) (As := As.map (zc_tr B)) (n := n) (bytes := z.2.1) (maxL := z.2.2.1) (ret := z.2.2.2.1) (index := idx) ⟨X.1, X.2.1, X.2.2.2.1, X.2.2.2.2.1, hts⟩ hM ⟨?_, hts _ hin, hts _ hsel⟩ ⟨zc_blind, zc_rcv hP hK hs hci hq, ?_⟩ rfl (by rw [List.length_map]; exact hn) hsz ?_ (lv_room h8) hd ⟨Nat.le_refl _, Nat.le_refl _⟩
  · exact callB_of n hts (zg_good (zc_inws ok)) rfl rfl rfl (hts _ ok.2.1) (hts _ hlink) ok.2.2 hfit
  · exact fun U hU hW => ⟨rfl, ⟨by rw [hU]; exact hP, va_K.moved hW.alike hK⟩, zn_warm hW X.2.2.2.2.2.2.2⟩
  · show ((Value.ref (B + a)) :: As.map (zc_tr B)).reverse ++ rest = _
    rw [List.reverse_cons, List.append_assoc]; rfl
theorem zc_runO {a ci n0 : Nat} {q : vw_C} {x : MethodName} {b0 : ByteArray} {m0 : Nat} {r0 : Option FieldType} (ok : zc_okM z n) (hfit : zc_fit y z) (hlink : Cond.methodLink y.1.cls idx x ∈ zg_tbl) (hsame : Cond.sameMethod x.cls x.cls x.name x.desc ∈ zg_tbl) (hinx : Cond.instanceMethod x ∈ zg_tbl) (hx : Cond.code x b0 m0 r0 ∈ zg_tbl) (hxd : x.cls ≠ "java/lang/invoke/MethodHandle" ∧ x.cls ≠ "java/lang/invoke/VarHandle" ∧ (parseMethodDescriptor x.desc).map (fun d => d.parameters.length) = some n) (hin : Cond.instanceMethod z.1 ∈ zg_tbl) (hsel : Cond.selects q.1 x z.1 ∈ zg_tbl) (hs : zc_lay[a]? = some (ci, n0)) (hci : ci < 12) (hq : vwCl[ci]? = some q) (hn : As.length = n) (hd : decode y.2.1 pc = .ok (.invokevirtual idx, 3)) : zc_Run y z pc (.ref a :: As) h := by
  intro l D c B p e s m args below meth cd H locs ls0 rest Qc X hP hK hsz h8 hM
  have hts := X.2.2.2.2.2.1
  refine va_runU (nL := y.2.2.1) (Ts := zg_tbl) (own := y.1.cls) (C := q.1) (owner := x.cls) (x := x) (b := B + a) (As := As.map (zc_tr B)) (n := n) (bytes := z.2.1) (maxL := z.2.2.1) (ret := z.2.2.2.1) (index := idx) ⟨X.1, X.2.1, X.2.2.2.1, X.2.2.2.2.1, hts⟩ hM ?_ ⟨zc_blind, zc_rcv hP hK hs hci hq, ?_⟩ rfl (by rw [List.length_map]; exact hn) hsz ?_ (lv_room h8) hd ⟨Nat.le_refl _, Nat.le_refl _⟩
  · refine va_cwO (b0 := b0) (m0 := m0) (r0 := r0) n hts (zg_good ?_) rfl rfl rfl hx hxd hfit
    intro w hw
    simp only [va_wsO, List.mem_append, List.mem_cons, List.not_mem_nil, or_false] at hw
    rcases hw with (rfl | rfl | rfl | rfl | rfl | rfl) | hw
    · exact hlink
    · exact hsame
    · exact hinx
    · exact hsel
    · exact hin
    · exact ok.2.1
    · exact zc_inws ok w hw
  · exact fun U hU hW => ⟨rfl, ⟨by rw [hU]; exact hP, va_K.moved hW.alike hK⟩, zn_warm hW X.2.2.2.2.2.2.2⟩
  · show ((Value.ref (B + a)) :: As.map (zc_tr B)).reverse ++ rest = _
    rw [List.reverse_cons, List.append_assoc]; rfl
theorem zc_runSU {a ci n0 : Nat} {q : vw_C} (ok : zc_okM z n) (hfit : zc_fit y z) (hlink : Cond.methodLink y.1.cls idx z.1 ∈ zg_tbl) (hsame : Cond.sameMethod z.1.cls z.1.cls z.1.name z.1.desc ∈ zg_tbl) (hsup : Cond.superclass y.1.cls z.1.cls ∈ zg_tbl) (hin : Cond.instanceMethod z.1 ∈ zg_tbl) (hni : z.1.name ≠ "<init>") (hs : zc_lay[a]? = some (ci, n0)) (hci : ci < 12) (hq : vwCl[ci]? = some q) (hn : As.length = n) (hd : decode y.2.1 pc = .ok (.invokespecial idx, 3)) : zc_Run y z pc (.ref a :: As) h := by
  intro l D c B p e s m args below meth cd H locs ls0 rest Qc X hP hK hsz h8 hM
  have hts := X.2.2.2.2.2.1
  refine va_runSU (nL := y.2.2.1) (Ts := zg_tbl) (own := y.1.cls) (C := q.1) (cC := D.1 ci) (b := B + a) (As := As.map (zc_tr B)) (n := n) (bytes := z.2.1) (maxL := z.2.2.1) (ret := z.2.2.2.1) (index := idx) (hK.1 ci q hq).2 ⟨X.1, X.2.1, X.2.2.2.1, X.2.2.2.2.1, hts⟩ hM ?_ ⟨zc_blind, zc_rcv hP hK hs hci hq, ?_⟩ rfl (by rw [List.length_map]; exact hn) hsz ?_ (lv_room h8) hd ⟨Nat.le_refl _, Nat.le_refl _⟩
  · refine va_cwSU n hts (zg_good ?_) rfl rfl rfl ⟨hni, ok.2.2.2.2⟩ hfit
    intro w hw
    simp only [va_wsSU, List.mem_append, List.mem_cons, List.not_mem_nil, or_false] at hw
    rcases hw with (rfl | rfl | rfl | rfl | rfl) | hw
    · exact hlink
    · exact hsame
    · exact hsup
    · exact hin
    · exact ok.2.1
    · exact zc_inws ok w hw
  · exact fun U hU hW => ⟨rfl, ⟨by rw [hU]; exact hP, va_K.moved hW.alike hK⟩, zn_warm hW X.2.2.2.2.2.2.2⟩
  · show ((Value.ref (B + a)) :: As.map (zc_tr B)).reverse ++ rest = _
    rw [List.reverse_cons, List.append_assoc]; rfl
end ZR
section ZK
variable {ρ α β : Type} {y : zMI} {mk : ρ → zRT} {pc : Nat} {ls : List (Option Value)} {st stk : List Value} {h : zHp} {o o1 o2 : Option ρ} {k2 : α → Option ρ} {q q1 q2 : Option α}
theorem zc_stk {B : Nat} {av : List Value} (hstk : stk = av.reverse ++ st) : stk.map (zc_tr B) = (av.map (zc_tr B)).reverse ++ st.map (zc_tr B) := by rw [hstk, List.map_append, List.map_reverse]
theorem zc_cat8 {B : Nat} (h8 : (st.map fun v => v.category).sum ≤ 8) : ((st.map (zc_tr B)).map fun v => v.category).sum ≤ 8 := by
  rw [List.map_map, show ((fun v => Value.category v) ∘ zc_tr B) = (fun v => v.category) from funext (zc_tr_cat B)]; exact h8
theorem zc_callI {z : zMI} {oc : Option (Int32 × zHp)} {kk : Int32 × zHp → Option α} (av : List Value) (hstk : stk = av.reverse ++ st) (hR : zc_Run y z pc av h) (h8 : (st.map fun v => v.category).sum ≤ 8) (hc : ∀ r, oc = some r → zc_Cn z av h (zc_mI r)) (k : ∀ r, zc_G y mk (pc + 3) ls (.int r.1 :: st) r.2 ((kk r).bind k2)) : zc_G y mk pc ls stk h ((oc.bind kk).bind k2) := by
  intro r hr l D c B p e s m args below meth cd H locs ls0 X hP hK hS hL
  cases hoc : oc with
  | none => rw [hoc] at hr; cases hr
  | some rc =>
    rw [hoc] at hr
    have run := hR l D c B p e s m args below meth cd H locs ls0 (st.map (zc_tr B)) _ X hP hK hL.1 (zc_cat8 h8) (hc rc hoc l D c B)
    rw [zc_stk hstk]
    refine va_calli run hS (fun q _ h => h) (fun q h => h) (fun r1 u t H1 locs1 ht hvm hpost hB hz hk hS1 => ?_)
    obtain ⟨rfl, rfl⟩ := hpost
    exact k rc r hr l D c B p e s m args below meth cd H1 locs1 ls0 X (by rw [← ht]; exact hB.1) hK hS1 hL
theorem zc_callL {z : zMI} {oc : Option (Int64 × zHp)} {kk : Int64 × zHp → Option α} (av : List Value) (hstk : stk = av.reverse ++ st) (hR : zc_Run y z pc av h) (h8 : (st.map fun v => v.category).sum ≤ 8) (hc : ∀ r, oc = some r → zc_Cn z av h (zc_mL r)) (k : ∀ r, zc_G y mk (pc + 3) ls (.long r.1 :: st) r.2 ((kk r).bind k2)) : zc_G y mk pc ls stk h ((oc.bind kk).bind k2) := by
  intro r hr l D c B p e s m args below meth cd H locs ls0 X hP hK hS hL
  cases hoc : oc with
  | none => rw [hoc] at hr; cases hr
  | some rc =>
    rw [hoc] at hr
    have run := hR l D c B p e s m args below meth cd H locs ls0 (st.map (zc_tr B)) _ X hP hK hL.1 (zc_cat8 h8) (hc rc hoc l D c B)
    rw [zc_stk hstk]
    refine va_calll run hS (fun q _ h => h) (fun q h => h) (fun r1 u t H1 locs1 ht hvm hpost hB hz hk hS1 => ?_)
    obtain ⟨rfl, rfl⟩ := hpost
    exact k rc r hr l D c B p e s m args below meth cd H1 locs1 ls0 X (by rw [← ht]; exact hB.1) hK hS1 hL
theorem zc_callV {z : zMI} {oc : Option zHp} {kk : zHp → Option α} (av : List Value) (hstk : stk = av.reverse ++ st) (hR : zc_Run y z pc av h) (h8 : (st.map fun v => v.category).sum ≤ 8) (hc : ∀ r, oc = some r → zc_Cn z av h (zc_mV r)) (k : ∀ r, zc_G y mk (pc + 3) ls st r ((kk r).bind k2)) : zc_G y mk pc ls stk h ((oc.bind kk).bind k2) := by
  intro r hr l D c B p e s m args below meth cd H locs ls0 X hP hK hS hL
  cases hoc : oc with
  | none => rw [hoc] at hr; cases hr
  | some rc =>
    rw [hoc] at hr
    have run := hR l D c B p e s m args below meth cd H locs ls0 (st.map (zc_tr B)) _ X hP hK hL.1 (zc_cat8 h8) (hc rc hoc l D c B)
    rw [zc_stk hstk]
    refine va_callv run hS (fun q _ h => h) (fun q h => h) (fun u t H1 locs1 ht hvm hpost hB hz hk hS1 => ?_)
    obtain rfl := hpost
    exact k u r hr l D c B p e s m args below meth cd H1 locs1 ls0 X (by rw [← ht]; exact hB.1) hK hS1 hL
theorem zc_callIp {z : zMI} {oc : Option Int32} {kk : Int32 → Option α} (av : List Value) (hstk : stk = av.reverse ++ st) (hR : zc_Run y z pc av h) (h8 : (st.map fun v => v.category).sum ≤ 8) (hc : ∀ r, oc = some r → zc_Cn z av h (zc_mI (r, h))) (k : ∀ r, zc_G y mk (pc + 3) ls (.int r :: st) h ((kk r).bind k2)) : zc_G y mk pc ls stk h ((oc.bind kk).bind k2) := by
  intro r hr l D c B p e s m args below meth cd H locs ls0 X hP hK hS hL
  cases hoc : oc with
  | none => rw [hoc] at hr; cases hr
  | some rc =>
    rw [hoc] at hr
    have run := hR l D c B p e s m args below meth cd H locs ls0 (st.map (zc_tr B)) _ X hP hK hL.1 (zc_cat8 h8) (hc rc hoc l D c B)
    rw [zc_stk hstk]
    refine va_calli run hS (fun q _ h => h) (fun q h => h) (fun r1 u t H1 locs1 ht hvm hpost hB hz hk hS1 => ?_)
    obtain ⟨rfl, rfl⟩ := hpost
    exact k r1 r hr l D c B p e s m args below meth cd H1 locs1 ls0 X (by rw [← ht]; exact hB.1) hK hS1 hL
theorem zc_callLp {z : zMI} {oc : Option Int64} {kk : Int64 → Option α} (av : List Value) (hstk : stk = av.reverse ++ st) (hR : zc_Run y z pc av h) (h8 : (st.map fun v => v.category).sum ≤ 8) (hc : ∀ r, oc = some r → zc_Cn z av h (zc_mL (r, h))) (k : ∀ r, zc_G y mk (pc + 3) ls (.long r :: st) h ((kk r).bind k2)) : zc_G y mk pc ls stk h ((oc.bind kk).bind k2) := by
  intro r hr l D c B p e s m args below meth cd H locs ls0 X hP hK hS hL
  cases hoc : oc with
  | none => rw [hoc] at hr; cases hr
  | some rc =>
    rw [hoc] at hr
    have run := hR l D c B p e s m args below meth cd H locs ls0 (st.map (zc_tr B)) _ X hP hK hL.1 (zc_cat8 h8) (hc rc hoc l D c B)
    rw [zc_stk hstk]
    refine va_calll run hS (fun q _ h => h) (fun q h => h) (fun r1 u t H1 locs1 ht hvm hpost hB hz hk hS1 => ?_)
    obtain ⟨rfl, rfl⟩ := hpost
    exact k r1 r hr l D c B p e s m args below meth cd H1 locs1 ls0 X (by rw [← ht]; exact hB.1) hK hS1 hL
-- the JDK's own
theorem zc_mmax {idx : Nat} {a b : Int32} (hlink : Cond.methodLink y.1.cls idx Lib.Math.max.name ∈ zg_tbl) (hst : Cond.static Lib.Math.max.name ∈ zg_tbl) (hini : Cond.initialized "java/lang/Math" ∈ zg_tbl) (hcode : Cond.code Lib.Math.max.name Lib.Math.max.code 2 (some .int) ∈ zg_tbl) (h8 : (st.map fun v => v.category).sum ≤ 8) (hf : 1 ≤ y.2.2.2.2.1 ∧ 21 ≤ y.2.2.2.2.2) (hd : decode y.2.1 pc = .ok (.invokestatic idx, 3)) (k : zc_G y mk (pc + 3) ls (.int (if a < b then b else a) :: st) h o) : zc_G y mk pc ls (.int b :: .int a :: st) h o := by
  intro r hr l D c B p e s m args below meth cd H locs ls0 X hP hK hS hL
  have hts := X.2.2.2.2.2.1
  have h9 := zc_cat8 (B := B) h8
  exact va_mmax X.1 X.2.1 (X.2.2.2.1.trans hL.1.symm) X.2.2.2.2.1 (hts _ hlink) (hts _ hst) (hts _ hini) (hts _ hcode) hf.1 (Nat.le_trans (Nat.add_le_add_right h9 13) hf.2) (Nat.le_refl _) (Nat.le_refl _) hd (k r hr l D c B p e s m args below meth cd H locs ls0 X hP hK hS hL)
theorem zc_mmin {idx : Nat} {a b : Int32} (hlink : Cond.methodLink y.1.cls idx Lib.Math.min.name ∈ zg_tbl) (hst : Cond.static Lib.Math.min.name ∈ zg_tbl) (hini : Cond.initialized "java/lang/Math" ∈ zg_tbl) (hcode : Cond.code Lib.Math.min.name Lib.Math.min.code 2 (some .int) ∈ zg_tbl) (h8 : (st.map fun v => v.category).sum ≤ 8) (hf : 1 ≤ y.2.2.2.2.1 ∧ 21 ≤ y.2.2.2.2.2) (hd : decode y.2.1 pc = .ok (.invokestatic idx, 3)) (k : zc_G y mk (pc + 3) ls (.int (if b < a then b else a) :: st) h o) : zc_G y mk pc ls (.int b :: .int a :: st) h o := by
  intro r hr l D c B p e s m args below meth cd H locs ls0 X hP hK hS hL
  have hts := X.2.2.2.2.2.1
  have h9 := zc_cat8 (B := B) h8
  exact va_mmin X.1 X.2.1 (X.2.2.2.1.trans hL.1.symm) X.2.2.2.2.1 (hts _ hlink) (hts _ hst) (hts _ hini) (hts _ hcode) hf.1 (Nat.le_trans (Nat.add_le_add_right h9 13) hf.2) (Nat.le_refl _) (Nat.le_refl _) hd (k r hr l D c B p e s m args below meth cd H locs ls0 X hP hK hS hL)
theorem zc_mabs {idx : Nat} {a : Int32} (hlink : Cond.methodLink y.1.cls idx Lib.Math.abs.name ∈ zg_tbl) (hst : Cond.static Lib.Math.abs.name ∈ zg_tbl) (hini : Cond.initialized "java/lang/Math" ∈ zg_tbl) (hcode : Cond.code Lib.Math.abs.name Lib.Math.abs.code 1 (some .int) ∈ zg_tbl) (h8 : (st.map fun v => v.category).sum ≤ 8) (hf : 1 ≤ y.2.2.2.2.1 ∧ 21 ≤ y.2.2.2.2.2) (hd : decode y.2.1 pc = .ok (.invokestatic idx, 3)) (k : zc_G y mk (pc + 3) ls (.int (if 0 ≤ a then a else 0 - a) :: st) h o) : zc_G y mk pc ls (.int a :: st) h o := by
  intro r hr l D c B p e s m args below meth cd H locs ls0 X hP hK hS hL
  have hts := X.2.2.2.2.2.1
  have h9 := zc_cat8 (B := B) h8
  exact va_mabs X.1 X.2.1 (X.2.2.2.1.trans hL.1.symm) X.2.2.2.2.1 (hts _ hlink) (hts _ hst) (hts _ hini) (hts _ hcode) hf.1 (Nat.le_trans (Nat.add_le_add_right h9 13) hf.2) (Nat.le_refl _) (Nat.le_refl _) hd (k r hr l D c B p e s m args below meth cd H locs ls0 X hP hK hS hL)
abbrev zc_cp (sp dp n : Int32) (n0 n1 : Nat) : Prop := ¬ sp < 0 ∧ ¬ dp < 0 ∧ ¬ n < 0 ∧ sp.toNatClampNeg + n.toNatClampNeg ≤ n0 ∧ dp.toNatClampNeg + n.toNatClampNeg ≤ n1
theorem zc_acpi {idx a0 a n0 n1 : Nat} {sp dp n : Int32} (hlink : Cond.methodLink y.1.cls idx arraycopyName ∈ zg_tbl) (hnat : Cond.native arraycopyName ∈ zg_tbl) (hst : Cond.static arraycopyName ∈ zg_tbl) (hini : Cond.initialized "java/lang/System" ∈ zg_tbl) (hs0 : zc_lay[a0]? = some (12, n0)) (hs1 : zc_lay[a]? = some (12, n1)) (hg : zc_cp sp dp n n0 n1) (h8 : (st.map fun v => v.category).sum ≤ 8) (hf : 1 ≤ y.2.2.2.2.1 ∧ 26 ≤ y.2.2.2.2.2) (hd : decode y.2.1 pc = .ok (.invokestatic idx, 3))
    (k : zc_G y mk (pc + 3) ls st (zc_ri h a (va_cpy (h.1 a0) (h.1 a) sp.toNatClampNeg dp.toNatClampNeg n.toNatClampNeg)) o) : zc_G y mk pc ls (.int n :: .int dp :: .ref a :: .int sp :: .ref a0 :: st) h o := by
  intro r hr l D c B p e s m args below meth cd H locs ls0 X hP hK hS hL
  have hts := X.2.2.2.2.2.1
  have h9 := zc_cat8 (B := B) h8
  have hset : (zc_wld c B h).set a (B + a, .inl (c.1, n1, .inl (va_cpy (h.1 a0) (h.1 a) sp.toNatClampNeg dp.toNatClampNeg n.toNatClampNeg))) = zc_wld c B (zc_ri h a (va_cpy (h.1 a0) (h.1 a) sp.toNatClampNeg dp.toNatClampNeg n.toNatClampNeg)) := by
    refine zc_wld_set hs1 ?_ zc_ri_o
    rw [zc_ri_s]; rfl
  have hw : nativeFrameWords "java/lang/System" "arraycopy" 5 + 11 = 18 := by decide
  exact va_copyi X.1 X.2.1 (X.2.2.2.1.trans hL.1.symm) X.2.2.2.2.1 (hts _ hlink) (hts _ hnat) (hts _ hst) (hts _ hini) hK hP zc_wld_D hS a0 a 0 0 (c0 := c.1) (c1 := c.1) (f := h.1 a0) (g := h.1 a) (zc_wld_get hs0) (zc_wld_get hs1) rfl rfl rfl hg.1 hg.2.1 hg.2.2.1 hg.2.2.2.1 hg.2.2.2.2 (fun i _ => rfl) hf.1 (by rw [hw]; exact Nat.le_trans (Nat.add_le_add_right h9 18) hf.2) hd
    (fun H1 locs1 hP1 hD1 hS1 => k r hr l D c B p e s m args below meth cd H1 locs1 ls0 X (by rw [hset] at hP1; exact hP1) hK hS1 hL)
theorem zc_acpl {idx a0 a n0 n1 : Nat} {sp dp n : Int32} (hlink : Cond.methodLink y.1.cls idx arraycopyName ∈ zg_tbl) (hnat : Cond.native arraycopyName ∈ zg_tbl) (hst : Cond.static arraycopyName ∈ zg_tbl) (hini : Cond.initialized "java/lang/System" ∈ zg_tbl) (hs0 : zc_lay[a0]? = some (13, n0)) (hs1 : zc_lay[a]? = some (13, n1)) (hg : zc_cp sp dp n n0 n1) (h8 : (st.map fun v => v.category).sum ≤ 8) (hf : 1 ≤ y.2.2.2.2.1 ∧ 26 ≤ y.2.2.2.2.2) (hd : decode y.2.1 pc = .ok (.invokestatic idx, 3))
    (k : zc_G y mk (pc + 3) ls st (zc_rl h a (va_cpy (h.2 a0) (h.2 a) sp.toNatClampNeg dp.toNatClampNeg n.toNatClampNeg)) o) : zc_G y mk pc ls (.int n :: .int dp :: .ref a :: .int sp :: .ref a0 :: st) h o := by
  intro r hr l D c B p e s m args below meth cd H locs ls0 X hP hK hS hL
  have hts := X.2.2.2.2.2.1
  have h9 := zc_cat8 (B := B) h8
  have hset : (zc_wld c B h).set a (B + a, .inl (c.2.1, n1, .inr (.inl (va_cpy (h.2 a0) (h.2 a) sp.toNatClampNeg dp.toNatClampNeg n.toNatClampNeg)))) = zc_wld c B (zc_rl h a (va_cpy (h.2 a0) (h.2 a) sp.toNatClampNeg dp.toNatClampNeg n.toNatClampNeg)) := by
    refine zc_wld_set hs1 ?_ zc_rl_o
    rw [zc_rl_s]; rfl
  have hw : nativeFrameWords "java/lang/System" "arraycopy" 5 + 11 = 18 := by decide
  exact va_copyl X.1 X.2.1 (X.2.2.2.1.trans hL.1.symm) X.2.2.2.2.1 (hts _ hlink) (hts _ hnat) (hts _ hst) (hts _ hini) hK hP zc_wld_D hS a0 a 1 1 (c0 := c.2.1) (c1 := c.2.1) (f := h.2 a0) (g := h.2 a) (zc_wld_get hs0) (zc_wld_get hs1) rfl rfl rfl hg.1 hg.2.1 hg.2.2.1 hg.2.2.2.1 hg.2.2.2.2 (fun i _ => rfl) hf.1 (by rw [hw]; exact Nat.le_trans (Nat.add_le_add_right h9 18) hf.2) hd
    (fun H1 locs1 hP1 hD1 hS1 => k r hr l D c B p e s m args below meth cd H1 locs1 ls0 X (by rw [hset] at hP1; exact hP1) hK hS1 hL)
end ZK
end
